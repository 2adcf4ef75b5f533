/-! ===== rounds of the reference ===== -/
def MDQ (n : Nat) (I : xm_I) (Q : QQ) : Prop := Sta n Q.1 I ∧ DM I (Int32.toNatClampNeg (Q.1 6 9)) Q.2.1 ∧ TM Q.1 I Q.2.1 Q.2.2.1 Q.2.2.2
abbrev WQ : List Nat := [76, 81, 82, 50060, 50073, 50074]
set_option maxRecDepth 100000 in
theorem dWQ : ∀ x ∈ STC, x ∉ WQ := by decide
theorem MDQ.kept {n : Nat} {I J : xm_I} {Q : QQ} (h : MDQ n I Q) (f : Fr WQ I J) : MDQ n J Q := by
  refine ⟨h.1.of f dWQ, h.2.1.kept (f.row 73 rfl (by decide)) (f.row 74 rfl (by decide)) (f.row 75 rfl (by decide)), ?_⟩
  unfold TM
  rw [f 49 70 (by decide), f.row 80 rfl (by decide), f.row 79 rfl (by decide)]
  exact h.2.2
def Pm (I : xm_I) (Q : QQ) (pl : Nat → Nat) (N : Nat) : Prop := ∀ j, j < N → I 76 (lab Q j) = n32 (pl j)
theorem MDQ.lb {n : Nat} {I : xm_I} {Q : QQ} (h : MDQ n I Q) (hQ : QOK Q) {g : Nat} (hg : g < QG Q) : I 80 g = n32 (lab Q g) ∧ ∀ p, p < 8 → I 79 (8 * lab Q g + p) = qc Q g p := by
  obtain ⟨_, _, _, h4⟩ := hQ.2.2.1 g hg
  refine ⟨h.2.2.2.1 g _ h4, fun p hp => h.2.2.2.2 _ p (List.mem_of_getElem? h4) hp⟩
theorem e_meetM {n : Nat} {I : xm_I} {Q : QQ} {g p j q : Nat} (h : MDQ n I Q) (hQ : QOK Q) (hg : g < QG Q) (hp : p < 8) (hj : j < QG Q) (hq : q < 8) : f_M_meet (n32 (lab Q g)) (n32 p) (n32 (lab Q j)) (n32 q) I = some (bi (mt Q g p j q = true)) := by
  obtain ⟨g1, g2, g3, _⟩ := hQ.2.2.1 g hg
  obtain ⟨j1, j2, j3, _⟩ := hQ.2.2.1 j hj
  obtain ⟨a1, a2⟩ := e_boxM h.1 h.2.1 g1 g2 hp
  obtain ⟨b1, b2⟩ := e_boxM h.1 h.2.1 j1 j2 hq
  obtain ⟨u1, u2, u3, _⟩ := r70_of h.1 g1
  obtain ⟨v1, v2, v3, _⟩ := r70_of h.1 j1
  unfold f_M_meet f_M_meet_b0
  rw [a1, a2, b1, b2]
  simp only [Option.bind_some]
  rw [gd_p _ v1, gd_p _ u1, u3, v3]
  unfold mt qx qy qw
  have k9 : (9 : Int32).toInt = 9 := by decide
  simp only [le32, decide_eq_true_eq]
  (repeat' split) <;> first | rw [bi_t (by omega)] | rw [bi_f (by omega)]
theorem taken61 {n : Nat} {I : xm_I} {Q : QQ} {pl : Nat → Nat} {g k : Nat} {b : Int32} (h : MDQ n I Q) (hQ : QOK Q) (h8 : P8 pl) (hP : Pm I Q pl (QG Q)) (hg : g < QG Q) (hk : k < 8) : ok (f_M_taken_b61 (n32 (lab Q g)) b (n32 k) I (1, 0)) (fun r => ∃ v : Int32, r = .inl (v, n32 (k + 1)) ∧ (((∀ j, j < QG Q → j ≠ g → pl j ≠ 8 → mt Q g k j (pl j) = false) ∧ v = n32 k) ∨ ((¬ ∀ j, j < QG Q → j ≠ g → pl j ≠ 8 → mt Q g k j (pl j) = false) ∧ v = b))) := by
  have h20 := hQ.1
  have k0 := z0
  have es := n32s (k := k) (by omega)
  have j70 : (I 49 70).toInt = QG Q := by rw [h.2.2.1]; exact n32i (show QG Q < 2147483648 by omega)
  unfold f_M_taken_b61
  refine lp_inv (fun t => ∃ j : Nat, j ≤ QG Q ∧ t.2 = n32 j ∧ ((t.1 = 1 ∧ ∀ i, i < j → i ≠ g → pl i ≠ 8 → mt Q g k i (pl i) = false) ∨ (t.1 = 0 ∧ ¬ ∀ i, i < QG Q → i ≠ g → pl i ≠ 8 → mt Q g k i (pl i) = false))) (fun t => (21 - t.2.toInt).toNat) _ ?_ (1, 0) ⟨0, by omega, rfl, Or.inl ⟨rfl, fun i hi => by omega⟩⟩
  rintro ⟨fl, jj⟩ ⟨j, hj, q1, q2⟩
  simp only at q1 q2
  subst q1
  have ji : (n32 j).toInt = j := n32i (by omega)
  have jt : Int32.toNatClampNeg (n32 j) = j := n32n (by omega)
  have dec : (21 - (n32 j + 1).toInt).toNat < (21 - (n32 j).toInt).toNat := by
    rw [i32p (by omega) (by omega)]
    omega
  have esj := n32s (k := j) (by omega)
  unfold f_M_taken_s61 f_M_taken_b133 f_M_taken_b143 f_M_taken_b120 f_M_taken_b125
  dsimp only
  refine ok_le (fun hc => ?_) (fun hc => ?_)
  · have e : j = QG Q := by omega
    subst e
    rcases q2 with ⟨f1, f2⟩ | ⟨f1, f2⟩
    · subst f1
      exact ok_m (ok_f (by decide) (ok_s ⟨n32 k, by rw [es], Or.inl ⟨f2, rfl⟩⟩))
    · subst f1
      exact ok_m (ok_t rfl (ok_s ⟨b, by rw [es], Or.inr ⟨f2, rfl⟩⟩))
  · rcases q2 with ⟨f1, f2⟩ | ⟨f1, f2⟩
    · subst f1
      have hjG : j < QG Q := by omega
      obtain ⟨l1, _⟩ := h.lb hQ hjG
      obtain ⟨_, _, lj, _⟩ := hQ.2.2.1 j hjG
      obtain ⟨_, _, lg, _⟩ := hQ.2.2.1 g hg
      have h76 := hP j hjG
      have lti : (n32 (lab Q j)).toInt = lab Q j := n32i (by omega)
      have ltt : Int32.toNatClampNeg (n32 (lab Q j)) = lab Q j := n32n (by omega)
      have lgi : (n32 (lab Q g)).toInt = lab Q g := n32i (by omega)
      have nx : (j ≠ g → pl j ≠ 8 → mt Q g k j (pl j) = false) → (∃ j' : Nat, j' ≤ QG Q ∧ n32 j + 1 = n32 j' ∧ (((1 : Int32) = 1 ∧ ∀ i, i < j' → i ≠ g → pl i ≠ 8 → mt Q g k i (pl i) = false) ∨ ((1 : Int32) = 0 ∧ ¬ ∀ i, i < QG Q → i ≠ g → pl i ≠ 8 → mt Q g k i (pl i) = false))) := by
        intro hh
        refine ⟨j + 1, by omega, esj, Or.inl ⟨rfl, fun i hi => ?_⟩⟩
        by_cases e : i = j
        · subst e
          exact hh
        · exact f2 i (by omega)
      refine ok_f (by decide) (ok_g (by omega) ?_)
      have x7 : I 80 (Int32.toNatClampNeg (n32 j)) = n32 (lab Q j) := by rw [jt]; exact l1
      refine ok_i (fun hd => ok_s ⟨nx fun hne => ?_, dec⟩) (fun hd => ok_g (by rw [x7]; omega) ?_)
      · rw [x7, eq32, lti, lgi] at hd
        exact absurd (hQ.2.2.2 j g hjG hg (by omega)) hne
      · have c76 : I 76 (Int32.toNatClampNeg (I 80 (Int32.toNatClampNeg (n32 j)))) = n32 (pl j) := by rw [x7, ltt]; exact h76
        have p8 := h8 j
        have k8 : (8 : Int32) = n32 8 := rfl
        by_cases e8 : pl j = 8
        · exact ok_t (by rw [c76, e8]; rfl) (ok_s ⟨nx fun _ hh => absurd e8 hh, dec⟩)
        · refine ok_f ?_ (ok_g (by rw [x7]; omega) ?_)
          · rw [c76, k8, eq32, n32i (by omega), n32i (by omega)]
            omega
          · rw [c76, x7]
            refine ok_e (e_meetM h hQ hg hk hjG (by omega)) (ok_ib (fun hn => ok_s ⟨nx fun _ _ => Bool.eq_false_iff.mpr hn, dec⟩) (fun hy => ok_s ⟨⟨j + 1, by omega, esj, Or.inr ⟨rfl, fun hh => ?_⟩⟩, dec⟩))
            have jg : j ≠ g := fun hjg => hd (by rw [x7, hjg])
            have := hh j hjG jg e8
            rw [hy] at this
            cases this
    · subst f1
      exact ok_t rfl (ok_m (ok_t rfl (ok_s ⟨b, by rw [es], Or.inr ⟨f2, rfl⟩⟩)))
theorem taken60 {I : xm_I} {x b : Int32} {k : Nat} (hk : k < 8) : ok (f_M_taken_b61 x b (n32 k) I (0, 0)) (fun r => r = .inl (b, n32 (k + 1))) := by
  have es := n32s (k := k) (by omega)
  unfold f_M_taken_b61
  refine lp_inv (fun t => t = (0, 0)) (fun _ => 0) _ ?_ (0, 0) rfl
  rintro t rfl
  unfold f_M_taken_s61 f_M_taken_b133 f_M_taken_b143
  dsimp only
  refine ok_i (fun _ => ?_) (fun _ => ok_t rfl ?_)
  · exact ok_m (ok_t rfl (ok_s (by show _ = _; rw [es])))
  · exact ok_m (ok_t rfl (ok_s (by show _ = _; rw [es])))
theorem takenM {n : Nat} {I : xm_I} {Q : QQ} {pl : Nat → Nat} {g : Nat} (h : MDQ n I Q) (hQ : QOK Q) (h8 : P8 pl) (hP : Pm I Q pl (QG Q)) (hg : g < QG Q) : f_M_taken (n32 (lab Q g)) I = some (n32 (ch Q pl (QG Q) g 8)) := by
  have h20 := hQ.1
  have k0 := z0
  have k8 : (8 : Int32).toInt = 8 := by decide
  have km : (-1 : Int32).toInt = -1 := by decide
  obtain ⟨_, hqc⟩ := h.lb hQ hg
  obtain ⟨_, _, lg, _⟩ := hQ.2.2.1 g hg
  unfold f_M_taken f_M_taken_b0 f_M_taken_b5
  refine ok_eq (lp_inv (fun t => ∃ k : Nat, k ≤ 8 ∧ t = (n32 (ch Q pl (QG Q) g k), n32 k)) (fun t => (9 - t.2.toInt).toNat) _ ?_ (8, 0) ⟨0, by omega, rfl⟩)
  rintro t ⟨k, hk, rfl⟩
  have ki : (n32 k).toInt = k := n32i (by omega)
  have dec : (9 - (n32 (k + 1)).toInt).toNat < (9 - (n32 k).toInt).toNat := by
    rw [n32i (by omega), ki]
    omega
  have cb := ch_b Q pl (QG Q) g k hk
  have ci : (n32 (ch Q pl (QG Q) g k)).toInt = ch Q pl (QG Q) g k := n32i (by omega)
  unfold f_M_taken_s5 f_M_taken_b55 f_M_taken_b51 f_M_taken_b56
  dsimp only
  refine ok_le (fun hc => ok_s ?_) (fun hc => ?_)
  · have e : k = 8 := by omega
    subst e
    exact rfl
  · have hk8 : k < 8 := by omega
    have hun : ch Q pl (QG Q) g (k + 1) = if (ch Q pl (QG Q) g k = 8 ∨ (qc Q g k).toInt < (qc Q g (ch Q pl (QG Q) g k)).toInt) ∧ FRb Q pl (QG Q) g k = true then k else ch Q pl (QG Q) g k := rfl
    have ex := (ix8 (g := lab Q g) (p := k) lg hk8).2
    have tx : Int32.toNatClampNeg (n32 (8 * lab Q g + k)) = 8 * lab Q g + k := n32n (by omega)
    have gx : 0 ≤ (n32 (8 * lab Q g + k)).toInt ∧ (n32 (8 * lab Q g + k)).toInt < 160 := by rw [n32i (by omega)]; omega
    have x4 : I 79 (Int32.toNatClampNeg (8 * n32 (lab Q g) + n32 k)) = qc Q g k := by rw [ex, tx]; exact hqc k hk8
    have qb := qc_b hQ g hk8
    have keep : ¬ ((ch Q pl (QG Q) g k = 8 ∨ (qc Q g k).toInt < (qc Q g (ch Q pl (QG Q) g k)).toInt) ∧ FRb Q pl (QG Q) g k = true) → ok (f_M_taken_b61 (n32 (lab Q g)) (n32 (ch Q pl (QG Q) g k)) (n32 k) I (0, 0)) (fun x => Sum.elim (fun t => (∃ k : Nat, k ≤ 8 ∧ t = (n32 (ch Q pl (QG Q) g k), n32 k)) ∧ (9 - t.2.toInt).toNat < (9 - (n32 k).toInt).toNat) (fun r => r = n32 (ch Q pl (QG Q) g 8)) x) := by
      intro hno
      refine ok_mono (taken60 hk8) (fun r hr => ?_)
      rw [hr]
      refine ⟨⟨k + 1, by omega, ?_⟩, dec⟩
      rw [hun, if_neg hno]
    have test : qc Q g k ≠ -1 → (ch Q pl (QG Q) g k = 8 ∨ (qc Q g k).toInt < (qc Q g (ch Q pl (QG Q) g k)).toInt) → ok (f_M_taken_b61 (n32 (lab Q g)) (n32 (ch Q pl (QG Q) g k)) (n32 k) I (1, 0)) (fun x => Sum.elim (fun t => (∃ k : Nat, k ≤ 8 ∧ t = (n32 (ch Q pl (QG Q) g k), n32 k)) ∧ (9 - t.2.toInt).toNat < (9 - (n32 k).toInt).toNat) (fun r => r = n32 (ch Q pl (QG Q) g 8)) x) := by
      intro hne hor
      refine ok_mono (taken61 h hQ h8 hP hg hk8) (fun r hr => ?_)
      obtain ⟨v, rfl, hv⟩ := hr
      refine ⟨⟨k + 1, by omega, ?_⟩, dec⟩
      rcases hv with ⟨v1, v2⟩ | ⟨v1, v2⟩
      · rw [hun, if_pos ⟨hor, FRb_iff.mpr ⟨hne, v1⟩⟩, v2]
      · rw [hun, if_neg (fun hh => v1 (FRb_iff.mp hh.2).2), v2]
    refine ok_g (by rw [ex]; exact gx) (ok_lt (fun hd => keep fun hh => ?_) (fun hd => ?_))
    · rw [x4] at hd
      have := (FRb_iff.mp hh.2).1
      rw [ne_eq, eq32] at this
      omega
    · rw [x4] at hd
      have hne : qc Q g k ≠ -1 := by
        rw [ne_eq, eq32]
        omega
      refine ok_iq (fun he => test hne (Or.inl (by omega))) (fun he => ?_)
      rcases cb with cb | cb
      · omega
      · have ex2 := (ix8 (g := lab Q g) (p := ch Q pl (QG Q) g k) lg (by omega)).2
        have tx2 : Int32.toNatClampNeg (n32 (8 * lab Q g + ch Q pl (QG Q) g k)) = 8 * lab Q g + ch Q pl (QG Q) g k := n32n (by omega)
        refine ok_g (by rw [ex2, n32i (by omega)]; omega) (ok_le (fun hf => keep fun hh => ?_) (fun hf => test hne (Or.inr ?_)))
        · rw [x4, ex2, tx2, hqc _ (by omega)] at hf
          omega
        · rw [x4, ex2, tx2, hqc _ (by omega)] at hf
          exact hf
theorem goRoundM {n : Nat} {I : xm_I} {Q : QQ} (h : MDQ n I Q) (hQ : QOK Q) (h60 : I 49 60 = 0) (hP : Pm I Q (fun _ => 8) (QG Q)) : ok (f_M_goRound I) (fun J => Fr WQ I J ∧ J 49 60 = n32 (rr Q 10).1 ∧ Pm J Q (rr Q 10).2.2 (QG Q) ∧ ∀ l, (∀ g, g < QG Q → lab Q g ≠ l) → J 76 l = I 76 l) := by
  have h20 := hQ.1
  have k10 : (10 : Int32).toInt = 10 := by decide
  unfold f_M_goRound f_M_goRound_b0 f_M_goRound_b2
  refine lp_inv (fun t => ∃ k : Nat, k ≤ 10 ∧ t.2 49 60 = n32 (rr Q k).1 ∧ t.1 = (if (rr Q k).2.1 = true then 1 else 0) ∧ Fr WQ I t.2 ∧ Pm t.2 Q (rr Q k).2.2 (QG Q) ∧ ∀ l, (∀ g, g < QG Q → lab Q g ≠ l) → t.2 76 l = I 76 l) (fun t => 10 - (if t.1 = 0 then 10 else (t.2 49 60).toInt).toNat) _ ?_ (1, I) ⟨0, by omega, h60, rfl, Fr.refl _ _, hP, fun _ _ => rfl⟩
  rintro ⟨x2, J⟩ ⟨k, hk, q1, q2, q3, q4, q5⟩
  simp only at q1 q2 q3 q4 q5
  subst q2
  have rn := rr_n Q k
  unfold f_M_goRound_s2
  dsimp only
  by_cases c : (rr Q k).2.1 = true
  · have rk := rn.2 c
    have ki : (J 49 60).toInt = k := by rw [q1, n32i (by omega), rk]
    refine ok_f (by rw [if_pos c]; decide) (ok_le (fun hc => ok_s ?_) (fun hc => ?_))
    · have e : k = 10 := by omega
      subst e
      exact ⟨q3, q1, q4, q5⟩
    · have hk' : k < 10 := by omega
      have hu : rr Q (k + 1) = ((rr Q k).1 + 1, (rnd Q (rr Q k).2.2 (QG Q)).2, (rnd Q (rr Q k).2.2 (QG Q)).1) := by
        show (if _ then _ else _) = _
        rw [if_pos c]
      have e60 : J 49 60 + 1 = n32 ((rr Q k).1 + 1) := by rw [q1]; exact n32s (by omega)
      unfold f_M_goRound_b29
      refine lp_inv (fun t => ∃ g : Nat, g ≤ QG Q ∧ t.2.1 = n32 g ∧ t.1 = (if (rnd Q (rr Q k).2.2 g).2 = true then 1 else 0) ∧ Fr WQ I t.2.2 ∧ t.2.2 49 60 = n32 ((rr Q k).1 + 1) ∧ Pm t.2.2 Q (rnd Q (rr Q k).2.2 g).1 (QG Q) ∧ ∀ l, (∀ g, g < QG Q → lab Q g ≠ l) → t.2.2 76 l = I 76 l) (fun t => (21 - t.2.1.toInt).toNat) _ ?_ (0, 0, up2 J 49 60 (J 49 60 + 1)) ⟨0, by omega, rfl, rfl, Fr.up q3 (by decide), ?_, q4, q5⟩
      · rintro ⟨y1, y2, V⟩ ⟨g, hg, v1, v2, v3, v3', v4, v5⟩
        simp only at v1 v2 v3 v3' v4 v5
        subst v1
        subst v2
        have gi : (n32 g).toInt = g := n32i (by omega)
        have gt : Int32.toNatClampNeg (n32 g) = g := n32n (by omega)
        have hV : MDQ n V Q := h.kept v3
        have v70 : (V 49 70).toInt = QG Q := by rw [hV.2.2.1]; exact n32i (show QG Q < 2147483648 by omega)
        unfold f_M_goRound_s29
        dsimp only
        refine ok_le (fun hc => ok_s ?_) (fun hc => ?_)
        · have e : g = QG Q := by omega
          subst e
          refine ⟨⟨k + 1, by omega, ?_, ?_, v3, ?_, v5⟩, ?_⟩
          · rw [hu]
            exact v3'
          · rw [hu]
          · rw [hu]
            exact v4
          · show 10 - (if (if _ then (1 : Int32) else 0) = 0 then (10 : Int) else (V 49 60).toInt).toNat < 10 - (if (if (rr Q k).2.1 = true then (1 : Int32) else 0) = 0 then (10 : Int) else (J 49 60).toInt).toNat
            rw [if_pos c, if_neg (by decide : ¬ (1 : Int32) = 0), ki, v3', n32i (by omega), rk]
            split <;> omega
        · have hg' : g < QG Q := by omega
          have h8 := rnd_8 (Q := Q) (rr_8 Q k) g
          have cc := takenM hV hQ h8 v4 hg'
          have cb := ch_b Q (rnd Q (rr Q k).2.2 g).1 (QG Q) g 8 (Nat.le_refl _)
          have p8 := h8 g
          obtain ⟨l1, _⟩ := hV.lb hQ hg'
          obtain ⟨_, _, lg, _⟩ := hQ.2.2.1 g hg'
          have x3 : V 80 (Int32.toNatClampNeg (n32 g)) = n32 (lab Q g) := by rw [gt]; exact l1
          have lti : (n32 (lab Q g)).toInt = lab Q g := n32i (by omega)
          have ltt : Int32.toNatClampNeg (n32 (lab Q g)) = lab Q g := n32n (by omega)
          have hr : rnd Q (rr Q k).2.2 (g + 1) = (setP (rnd Q (rr Q k).2.2 g).1 g (ch Q (rnd Q (rr Q k).2.2 g).1 (QG Q) g 8), (rnd Q (rr Q k).2.2 g).2 || decide (ch Q (rnd Q (rr Q k).2.2 g).1 (QG Q) g 8 ≠ (rnd Q (rr Q k).2.2 g).1 g)) := rfl
          have fin : ∀ (y0 : Int32), y0 = (if ((rnd Q (rr Q k).2.2 g).2 || decide (ch Q (rnd Q (rr Q k).2.2 g).1 (QG Q) g 8 ≠ (rnd Q (rr Q k).2.2 g).1 g)) = true then 1 else 0) → ok (f_M_goRound_b71 (n32 g) (n32 (lab Q g)) (n32 (ch Q (rnd Q (rr Q k).2.2 g).1 (QG Q) g 8)) y0 V) (fun x => Sum.elim (fun t => (∃ g : Nat, g ≤ QG Q ∧ t.2.1 = n32 g ∧ t.1 = (if (rnd Q (rr Q k).2.2 g).2 = true then 1 else 0) ∧ Fr WQ I t.2.2 ∧ t.2.2 49 60 = n32 ((rr Q k).1 + 1) ∧ Pm t.2.2 Q (rnd Q (rr Q k).2.2 g).1 (QG Q) ∧ ∀ l, (∀ g, g < QG Q → lab Q g ≠ l) → t.2.2 76 l = I 76 l) ∧ (21 - t.2.1.toInt).toNat < (21 - (n32 g).toInt).toNat) (fun y => Sum.elim (fun t => (∃ k : Nat, k ≤ 10 ∧ t.2 49 60 = n32 (rr Q k).1 ∧ t.1 = (if (rr Q k).2.1 = true then 1 else 0) ∧ Fr WQ I t.2 ∧ Pm t.2 Q (rr Q k).2.2 (QG Q) ∧ ∀ l, (∀ g, g < QG Q → lab Q g ≠ l) → t.2 76 l = I 76 l) ∧ 10 - (if t.1 = 0 then 10 else (t.2 49 60).toInt).toNat < 10 - (if (if (rr Q k).2.1 = true then (1 : Int32) else 0) = 0 then 10 else (J 49 60).toInt).toNat) (fun J => Fr WQ I J ∧ J 49 60 = n32 (rr Q 10).1 ∧ Pm J Q (rr Q 10).2.2 (QG Q) ∧ ∀ l, (∀ g, g < QG Q → lab Q g ≠ l) → J 76 l = I 76 l) y) x) := by
            intro y0 hy0
            unfold f_M_goRound_b71
            refine ok_g (by omega) (ok_s ⟨⟨g + 1, by omega, n32s (by omega), ?_, Fr.upA v3 (by decide) (by decide), v3', fun j hj => ?_, fun l hl => ?_⟩, ?_⟩)
            · rw [hr]
              exact hy0
            · show up2 V 76 (Int32.toNatClampNeg (n32 (lab Q g))) _ 76 (lab Q j) = n32 ((rnd Q (rr Q k).2.2 (g + 1)).1 j)
              rw [hr, ltt]
              show _ = n32 (setP _ g _ j)
              unfold setP
              by_cases e : j = g
              · rw [if_pos e, e, up2_self]
              · rw [if_neg e, up2_nk _ _ _ _ _ (fun hh => e (hQ.2.2.2 j g hj hg' hh))]
                exact v4 j hj
            · show up2 V 76 (Int32.toNatClampNeg (n32 (lab Q g))) _ 76 l = _
              rw [ltt, up2_nk _ _ _ _ _ (fun hh => hl g hg' hh.symm)]
              exact v5 l hl
            · show (21 - (n32 g + 1).toInt).toNat < (21 - (n32 g).toInt).toNat
              rw [i32p (by omega) (by omega)]
              omega
          refine ok_g (by omega) ?_
          rw [x3]
          refine ok_e cc ?_
          have c76 : V 76 (Int32.toNatClampNeg (n32 (lab Q g))) = n32 ((rnd Q (rr Q k).2.2 g).1 g) := by rw [ltt]; exact v4 g hg'
          unfold f_M_goRound_b66
          by_cases cf : (rnd Q (rr Q k).2.2 g).2 = true
          · refine ok_f (by rw [if_pos cf]; decide) (fin 1 ?_)
            rw [cf]
            rfl
          · have cf' := Bool.eq_false_iff.mpr cf
            refine ok_t (by rw [if_neg cf]) (ok_g (by omega) (ok_iq (fun he => fin 0 ?_) (fun he => fin 1 ?_)))
            · rw [c76, n32i (by omega), n32i (by omega)] at he
              rw [cf', decide_eq_false (by omega)]
              rfl
            · rw [c76, n32i (by omega), n32i (by omega)] at he
              rw [cf', decide_eq_true (by omega)]
              rfl
      · show up2 J 49 60 (J 49 60 + 1) 49 60 = _
        rw [up2_self]
        exact e60
  · refine ok_t (by rw [if_neg c]) (ok_s ?_)
    have := rr_stop c (10 - k)
    have e : k + (10 - k) = 10 := by omega
    rw [e] at this
    rw [this]
    exact ⟨q3, q1, q4, q5⟩
