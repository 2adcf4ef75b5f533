/-! ===== the best places, found by the class ===== -/
def BR (I : xm_I) (Q : QQ) (B : Bst) : Prop := I 39 14 = n32 B.1 ∧ I 39 15 = n32 B.2.1 ∧ ∀ j, j < QG Q → I 46 j = B.2.2 j
def LBs (I : xm_I) (Q : QQ) : Prop := ∀ g, g ≤ QG Q → I 47 g = n32 (lC Q (QG Q - g) g) ∧ I 48 g = n32 (lO Q (QG Q - g) g)
abbrev WSr : List Nat := [42, 46, 40014, 40015]
theorem keepBest {I : xm_I} {Q : QQ} {pl : Nat → Nat} {a b : Nat} (hQ : QOK Q) (h6 : QG Q ≤ 6) (hC : CQ I Q) (hP : Pc I pl (QG Q)) : ok (f_Pl_keepAsBest (n32 a) (n32 b) I) (fun J => Fr WSr I J ∧ Pc J pl (QG Q) ∧ BR J Q (a, b, fun j => n32 (pl j))) := by
  unfold f_Pl_keepAsBest f_Pl_keepAsBest_b0 f_Pl_keepAsBest_b12
  dsimp only
  refine lp_inv (fun t => ∃ k : Nat, k ≤ QG Q ∧ t.1 = n32 k ∧ Fr [46, 40014, 40015] I t.2 ∧ t.2 39 14 = n32 a ∧ t.2 39 15 = n32 b ∧ ∀ j, j < k → t.2 46 j = n32 (pl j)) (fun t => (7 - t.1.toInt).toNat) _ ?_ (0, up2 (up2 I 39 14 (n32 a)) 39 15 (n32 b)) ⟨0, by omega, rfl, Fr.up (Fr.up (Fr.refl _ _) (by decide)) (by decide), rfl, rfl, fun j hj => by omega⟩
  rintro ⟨kk, J⟩ ⟨k, hk, q1, q2, q3, q4, q5⟩
  simp only at q1 q2 q3 q4 q5
  subst q1
  have ki : (n32 k).toInt = k := n32i (by omega)
  have kt : Int32.toNatClampNeg (n32 k) = k := n32n (by omega)
  have k6 := z6
  have hP' : Pc J pl (QG Q) := fun j hj => by rw [q2.row 42 rfl (by decide)]; exact hP j hj
  have j13 : (J 39 13).toInt = QG Q := by rw [q2 39 13 (by decide), hC.1, n32i (by omega)]
  unfold f_Pl_keepAsBest_s12
  dsimp only
  refine ok_le (fun hc => ok_s ?_) (fun hc => ok_f (by rw [le32]; omega) (ok_g (by omega) (ok_g (by omega) (ok_s ⟨⟨k + 1, by omega, n32s (by omega), Fr.upA q2 (by decide) (by decide), q3, q4, fun j hj => ?_⟩, ?_⟩))))
  · have e : k = QG Q := by omega
    subst e
    exact ⟨q2.mono (by decide), hP', q3, q4, q5⟩
  · show up2 J 46 (Int32.toNatClampNeg (n32 k)) (J 42 (Int32.toNatClampNeg (n32 k))) 46 j = _
    rw [kt]
    by_cases e : j = k
    · rw [e, up2_self]
      exact hP' k (by omega)
    · rw [up2_nk _ _ _ _ _ e]
      exact q5 j (by omega)
  · show (7 - (n32 k + 1).toInt).toNat < (7 - (n32 k).toInt).toNat
    rw [i32p (by omega) (by omega)]
    omega
theorem search_pre {I : xm_I} {Q : QQ} {r g : Nat} {pl : Nat → Nat} {B : Bst} {rc : Int32 → Int32 → Int32 → xm_I → Option xm_I} {K : xm_I → Prop} (hQ : QOK Q) (h6 : QG Q ≤ 6) (hr : g + r = QG Q) (hC : CQ I Q) (hL : LBs I Q) (h8 : P8 pl) (hB : BR I Q B) (hb : B.1 ≤ 100 ∧ B.2.1 ≤ 200000) (hpr : fb Q B (lv Q r g pl) = B → K I) (hgo : (ov pl g + lO Q r g < B.1 ∨ (ov pl g + lO Q r g = B.1 ∧ cv Q pl g + lC Q r g < B.2.1)) → ok (f_Pl_search_b63 (n32 g) (n32 (ov pl g)) (n32 (cv Q pl g)) I rc) K) : ok (f_Pl_search_o (n32 g) (n32 (ov pl g)) (n32 (cv Q pl g)) I rc) K := by
  have k0 := z0
  have k6 := z6
  have gi : (n32 g).toInt = g := n32i (by omega)
  have gt : Int32.toNatClampNeg (n32 g) = g := n32n (by omega)
  have j13 : (I 39 13).toInt = QG Q := by rw [hC.1, n32i (by omega)]
  have ob := ov_le pl g
  have cb := cv_le hQ h8 g
  have lb := lO_le hQ r g
  have er : QG Q - g = r := by omega
  obtain ⟨l1, l2⟩ := hL g (by omega)
  rw [er] at l1 l2
  have oi : (n32 (ov pl g)).toInt = ov pl g := n32i (by omega)
  have ci : (n32 (cv Q pl g)).toInt = cv Q pl g := n32i (by omega)
  have x4 : (n32 (ov pl g) + I 48 (Int32.toNatClampNeg (n32 g))).toInt = ov pl g + lO Q r g := by rw [gt, l2, i32a (by rw [oi, n32i (by omega)]; omega), oi, n32i (by omega)]
  have x5 : (n32 (cv Q pl g) + I 47 (Int32.toNatClampNeg (n32 g))).toInt = cv Q pl g + lC Q r g := by rw [gt, l1, i32a (by rw [ci, n32i (by omega)]; omega), ci, n32i (by omega)]
  have b1 : (I 39 14).toInt = B.1 := by rw [hB.1, n32i (by omega)]
  have b2 : (I 39 15).toInt = B.2.1 := by rw [hB.2.1, n32i (by omega)]
  have hlb := lv_lb hQ hr h8
  have prune : ¬ (ov pl g + lO Q r g < B.1 ∨ (ov pl g + lO Q r g = B.1 ∧ cv Q pl g + lC Q r g < B.2.1)) → K I := by
    intro hn
    refine hpr (fb_no fun x hx hlt => ?_)
    obtain ⟨a, b⟩ := hlb x hx
    rcases hlt with h | ⟨h1, h2⟩
    · omega
    · by_cases e : ov x (QG Q) = ov pl g + lO Q r g
      · have := b e
        omega
      · omega
  unfold f_Pl_search_o f_Pl_search_b0
  refine ok_f (by rw [lt32]; omega) (ok_f (by rw [lt32]; omega) (ok_t (by rw [le32]; omega) (ok_g (by omega) (ok_lt (fun h1 => ok_s (prune (by omega))) (fun h1 => ok_iq (fun h2 => ok_g (by omega) (ok_lt (fun h3 => hgo (by omega)) (fun h3 => ok_s (prune (by omega))))) (fun h2 => hgo (by omega)))))))
theorem search_ok {Q : QQ} (hQ : QOK Q) (h6 : QG Q ≤ 6) (r : Nat) : ∀ (g fuel : Nat) (pl : Nat → Nat) (I : xm_I) (B : Bst), g + r = QG Q → r < fuel → CQ I Q → LBs I Q → P8 pl → Pc I pl g → BR I Q B → (B.1 ≤ 100 ∧ B.2.1 ≤ 200000) → ok (f_Pl_search fuel (n32 g) (n32 (ov pl g)) (n32 (cv Q pl g)) I) (fun J => Fr WSr I J ∧ Pc J pl g ∧ BR J Q (fb Q B (lv Q r g pl))) := by
  induction r with
  | zero =>
    intro g fuel pl I B hr hf hC hL h8 hP hB hb
    obtain ⟨k, rfl⟩ : ∃ k, fuel = k + 1 := ⟨fuel - 1, by omega⟩
    have e : g = QG Q := by omega
    refine search_pre (r := 0) hQ h6 hr hC hL h8 hB hb (fun h => ⟨Fr.refl _ _, hP, by rw [h]; exact hB⟩) (fun h => ?_)
    unfold f_Pl_search_b63
    refine ok_t (by rw [hC.1, e]) ?_
    have l0 : lO Q 0 g = 0 := rfl
    have c0 : lC Q 0 g = 0 := rfl
    rw [l0, c0, Nat.add_zero, Nat.add_zero] at h
    subst e
    refine ok_b (ok_mono (keepBest hQ h6 hC hP) (fun J hJ => ok_s ⟨hJ.1, hJ.2.1, ?_⟩))
    have hu : fb Q B (lv Q 0 (QG Q) pl) = (ov pl (QG Q), cv Q pl (QG Q), fun j => n32 (pl j)) := by
      show upB Q B pl = _
      exact if_pos h
    rw [hu]
    exact hJ.2.2
  | succ r ih =>
    intro g fuel pl I B hr hf hC hL h8 hP hB hb
    obtain ⟨k, rfl⟩ : ∃ k, fuel = k + 1 := ⟨fuel - 1, by omega⟩
    have hg : g < QG Q := by omega
    have gi : (n32 g).toInt = g := n32i (by omega)
    have gt : Int32.toNatClampNeg (n32 g) = g := n32n (by omega)
    have eg := n32s (k := g) (by omega)
    have ob := ov_le pl g
    have cb := cv_le hQ h8 g
    have hcl : ∀ J : xm_I, Fr WSr I J → CQ J Q ∧ LBs J Q := by
      intro J hJ
      refine ⟨hC.kept hJ (by decide), fun i hi => ?_⟩
      rw [hJ.row 47 rfl (by decide), hJ.row 48 rfl (by decide)]
      exact hL i hi
    refine search_pre (r := r + 1) hQ h6 hr hC hL h8 hB hb (fun h => ⟨Fr.refl _ _, hP, by rw [h]; exact hB⟩) (fun h => ?_)
    unfold f_Pl_search_b63
    refine ok_f ?_ ?_
    · rw [hC.1, eq32, gi, n32i (by omega)]
      omega
    have hlv : lv Q (r + 1) g pl = fl9 (fun p => if finB Q pl g p = true then lv Q r (g + 1) (setP pl g p) else []) 0 9 := rfl
    rw [hlv]
    generalize hF : (fun p => if finB Q pl g p = true then lv Q r (g + 1) (setP pl g p) else []) = F
    have hF8 : ∀ p, p ≤ 8 → ∀ x ∈ F p, P8 x := by
      intro p hp x hx
      rw [← hF] at hx
      dsimp only at hx
      split at hx
      · exact (lv_8 (set_8 h8 hp) x hx).1
      · cases hx
    have hfl8 : ∀ n, n ≤ 9 → ∀ x ∈ fl9 F 0 n, P8 x := by
      intro n hn x hx
      obtain ⟨p, _, h2, h3⟩ := mem_fl9.mp hx
      exact hF8 p (by omega) x h3
    unfold f_Pl_search_b81
    refine lp_inv (fun t => ∃ p : Nat, p ≤ 8 ∧ t.1 = n32 p ∧ Fr WSr I t.2 ∧ Pc t.2 pl g ∧ BR t.2 Q (fb Q B (fl9 F 0 p))) (fun t => (9 - t.1.toInt).toNat) _ ?_ (0, I) ⟨0, by omega, rfl, Fr.refl _ _, hP, hB⟩
    rintro ⟨pp, J⟩ ⟨p, hp, q1, q2, q3, q4⟩
    simp only at q1 q2 q3 q4
    subst q1
    have pi : (n32 p).toInt = p := n32i (by omega)
    have k8 : (8 : Int32).toInt = 8 := by decide
    obtain ⟨cJ, lJ⟩ := hcl J q2
    have bJ := fb_b hQ (hfl8 p (by omega)) hb
    have hsn : fl9 F 0 (p + 1) = fl9 F 0 p ++ F p := by
      rw [fl9_snoc, Nat.zero_add]
    have sub : finB Q pl g p = true → ok (f_Pl_search k (n32 (g + 1)) (n32 (ov (setP pl g p) (g + 1))) (n32 (cv Q (setP pl g p) (g + 1))) (up2 J 42 (Int32.toNatClampNeg (n32 g)) (n32 p))) (fun V => Fr WSr I V ∧ Pc V pl g ∧ BR V Q (fb Q B (fl9 F 0 (p + 1)))) := by
      intro hfin
      have fV : Fr WSr I (up2 J 42 (Int32.toNatClampNeg (n32 g)) (n32 p)) := Fr.upA q2 (by decide) (by decide)
      obtain ⟨c1, c2⟩ := hcl _ fV
      have hP' : Pc (up2 J 42 (Int32.toNatClampNeg (n32 g)) (n32 p)) (setP pl g p) (g + 1) := by
        intro j hj
        show up2 J 42 (Int32.toNatClampNeg (n32 g)) (n32 p) 42 j = _
        rw [gt]
        by_cases e : j = g
        · rw [e, up2_self, set_at]
        · rw [up2_nk _ _ _ _ _ e, set_pre _ _ _ j (by omega)]
          exact q3 j (by omega)
      refine ok_mono (ih (g + 1) k (setP pl g p) _ (fb Q B (fl9 F 0 p)) (by omega) (by omega) c1 c2 (set_8 h8 hp) hP' q4 bJ) (fun V hV => ⟨fV.trans hV.1, fun j hj => ?_, ?_⟩)
      · rw [hV.2.1 j (by omega), set_pre _ _ _ j hj]
      · have hFp : F p = lv Q r (g + 1) (setP pl g p) := by
          rw [← hF]
          exact if_pos hfin
        rw [hsn, fb_app, hFp]
        exact hV.2.2
    have skip : ¬ finB Q pl g p = true → fb Q B (fl9 F 0 (p + 1)) = fb Q B (fl9 F 0 p) := by
      intro hn
      have hFp : F p = [] := by
        rw [← hF]
        exact if_neg hn
      rw [hsn, hFp, List.append_nil]
    unfold f_Pl_search_s81 f_Pl_search_b124
    dsimp only
    refine ok_le (fun hc => ?_) (fun hc => ?_)
    · have e : p = 8 := by omega
      subst e
      have h := sub rfl
      rw [ov_set, cv_set, if_pos rfl, if_pos rfl, Nat.add_zero] at h
      have e1 : n32 (ov pl g) + 1 = n32 (ov pl g + 1) := n32s (by omega)
      refine ok_g (by omega) ?_
      rw [eg, e1]
      exact ok_b (ok_mono h (fun V hV => ok_s hV))
    · have hp8 : p < 8 := by omega
      have dec : (9 - (n32 p + 1).toInt).toNat < (9 - (n32 p).toInt).toNat := by
        rw [i32p (by omega) (by omega)]
        omega
      have es := n32s (k := p) (by omega)
      have hfe : finB Q pl g p = FRb Q pl g g p := if_neg (by omega)
      refine ok_e (isFreeC cJ hQ h8 q3 (by omega) hg hp8) (ok_ib (fun hn => ok_s ⟨⟨p + 1, by omega, es, q2, q3, ?_⟩, dec⟩) (fun hy => ok_g (by omega) ?_))
      · rw [skip (by rw [hfe]; exact hn)]
        exact q4
      · have fV : Fr WSr I (up2 J 42 (Int32.toNatClampNeg (n32 g)) (n32 p)) := Fr.upA q2 (by decide) (by decide)
        have hco := e_costC (hcl _ fV).1 hQ hg hp8
        have h := sub (by rw [hfe]; exact hy)
        rw [ov_set, cv_set, if_neg (by omega), if_neg (by omega), Nat.add_zero] at h
        have hne := (FRb_iff.mp hy).1
        have qb := qc_b hQ g hp8
        have km : (-1 : Int32).toInt = -1 := by decide
        have hpos : 0 ≤ (qc Q g p).toInt ∧ (qc Q g p).toInt ≤ 6010 := by
          rcases qb with qb | qb
          · exact absurd (by rw [eq32, km]; exact qb) hne
          · exact qb
        have e1 : n32 (cv Q pl g) + qc Q g p = n32 (cv Q pl g + (qc Q g p).toInt.toNat) := by
          rw [eq32, i32a (by rw [n32i (by omega)]; omega), n32i (by omega), n32i (by omega)]
          omega
        refine ok_e hco ?_
        rw [eg, e1]
        exact ok_b (ok_mono h (fun V hV => ok_s ⟨⟨p + 1, by omega, es, hV.1, hV.2.1, hV.2.2⟩, dec⟩))
theorem e_least {I : xm_I} {Q : QQ} {g : Nat} (h : CQ I Q) (hQ : QOK Q) (hg : g < QG Q) : f_Pl_leastCostOf (n32 g) I = some (lsI Q g 8) := by
  have k8 : (8 : Int32).toInt = 8 := by decide
  unfold f_Pl_leastCostOf f_Pl_leastCostOf_b0 f_Pl_leastCostOf_b4
  refine ok_eq (lp_inv (fun t => ∃ k : Nat, k ≤ 8 ∧ t = (lsI Q g k, n32 k)) (fun t => (9 - t.2.toInt).toNat) _ ?_ (-1, 0) ⟨0, by omega, rfl⟩)
  rintro t ⟨k, hk, rfl⟩
  have ki : (n32 k).toInt = k := n32i (by omega)
  have dec : (9 - (n32 k + 1).toInt).toNat < (9 - (n32 k).toInt).toNat := by
    rw [i32p (by omega) (by omega)]
    omega
  have es := n32s (k := k) (by omega)
  unfold f_Pl_leastCostOf_s4 f_Pl_leastCostOf_b35 f_Pl_leastCostOf_b38
  dsimp only
  refine ok_le (fun hc => ok_s ?_) (fun hc => ?_)
  · have e : k = 8 := by omega
    subst e
    exact rfl
  · have hu : lsI Q g (k + 1) = if qc Q g k = -1 then lsI Q g k else if lsI Q g k = -1 then qc Q g k else if (lsI Q g k).toInt ≤ (qc Q g k).toInt then lsI Q g k else qc Q g k := rfl
    refine ok_e (e_costC h hQ hg (by omega)) (ok_i (fun c1 => ok_s ⟨⟨k + 1, by omega, ?_⟩, dec⟩) (fun c1 => ok_i (fun c2 => ok_s ⟨⟨k + 1, by omega, ?_⟩, dec⟩) (fun c2 => ok_le (fun c3 => ok_s ⟨⟨k + 1, by omega, ?_⟩, dec⟩) (fun c3 => ok_s ⟨⟨k + 1, by omega, ?_⟩, dec⟩))))
    · rw [hu, if_pos c1, es]
    · rw [hu, if_neg c1, if_pos c2, es]
    · rw [hu, if_neg c1, if_neg c2, if_pos c3, es]
    · rw [hu, if_neg c1, if_neg c2, if_neg (by omega), es]
abbrev WBn : List Nat := [42, 40014, 40015]
theorem boundC {I : xm_I} {Q : QQ} (h : CQ I Q) (hQ : QOK Q) (h6 : QG Q ≤ 6) (hP : Pc I (fun _ => 8) (QG Q)) : ok (f_Pl_boundByRounds I) (fun J => Fr WBn I J ∧ J 39 14 = n32 (ov (rr Q 10).2.2 (QG Q)) ∧ J 39 15 = n32 (cv Q (rr Q 10).2.2 (QG Q) + 1)) := by
  unfold f_Pl_boundByRounds f_Pl_boundByRounds_b0 f_Pl_boundByRounds_b17
  refine ok_b (ok_mono (goRoundsC h hQ hP) (fun q hq => ?_))
  obtain ⟨_, f1, p1⟩ := hq
  have h8 := rr_8 Q 10
  have hfe := rr_feas Q 10
  generalize (rr Q 10).2.2 = R at *
  dsimp only
  refine lp_inv (fun t => ∃ k : Nat, k ≤ QG Q ∧ t.1 = n32 k ∧ Fr WBn I t.2 ∧ Pc t.2 R (QG Q) ∧ t.2 39 14 = n32 (ov R k) ∧ t.2 39 15 = n32 (cv Q R k + 1)) (fun t => (7 - t.1.toInt).toNat) _ ?_ (0, up2 (up2 q.2 39 14 0) 39 15 1) ⟨0, by omega, rfl, Fr.up (Fr.up (f1.mono (by decide)) (by decide)) (by decide), p1, rfl, rfl⟩
  rintro ⟨kk, J⟩ ⟨k, hk, q1, q2, q3, q4, q5⟩
  simp only at q1 q2 q3 q4 q5
  subst q1
  have ki : (n32 k).toInt = k := n32i (by omega)
  have kt : Int32.toNatClampNeg (n32 k) = k := n32n (by omega)
  have hJ : CQ J Q := h.kept q2 (by decide)
  have j13 : (J 39 13).toInt = QG Q := by rw [hJ.1, n32i (by omega)]
  have dec : (7 - (n32 k + 1).toInt).toNat < (7 - (n32 k).toInt).toNat := by
    rw [i32p (by omega) (by omega)]
    omega
  have es := n32s (k := k) (by omega)
  unfold f_Pl_boundByRounds_s17
  dsimp only
  refine ok_le (fun hc => ok_s ?_) (fun hc => ?_)
  · have e : k = QG Q := by omega
    subst e
    exact ⟨q2, q4, q5⟩
  · have hkG : k < QG Q := by omega
    have h42 := q3 k hkG
    have p8 := h8 k
    have ob := ov_le R k
    have cb := cv_le hQ h8 k
    have k88 : (8 : Int32) = n32 8 := rfl
    have hov : ov R (k + 1) = ov R k + (if R k = 8 then 1 else 0) := rfl
    have hcv : cv Q R (k + 1) = cv Q R k + (if R k = 8 then 0 else (qc Q k (R k)).toInt.toNat) := rfl
    unfold f_Pl_boundByRounds_b46 f_Pl_boundByRounds_b81
    dsimp only
    refine ok_g (by omega) ?_
    by_cases c8 : R k = 8
    · rw [if_pos c8] at hov hcv
      have e42 : J 42 (Int32.toNatClampNeg (n32 k)) = 8 := by rw [kt, h42, c8]; rfl
      refine ok_t e42 (ok_g (by omega) (ok_t e42 (ok_s ⟨⟨k + 1, by omega, es, Fr.up (Fr.up q2 (by decide)) (by decide), q3, ?_, ?_⟩, dec⟩)))
      · show J 39 14 + 1 = _
        rw [q4, hov]
        exact n32s (by omega)
      · show J 39 15 + 0 = _
        rw [q5, hcv, Nat.add_zero]
        exact Int32.add_zero _
    · rw [if_neg c8] at hov hcv
      have e42 : ¬ J 42 (Int32.toNatClampNeg (n32 k)) = 8 := by
        rw [kt, h42, k88, eq32, n32i (by omega), n32i (by omega)]
        omega
      have hne := hfe.2.1 k hkG c8
      have qb := qc_b hQ k (p := R k) (by omega)
      have km : (-1 : Int32).toInt = -1 := by decide
      have hpos : 0 ≤ (qc Q k (R k)).toInt ∧ (qc Q k (R k)).toInt ≤ 6010 := by
        rcases qb with qb | qb
        · exact absurd (by rw [eq32, km]; exact qb) hne
        · exact qb
      refine ok_f e42 (ok_g (by omega) (ok_f e42 (ok_g (by omega) ?_)))
      have hJ1 : CQ (up2 J 39 14 (J 39 14 + 0)) Q := hJ.kept (Fr.up (W := WBn) (Fr.refl _ _) (by decide)) (by decide)
      have hco := e_costC hJ1 hQ hkG (p := R k) (by omega)
      have e2 : up2 J 39 14 (J 39 14 + 0) 42 (Int32.toNatClampNeg (n32 k)) = n32 (R k) := by
        show J 42 (Int32.toNatClampNeg (n32 k)) = _
        rw [kt, h42]
      rw [e2]
      refine ok_e hco (ok_s ⟨⟨k + 1, by omega, es, Fr.up (Fr.up q2 (by decide)) (by decide), q3, ?_, ?_⟩, dec⟩)
      · show J 39 14 + 0 = _
        rw [q4, hov, Nat.add_zero]
        exact Int32.add_zero _
      · show J 39 15 + qc Q k (R k) = _
        rw [q5, hcv, eq32, i32a (by rw [n32i (by omega)]; omega), n32i (by omega), n32i (by omega)]
        omega
noncomputable def bestF (Q : QQ) : Nat → Int32 := (fb Q (7, 0, fun _ => 0) (lv Q (QG Q) 0 (fun _ => 8))).2.2
theorem best_as {Q : QQ} (h6 : QG Q ≤ 6) {B : Bst} (hB : lt2 Q (rr Q 10).2.2 B) : (fb Q B (lv Q (QG Q) 0 (fun _ => 8))).2.2 = bestF Q := by
  obtain ⟨x, hx, hx2⟩ := lvs_has (rr_feas Q 10) (r := QG Q) (g := 0) (pl := fun _ => 8) (by omega) (fun j hj => by omega)
  have e1 := ov_congr hx2
  have e2 := cv_congr (Q := Q) hx2
  have ob := ov_le (rr Q 10).2.2 (QG Q)
  unfold bestF
  rw [fb_same ⟨x, hx, ?_, ?_⟩]
  · unfold lt2 at hB ⊢
    rw [e1, e2]
    exact hB
  · left
    rw [e1]
    show _ < 7
    omega
theorem best_leaf {Q : QQ} (h6 : QG Q ≤ 6) : ∃ x : Nat → Nat, (∀ j, bestF Q j = n32 (x j)) ∧ P8 x ∧ ∀ j, j < QG Q → x j ≠ 8 → qc Q j (x j) ≠ -1 := by
  obtain ⟨x, hx, hx2⟩ := lvs_has (rr_feas Q 10) (r := QG Q) (g := 0) (pl := fun _ => 8) (by omega) (fun j hj => by omega)
  obtain ⟨y, hy, e⟩ := fb_leaf (Q := Q) (B := (7, 0, fun _ => 0)) (l := lv Q (QG Q) 0 (fun _ => 8)) ⟨x, hx, Or.inl (by have := ov_le x (QG Q); show _ < 7; omega)⟩
  have l8 := lv_8 (Q := Q) (fun _ => Nat.le_refl _ : P8 (fun _ => 8)) y hy
  refine ⟨y, fun j => ?_, l8.1, fun j hj => l8.2.2 j (by omega) (by omega)⟩
  unfold bestF
  rw [e]
abbrev WFb : List Nat := [42, 46, 47, 48, 40014, 40015]
theorem findBestC {I : xm_I} {Q : QQ} (h : CQ I Q) (hQ : QOK Q) (h6 : QG Q ≤ 6) (hP : Pc I (fun _ => 8) (QG Q)) : ok (f_Pl_findBest I) (fun J => Fr WFb I J ∧ ∀ g, g < QG Q → J 42 g = bestF Q g) := by
  have k1 := z1
  have k0 := z0
  have i13 : (I 39 13).toInt = QG Q := by rw [h.1, n32i (by omega)]
  have t13 : Int32.toNatClampNeg (I 39 13) = QG Q := by rw [h.1, n32n (by omega)]
  unfold f_Pl_findBest f_Pl_findBest_b0 f_Pl_findBest_b27
  refine ok_g (by omega) ?_
  dsimp only
  have s13 : up2 I 47 (Int32.toNatClampNeg (I 39 13)) 0 39 13 = I 39 13 := rfl
  refine ok_g (by rw [s13]; omega) ?_
  have s13' : up2 (up2 I 47 (Int32.toNatClampNeg (I 39 13)) 0) 48 (Int32.toNatClampNeg (up2 I 47 (Int32.toNatClampNeg (I 39 13)) 0 39 13)) 0 39 13 = I 39 13 := rfl
  rw [s13', s13, t13]
  refine lp_inv (fun t => ∃ k : Nat, k ≤ QG Q ∧ t.1 = n32 k - 1 ∧ Fr [47, 48] I t.2 ∧ ∀ g, k ≤ g → g ≤ QG Q → t.2 47 g = n32 (lC Q (QG Q - g) g) ∧ t.2 48 g = n32 (lO Q (QG Q - g) g)) (fun t => (t.1.toInt + 1).toNat) _ ?_ (I 39 13 - 1, up2 (up2 I 47 (QG Q) 0) 48 (QG Q) 0) ⟨QG Q, by omega, by rw [h.1], Fr.upA (Fr.upA (Fr.refl _ _) (by decide) (by decide)) (by decide) (by decide), fun g hg hg' => ?_⟩
  · rintro ⟨kk, J⟩ ⟨k, hk, q1, q2, q3⟩
    simp only at q1 q2 q3
    subst q1
    have xi : (n32 k - 1).toInt = (k : Int) - 1 := by rw [i32s (by rw [n32i (by omega)]; omega), n32i (by omega), k1]
    have hJ : CQ J Q := h.kept q2 (by decide)
    unfold f_Pl_findBest_s27
    dsimp only
    refine ok_lt (fun hc => ?_) (fun hc => ?_)
    · have e : k = 0 := by omega
      subst e
      have hPJ : Pc J (fun _ => 8) (QG Q) := fun j hj => by rw [q2.row 42 rfl (by decide)]; exact hP j hj
      refine ok_b (ok_mono (boundC hJ hQ h6 hPJ) (fun V hV => ?_))
      obtain ⟨f1, b1, b2⟩ := hV
      have hV : CQ V Q := hJ.kept f1 (by decide)
      have hLV : LBs V Q := by
        intro g hg
        rw [f1.row 47 rfl (by decide), f1.row 48 rfl (by decide)]
        exact q3 g (by omega) hg
      have ob := ov_le (rr Q 10).2.2 (QG Q)
      have cb := cv_le hQ (rr_8 Q 10) (QG Q)
      refine ok_b (ok_mono (search_ok hQ h6 (QG Q) 0 8 (fun _ => 8) V (ov (rr Q 10).2.2 (QG Q), cv Q (rr Q 10).2.2 (QG Q) + 1, V 46) (by omega) (by omega) hV hLV (fun _ => Nat.le_refl _) (fun j hj => by omega) ⟨b1, b2, fun _ _ => rfl⟩ (by dsimp only; omega)) (fun N hN => ?_))
      obtain ⟨f2, _, b3⟩ := hN
      have hbest := best_as (Q := Q) (B := (ov (rr Q 10).2.2 (QG Q), cv Q (rr Q 10).2.2 (QG Q) + 1, V 46)) h6 (Or.inr ⟨rfl, by show _ < _ + 1; omega⟩)
      refine ok_m ?_
      unfold f_Pl_findBest_b106
      have fN : Fr WFb I N := ((q2.mono (by decide)).trans (f1.mono (by decide))).trans (f2.mono (by decide))
      have n46 : ∀ j, j < QG Q → N 46 j = bestF Q j := fun j hj => by rw [← hbest]; exact b3.2.2 j hj
      refine ok_mono (lp_inv (fun t => ∃ k : Nat, k ≤ QG Q ∧ t.1 = n32 k ∧ Fr WFb I t.2 ∧ (∀ j, j < QG Q → t.2 46 j = bestF Q j) ∧ ∀ j, j < k → t.2 42 j = bestF Q j) (fun t => (7 - t.1.toInt).toNat) (fun J : xm_I => Fr WFb I J ∧ ∀ g, g < QG Q → J 42 g = bestF Q g) ?_ (0, N) ⟨0, by omega, rfl, fN, n46, fun j hj => by omega⟩) (fun q hq => hq)
      rintro ⟨ii, T⟩ ⟨i, hi, r1, r2, r3, r4⟩
      simp only at r1 r2 r3 r4
      subst r1
      have iI : (n32 i).toInt = i := n32i (by omega)
      have it : Int32.toNatClampNeg (n32 i) = i := n32n (by omega)
      have T13 : (T 39 13).toInt = QG Q := by rw [r2 39 13 (by decide), i13]
      unfold f_Pl_findBest_s106
      dsimp only
      refine ok_le (fun hd => ok_s ?_) (fun hd => ok_g (by omega) (ok_g (by omega) (ok_s ⟨⟨i + 1, by omega, n32s (by omega), Fr.upA r2 (by decide) (by decide), r3, fun j hj => ?_⟩, ?_⟩)))
      · have e : i = QG Q := by omega
        subst e
        exact ⟨r2, r4⟩
      · show up2 T 42 (Int32.toNatClampNeg (n32 i)) (T 46 (Int32.toNatClampNeg (n32 i))) 42 j = _
        rw [it]
        by_cases e : j = i
        · rw [e, up2_self]
          exact r3 i (by omega)
        · rw [up2_nk _ _ _ _ _ e]
          exact r4 j (by omega)
      · show (7 - (n32 i + 1).toInt).toNat < (7 - (n32 i).toInt).toNat
        rw [i32p (by omega) (by omega)]
        omega
    · obtain ⟨g, rfl⟩ : ∃ g, k = g + 1 := ⟨k - 1, by omega⟩
      have ex : n32 (g + 1) - 1 = n32 g := by
        rw [eq32, xi, n32i (by omega)]
        omega
      rw [ex] at xi hc ⊢
      have gi : (n32 g).toInt = g := n32i (by omega)
      have gt : Int32.toNatClampNeg (n32 g) = g := n32n (by omega)
      have e1 := n32s (k := g) (by omega)
      have e1i : (n32 (g + 1)).toInt = (g : Int) + 1 := by rw [n32i (by omega)]; omega
      have e1t : Int32.toNatClampNeg (n32 (g + 1)) = g + 1 := n32n (by omega)
      obtain ⟨l1, l2⟩ := q3 (g + 1) (by omega) hk
      have er : QG Q - g = (QG Q - (g + 1)) + 1 := by omega
      have lb := lO_le hQ (QG Q - (g + 1)) (g + 1)
      have lsb := (ls_b hQ g 8 (Nat.le_refl _)).1
      have km : (-1 : Int32).toInt = -1 := by decide
      have hC0 : lC Q (QG Q - g) g = lC Q (QG Q - (g + 1)) (g + 1) + (if lsI Q g 8 = -1 then 0 else (lsI Q g 8).toInt.toNat) := by rw [er]; rfl
      have hO0 : lO Q (QG Q - g) g = lO Q (QG Q - (g + 1)) (g + 1) + (if lsI Q g 8 = -1 then 1 else 0) := by rw [er]; rfl
      have fin : ∀ a b : Int32, n32 (lC Q (QG Q - (g + 1)) (g + 1)) + a = n32 (lC Q (QG Q - g) g) → n32 (lO Q (QG Q - (g + 1)) (g + 1)) + b = n32 (lO Q (QG Q - g) g) → ((∃ k : Nat, k ≤ QG Q ∧ n32 g + -1 = n32 k - 1 ∧ Fr [47, 48] I (up2 (up2 J 47 (Int32.toNatClampNeg (n32 g)) (J 47 (Int32.toNatClampNeg (n32 g + 1)) + a)) 48 (Int32.toNatClampNeg (n32 g)) (up2 J 47 (Int32.toNatClampNeg (n32 g)) (J 47 (Int32.toNatClampNeg (n32 g + 1)) + a) 48 (Int32.toNatClampNeg (n32 g + 1)) + b)) ∧ ∀ i, k ≤ i → i ≤ QG Q → up2 (up2 J 47 (Int32.toNatClampNeg (n32 g)) (J 47 (Int32.toNatClampNeg (n32 g + 1)) + a)) 48 (Int32.toNatClampNeg (n32 g)) (up2 J 47 (Int32.toNatClampNeg (n32 g)) (J 47 (Int32.toNatClampNeg (n32 g + 1)) + a) 48 (Int32.toNatClampNeg (n32 g + 1)) + b) 47 i = n32 (lC Q (QG Q - i) i) ∧ up2 (up2 J 47 (Int32.toNatClampNeg (n32 g)) (J 47 (Int32.toNatClampNeg (n32 g + 1)) + a)) 48 (Int32.toNatClampNeg (n32 g)) (up2 J 47 (Int32.toNatClampNeg (n32 g)) (J 47 (Int32.toNatClampNeg (n32 g + 1)) + a) 48 (Int32.toNatClampNeg (n32 g + 1)) + b) 48 i = n32 (lO Q (QG Q - i) i)) ∧ ((n32 g + -1).toInt + 1).toNat < ((n32 g).toInt + 1).toNat) := by
        intro a b ha hb
        have em : n32 g + -1 = n32 g - 1 := (Int32.sub_eq_add_neg _ _).symm
        refine ⟨⟨g, by omega, em, Fr.upA (Fr.upA q2 (by decide) (by decide)) (by decide) (by decide), fun i h1 h2 => ?_⟩, ?_⟩
        · rw [gt, e1, e1t]
          have r48 : up2 J 47 g (J 47 (g + 1) + a) 48 (g + 1) = J 48 (g + 1) := rfl
          rw [r48, l1, l2]
          by_cases e : i = g
          · rw [e]
            simp (disch := decide) only [up2_self, up2_ne]
            exact ⟨ha, hb⟩
          · simp (disch := first | decide | exact e) only [up2_ne, up2_nk]
            exact q3 i (by omega) h2
        · rw [em, i32s (by omega), gi, k1]
          omega
      refine ok_e (e_least hJ hQ (by omega)) (ok_g (by rw [e1]; omega) ?_)
      unfold f_Pl_findBest_b60 f_Pl_findBest_b85
      dsimp only
      by_cases c : lsI Q g 8 = -1
      · rw [if_pos c] at hC0 hO0
        refine ok_t c (ok_g (by omega) (ok_g (by rw [e1]; omega) (ok_t c (ok_g (by omega) (ok_s (fin 0 1 ?_ ?_))))))
        · rw [hC0, Nat.add_zero]
          exact Int32.add_zero _
        · rw [hO0]
          exact n32s (by omega)
      · rw [if_neg c] at hC0 hO0
        have hpos : 0 ≤ (lsI Q g 8).toInt ∧ (lsI Q g 8).toInt ≤ 6010 := by
          rcases lsb with lsb | lsb
          · exact absurd (by rw [eq32, km]; exact lsb) c
          · exact lsb
        refine ok_f c (ok_g (by omega) (ok_g (by rw [e1]; omega) (ok_f c (ok_g (by omega) (ok_s (fin (lsI Q g 8) 0 ?_ ?_))))))
        · rw [hC0, eq32, i32a (by rw [n32i (by omega)]; omega), n32i (by omega), n32i (by omega)]
          omega
        · rw [hO0, Nat.add_zero]
          exact Int32.add_zero _
  · have e : g = QG Q := by omega
    rw [e, Nat.sub_self]
    constructor
    · show up2 (up2 I 47 (QG Q) 0) 48 (QG Q) 0 47 (QG Q) = _
      rw [up2_ne _ _ _ _ _ _ (by decide), up2_self]
      rfl
    · show up2 (up2 I 47 (QG Q) 0) 48 (QG Q) 0 48 (QG Q) = _
      rw [up2_self]
      rfl
