/-! ===== octets are written ===== -/
def LB (I : xm_I) (l : List Int32) : Prop := I 17 3 = n32 l.length ∧ l.length ≤ 62 ∧ ∀ i x, l[i]? = some x → I 20 i = x
def OB (I : xm_I) (l : List Int32) : Prop := I 49 52 = n32 l.length ∧ l.length ≤ 42000 ∧ ∀ i x, l[i]? = some x → I 72 i = x
theorem at_end {α : Type} {l : List α} {x m : α} {i : Nat} (h : (l ++ [x])[i]? = some m) : (l[i]? = some m ∧ i < l.length) ∨ (i = l.length ∧ m = x) := by
  by_cases hi : i < l.length
  · rw [List.getElem?_append_left hi] at h
    exact Or.inl ⟨h, hi⟩
  · rw [List.getElem?_append_right (by omega)] at h
    obtain ⟨h3, h4⟩ := List.getElem?_eq_some_iff.mp h
    simp at h3
    have e : i = l.length := by omega
    subst e
    simp at h4
    exact Or.inr ⟨rfl, h4.symm⟩
theorem wo_ok {I : xm_I} {l : List Int32} {x : Int32} (h : LB I l) (hl : l.length < 62) : ok (f_Mk_writeOctet x I) (fun J => Fr [20, 18003] I J ∧ LB J (l ++ [x])) := by
  obtain ⟨h1, h2, h3⟩ := h
  have li : (I 17 3).toInt = l.length := by rw [h1, n32i (by omega)]
  have lt : Int32.toNatClampNeg (I 17 3) = l.length := by rw [h1, n32n (by omega)]
  have k62 : (62 : Int32).toInt = 62 := by decide
  unfold f_Mk_writeOctet f_Mk_writeOctet_b0
  refine ok_f (by rw [le32]; omega) (ok_g (by omega) (ok_s ⟨Fr.up (Fr.upA (Fr.refl _ _) (by decide) (by decide)) (by decide), ?_, ?_, fun i y hy => ?_⟩))
  · simp (disch := decide) only [up2_self, up2_ne]
    rw [h1, List.length_append, n32s (by omega)]
    rfl
  · rw [List.length_append]
    show l.length + 1 ≤ 62
    omega
  · rw [lt, up2_ne _ _ _ _ _ _ (by decide)]
    rcases at_end hy with ⟨hy, hi⟩ | ⟨rfl, rfl⟩
    · rw [up2_nk _ _ _ _ _ (by omega)]
      exact h3 i y hy
    · rw [up2_self]
theorem o0_ok {I : xm_I} {l : List Int32} {x : Int32} (h : OB I l) (hl : l.length < 42000) : ok (f_M_octet0 x I) (fun J => Fr [72, 50052] I J ∧ OB J (l ++ [x])) := by
  obtain ⟨h1, h2, h3⟩ := h
  have li : (I 49 52).toInt = l.length := by rw [h1, n32i (by omega)]
  have lt : Int32.toNatClampNeg (I 49 52) = l.length := by rw [h1, n32n (by omega)]
  unfold f_M_octet0 f_M_octet0_b0
  refine ok_g (by omega) (ok_s ⟨Fr.up (Fr.upA (Fr.refl _ _) (by decide) (by decide)) (by decide), ?_, ?_, fun i y hy => ?_⟩)
  · simp (disch := decide) only [up2_self, up2_ne]
    rw [h1, List.length_append, n32s (by omega)]
    rfl
  · rw [List.length_append]
    show l.length + 1 ≤ 42000
    omega
  · rw [lt, up2_ne _ _ _ _ _ _ (by decide)]
    rcases at_end hy with ⟨hy, hi⟩ | ⟨rfl, rfl⟩
    · rw [up2_nk _ _ _ _ _ (by omega)]
      exact h3 i y hy
    · rw [up2_self]
/-- one digit -/
theorem dig_val {v64 u : Int64} {v j : Nat} (hv : v64.toInt = (v : Int)) (hu : u.toInt = ((10 ^ j : Nat) : Int)) : 48 + (Int64.toInt32 ((v64 / u) - (v64 / u) / 10 * 10)) = n32 (48 + v / 10 ^ j % 10) ∧ Int64.toInt32 (48 + ((v64 / u) - (v64 / u) / 10 * 10)) = n32 (48 + v / 10 ^ j % 10) := by
  have hq := q64 hv hu
  have hr := r64 (y := 10) (b := 10) hq (by decide)
  have hm : v / 10 ^ j % 10 < 10 := Nat.mod_lt _ (by decide)
  have k48 : (48 : Int32).toInt = 48 := by decide
  have k48' : (48 : Int64).toInt = 48 := by decide
  generalize v / 10 ^ j % 10 = d at *
  have h3 : ((v64 / u) - (v64 / u) / 10 * 10).toInt32.toInt = (d : Int) := by rw [i32of (by omega), hr]
  constructor
  · rw [eq32, i32a (by omega), k48, h3, n32i (by omega)]
    omega
  · have h4 : (48 + ((v64 / u) - (v64 / u) / 10 * 10)).toInt = 48 + (d : Int) := by rw [i64a (by omega), k48', hr]
    rw [eq32, i32of (by omega), h4, n32i (by omega)]
    omega
theorem ten_lt {j : Nat} (hj : j ≤ 9) : 1 ≤ 10 ^ j ∧ 10 ^ j ≤ 1000000000 := by
  have : j = 0 ∨ j = 1 ∨ j = 2 ∨ j = 3 ∨ j = 4 ∨ j = 5 ∨ j = 6 ∨ j = 7 ∨ j = 8 ∨ j = 9 := by omega
  rcases this with rfl | rfl | rfl | rfl | rfl | rfl | rfl | rfl | rfl | rfl <;> decide
theorem ten_div {u : Int64} {j : Nat} (hu : u.toInt = ((10 ^ (j + 1) : Nat) : Int)) : (u / 10).toInt = ((10 ^ j : Nat) : Int) := by
  have := q64 (y := 10) (b := 10) hu (by decide)
  rw [this, Nat.pow_succ, Nat.mul_div_cancel _ (by decide)]
theorem wd_loop {v64 : Int64} {v : Nat} (hv : v64.toInt = (v : Int)) : ∀ (j i : Nat) (u : Int64) (J : xm_I) (l : List Int32), u.toInt = ((10 ^ j : Nat) : Int) → i + j ≤ 9 → LB J l → l.length + j + 1 ≤ 62 → ok (lp (f_Mk_writeNumber_s57 v64) (u, n32 i, J)) (fun J' => Fr [20, 18003] J J' ∧ LB J' (l ++ dgs v j)) := by
  intro j
  induction j with
  | zero =>
    intro i u J l hu hij hB hl
    have k0 : (0 : Int64).toInt = 0 := by decide
    have u1 : u.toInt = 1 := hu
    obtain ⟨J1, hJ1, f1, B1⟩ := wo_ok (x := n32 (48 + v / 10 ^ 0 % 10)) hB (by omega)
    have ii : (n32 i).toInt = i := n32i (by omega)
    refine lp_step ?_
    generalize hK : (fun x => Sum.elim (fun s' => ok (lp (f_Mk_writeNumber_s57 v64) s') (fun J' => Fr [20, 18003] J J' ∧ LB J' (l ++ dgs v 0))) (fun J' => Fr [20, 18003] J J' ∧ LB J' (l ++ dgs v 0)) x) = K'
    unfold f_Mk_writeNumber_s57
    dsimp only
    refine ok_f (by rw [le32, z10]; omega) (ok_f (by rw [le64, k0]; omega) (ok_g (by rw [eq64, k0]; omega) ?_))
    rw [(dig_val hv hu).1]
    refine ok_e hJ1 (ok_s ?_)
    rw [← hK]
    show ok (lp (f_Mk_writeNumber_s57 v64) (u / 10, n32 i + 1, J1)) _
    refine lp_step ?_
    have u0 : (u / 10).toInt = 0 := by
      have := q64 (x := u) (y := 10) (a := 1) (b := 10) (by rw [u1]; rfl) (by decide)
      rw [this]
      rfl
    have e : l ++ dgs v 0 = l ++ [n32 (48 + v / 10 ^ 0 % 10)] := by
      show l ++ [n32 (48 + v % 10)] = _
      rw [Nat.pow_zero, Nat.div_one]
    have fin : Fr [20, 18003] J J1 ∧ LB J1 (l ++ dgs v 0) := ⟨f1, by rw [e]; exact B1⟩
    generalize hK2 : (fun x => Sum.elim (fun s' => ok (lp (f_Mk_writeNumber_s57 v64) s') (fun J' => Fr [20, 18003] J J' ∧ LB J' (l ++ dgs v 0))) (fun J' => Fr [20, 18003] J J' ∧ LB J' (l ++ dgs v 0)) x) = K2
    unfold f_Mk_writeNumber_s57
    dsimp only
    refine ok_i (fun _ => ok_s ?_) (fun _ => ok_t (by rw [le64, k0]; omega) (ok_s ?_)) <;> rw [← hK2] <;> exact fin
  | succ j ih =>
    intro i u J l hu hij hB hl
    have k0 : (0 : Int64).toInt = 0 := by decide
    have tl := ten_lt (j := j + 1) (by omega)
    obtain ⟨J1, hJ1, f1, B1⟩ := wo_ok (x := n32 (48 + v / 10 ^ (j + 1) % 10)) hB (by omega)
    have ii : (n32 i).toInt = i := n32i (by omega)
    refine lp_step ?_
    generalize hK : (fun x => Sum.elim (fun s' => ok (lp (f_Mk_writeNumber_s57 v64) s') (fun J' => Fr [20, 18003] J J' ∧ LB J' (l ++ dgs v (j + 1)))) (fun J' => Fr [20, 18003] J J' ∧ LB J' (l ++ dgs v (j + 1))) x) = K'
    unfold f_Mk_writeNumber_s57
    dsimp only
    refine ok_f (by rw [le32, z10]; omega) (ok_f (by rw [le64, k0]; omega) (ok_g (by rw [eq64, k0]; omega) ?_))
    rw [(dig_val hv hu).1]
    refine ok_e hJ1 (ok_s ?_)
    rw [← hK]
    show ok (lp (f_Mk_writeNumber_s57 v64) (u / 10, n32 i + 1, J1)) _
    rw [n32s (by omega)]
    refine ok_mono (ih (i + 1) (u / 10) J1 _ (ten_div hu) (by omega) B1 (by rw [List.length_append]; show l.length + 1 + j + 1 ≤ 62; omega)) (fun J2 hJ2 => ⟨f1.trans hJ2.1, ?_⟩)
    have := hJ2.2
    rw [List.append_assoc] at this
    exact this
theorem dgl_eq {v j : Nat} (hj : j ≤ 9) (h1 : j = 0 ∨ 10 ^ j ≤ v) (h2 : j = 9 ∨ v < 10 ^ (j + 1)) : dgl v 9 = j := by
  have : j = 0 ∨ j = 1 ∨ j = 2 ∨ j = 3 ∨ j = 4 ∨ j = 5 ∨ j = 6 ∨ j = 7 ∨ j = 8 ∨ j = 9 := by omega
  simp only [dgl]
  rcases this with rfl | rfl | rfl | rfl | rfl | rfl | rfl | rfl | rfl | rfl <;> simp only [Nat.reducePow, Nat.reduceAdd] at * <;> (repeat' split) <;> omega
theorem wu_loop {v64 : Int64} {v : Nat} (hv : v64.toInt = (v : Int)) (hv2 : v ≤ 2147483648) {J : xm_I} {l : List Int32} (hB : LB J l) (hl : l.length + 10 ≤ 62) : ok (f_Mk_writeNumber_b16 v64 J) (fun J' => Fr [20, 18003] J J' ∧ LB J' (l ++ dgs v (dgl v 9))) := by
  unfold f_Mk_writeNumber_b16 f_Mk_writeNumber_b22
  refine lp_inv (fun s => ∃ j : Nat, j ≤ 9 ∧ s.1.toInt = ((10 ^ j : Nat) : Int) ∧ s.2 = n32 (j + 1) ∧ (j = 0 ∨ 10 ^ j ≤ v)) (fun s => (11 - s.2.toInt).toNat) _ ?_ (1, 1) ⟨0, by omega, by decide, rfl, Or.inl rfl⟩
  rintro ⟨u, i⟩ ⟨j, hj, hu, hi, hv3⟩
  simp only at hu hi
  subst hi
  have ii : (n32 (j + 1)).toInt = ((j + 1 : Nat) : Int) := n32i (by omega)
  have tl := ten_lt (j := j) hj
  have k10 : (10 : Int64).toInt = 10 := by decide
  have hm : (u * 10).toInt = ((10 ^ (j + 1) : Nat) : Int) := by rw [i64m (by rw [hu, k10]; omega), hu, k10, Nat.pow_succ]; omega
  have fin : (j = 9 ∨ v < 10 ^ (j + 1)) → ok (f_Mk_writeNumber_b54 v64 u J) (fun J' => Fr [20, 18003] J J' ∧ LB J' (l ++ dgs v (dgl v 9))) := by
    intro h2
    rw [dgl_eq hj hv3 h2]
    unfold f_Mk_writeNumber_b54 f_Mk_writeNumber_b57
    exact wd_loop hv j 0 u J l hu (by omega) hB (by omega)
  unfold f_Mk_writeNumber_s22
  dsimp only
  refine ok_le (fun hc => ok_m (fin (Or.inl ?_))) (fun hc => ok_lt6 (fun hd => ok_m (fin (Or.inr ?_))) (fun hd => ok_s ⟨⟨j + 1, ?_, hm, n32s (by omega), Or.inr ?_⟩, ?_⟩))
  · rw [z10] at hc
    omega
  · rw [hm, hv] at hd
    omega
  · rw [z10] at hc
    omega
  · rw [hm, hv] at hd
    omega
  · show (11 - (n32 (j + 1) + 1).toInt).toNat < (11 - (n32 (j + 1)).toInt).toNat
    rw [i32p (by omega) (by omega)]
    rw [z10] at hc
    omega
theorem wn_ok {x : Int32} {I : xm_I} {l : List Int32} (hB : LB I l) (hl : l.length + 11 ≤ 62) : ok (f_Mk_writeNumber x I) (fun J => Fr [20, 18003] I J ∧ LB J (l ++ num8 x)) := by
  have rx := i32r x
  have k0 := z0
  unfold f_Mk_writeNumber f_Mk_writeNumber_b0
  refine ok_e (e_Jm_abs_J _) ?_
  have hv : (if 0 ≤ x.toInt64 then x.toInt64 else -x.toInt64).toInt = ((x.toInt.natAbs : Nat) : Int) := by
    have := abs64 (x := x.toInt64) (by rw [i64of]; omega)
    rw [i64of] at this
    exact this
  generalize (if 0 ≤ x.toInt64 then x.toInt64 else -x.toInt64) = v64 at hv ⊢
  refine ok_le (fun hc => ?_) (fun hc => ?_)
  · have e : num8 x = dgs x.toInt.natAbs (dgl x.toInt.natAbs 9) := by
      unfold num8
      rw [if_neg (by omega)]
      rfl
    rw [e]
    exact wu_loop hv (by omega) hB (by omega)
  · have e : num8 x = [45] ++ dgs x.toInt.natAbs (dgl x.toInt.natAbs 9) := by
      unfold num8
      rw [if_pos (by omega)]
    rw [e, ← List.append_assoc]
    obtain ⟨J1, hJ1, f1, B1⟩ := wo_ok (x := 45) hB (by omega)
    refine ok_e hJ1 (ok_mono (wu_loop hv (by omega) B1 (by rw [List.length_append]; show l.length + 1 + 10 ≤ 62; omega)) (fun J2 hJ2 => ⟨f1.trans hJ2.1, hJ2.2⟩))
/-! the class writes the line of a mark -/
theorem e_Mk_has (x : Int32) (I : xm_I) : f_Mk_has x I = some (bi (0 ≤ x.toInt ∧ x.toInt < (I 17 4).toInt ∧ x.toInt < 600)) := by
  unfold f_Mk_has f_Mk_has_b0
  simp only [lt32, le32, Int32.reduceToInt]
  (repeat' split) <;> first | rw [bi_t (by omega)] | rw [bi_f (by omega)]
def m6 (m : M6) : Nat → Int32
  | 0 => m.1
  | 1 => m.2.1
  | 2 => m.2.2.1
  | 3 => m.2.2.2.1
  | 4 => m.2.2.2.2.1
  | 5 => m.2.2.2.2.2
  | _ => 0
theorem e_Mk_valueAt {I : xm_I} {s : MS} {k w : Nat} {m : M6} (h : CM I s) (hk : s.1[k]? = some m) (hw : w ≤ 6) : f_Mk_valueAt (n32 k) (n32 w) I = some (m6 m w) := by
  obtain ⟨h1, h2, h3, h4⟩ := h
  have hlt := (List.getElem?_eq_some_iff.mp hk).1
  have r := h4 k m hk
  have ki : (n32 k).toInt = k := n32i (by omega)
  have wi : (n32 w).toInt = w := n32i (by omega)
  have si : (I 17 4).toInt = s.1.length := by rw [h2, n32i (by omega)]
  have k6 := z6
  unfold f_Mk_valueAt f_Mk_valueAt_b0
  rw [e_Mk_has, bi_t (by omega)]
  simp only [Option.bind_some]
  rw [if_neg (by decide), if_neg (by rw [lt32, z0]; omega)]
  by_cases h6 : w = 6
  · rw [if_pos (by rw [le32]; omega), h6]
    rfl
  · rw [if_neg (by rw [le32]; omega)]
    have p0 : (n32 k * 6).toInt = 6 * k := by rw [i32m (by rw [k6]; omega), k6, ki]; omega
    have p1 : (n32 k * 6 + n32 w).toInt = 6 * k + w := by rw [i32a (by omega), p0, wi]
    have p2 : Int32.toNatClampNeg (n32 k * 6 + n32 w) = 6 * k + w := by
      have := tn32 (x := n32 k * 6 + n32 w) (by omega)
      omega
    rw [gd_p _ (by omega), p2]
    unfold rowC at r
    have : w = 0 ∨ w = 1 ∨ w = 2 ∨ w = 3 ∨ w = 4 ∨ w = 5 := by omega
    rcases this with rfl | rfl | rfl | rfl | rfl | rfl
    · exact congrArg some r.1
    · exact congrArg some r.2.1
    · exact congrArg some r.2.2.1
    · exact congrArg some r.2.2.2.1
    · exact congrArg some r.2.2.2.2.1
    · exact congrArg some r.2.2.2.2.2
theorem e_Mk_numbersOf (x : Int32) : f_Mk_numbersOf x = some (n32 (nOf x)) := by
  unfold f_Mk_numbersOf f_Mk_numbersOf_b0 nOf
  simp only [eq32, Int32.reduceToInt]
  (repeat' split) <;> first | rfl | (exfalso; omega)
theorem e_M_numbersOf (x : Int32) : f_M_numbersOf x = some (n32 (nOf x)) := by
  unfold f_M_numbersOf f_M_numbersOf_b0 nOf
  simp only [eq32, Int32.reduceToInt]
  (repeat' split) <;> first | rfl | (exfalso; omega)
theorem nOf_b (x : Int32) : 2 ≤ nOf x ∧ nOf x ≤ 5 := by
  unfold nOf
  (repeat' split) <;> omega
/-- the line, up to number i -/
def lineTo (m : M6) : Nat → List Int32
  | 0 => [m.1]
  | i + 1 => lineTo m i ++ (32 :: num8 (m6 m (i + 1)))
theorem lineTo_len (m : M6) (i : Nat) : (lineTo m i).length ≤ 1 + 12 * i := by
  induction i with
  | zero => exact Nat.le_refl _
  | succ i ih =>
    show (lineTo m i ++ _).length ≤ _
    rw [List.length_append]
    show _ + ((num8 _).length + 1) ≤ _
    have := (num8_len (m6 m (i + 1))).2
    omega
theorem lineTo_of (m : M6) : lineOf m = lineTo m (nOf m.1) ++ [10] := by
  unfold lineOf
  have hb := nOf_b m.1
  have key : ∀ k, k ≤ 5 → m.1 :: flatL (fun x => 32 :: num8 x) ((nums m).take k) = lineTo m k := by
    intro k
    induction k with
    | zero => intro _; rfl
    | succ k ih =>
      intro hk
      have e : (nums m).take (k + 1) = (nums m).take k ++ [m6 m (k + 1)] := by
        have : k = 0 ∨ k = 1 ∨ k = 2 ∨ k = 3 ∨ k = 4 := by omega
        rcases this with rfl | rfl | rfl | rfl | rfl <;> rfl
      rw [e, flatL_app, ← List.cons_append, ih (by omega)]
      show lineTo m k ++ ((32 :: num8 _) ++ []) = lineTo m k ++ (32 :: num8 _)
      rw [List.append_nil]
  rw [← List.cons_append, key _ hb.2]
theorem lineOf_len (m : M6) : 1 ≤ (lineOf m).length ∧ (lineOf m).length ≤ 62 := by
  rw [lineTo_of, List.length_append]
  have := lineTo_len m (nOf m.1)
  have := nOf_b m.1
  show 1 ≤ _ + 1 ∧ _ + 1 ≤ 62
  omega
theorem wr_ok {I : xm_I} {s : MS} {k : Nat} {m : M6} (h : CM I s) (hk : s.1[k]? = some m) : ok (f_Mk_write (n32 k) I) (fun J => Fr [20, 18003] I J ∧ LB J (lineOf m)) := by
  have hb := nOf_b m.1
  unfold f_Mk_write f_Mk_write_b0 f_Mk_write_b25
  refine ok_e (e_Mk_valueAt (w := 0) h hk (by omega)) (ok_e (e_Mk_numbersOf _) ?_)
  have B0 : LB (up2 I 17 3 0) [] := ⟨rfl, by show 0 ≤ 62; omega, fun i x hx => by simp at hx⟩
  obtain ⟨J1, hJ1, f1, B1⟩ := wo_ok (x := m6 m 0) B0 (by show 0 < 62; omega)
  refine ok_e hJ1 ?_
  have fI : Fr [20, 18003] I J1 := Fr.trans (g := up2 I 17 3 0) (Fr.up (Fr.refl _ _) (by decide)) f1
  have hni : (n32 (nOf m.1)).toInt = nOf m.1 := n32i (by omega)
  refine lp_inv (fun st => ∃ i : Nat, i ≤ nOf m.1 ∧ st.1 = n32 (i + 1) ∧ Fr [20, 18003] I st.2 ∧ LB st.2 (lineTo m i)) (fun st => (7 - st.1.toInt).toNat) _ ?_ (1, J1) ⟨0, by omega, rfl, fI, B1⟩
  rintro ⟨ii, J⟩ ⟨i, hi, e1, e2, e3⟩
  simp only at e1 e2 e3
  subst e1
  have i1 : (n32 (i + 1)).toInt = ((i + 1 : Nat) : Int) := n32i (by omega)
  have hlen := lineTo_len m i
  unfold f_Mk_write_s25
  dsimp only
  refine ok_lt (fun hc => ?_) (fun hc => ?_)
  · have e : i = nOf m.1 := by
      have hc' : (n32 (nOf m.1)).toInt < (n32 (i + 1)).toInt := hc
      omega
    obtain ⟨J2, hJ2, f2, B2⟩ := wo_ok (x := 10) e3 (by omega)
    refine ok_e hJ2 (ok_s ⟨e2.trans f2, ?_⟩)
    rw [lineTo_of, ← e]
    exact B2
  · have hc' : (n32 (i + 1)).toInt ≤ (n32 (nOf m.1)).toInt := hc
    obtain ⟨J2, hJ2, f2, B2⟩ := wo_ok (x := 32) e3 (by omega)
    have f2' := e2.trans f2
    have hCM : CM J2 s := h.kept (f2' 17 4 (by decide)) (f2' 17 5 (by decide)) (f2'.row 18 rfl (by decide))
    refine ok_e hJ2 (ok_e (e_Mk_valueAt hCM hk (by omega)) ?_)
    refine ok_b (ok_mono (wn_ok B2 (by rw [List.length_append]; show _ + 1 + 11 ≤ 62; omega)) (fun J3 hJ3 => ok_s ⟨⟨i + 1, by omega, n32s (by omega), f2'.trans hJ3.1, ?_⟩, ?_⟩))
    · have := hJ3.2
      rw [List.append_assoc] at this
      exact this
    · show (7 - (n32 (i + 1) + 1).toInt).toNat < (7 - (n32 (i + 1)).toInt).toNat
      rw [i32p (by omega) (by omega)]
      omega
/-! sealing -/
def fdo (d : Int32) (l : List Int32) : Int32 := l.foldl (fun d x => 31 * d + x) d
theorem fdo_app (d : Int32) (a b : List Int32) : fdo d (a ++ b) = fdo (fdo d a) b := List.foldl_append
theorem octs_snoc (l : List M6) (m : M6) : octs (l ++ [m]) = octs l ++ lineOf m := by
  unfold octs
  rw [flatL_app]
  show _ ++ (lineOf m ++ []) = _
  rw [List.append_nil]
theorem octs_len (l : List M6) : (octs l).length ≤ 62 * l.length := by
  induction l with
  | nil => exact Nat.le_refl _
  | cons m l ih =>
    show (lineOf m ++ octs l).length ≤ _
    rw [List.length_append, List.length_cons]
    have := (lineOf_len m).2
    omega
def SL (I : xm_I) (l : List M6) : Prop := I 17 6 = fdo 17 (octs l) ∧ ∀ k, k < l.length → I 19 k = n32 (octs (l.take (k + 1))).length
theorem sf_loop {J : xm_I} {l : List Int32} {d : Int32} {x1 x2 : Int32} (hB : LB J l) (hd : J 17 6 = d) (hx : 0 ≤ x2.toInt ∧ x2.toInt < 600) : ok (lp (f_Mk_seal_s25 x1 x2) (0, J)) (fun r => ∃ J' : xm_I, r = .inl (x1 + n32 l.length, x2 + 1, J') ∧ Fr [19, 18006] J J' ∧ J' 17 6 = fdo d l ∧ J' 19 = upd (J 19) (Int32.toNatClampNeg x2) (x1 + n32 l.length)) := by
  obtain ⟨b1, b2, b3⟩ := hB
  refine lp_inv (fun st => ∃ i : Nat, i ≤ l.length ∧ st.1 = n32 i ∧ Fr [18006] J st.2 ∧ st.2 17 6 = fdo d (l.take i)) (fun st => (63 - st.1.toInt).toNat) _ ?_ (0, J) ⟨0, by omega, rfl, Fr.refl _ _, hd⟩
  rintro ⟨ii, K⟩ ⟨i, hi, e1, e2, e3⟩
  simp only at e1 e2 e3
  subst e1
  have i1 : (n32 i).toInt = i := n32i (by omega)
  have it : Int32.toNatClampNeg (n32 i) = i := n32n (by omega)
  have c3 : K 17 3 = n32 l.length := by rw [e2 17 3 (by decide), b1]
  have li : (n32 l.length).toInt = l.length := n32i (by omega)
  unfold f_Mk_seal_s25
  dsimp only
  refine ok_le (fun hc => ok_g hx (ok_s ⟨_, by rw [c3], Fr.upA (e2.mono (by decide)) (by decide) (by decide), ?_, ?_⟩)) (fun hc => ok_g (by rw [c3] at hc; omega) (ok_s ?_))
  · rw [c3] at hc
    have e : i = l.length := by omega
    show K 17 6 = _
    rw [e3, e, List.take_length]
  · rw [up2_upd, e2.row 19 rfl (by decide)]
  · rw [c3] at hc
    rw [it]
    have hx' : l[i]? = some l[i] := List.getElem?_eq_getElem (by omega)
    refine ⟨⟨i + 1, by omega, n32s (by omega), Fr.up e2 (by decide), ?_⟩, ?_⟩
    · show up2 K 17 6 _ 17 6 = _
      rw [up2_self, e3, e2.row 20 rfl (by decide), b3 i _ hx', List.take_succ, hx', fdo_app]
      rfl
    · show (63 - (n32 i + 1).toInt).toNat < (63 - (n32 i).toInt).toNat
      rw [i32p (by omega) (by omega)]
      omega
theorem seal_ok {I : xm_I} {s : MS} (h : CM I s) : ok (f_Mk_seal I) (fun J => Fr [19, 20, 18003, 18006] I J ∧ SL J s.1) := by
  have h' := h
  obtain ⟨h1, h2, h3, h4⟩ := h'
  unfold f_Mk_seal f_Mk_seal_b0 f_Mk_seal_b10
  dsimp only
  refine lp_inv (fun st => ∃ k : Nat, k ≤ s.1.length ∧ st.2.1 = n32 k ∧ st.1 = n32 (octs (s.1.take k)).length ∧ Fr [19, 20, 18003, 18006] I st.2.2 ∧ st.2.2 17 6 = fdo 17 (octs (s.1.take k)) ∧ ∀ j, j < k → st.2.2 19 j = n32 (octs (s.1.take (j + 1))).length) (fun st => (601 - st.2.1.toInt).toNat) _ ?_ (0, 0, up2 I 17 6 17) ⟨0, by omega, rfl, rfl, Fr.up (Fr.refl _ _) (by decide), rfl, fun j hj => by omega⟩
  rintro ⟨e0, kk, J⟩ ⟨k, hk, e1, e2, e3, e4, e5⟩
  simp only at e1 e2 e3 e4 e5
  subst e1
  subst e2
  have ki : (n32 k).toInt = k := n32i (by omega)
  have kt : Int32.toNatClampNeg (n32 k) = k := n32n (by omega)
  have c4 : J 17 4 = n32 s.1.length := by rw [e3 17 4 (by decide), h2]
  have si : (n32 s.1.length).toInt = s.1.length := n32i (by omega)
  unfold f_Mk_seal_s10 f_Mk_seal_b25
  dsimp only
  refine ok_le (fun hc => ok_s ?_) (fun hc => ?_)
  · rw [c4] at hc
    have e : k = s.1.length := by omega
    rw [e, List.take_length] at e4
    exact ⟨e3, e4, fun j hj => e5 j (by omega)⟩
  · rw [c4] at hc
    have hlt : k < s.1.length := by omega
    have hm : s.1[k]? = some s.1[k] := List.getElem?_eq_getElem hlt
    have hCM : CM J s := h.kept (e3 17 4 (by decide)) (e3 17 5 (by decide)) (e3.row 18 rfl (by decide))
    obtain ⟨J1, hJ1, f1, B1⟩ := wr_ok hCM hm
    refine ok_e hJ1 (ok_mono (sf_loop B1 rfl (by omega)) (fun r hr => ?_))
    obtain ⟨J2, rfl, f2, g1, g2⟩ := hr
    have et : octs (s.1.take (k + 1)) = octs (s.1.take k) ++ lineOf s.1[k] := by
      rw [List.take_succ, hm, ← octs_snoc]
      rfl
    have ol := octs_len (s.1.take k)
    have ll := lineOf_len s.1[k]
    have tk : (s.1.take k).length ≤ k := by rw [List.length_take]; omega
    have en : n32 (octs (s.1.take k)).length + n32 (lineOf s.1[k]).length = n32 (octs (s.1.take (k + 1))).length := by
      rw [et, List.length_append, eq32, i32a (by rw [n32i (by omega), n32i (by omega)]; omega), n32i (by omega), n32i (by omega), n32i (by omega)]
      omega
    have e6 : J1 17 6 = J 17 6 := f1 17 6 (by decide)
    have r19 : J1 19 = J 19 := f1.row 19 rfl (by decide)
    refine ⟨⟨k + 1, by omega, n32s (by omega), en, e3.trans ((f1.mono (by decide)).trans (f2.mono (by decide))), ?_, fun j hj => ?_⟩, ?_⟩
    · show J2 17 6 = _
      rw [g1, e6, e4, et, fdo_app]
    · show J2 19 j = _
      rw [g2, r19, kt]
      by_cases he : j = k
      · rw [he, upd_at, en]
      · rw [upd_ne _ _ _ _ he]
        exact e5 j (by omega)
    · show (601 - (n32 k + 1).toInt).toNat < (601 - (n32 k).toInt).toNat
      rw [i32p (by omega) (by omega)]
      omega
