/-! ===== labels: guests, boxes, costs ===== -/
def lbO (I : xm_I) (l : Nat) : Nat := Int32.toNatClampNeg (I 22 l)
def gsL (I : xm_I) (d : Anc) (k : Nat) : List Nat := (List.range k).filter (fun l => (d (lbO I l)).isSome)
theorem gsL_succ (I : xm_I) (d : Anc) (k : Nat) : gsL I d (k + 1) = gsL I d k ++ (if (d (lbO I k)).isSome = true then [k] else []) := by
  unfold gsL
  rw [List.range_succ, List.filter_append]
  congr 1
  by_cases h : (d (lbO I k)).isSome = true
  · rw [if_pos h]
    simp [h]
  · rw [if_neg h]
    simp [h]
theorem gsL_le (I : xm_I) (d : Anc) (k : Nat) : (gsL I d k).length ≤ k := by
  have := List.length_filter_le (fun l => (d (lbO I l)).isSome) (List.range k)
  rw [List.length_range] at this
  exact this
theorem gsL_mem {I : xm_I} {d : Anc} {k l : Nat} (h : l ∈ gsL I d k) : l < k ∧ (d (lbO I l)).isSome = true := by
  obtain ⟨h1, h2⟩ := List.mem_filter.mp h
  exact ⟨List.mem_range.mp h1, h2⟩
theorem gsL_inj {I : xm_I} {d : Anc} {k i j l : Nat} (h1 : (gsL I d k)[i]? = some l) (h2 : (gsL I d k)[j]? = some l) : i = j := by
  have nd : (gsL I d k).Nodup := List.Pairwise.filter _ List.nodup_range
  have hi : i < (gsL I d k).length := by
    rw [List.getElem?_eq_some_iff] at h1
    exact h1.1
  exact (List.getElem?_inj hi nd).mp (by rw [h1, h2])
def getA (d : Anc) (o : Nat) : Int32 × Int32 := (d o).getD (0, 0)
def lfA (p : Nat) (w : Int32) : Int32 := if p = 0 then 3 else if p = 1 then 2 else if p = 2 then -(w / 2) else if p = 3 then -2 - w else if p = 4 then -3 - w else if p = 5 then -2 - w else if p = 6 then -(w / 2) else 2
def wdt (I : xm_I) (l : Nat) : Int32 := 6 * I 23 l
def bxX (I : xm_I) (d : Anc) (l p : Nat) : Int32 := (getA d (lbO I l)).1 + lfA p (wdt I l)
def bxY (I : xm_I) (d : Anc) (l p : Nat) : Int32 := (getA d (lbO I l)).2 + xm_tp p
def opn (I : xm_I) (x y w : Int32) : Bool := decide (0 ≤ x.toInt ∧ 0 ≤ y.toInt ∧ (x + w).toInt ≤ (I 14 4).toInt ∧ (y + 9).toInt ≤ (I 14 5).toInt)
/-- what a mark costs a box -/
noncomputable def mkc (x y w : Int) (m : M6) : Nat :=
  if m.1 = 68 then @ite _ (hitP m.2.1.toInt m.2.2.1.toInt m.2.1.toInt m.2.2.1.toInt x (x + w - 1) y (y + 8)) (Classical.propDecidable _) 10 0
  else if m.1 = 83 then @ite _ (hitP m.2.1.toInt m.2.2.1.toInt m.2.2.2.1.toInt m.2.2.2.2.1.toInt x (x + w - 1) y (y + 8)) (Classical.propDecidable _) 4 0 else 0
noncomputable def mcs (x y w : Int) : List M6 → Nat
  | [] => 0
  | m :: l => mkc x y w m + mcs x y w l
theorem mcs_app (x y w : Int) (a b : List M6) : mcs x y w (a ++ b) = mcs x y w a + mcs x y w b := by
  induction a with
  | nil => exact (Nat.zero_add _).symm
  | cons m a ih =>
    show mkc x y w m + mcs x y w (a ++ b) = mkc x y w m + mcs x y w a + mcs x y w b
    omega
theorem mkc_le (x y w : Int) (m : M6) : mkc x y w m ≤ 10 := by
  unfold mkc
  (repeat' split) <;> omega
theorem mcs_le (x y w : Int) (l : List M6) : mcs x y w l ≤ 10 * l.length := by
  induction l with
  | nil => exact Nat.le_refl _
  | cons m l ih =>
    have := mkc_le x y w m
    show mkc x y w m + mcs x y w l ≤ 10 * (l.length + 1)
    omega
theorem mcs_take {x y w : Int} {l : List M6} {k : Nat} {m : M6} (h : l[k]? = some m) : mcs x y w (l.take (k + 1)) = mcs x y w (l.take k) + mkc x y w m := by
  rw [List.take_add_one, h, mcs_app]
  rfl
/-- what a place costs, by these marks -/
noncomputable def cst (I : xm_I) (d : Anc) (ms : List M6) (l p : Nat) : Int32 := if opn I (bxX I d l p) (bxY I d l p) (wdt I l) = true then n32 (p + mcs (bxX I d l p).toInt (bxY I d l p).toInt (wdt I l).toInt ms) else -1
theorem wdt_b {n : Nat} {I0 I : xm_I} {l : Nat} (hst : Sta n I0 I) (hl : (l : Int) < (I0 21 3).toInt) : 6 ≤ (wdt I0 l).toInt ∧ (wdt I0 l).toInt ≤ 48 := by
  have e3 : I 21 3 = I0 21 3 := hst.2 21 3 (by decide)
  have h := (hst.1.2.2.2.2.2.2 l (by rw [e3]; exact hl)).2
  rw [hst.2.row 23 rfl (by decide)] at h
  have k6 : (6 : Int32).toInt = 6 := by decide
  unfold wdt
  rw [i32m (by rw [k6]; omega), k6]
  omega
theorem lbO_b {n : Nat} {I0 I : xm_I} {l : Nat} (hst : Sta n I0 I) (hl : (l : Int) < (I0 21 3).toInt) : (0 ≤ (I0 22 l).toInt ∧ (I0 22 l).toInt < 40) ∧ lbO I0 l < 40 ∧ (lbO I0 l : Int) = (I0 22 l).toInt ∧ lbO I0 l < Int32.toNatClampNeg (I0 6 9) := by
  have e3 : I 21 3 = I0 21 3 := hst.2 21 3 (by decide)
  have e9 : I 6 9 = I0 6 9 := hst.2 6 9 (by decide)
  have h := (hst.1.2.2.2.2.2.2 l (by rw [e3]; exact hl)).1
  have h40 := hst.1.2.1.1
  unfold vb at h
  rw [hst.2.row 22 rfl (by decide), e9] at h
  rw [e9] at h40
  have t := tn32 h.1
  have t9 := tn32 h40.1
  unfold lbO
  omega
theorem lf_b {p : Nat} {w : Int32} (hw : 6 ≤ w.toInt ∧ w.toInt ≤ 48) : -60 ≤ (lfA p w).toInt ∧ (lfA p w).toInt ≤ 60 := by
  have k2 := z2
  have k3 := z3
  have e2 : (-2 : Int32).toInt = -2 := by decide
  have e3 : (-3 : Int32).toInt = -3 := by decide
  have dv : (w / 2).toInt = w.toInt / 2 := by rw [Int32.toInt_div_of_ne_right _ _ (by decide), k2, Int.tdiv_eq_ediv_of_nonneg (by omega)]
  have ng : (-(w / 2)).toInt = -(w.toInt / 2) := by rw [i32n (by omega), dv]
  have s2 : (-2 - w).toInt = -2 - w.toInt := by rw [i32s (by omega), e2]
  have s3 : (-3 - w).toInt = -3 - w.toInt := by rw [i32s (by omega), e3]
  unfold lfA
  (repeat' split) <;> omega
theorem tp_b {p : Nat} (hp : p < 8) : -12 ≤ (xm_tp p).toInt ∧ (xm_tp p).toInt ≤ 3 := by
  have : ∀ q : Nat, q < 8 → -12 ≤ (xm_tp q).toInt ∧ (xm_tp q).toInt ≤ 3 := by decide
  exact this p hp
/-- an open box is small -/
theorem opn_b {n : Nat} {I0 I : xm_I} {d : Anc} {l p : Nat} (hst : Sta n I0 I) (hA : oka d) (hl : (l : Int) < (I0 21 3).toInt) (hp : p < 8) (ho : opn I0 (bxX I0 d l p) (bxY I0 d l p) (wdt I0 l) = true) : (0 ≤ (bxX I0 d l p).toInt ∧ (bxX I0 d l p).toInt ≤ 400) ∧ (0 ≤ (bxY I0 d l p).toInt ∧ (bxY I0 d l p).toInt ≤ 400) ∧ (bxX I0 d l p + wdt I0 l).toInt = (bxX I0 d l p).toInt + (wdt I0 l).toInt ∧ (bxY I0 d l p + 9).toInt = (bxY I0 d l p).toInt + 9 := by
  have hw := wdt_b hst hl
  have hlf := lf_b (p := p) hw
  have htp := tp_b hp
  have hW := hst.wbd
  have k9 : (9 : Int32).toInt = 9 := by decide
  have ha : (-300000000 ≤ (getA d (lbO I0 l)).1.toInt ∧ (getA d (lbO I0 l)).1.toInt ≤ 300000000) ∧ (-300000000 ≤ (getA d (lbO I0 l)).2.toInt ∧ (getA d (lbO I0 l)).2.toInt ≤ 300000000) := by
    unfold getA
    cases h : d (lbO I0 l) with
    | none => exact ⟨by decide, by decide⟩
    | some q => exact hA _ _ h
  have eX : (bxX I0 d l p).toInt = (getA d (lbO I0 l)).1.toInt + (lfA p (wdt I0 l)).toInt := i32a (by omega)
  have eY : (bxY I0 d l p).toInt = (getA d (lbO I0 l)).2.toInt + (xm_tp p).toInt := i32a (by omega)
  have e1 : (bxX I0 d l p + wdt I0 l).toInt = (bxX I0 d l p).toInt + (wdt I0 l).toInt := i32a (by omega)
  have e2 : (bxY I0 d l p + 9).toInt = (bxY I0 d l p).toInt + 9 := by rw [i32a (by omega), k9]
  unfold opn at ho
  rw [decide_eq_true_iff, e1, e2] at ho
  obtain ⟨_, _, w3, w4, _⟩ := hW
  exact ⟨by omega, by omega, e1, e2⟩
/-! the class -/
theorem e_hasDrawn {I : xm_I} {d : Anc} {x : Int32} (hD : DA I d) (hx : 0 ≤ x.toInt ∧ x.toInt < 40) : f_Pn_hasDrawn x I = some (bi ((d (Int32.toNatClampNeg x)).isSome = true)) := by
  have t := tn32 hx.1
  have h := hD (Int32.toNatClampNeg x) (by omega)
  have k40 : (40 : Int32).toInt = 40 := by decide
  have k0 := z0
  unfold f_Pn_hasDrawn f_Pn_hasDrawn_b0
  rw [if_neg (by rw [lt32]; omega), if_neg (by rw [le32]; omega), gd_p _ hx]
  cases hd : d (Int32.toNatClampNeg x) with
  | none =>
    rw [hd] at h
    have h' : I 31 (Int32.toNatClampNeg x) = 0 := h
    rw [if_pos h', bi_f (by decide)]
  | some p =>
    rw [hd] at h
    have h' : I 31 (Int32.toNatClampNeg x) = 1 := h.1
    rw [h', if_neg (by decide), bi_t (show (some p).isSome = true from rfl)]
theorem e_anchorXY {I : xm_I} {d : Anc} {x : Int32} (hD : DA I d) (hx : 0 ≤ x.toInt ∧ x.toInt < 40) (hs : (d (Int32.toNatClampNeg x)).isSome = true) : f_Pn_anchorXOf x I = some (getA d (Int32.toNatClampNeg x)).1 ∧ f_Pn_anchorYOf x I = some (getA d (Int32.toNatClampNeg x)).2 := by
  have t := tn32 hx.1
  have h := hD (Int32.toNatClampNeg x) (by omega)
  have hh := e_hasDrawn hD hx
  rw [bi_t hs] at hh
  cases hd : d (Int32.toNatClampNeg x) with
  | none =>
    rw [hd] at hs
    cases hs
  | some p =>
    rw [hd] at h
    unfold f_Pn_anchorXOf f_Pn_anchorXOf_b0 f_Pn_anchorYOf f_Pn_anchorYOf_b0 getA
    rw [hh, hd]
    simp only [Option.bind_some]
    rw [if_neg (by decide), if_neg (by decide), gd_p _ hx, gd_p _ hx, h.2.1, h.2.2]
    exact ⟨rfl, rfl⟩
theorem e_objectOf {n : Nat} {I0 I : xm_I} {l : Nat} (hst : Sta n I0 I) (hl : (l : Int) < (I0 21 3).toInt) : f_Lb_objectOf (n32 l) I = some (I0 22 l) ∧ f_Lb_lettersOf (n32 l) I = some (I0 23 l) := by
  have e3 : I 21 3 = I0 21 3 := hst.2 21 3 (by decide)
  have h20 := hst.1.2.2.2.2.1
  rw [e3] at h20
  have li : (n32 l).toInt = l := n32i (by omega)
  have lt : Int32.toNatClampNeg (n32 l) = l := n32n (by omega)
  unfold f_Lb_objectOf f_Lb_objectOf_b0 f_Lb_lettersOf f_Lb_lettersOf_b0
  rw [e_Lb_has, bi_t (by rw [e3, li]; omega)]
  simp only [Option.bind_some]
  rw [if_neg (by decide), if_neg (by decide), gd_p _ (by omega), gd_p _ (by omega), lt, hst.2.row 22 rfl (by decide), hst.2.row 23 rfl (by decide)]
  exact ⟨rfl, rfl⟩
abbrev WG : List Nat := [40, 41, 42, 40013]
set_option maxRecDepth 100000 in
theorem dWG : ∀ x ∈ STC, x ∉ WG := by decide
theorem gather_g {n : Nat} {I0 I : xm_I} {d : Anc} (hst : Sta n I0 I) (hD : DA I d) : ok (f_Pl_gatherGuests I) (fun J => Fr WG I J ∧ J 39 13 = n32 (gsL I0 d (Int32.toNatClampNeg (I0 21 3))).length ∧ ∀ g l, (gsL I0 d (Int32.toNatClampNeg (I0 21 3)))[g]? = some l → J 40 g = n32 l ∧ J 41 g = wdt I0 l ∧ J 42 g = 8) := by
  have e3 : I 21 3 = I0 21 3 := hst.2 21 3 (by decide)
  have h20 := hst.1.2.2.2.2.1
  rw [e3] at h20
  have t := tn32 h20.1
  unfold f_Pl_gatherGuests f_Pl_gatherGuests_b0 f_Pl_gatherGuests_b7
  dsimp only
  refine lp_inv (fun st => ∃ k : Nat, k ≤ Int32.toNatClampNeg (I0 21 3) ∧ st.1 = n32 k ∧ Fr WG I st.2 ∧ st.2 39 13 = n32 (gsL I0 d k).length ∧ ∀ g l, (gsL I0 d k)[g]? = some l → st.2 40 g = n32 l ∧ st.2 41 g = wdt I0 l ∧ st.2 42 g = 8) (fun st => (21 - st.1.toInt).toNat) _ ?_ (0, up2 I 39 13 0) ⟨0, by omega, rfl, Fr.up (Fr.refl _ _) (by decide), rfl, fun g l h => by cases h⟩
  rintro ⟨kk, J⟩ ⟨k, hk, q1, q2, q3, q4⟩
  simp only at q1 q2 q3 q4
  subst q1
  have ki : (n32 k).toInt = k := n32i (by omega)
  have hJ : Sta n I0 J := hst.of q2 dWG
  have j3 : J 21 3 = I0 21 3 := hJ.2 21 3 (by decide)
  have hlen := gsL_le I0 d k
  have j13 : (J 39 13).toInt = (gsL I0 d k).length := by rw [q3, n32i (by omega)]
  have dec : (21 - (n32 k + 1).toInt).toNat < (21 - (n32 k).toInt).toNat := by
    rw [i32p (by omega) (by omega)]
    omega
  have es := n32s (k := k) (by omega)
  unfold f_Pl_gatherGuests_s7 f_Pl_gatherGuests_b96
  dsimp only
  refine ok_le (fun hc => ok_s ?_) (fun hc => ?_)
  · rw [j3] at hc
    have e : k = Int32.toNatClampNeg (I0 21 3) := by omega
    rw [e] at q3 q4
    exact ⟨q2, q3, q4⟩
  · rw [j3] at hc
    have hl : (k : Int) < (I0 21 3).toInt := by omega
    have hob := lbO_b hst hl
    have hDJ : DA J d := hD.kept (q2.row 31 rfl (by decide)) (q2.row 32 rfl (by decide)) (q2.row 33 rfl (by decide))
    have hdr := e_hasDrawn hDJ hob.1
    have hgs : gsL I0 d (k + 1) = gsL I0 d k ++ (if (d (Int32.toNatClampNeg (I0 22 k))).isSome = true then [k] else []) := gsL_succ I0 d k
    refine ok_e (e_objectOf hJ hl).1 (ok_e hdr (ok_ib (fun hn => ?_) (fun hy => ?_)))
    · rw [if_neg hn, List.append_nil] at hgs
      exact ok_s ⟨⟨k + 1, by omega, es, q2, by rw [hgs]; exact q3, by rw [hgs]; exact q4⟩, dec⟩
    · rw [if_pos hy] at hgs
      have k20 : (20 : Int32).toInt = 20 := by decide
      have g13 : 0 ≤ (J 39 13).toInt ∧ (J 39 13).toInt < 20 := by omega
      have t13 : Int32.toNatClampNeg (J 39 13) = (gsL I0 d k).length := by rw [q3, n32n (by omega)]
      refine ok_f (by rw [le32]; omega) (ok_g g13 ?_)
      have hJ1 : Sta n I0 (up2 J 40 (Int32.toNatClampNeg (J 39 13)) (n32 k)) := hJ.of (Fr.upA (W := WG) (Fr.refl _ _) (by decide) (by decide)) dWG
      refine ok_e (e_objectOf hJ1 hl).2 (ok_g g13 (ok_g g13 (ok_s ⟨⟨k + 1, by omega, es, ?_, ?_, ?_⟩, dec⟩)))
      · exact Fr.up (Fr.upA (Fr.upA (Fr.upA q2 (by decide) (by decide)) (by decide) (by decide)) (by decide) (by decide)) (by decide)
      · show J 39 13 + 1 = _
        rw [hgs, q3, n32s (by omega), List.length_append]
        rfl
      · intro g l hg
        rw [hgs] at hg
        show up2 (up2 (up2 J 40 (Int32.toNatClampNeg (J 39 13)) (n32 k)) 41 (Int32.toNatClampNeg (J 39 13)) (6 * I0 23 k)) 42 (Int32.toNatClampNeg (J 39 13)) 8 40 g = _ ∧ up2 (up2 (up2 J 40 (Int32.toNatClampNeg (J 39 13)) (n32 k)) 41 (Int32.toNatClampNeg (J 39 13)) (6 * I0 23 k)) 42 (Int32.toNatClampNeg (J 39 13)) 8 41 g = _ ∧ up2 (up2 (up2 J 40 (Int32.toNatClampNeg (J 39 13)) (n32 k)) 41 (Int32.toNatClampNeg (J 39 13)) (6 * I0 23 k)) 42 (Int32.toNatClampNeg (J 39 13)) 8 42 g = _
        rw [t13]
        by_cases c : g = (gsL I0 d k).length
        · rw [c, List.getElem?_concat_length] at hg
          cases hg
          rw [c]
          simp (disch := decide) only [up2_self, up2_ne]
          exact ⟨trivial, rfl, trivial⟩
        · have hg' : (gsL I0 d k)[g]? = some l := by
            rcases Nat.lt_or_ge g (gsL I0 d k).length with h | h
            · rw [List.getElem?_append_left h] at hg
              exact hg
            · rw [List.getElem?_append_right h] at hg
              have : g - (gsL I0 d k).length ≠ 0 := by omega
              rw [List.getElem?_eq_none (by show 1 ≤ _; omega)] at hg
              cases hg
          simp (disch := first | decide | exact c) only [up2_ne, up2_nk]
          exact q4 g l hg'
