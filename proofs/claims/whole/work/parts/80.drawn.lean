/-! ===== which objects are drawn; anchors ===== -/
def trnS (X Y : Nat → Int32) (n : Nat) : Nat → Int64
  | 0 => 0
  | k + 1 => trnS X Y n k + (((X k).toInt64 * (Y (nxk n k)).toInt64) - ((X (nxk n k)).toInt64 * (Y k).toInt64))
theorem e_turnOf {I : xm_I} {x : Int32} (hp : IvP I) (h : IvF I) (hx : vo I x) : f_Fg_turnOf x I = some (trnS (CX I (Int32.toNatClampNeg x)) (CY I (Int32.toNatClampNeg x)) (Int32.toNatClampNeg (I 10 (Int32.toNatClampNeg x))) (Int32.toNatClampNeg (I 10 (Int32.toNatClampNeg x)))) := by
  have ct := h.ct hx
  have t := tn32 (x := I 10 (Int32.toNatClampNeg x)) (by omega)
  unfold f_Fg_turnOf f_Fg_turnOf_b0 f_Fg_turnOf_b11
  rw [e_Fg_cornersOf hx]
  simp only [Option.bind_some]
  refine ok_eq (lp_inv (fun s => ∃ k : Nat, k ≤ Int32.toNatClampNeg (I 10 (Int32.toNatClampNeg x)) ∧ s = (trnS (CX I (Int32.toNatClampNeg x)) (CY I (Int32.toNatClampNeg x)) (Int32.toNatClampNeg (I 10 (Int32.toNatClampNeg x))) k, n32 k)) (fun s => (13 - s.2.toInt).toNat) _ ?_ (0, 0) ⟨0, by omega, rfl⟩)
  rintro s ⟨k, hk, rfl⟩
  have ki : (n32 k).toInt = k := n32i (by omega)
  have kt : Int32.toNatClampNeg (n32 k) = k := n32n (by omega)
  unfold f_Fg_turnOf_s11
  dsimp only
  refine ok_le (fun hc => ok_s ?_) (fun hc => ?_)
  · have e : k = Int32.toNatClampNeg (I 10 (Int32.toNatClampNeg x)) := by omega
    rw [e]
    rfl
  · have hkn : nxk (Int32.toNatClampNeg (I 10 (Int32.toNatClampNeg x))) k < Int32.toNatClampNeg (I 10 (Int32.toNatClampNeg x)) := by unfold nxk; split <;> omega
    have es : (n32 k + 1).toInt = (k : Int) + 1 := by rw [i32p (by omega) (by omega), ki]
    have body : ∀ y : Int32, y = n32 (nxk (Int32.toNatClampNeg (I 10 (Int32.toNatClampNeg x))) k) → ok (f_Fg_turnOf_b33 x (I 10 (Int32.toNatClampNeg x)) (trnS (CX I (Int32.toNatClampNeg x)) (CY I (Int32.toNatClampNeg x)) (Int32.toNatClampNeg (I 10 (Int32.toNatClampNeg x))) k) (n32 k) y I) (fun z => Sum.elim (fun s' => (∃ k : Nat, k ≤ Int32.toNatClampNeg (I 10 (Int32.toNatClampNeg x)) ∧ s' = (trnS (CX I (Int32.toNatClampNeg x)) (CY I (Int32.toNatClampNeg x)) (Int32.toNatClampNeg (I 10 (Int32.toNatClampNeg x))) k, n32 k)) ∧ (13 - s'.2.toInt).toNat < (13 - (n32 k).toInt).toNat) (fun r => r = trnS (CX I (Int32.toNatClampNeg x)) (CY I (Int32.toNatClampNeg x)) (Int32.toNatClampNeg (I 10 (Int32.toNatClampNeg x))) (Int32.toNatClampNeg (I 10 (Int32.toNatClampNeg x)))) z) := by
      intro y hy
      subst hy
      have v1 : vc I x (n32 k) := ⟨hx, by omega, by omega⟩
      have ni : (n32 (nxk (Int32.toNatClampNeg (I 10 (Int32.toNatClampNeg x))) k)).toInt = (nxk (Int32.toNatClampNeg (I 10 (Int32.toNatClampNeg x))) k : Int) := n32i (by omega)
      have nt : Int32.toNatClampNeg (n32 (nxk (Int32.toNatClampNeg (I 10 (Int32.toNatClampNeg x))) k)) = nxk (Int32.toNatClampNeg (I 10 (Int32.toNatClampNeg x))) k := n32n (by omega)
      have v2 : vc I x (n32 (nxk (Int32.toNatClampNeg (I 10 (Int32.toNatClampNeg x))) k)) := ⟨hx, by omega, by omega⟩
      have a1 := e_Fg_xOf hp h v1
      have a2 := e_Fg_yOf hp h v1
      have a3 := e_Fg_xOf hp h v2
      have a4 := e_Fg_yOf hp h v2
      rw [kt] at a1 a2
      rw [nt] at a3 a4
      unfold f_Fg_turnOf_b33
      refine ok_e a1 (ok_e a4 (ok_e a3 (ok_e a2 (ok_s ⟨⟨k + 1, by omega, ?_⟩, ?_⟩))))
      · rw [n32s (by omega)]
        rfl
      · show (13 - (n32 k + 1).toInt).toNat < (13 - (n32 k).toInt).toNat
        omega
    refine ok_le (fun hd => body 0 ?_) (fun hd => body (n32 k + 1) ?_)
    · unfold nxk
      rw [if_neg (by omega)]
      rfl
    · unfold nxk
      rw [if_pos (by omega), n32s (by omega)]
def fallB (kd : Int32) (n : Nat) (X Y : Nat → Int32) : Bool :=
  if kd = 0 then false else if kd = 5 then (decide (X 0 = X 1 ∧ Y 0 = Y 1) || decide (X 2 = X 1 ∧ Y 2 = Y 1)) else if kd = 7 then decide (trnS X Y n n = 0) else decide (X 0 = X 1 ∧ Y 0 = Y 1)
def drawB (I : xm_I) (o : Nat) : Bool := decide (I 12 (Int32.toNatClampNeg (I 7 o)) = 0) && !fallB (I 7 o) (Int32.toNatClampNeg (I 10 o)) (CX I o) (CY I o)
theorem e_hasFallen {I : xm_I} {x : Int32} (hp : IvP I) (h : IvF I) (hx : vo I x) : f_Fg_hasFallen x I = some (bi (fallB (I 7 (Int32.toNatClampNeg x)) (Int32.toNatClampNeg (I 10 (Int32.toNatClampNeg x))) (CX I (Int32.toNatClampNeg x)) (CY I (Int32.toNatClampNeg x)) = true)) := by
  obtain ⟨⟨a1, a2⟩, a3, a4, a5, a6, a7⟩ := h.ct hx
  have k0 := z0
  have k1 := z1
  have k2 := z2
  have k5 := z5
  have t0 : Int32.toNatClampNeg 0 = 0 := by decide
  have t1 : Int32.toNatClampNeg 1 = 1 := by decide
  have t2 : Int32.toNatClampNeg 2 = 2 := by decide
  unfold f_Fg_hasFallen f_Fg_hasFallen_b0 fallB
  rw [e_Fg_kindOf hx]
  simp only [Option.bind_some]
  by_cases c0 : I 7 (Int32.toNatClampNeg x) = 0
  · rw [if_pos c0, bi_f]
    rw [if_pos c0]
    decide
  · have c0' : (I 7 (Int32.toNatClampNeg x)).toInt ≠ 0 := fun k => c0 (by rw [eq32, k, k0])
    have v0 : vc I x 0 := ⟨hx, by omega, by omega⟩
    have v1 : vc I x 1 := ⟨hx, by omega, by have := a5 c0'; omega⟩
    have p01 := e_Fg_isAtOnePlace hp h v0 v1
    rw [t0, t1] at p01
    rw [if_neg c0]
    by_cases c5 : I 7 (Int32.toNatClampNeg x) = 5
    · have c5' : (I 7 (Int32.toNatClampNeg x)).toInt = 5 := by rw [c5, k5]
      have v2 : vc I x 2 := ⟨hx, by omega, by have := a6 c5'; omega⟩
      have p21 := e_Fg_isAtOnePlace hp h v2 v1
      rw [t1, t2] at p21
      rw [if_pos c5, p01, p21]
      simp only [Option.bind_some]
      by_cases kA : CX I (Int32.toNatClampNeg x) 0 = CX I (Int32.toNatClampNeg x) 1 ∧ CY I (Int32.toNatClampNeg x) 0 = CY I (Int32.toNatClampNeg x) 1
      · rw [bi_t kA, if_neg (by decide), bi_t]
        rw [if_neg c0, if_pos c5, decide_eq_true kA]
        rfl
      · rw [bi_f kA, if_pos rfl]
        by_cases kB : CX I (Int32.toNatClampNeg x) 2 = CX I (Int32.toNatClampNeg x) 1 ∧ CY I (Int32.toNatClampNeg x) 2 = CY I (Int32.toNatClampNeg x) 1
        · rw [bi_t kB, if_neg (by decide), bi_t]
          rw [if_neg c0, if_pos c5, decide_eq_true kB, Bool.or_true]
        · rw [bi_f kB, if_pos rfl, bi_f]
          rw [if_neg c0, if_pos c5, decide_eq_false kA, decide_eq_false kB]
          decide
    · rw [if_neg c5]
      by_cases c7 : I 7 (Int32.toNatClampNeg x) = 7
      · rw [if_pos c7, e_turnOf hp h hx]
        simp only [Option.bind_some]
        by_cases kr : trnS (CX I (Int32.toNatClampNeg x)) (CY I (Int32.toNatClampNeg x)) (Int32.toNatClampNeg (I 10 (Int32.toNatClampNeg x))) (Int32.toNatClampNeg (I 10 (Int32.toNatClampNeg x))) = 0
        · rw [if_pos kr, bi_t]
          rw [if_neg c0, if_neg c5, if_pos c7]
          exact decide_eq_true kr
        · rw [if_neg kr, bi_f]
          rw [if_neg c0, if_neg c5, if_pos c7, decide_eq_false kr]
          decide
      · rw [if_neg c7, p01]
        simp only [Option.bind_some]
        rw [gd_p _ bi_and]
        refine congrArg some (bi_iff ?_)
        rw [if_neg c0, if_neg c5, if_neg c7, decide_eq_true_iff]
theorem e_isDrawn {I : xm_I} {x : Int32} (hp : IvP I) (h : IvF I) (hx : vo I x) : f_Fg_isDrawn x I = some (bi (drawB I (Int32.toNatClampNeg x) = true)) ∧ f_M_isDrawable x I = some (bi (drawB I (Int32.toNatClampNeg x) = true)) := by
  obtain ⟨⟨a1, a2⟩, _⟩ := h.ct hx
  obtain ⟨c, hc1, hc2, _⟩ := m_fallen hp h hx
  have hf := e_hasFallen hp h hx
  have hM : f_M_isFallen x I = f_Fg_hasFallen x I := by rw [hc1, hc2]
  have hg : 0 ≤ x.toInt ∧ x.toInt < 40 := by have := hx; unfold vo at this; omega
  have d3 : I 54 = I 7 := h.2.2.1.2.2.1
  have d6 : I 60 = I 12 := h.2.2.1.2.2.2.2.2.1
  constructor
  · unfold f_Fg_isDrawn f_Fg_isDrawn_b0
    rw [e_Fg_kindOf hx]
    simp only [Option.bind_some]
    rw [e_Fg_isHidden a1 (by omega)]
    simp only [Option.bind_some]
    unfold drawB
    by_cases k : I 12 (Int32.toNatClampNeg (I 7 (Int32.toNatClampNeg x))) = 0
    · rw [bi_f (fun q => q k), if_pos rfl, hf]
      simp only [Option.bind_some]
      cases hb : fallB (I 7 (Int32.toNatClampNeg x)) (Int32.toNatClampNeg (I 10 (Int32.toNatClampNeg x))) (CX I (Int32.toNatClampNeg x)) (CY I (Int32.toNatClampNeg x)) with
      | true =>
        rw [bi_t rfl, if_neg (by decide), bi_f]
        rw [Bool.not_true, Bool.and_false]
        decide
      | false =>
        rw [bi_f (by decide), if_pos rfl, bi_t]
        rw [decide_eq_true k]
        rfl
    · rw [bi_t k, if_neg (by decide), bi_f]
      rw [decide_eq_false k, Bool.false_and]
      decide
  · unfold f_M_isDrawable f_M_isDrawable_b0
    rw [gd_p _ hg, d3, gd_p _ (by omega), d6, hM]
    unfold drawB
    by_cases k : I 12 (Int32.toNatClampNeg (I 7 (Int32.toNatClampNeg x))) = 0
    · rw [if_pos k, hf]
      simp only [Option.bind_some]
      cases hb : fallB (I 7 (Int32.toNatClampNeg x)) (Int32.toNatClampNeg (I 10 (Int32.toNatClampNeg x))) (CX I (Int32.toNatClampNeg x)) (CY I (Int32.toNatClampNeg x)) with
      | true =>
        rw [bi_t rfl, if_neg (by decide), bi_f]
        rw [Bool.not_true, Bool.and_false]
        decide
      | false =>
        rw [bi_f (by decide), if_pos rfl, bi_t]
        rw [decide_eq_true k]
        rfl
    · rw [if_neg k, bi_f]
      rw [decide_eq_false k, Bool.false_and]
      decide
set_option maxRecDepth 100000 in
theorem Sta.dw {n : Nat} {I0 I : xm_I} (h : Sta n I0 I) : drawB I = drawB I0 := by
  obtain ⟨c1, c2⟩ := h.cx
  funext o
  unfold drawB
  rw [c1, c2, h.2.row 12 rfl (by decide), h.2.row 7 rfl (by decide), h.2.row 10 rfl (by decide)]
/-! anchors: where an object's labels hang, if it is drawn -/
abbrev Anc : Type := Nat → Option (Int32 × Int32)
def anc1 (a b c : Int32) : Option (Int32 × Int32) → Prop
  | none => a = 0
  | some p => a = 1 ∧ b = p.1 ∧ c = p.2
def DA (I : xm_I) (d : Anc) : Prop := ∀ o : Nat, o < 40 → anc1 (I 31 o) (I 32 o) (I 33 o) (d o)
def DM (I : xm_I) (m : Nat) (d : Anc) : Prop := ∀ o : Nat, o < m → anc1 (I 73 o) (I 74 o) (I 75 o) (d o)
def setA (d : Anc) (o : Nat) (p : Int32 × Int32) : Anc := fun j => if j = o then some p else d j
theorem DA.kept {I J : xm_I} {d : Anc} (h : DA I d) (r1 : J 31 = I 31) (r2 : J 32 = I 32) (r3 : J 33 = I 33) : DA J d := by
  intro o ho
  rw [r1, r2, r3]
  exact h o ho
theorem DM.kept {I J : xm_I} {m : Nat} {d : Anc} (h : DM I m d) (r1 : J 73 = I 73) (r2 : J 74 = I 74) (r3 : J 75 = I 75) : DM J m d := by
  intro o ho
  rw [r1, r2, r3]
  exact h o ho
theorem anchor_ok {I : xm_I} {x a b : Int32} {d : Anc} (hx : 0 ≤ x.toInt ∧ x.toInt < 40) (h : DA I d) : ok (f_Pn_anchor x a b I) (fun J => Fr [31, 32, 33] I J ∧ DA J (setA d (Int32.toNatClampNeg x) (a, b))) := by
  have k0 := z0
  have k40 : (40 : Int32).toInt = 40 := by decide
  unfold f_Pn_anchor f_Pn_anchor_b0
  refine ok_f (by rw [lt32]; omega) (ok_f (by rw [le32]; omega) (ok_g hx (ok_g hx (ok_g hx (ok_s ⟨Fr.upA (Fr.upA (Fr.upA (Fr.refl _ _) (by decide) (by decide)) (by decide) (by decide)) (by decide) (by decide), fun o ho => ?_⟩)))))
  unfold setA
  by_cases he : o = Int32.toNatClampNeg x
  · rw [if_pos he, he]
    simp (disch := decide) only [up2_self, up2_ne]
    exact ⟨by decide, rfl, rfl⟩
  · rw [if_neg he]
    simp (disch := first | decide | exact he) only [up2_ne, up2_nk]
    exact h o ho
theorem show_ok {I : xm_I} {x a b : Int32} {m : Nat} {d : Anc} (hx : 0 ≤ x.toInt ∧ x.toInt < 40) (h : DM I m d) : ok (f_M_show x a b I) (fun J => Fr [73, 74, 75] I J ∧ DM J m (setA d (Int32.toNatClampNeg x) (a, b))) := by
  unfold f_M_show f_M_show_b0
  refine ok_g hx (ok_g hx (ok_g hx (ok_s ⟨Fr.upA (Fr.upA (Fr.upA (Fr.refl _ _) (by decide) (by decide)) (by decide) (by decide)) (by decide) (by decide), fun o ho => ?_⟩)))
  unfold setA
  by_cases he : o = Int32.toNatClampNeg x
  · rw [if_pos he, he]
    simp (disch := decide) only [up2_self, up2_ne]
    exact ⟨by decide, rfl, rfl⟩
  · rw [if_neg he]
    simp (disch := first | decide | exact he) only [up2_ne, up2_nk]
    exact h o ho
