/-! ===== boxes and costs of the reference ===== -/
theorem sub2 (a w c : Int32) : a - c - w = a + (-c - w) := by
  rw [Int32.sub_eq_add_neg, Int32.sub_eq_add_neg, Int32.sub_eq_add_neg, Int32.add_assoc]
theorem e_boxM {n : Nat} {I0 I : xm_I} {d : Anc} {l p : Nat} (hst : Sta n I0 I) (hD : DM I (Int32.toNatClampNeg (I0 6 9)) d) (hl : (l : Int) < (I0 21 3).toInt) (hs : (d (lbO I0 l)).isSome = true) (hp : p < 8) : f_M_boxLeft (n32 l) (n32 p) I = some (bxX I0 d l p) ∧ f_M_boxTop (n32 l) (n32 p) I = some (bxY I0 d l p) := by
  have e3 : I 21 3 = I0 21 3 := hst.2 21 3 (by decide)
  have h20 := hst.1.2.2.2.2.1
  rw [e3] at h20
  have li : (n32 l).toInt = l := n32i (by omega)
  have lt : Int32.toNatClampNeg (n32 l) = l := n32n (by omega)
  have gl : 0 ≤ (n32 l).toInt ∧ (n32 l).toInt < 20 := by omega
  have hob := lbO_b hst hl
  have r69 : I 69 (Int32.toNatClampNeg (n32 l)) = I0 22 l := by rw [hst.1.2.2.2.2.2.1.2.1, hst.2.row 22 rfl (by decide), lt]
  have r70 : I 70 (Int32.toNatClampNeg (n32 l)) = I0 23 l := by rw [hst.1.2.2.2.2.2.1.2.2, hst.2.row 23 rfl (by decide), lt]
  have ha := hD (lbO I0 l) hob.2.2.2
  cases hd : d (lbO I0 l) with
  | none =>
    rw [hd] at hs
    cases hs
  | some q =>
    rw [hd] at ha
    have a1 : I 74 (Int32.toNatClampNeg (I0 22 l)) = q.1 := ha.2.1
    have a2 : I 75 (Int32.toNatClampNeg (I0 22 l)) = q.2 := ha.2.2
    have gA : getA d (lbO I0 l) = q := by unfold getA; rw [hd]; rfl
    have h : p = 0 ∨ p = 1 ∨ p = 2 ∨ p = 3 ∨ p = 4 ∨ p = 5 ∨ p = 6 ∨ p = 7 := by omega
    unfold f_M_boxLeft f_M_boxLeft_b0 f_M_boxTop f_M_boxTop_b0 f_M_boxLeft_b80 f_M_boxLeft_b94 bxX bxY
    rw [gd_p _ gl, r69, gd_p _ hob.1, gd_p _ gl, gd_p _ gl, gd_p _ hob.1, r70, a1, a2, gA]
    dsimp only
    have w : wdt I0 l = 6 * I0 23 l := rfl
    rw [w]
    rcases h with rfl | rfl | rfl | rfl | rfl | rfl | rfl | rfl
    · exact ⟨rfl, congrArg some (Int32.sub_eq_add_neg q.2 4)⟩
    · exact ⟨rfl, congrArg some (Int32.sub_eq_add_neg q.2 11)⟩
    · exact ⟨congrArg some (Int32.sub_eq_add_neg q.1 _), congrArg some (Int32.sub_eq_add_neg q.2 12)⟩
    · exact ⟨congrArg some (sub2 q.1 _ 2), congrArg some (Int32.sub_eq_add_neg q.2 11)⟩
    · exact ⟨congrArg some (sub2 q.1 _ 3), congrArg some (Int32.sub_eq_add_neg q.2 4)⟩
    · exact ⟨congrArg some (sub2 q.1 _ 2), rfl⟩
    · exact ⟨congrArg some (Int32.sub_eq_add_neg q.1 _), rfl⟩
    · exact ⟨rfl, rfl⟩
theorem r70_of {n : Nat} {I0 I : xm_I} {l : Nat} (hst : Sta n I0 I) (hl : (l : Int) < (I0 21 3).toInt) : (0 ≤ (n32 l).toInt ∧ (n32 l).toInt < 20) ∧ Int32.toNatClampNeg (n32 l) = l ∧ 6 * I 70 (Int32.toNatClampNeg (n32 l)) = wdt I0 l ∧ I 70 l = I0 23 l ∧ I 69 l = I0 22 l := by
  have e3 : I 21 3 = I0 21 3 := hst.2 21 3 (by decide)
  have h20 := hst.1.2.2.2.2.1
  rw [e3] at h20
  have li : (n32 l).toInt = l := n32i (by omega)
  have lt : Int32.toNatClampNeg (n32 l) = l := n32n (by omega)
  refine ⟨by omega, lt, ?_, ?_, ?_⟩
  · rw [hst.1.2.2.2.2.2.1.2.2, hst.2.row 23 rfl (by decide), lt]
    rfl
  · rw [hst.1.2.2.2.2.2.1.2.2, hst.2.row 23 rfl (by decide)]
  · rw [hst.1.2.2.2.2.2.1.2.1, hst.2.row 22 rfl (by decide)]
theorem e_isOpen {n : Nat} {I0 I : xm_I} {d : Anc} {l p : Nat} (hst : Sta n I0 I) (hD : DM I (Int32.toNatClampNeg (I0 6 9)) d) (hl : (l : Int) < (I0 21 3).toInt) (hs : (d (lbO I0 l)).isSome = true) (hp : p < 8) : f_M_isOpen (n32 l) (n32 p) I = some (bi (opn I0 (bxX I0 d l p) (bxY I0 d l p) (wdt I0 l) = true)) := by
  obtain ⟨b1, b2⟩ := e_boxM hst hD hl hs hp
  obtain ⟨gl, lt, r70, _⟩ := r70_of hst hl
  have hIW := hst.1.2.2.1
  have c4 : I 49 19 = I0 14 4 := by rw [hIW.1.2.2.2.2.1]; exact hst.2 14 4 (by decide)
  have c5 : I 49 20 = I0 14 5 := by rw [hIW.1.2.2.2.2.2.1]; exact hst.2 14 5 (by decide)
  have k0 := z0
  unfold f_M_isOpen f_M_isOpen_b0
  rw [b1, b2]
  simp only [Option.bind_some]
  rw [gd_p _ gl, r70, c4, c5]
  unfold opn
  simp only [lt32, k0, decide_eq_true_eq]
  (repeat' split) <;> first | rw [bi_t (by omega)] | rw [bi_f (by omega)]
theorem hit_dot {a b l r c t : Int} : hitP a b a b l r c t ↔ (l ≤ a ∧ a ≤ r ∧ c ≤ b ∧ b ≤ t) := by
  constructor
  · intro h
    have := h.1
    omega
  · intro h
    refine ⟨by omega, fun k => ?_, fun k => ?_⟩
    · have := k.1
      simp only [Int.sub_self, Int.zero_mul] at this
      omega
    · have := k.1
      simp only [Int.sub_self, Int.zero_mul] at this
      omega
abbrev WC5 : List Nat := [50041, 50042]
theorem cost_ok {n : Nat} {I0 I : xm_I} {L : xm_L} {d : Anc} {s : MS} {l p : Nat} (hst : Sta n I0 I) (hD : DM I (Int32.toNatClampNeg (I0 6 9)) d) (hA : oka d) (hm : okl s.1) (hM : MM I s) (hl : (l : Int) < (I0 21 3).toInt) (hs : (d (lbO I0 l)).isSome = true) (hp : p < 8) (ho : opn I0 (bxX I0 d l p) (bxY I0 d l p) (wdt I0 l) = true) : ok (f_M_cost (n32 l) (n32 p) (n32 s.1.length) I L) (fun q => q.1 = cst I0 d s.1 l p ∧ Fr WC5 I q.2.1 ∧ Fr WL L q.2.2) := by
  obtain ⟨b1, b2⟩ := e_boxM hst hD hl hs hp
  obtain ⟨gl, lt, r70, _⟩ := r70_of hst hl
  obtain ⟨o1, o2, o3, o4⟩ := opn_b hst hA hl hp ho
  have hw := wdt_b hst hl
  have hlen := hM.1
  have k1 := z1
  have k8 : (8 : Int32).toInt = 8 := by decide
  have e11 : (bxX I0 d l p + wdt I0 l - 1).toInt = (bxX I0 d l p).toInt + (wdt I0 l).toInt - 1 := by rw [i32s (by omega), o3, k1]
  have e12 : (bxY I0 d l p + 8).toInt = (bxY I0 d l p).toInt + 8 := by rw [i32a (by omega), k8]
  have hcst : cst I0 d s.1 l p = n32 (p + mcs (bxX I0 d l p).toInt (bxY I0 d l p).toInt (wdt I0 l).toInt s.1) := if_pos ho
  unfold f_M_cost f_M_cost_b0
  refine ok_e b1 (ok_e b2 (ok_g gl ?_))
  rw [r70]
  dsimp only
  unfold f_M_cost_b45
  refine lp_inv (fun st => ∃ k : Nat, k ≤ s.1.length ∧ st.2.1 = n32 k ∧ st.1 = n32 (p + mcs (bxX I0 d l p).toInt (bxY I0 d l p).toInt (wdt I0 l).toInt (s.1.take k)) ∧ Fr WC5 I st.2.2.1 ∧ Fr WL L st.2.2.2) (fun st => (601 - st.2.1.toInt).toNat) _ ?_ (n32 p, 0, I, L) ⟨0, by omega, rfl, rfl, Fr.refl _ _, Fr.refl _ _⟩
  rintro ⟨cc, kk, J, M⟩ ⟨k, hk, q1, q2, q3, q4⟩
  simp only at q1 q2 q3 q4
  subst q1
  subst q2
  have ki : (n32 k).toInt = k := n32i (by omega)
  have si : (n32 s.1.length).toInt = s.1.length := n32i (by omega)
  unfold f_M_cost_s45
  dsimp only
  refine ok_le (fun hc => ok_s ?_) (fun hc => ?_)
  · have e : k = s.1.length := by omega
    rw [e, List.take_length]
    exact ⟨hcst.symm, q3, q4⟩
  · obtain ⟨m, hkm⟩ : ∃ m, s.1[k]? = some m := ⟨_, List.getElem?_eq_getElem (by omega)⟩
    have okm' := hm m (List.mem_of_getElem? hkm)
    have hMJ : MM J s := hM.kept (q3 49 49 (by decide)) (q3 49 50 (by decide)) (q3.row 71 rfl (by decide))
    have dec : (601 - (n32 k + 1).toInt).toNat < (601 - (n32 k).toInt).toNat := by
      rw [i32p (by omega) (by omega)]
      omega
    have es := n32s (k := k) (by omega)
    have x0 := ix7 (k := k) (w := 0) (by omega) (by omega)
    have x1 := ix7 (k := k) (w := 1) (by omega) (by omega)
    have x2 := ix7 (k := k) (w := 2) (by omega) (by omega)
    have x3 := ix7 (k := k) (w := 3) (by omega) (by omega)
    have x4 := ix7 (k := k) (w := 4) (by omega) (by omega)
    have z : 7 * n32 k + n32 0 = 7 * n32 k := Int32.add_zero _
    rw [z] at x0
    have y1 : 7 * n32 k + 1 = 7 * n32 k + n32 1 := rfl
    have y2 : 7 * n32 k + 2 = 7 * n32 k + n32 2 := rfl
    have y3 : 7 * n32 k + 3 = 7 * n32 k + n32 3 := rfl
    have y4 : 7 * n32 k + 4 = 7 * n32 k + n32 4 := rfl
    rw [y1, y2, y3, y4]
    have v0 := m_row (w := 0) hMJ hkm (by omega)
    have v1 := m_row (w := 1) hMJ hkm (by omega)
    have v2 := m_row (w := 2) hMJ hkm (by omega)
    have v3 := m_row (w := 3) hMJ hkm (by omega)
    have v4 := m_row (w := 4) hMJ hkm (by omega)
    have w0 : m6 m 0 = m.1 := rfl
    have w1 : m6 m 1 = m.2.1 := rfl
    have w2 : m6 m 2 = m.2.2.1 := rfl
    have w3 : m6 m 3 = m.2.2.2.1 := rfl
    have w4 : m6 m 4 = m.2.2.2.2.1 := rfl
    have mt := mcs_take (x := (bxX I0 d l p).toInt) (y := (bxY I0 d l p).toInt) (w := (wdt I0 l).toInt) hkm
    have ml := mcs_le (bxX I0 d l p).toInt (bxY I0 d l p).toInt (wdt I0 l).toInt (s.1.take k)
    have tl : (s.1.take k).length ≤ 600 := by rw [List.length_take]; omega
    have fin : ∀ (e : Nat) (J' : xm_I) (M' : xm_L), e ≤ 10 → mkc (bxX I0 d l p).toInt (bxY I0 d l p).toInt (wdt I0 l).toInt m = e → Fr WC5 I J' → Fr WL L M' → ok (f_M_cost_b202 (n32 s.1.length) (bxX I0 d l p) (bxY I0 d l p) (bxX I0 d l p + wdt I0 l - 1) (bxY I0 d l p + 8) (n32 (p + mcs (bxX I0 d l p).toInt (bxY I0 d l p).toInt (wdt I0 l).toInt (s.1.take k)) + n32 e) (n32 k) J' M') (fun x => Sum.elim (fun st => (∃ k : Nat, k ≤ s.1.length ∧ st.2.1 = n32 k ∧ st.1 = n32 (p + mcs (bxX I0 d l p).toInt (bxY I0 d l p).toInt (wdt I0 l).toInt (s.1.take k)) ∧ Fr WC5 I st.2.2.1 ∧ Fr WL L st.2.2.2) ∧ (601 - st.2.1.toInt).toNat < (601 - (n32 k).toInt).toNat) (fun q => q.1 = cst I0 d s.1 l p ∧ Fr WC5 I q.2.1 ∧ Fr WL L q.2.2) x) := by
      intro e J' M' he hme f1 f2
      unfold f_M_cost_b202
      refine ok_s ⟨⟨k + 1, by omega, es, ?_, f1, f2⟩, dec⟩
      show n32 _ + n32 e = _
      rw [mt, hme, eq32, i32a (by rw [n32i (by omega), n32i (by omega)]; omega), n32i (by omega), n32i (by omega), n32i (by omega)]
      omega
    refine ok_g (by omega) (ok_g (by omega) (ok_g (by omega) ?_))
    rw [x0.2, x1.2, x2.2, x3.2, x4.2]
    rw [w0] at v0
    rw [w1] at v1
    rw [w2] at v2
    rw [w3] at v3
    rw [w4] at v4
    by_cases c1 : m.1 = 68
    · have hmk : mkc (bxX I0 d l p).toInt (bxY I0 d l p).toInt (wdt I0 l).toInt m = @ite _ (hitP m.2.1.toInt m.2.2.1.toInt m.2.1.toInt m.2.2.1.toInt (bxX I0 d l p).toInt ((bxX I0 d l p).toInt + (wdt I0 l).toInt - 1) (bxY I0 d l p).toInt ((bxY I0 d l p).toInt + 8)) (Classical.propDecidable _) 10 0 := by unfold mkc; rw [if_pos c1]
      have no : ¬ hitP m.2.1.toInt m.2.2.1.toInt m.2.1.toInt m.2.2.1.toInt (bxX I0 d l p).toInt ((bxX I0 d l p).toInt + (wdt I0 l).toInt - 1) (bxY I0 d l p).toInt ((bxY I0 d l p).toInt + 8) → ok (f_M_cost_b133 (n32 s.1.length) (bxX I0 d l p) (bxY I0 d l p) (bxX I0 d l p + wdt I0 l - 1) (bxY I0 d l p + 8) (n32 k) (n32 (p + mcs (bxX I0 d l p).toInt (bxY I0 d l p).toInt (wdt I0 l).toInt (s.1.take k))) J M) (fun x => Sum.elim (fun st => (∃ k : Nat, k ≤ s.1.length ∧ st.2.1 = n32 k ∧ st.1 = n32 (p + mcs (bxX I0 d l p).toInt (bxY I0 d l p).toInt (wdt I0 l).toInt (s.1.take k)) ∧ Fr WC5 I st.2.2.1 ∧ Fr WL L st.2.2.2) ∧ (601 - st.2.1.toInt).toNat < (601 - (n32 k).toInt).toNat) (fun q => q.1 = cst I0 d s.1 l p ∧ Fr WC5 I q.2.1 ∧ Fr WL L q.2.2) x) := by
        intro hn
        rw [if_neg hn] at hmk
        unfold f_M_cost_b133 f_M_cost_b134
        exact fin 0 J M (by omega) hmk q3 q4
      refine ok_t (by rw [v0]; exact c1) (ok_lt (fun h1 => no fun hh => ?_) (fun h1 => ok_lt (fun h2 => no fun hh => ?_) (fun h2 => ok_lt (fun h3 => no fun hh => ?_) (fun h3 => ok_lt (fun h4 => no fun hh => ?_) (fun h4 => ?_)))))
      · have := hit_dot.mp hh
        rw [v1] at h1
        omega
      · have := hit_dot.mp hh
        rw [v1] at h2
        omega
      · have := hit_dot.mp hh
        rw [v2] at h3
        omega
      · have := hit_dot.mp hh
        rw [v2] at h4
        omega
      · rw [v1] at h1 h2
        rw [v2] at h3 h4
        rw [if_pos (hit_dot.mpr ⟨by omega, by omega, by omega, by omega⟩)] at hmk
        unfold f_M_cost_b134
        exact fin 10 J M (by omega) hmk q3 q4
    · refine ok_f (by rw [v0]; exact c1) ?_
      by_cases c2 : m.1 = 83
      · obtain ⟨⟨f1, f2⟩, f3, f4⟩ := okm'.2 c2
        unfold far1 at f1 f2 f3 f4
        have hmk : mkc (bxX I0 d l p).toInt (bxY I0 d l p).toInt (wdt I0 l).toInt m = @ite _ (hitP m.2.1.toInt m.2.2.1.toInt m.2.2.2.1.toInt m.2.2.2.2.1.toInt (bxX I0 d l p).toInt ((bxX I0 d l p).toInt + (wdt I0 l).toInt - 1) (bxY I0 d l p).toInt ((bxY I0 d l p).toInt + 8)) (Classical.propDecidable _) 4 0 := by unfold mkc; rw [if_neg c1, if_pos c2]
        refine ok_t (by rw [v0]; exact c2) (ok_g (by omega) (ok_g (by omega) ?_))
        rw [v1, v2, v3, v4]
        refine ok_b (ok_mono (clips_ok (ax := m.2.1) (ay := m.2.2.1) (bx := m.2.2.2.1) (bz := m.2.2.2.2.1) (l := bxX I0 d l p) (r := bxX I0 d l p + wdt I0 l - 1) (b := bxY I0 d l p) (t := bxY I0 d l p + 8) (bg := 1) (en := 1) (by omega) (by omega) (by omega) (by omega) (by omega) (by omega) (by omega) (by omega) (Or.inr rfl) (Or.inr rfl) (Or.inr (Or.inr ⟨rfl, rfl⟩))) (fun q hq => ?_))
        obtain ⟨g1, g2, g3⟩ := hq
        rw [e11, e12] at g3
        have fs : fqS 1 = some (0, 1) := rfl
        have fe : fqE 1 = some (1, 1) := rfl
        rw [fs, fe] at g3
        have hcl := CL_iff (ax := m.2.1.toInt) (ay := m.2.2.1.toInt) (bx := m.2.2.2.1.toInt) (bz := m.2.2.2.2.1.toInt) (l := (bxX I0 d l p).toInt) (r := (bxX I0 d l p).toInt + (wdt I0 l).toInt - 1) (b := (bxY I0 d l p).toInt) (t := (bxY I0 d l p).toInt + 8) (by omega) (by omega)
        unfold f_M_cost_b199
        cases hv : CL m.2.1.toInt m.2.2.1.toInt m.2.2.2.1.toInt m.2.2.2.2.1.toInt (bxX I0 d l p).toInt ((bxX I0 d l p).toInt + (wdt I0 l).toInt - 1) (bxY I0 d l p).toInt ((bxY I0 d l p).toInt + 8) (some (0, 1)) (some (1, 1)) with
        | none =>
          rw [hv] at g3 hcl
          rw [if_neg (fun hh => by have := hcl.mpr hh; cases this)] at hmk
          exact ok_t g3 (fin 0 q.2.1 q.2.2 (by omega) hmk (q3.trans g1) (q4.trans g2))
        | some ft =>
          rw [hv] at g3 hcl
          rw [if_pos (hcl.mp rfl)] at hmk
          exact ok_f (by rw [g3.1]; decide) (fin 4 q.2.1 q.2.2 (by omega) hmk (q3.trans g1) (q4.trans g2))
      · have hmk : mkc (bxX I0 d l p).toInt (bxY I0 d l p).toInt (wdt I0 l).toInt m = 0 := by unfold mkc; rw [if_neg c1, if_neg c2]
        refine ok_f (by rw [v0]; exact c2) ?_
        have := fin 0 J M (by omega) hmk q3 q4
        have e0 : ∀ x : Int32, x + n32 0 = x := fun x => Int32.add_zero x
        rw [e0] at this
        exact this
abbrev WMp : List Nat := [79, 80, 50070, 50041, 50042]
set_option maxRecDepth 100000 in
theorem dWMp : ∀ x ∈ STC, x ∉ WMp := by decide
def TM (I0 J : xm_I) (d : Anc) (gs : List Nat) (ms : List M6) : Prop := J 49 70 = n32 gs.length ∧ (∀ g l : Nat, gs[g]? = some l → J 80 g = n32 l) ∧ ∀ l p : Nat, l ∈ gs → p < 8 → J 79 (8 * l + p) = cst I0 d ms l p
theorem mplace {n : Nat} {I0 I : xm_I} {L : xm_L} {d : Anc} {s : MS} {K : xm_I × xm_L → Prop} (hst : Sta n I0 I) (hD : DM I (Int32.toNatClampNeg (I0 6 9)) d) (hA : oka d) (hm : okl s.1) (hM : MM I s) (hK : ∀ J M, Fr WMp I J → Fr WL L M → TM I0 J d (gsL I0 d (Int32.toNatClampNeg (I0 21 3))) s.1 → ok (if 6 < J 49 70 then (f_M_goRound J).bind fun p_1 => f_M_place_b123 p_1 M else (f_M_findBest J).bind fun p_2 => f_M_place_b123 p_2 M) K) : ok (f_M_place I L) K := by
  have e3 : I 21 3 = I0 21 3 := hst.2 21 3 (by decide)
  have h20 := hst.1.2.2.2.2.1
  rw [e3] at h20
  have t := tn32 h20.1
  have k8 : (8 : Int32).toInt = 8 := by decide
  unfold f_M_place f_M_place_b0 f_M_place_b7
  dsimp only
  refine lp_inv (fun st => ∃ k : Nat, k ≤ Int32.toNatClampNeg (I0 21 3) ∧ st.1 = n32 k ∧ Fr WMp I st.2.1 ∧ Fr WL L st.2.2 ∧ TM I0 st.2.1 d (gsL I0 d k) s.1) (fun st => (21 - st.1.toInt).toNat) _ ?_ (0, up2 I 49 70 0, L) ⟨0, by omega, rfl, Fr.up (Fr.refl _ _) (by decide), Fr.refl _ _, rfl, (fun g l h => by cases h), (fun l p h => by cases h)⟩
  rintro ⟨kk, J, M⟩ ⟨k, hk, q1, q2, q2', q3, q4, q5⟩
  simp only at q1 q2 q2' q3 q4 q5
  subst q1
  have ki : (n32 k).toInt = k := n32i (by omega)
  have kt : Int32.toNatClampNeg (n32 k) = k := n32n (by omega)
  have hJ : Sta n I0 J := hst.of q2 dWMp
  have j37 : J 49 37 = I0 21 3 := by rw [hJ.1.2.2.2.2.2.1.1]; exact hJ.2 21 3 (by decide)
  have hlen := gsL_le I0 d k
  have j70 : (J 49 70).toInt = (gsL I0 d k).length := by rw [q3, n32i (by omega)]
  have dec : (21 - (n32 k + 1).toInt).toNat < (21 - (n32 k).toInt).toNat := by
    rw [i32p (by omega) (by omega)]
    omega
  have es := n32s (k := k) (by omega)
  unfold f_M_place_s7
  dsimp only
  refine ok_le (fun hc => ?_) (fun hc => ?_)
  · rw [j37] at hc
    have e : k = Int32.toNatClampNeg (I0 21 3) := by omega
    rw [e] at q3 q4 q5
    have := hK J M q2 q2' ⟨q3, q4, q5⟩
    by_cases c : (6 : Int32) < J 49 70
    · rw [if_pos c] at this
      refine ok_t c ?_
      obtain ⟨r, hr, hKr⟩ := this
      refine ⟨.inr r, ?_, hKr⟩
      cases hg : f_M_goRound J with
      | none => rw [hg] at hr; cases hr
      | some v =>
        rw [hg] at hr
        simp only [Option.bind_some] at hr ⊢
        rw [hr]
        rfl
    · rw [if_neg c] at this
      refine ok_f c ?_
      obtain ⟨r, hr, hKr⟩ := this
      refine ⟨.inr r, ?_, hKr⟩
      cases hg : f_M_findBest J with
      | none => rw [hg] at hr; cases hr
      | some v =>
        rw [hg] at hr
        simp only [Option.bind_some] at hr ⊢
        rw [hr]
        rfl
  · rw [j37] at hc
    have hl : (k : Int) < (I0 21 3).toInt := by omega
    obtain ⟨gl, _, _, _, r69⟩ := r70_of hJ hl
    have hob := lbO_b hst hl
    have hDJ : DM J (Int32.toNatClampNeg (I0 6 9)) d := hD.kept (q2.row 73 rfl (by decide)) (q2.row 74 rfl (by decide)) (q2.row 75 rfl (by decide))
    have ha := hDJ (lbO I0 k) hob.2.2.2
    have hgs := gsL_succ I0 d k
    have r69' : J 69 (Int32.toNatClampNeg (n32 k)) = I0 22 k := by rw [kt]; exact r69
    refine ok_g gl (ok_g (by rw [r69']; exact hob.1) ?_)
    cases hd : d (lbO I0 k) with
    | none =>
      rw [hd] at ha hgs
      rw [if_neg (by decide), List.append_nil] at hgs
      have ha' : J 73 (Int32.toNatClampNeg (I0 22 k)) = 0 := ha
      refine ok_t (by rw [r69']; exact ha') ?_
      unfold f_M_place_b97
      exact ok_s ⟨⟨k + 1, by omega, es, q2, q2', by rw [hgs]; exact ⟨q3, q4, q5⟩⟩, dec⟩
    | some qq =>
      have hsm : (d (lbO I0 k)).isSome = true := by rw [hd]; rfl
      rw [hd] at ha
      rw [if_pos hsm] at hgs
      have ha' : J 73 (Int32.toNatClampNeg (I0 22 k)) = 1 := ha.1
      refine ok_f (by rw [r69', ha']; decide) (ok_g (by omega) ?_)
      have t70 : Int32.toNatClampNeg (J 49 70) = (gsL I0 d k).length := by rw [q3, n32n (by omega)]
      rw [t70]
      have e70 : up2 J 80 (gsL I0 d k).length (n32 k) 49 70 + 1 = n32 (gsL I0 d (k + 1)).length := by
        show J 49 70 + 1 = _
        rw [hgs, q3, n32s (by omega), List.length_append]
        rfl
      rw [e70]
      unfold f_M_place_b51
      refine lp_inv (fun st => ∃ p : Nat, p ≤ 8 ∧ st.1 = n32 p ∧ Fr WMp I st.2.1 ∧ Fr WL L st.2.2 ∧ st.2.1 49 70 = n32 (gsL I0 d (k + 1)).length ∧ (∀ g l : Nat, (gsL I0 d (k + 1))[g]? = some l → st.2.1 80 g = n32 l) ∧ (∀ l p : Nat, l ∈ gsL I0 d k → p < 8 → st.2.1 79 (8 * l + p) = cst I0 d s.1 l p) ∧ ∀ p', p' < p → st.2.1 79 (8 * k + p') = cst I0 d s.1 k p') (fun st => (9 - st.1.toInt).toNat) _ ?_ _ ⟨0, by omega, rfl, ?_, q2', ?_, ?_, ?_, fun p' h => by omega⟩
      · rintro ⟨pp, V, N⟩ ⟨p, hp, v1, v2, v2', v3, v4, v5, v6⟩
        simp only at v1 v2 v2' v3 v4 v5 v6
        subst v1
        have pi : (n32 p).toInt = p := n32i (by omega)
        have hV : Sta n I0 V := hst.of v2 dWMp
        have hDV : DM V (Int32.toNatClampNeg (I0 6 9)) d := hD.kept (v2.row 73 rfl (by decide)) (v2.row 74 rfl (by decide)) (v2.row 75 rfl (by decide))
        have hMV : MM V s := hM.kept (v2 49 49 (by decide)) (v2 49 50 (by decide)) (v2.row 71 rfl (by decide))
        unfold f_M_place_s51
        dsimp only
        refine ok_le (fun hp8 => ?_) (fun hp8 => ?_)
        · have e : p = 8 := by omega
          subst e
          refine ok_m ?_
          unfold f_M_place_b97
          refine ok_s ⟨⟨k + 1, by omega, es, v2, v2', v3, v4, fun l p hl' hp' => ?_⟩, dec⟩
          rw [hgs] at hl'
          rcases List.mem_append.mp hl' with h | h
          · exact v5 l p h hp'
          · rw [List.mem_singleton.mp h]
            exact v6 p hp'
        · have hp' : p < 8 := by omega
          have eix := (ix8 (g := k) (p := p) (by omega) hp').2
          have ii : (n32 (8 * k + p)).toInt = ((8 * k + p : Nat) : Int) := n32i (by omega)
          have it : Int32.toNatClampNeg (n32 (8 * k + p)) = 8 * k + p := n32n (by omega)
          have dec2 : (9 - (n32 p + 1).toInt).toNat < (9 - (n32 p).toInt).toNat := by
            rw [i32p (by omega) (by omega)]
            omega
          have es2 := n32s (k := p) (by omega)
          have fin : ∀ (c : Int32) (V' : xm_I) (N' : xm_L), c = cst I0 d s.1 k p → Fr WC5 V V' → Fr WL L N' → ok (f_M_place_b90 (n32 k) (n32 p) (n32 (8 * k + p)) c V' N') (fun x => Sum.elim (fun st => (∃ p : Nat, p ≤ 8 ∧ st.1 = n32 p ∧ Fr WMp I st.2.1 ∧ Fr WL L st.2.2 ∧ st.2.1 49 70 = n32 (gsL I0 d (k + 1)).length ∧ (∀ g l : Nat, (gsL I0 d (k + 1))[g]? = some l → st.2.1 80 g = n32 l) ∧ (∀ l p : Nat, l ∈ gsL I0 d k → p < 8 → st.2.1 79 (8 * l + p) = cst I0 d s.1 l p) ∧ ∀ p', p' < p → st.2.1 79 (8 * k + p') = cst I0 d s.1 k p') ∧ (9 - st.1.toInt).toNat < (9 - (n32 p).toInt).toNat) (fun y => Sum.elim (fun st => (∃ k : Nat, k ≤ Int32.toNatClampNeg (I0 21 3) ∧ st.1 = n32 k ∧ Fr WMp I st.2.1 ∧ Fr WL L st.2.2 ∧ TM I0 st.2.1 d (gsL I0 d k) s.1) ∧ (21 - st.1.toInt).toNat < (21 - (n32 k).toInt).toNat) K y) x) := by
            intro c V' N' hcc f1 f2
            unfold f_M_place_b90
            refine ok_g (by omega) (ok_s ⟨⟨p + 1, by omega, es2, ?_, f2, ?_, ?_, ?_, ?_⟩, dec2⟩)
            · exact Fr.upA (v2.trans (f1.mono (by decide))) (by decide) (by decide)
            · show V' 49 70 = _
              rw [f1 49 70 (by decide)]
              exact v3
            · intro g l hg
              show V' 80 g = _
              rw [f1.row 80 rfl (by decide)]
              exact v4 g l hg
            · intro l p' hl' hp2
              show up2 V' 79 (Int32.toNatClampNeg (n32 (8 * k + p))) c 79 (8 * l + p') = _
              have := (gsL_mem hl').1
              rw [it, up2_nk _ _ _ _ _ (by omega), f1.row 79 rfl (by decide)]
              exact v5 l p' hl' hp2
            · intro p' hp2
              show up2 V' 79 (Int32.toNatClampNeg (n32 (8 * k + p))) c 79 (8 * k + p') = _
              rw [it]
              by_cases e : p' = p
              · rw [e, up2_self]
                exact hcc
              · rw [up2_nk _ _ _ _ _ (by omega), f1.row 79 rfl (by decide)]
                exact v6 p' (by omega)
          rw [eix]
          refine ok_e (e_isOpen hV hDV hl hsm hp') (ok_ib (fun hn => fin (-1) V N (if_neg hn).symm (Fr.refl _ _) v2') (fun hy => ?_))
          have v49 : V 49 49 = n32 s.1.length := hMV.2.1
          rw [v49]
          exact ok_b (ok_mono (cost_ok hV hDV hA hm hMV hl hsm hp' hy) (fun q hq => fin q.1 q.2.1 q.2.2 hq.1 hq.2.1 (v2'.trans hq.2.2)))
      · exact Fr.up (Fr.upA q2 (by decide) (by decide)) (by decide)
      · exact up2_self (up2 J 80 (gsL I0 d k).length (n32 k)) 49 70 _
      · intro g l hg
        rw [hgs] at hg
        show up2 J 80 (gsL I0 d k).length (n32 k) 80 g = _
        by_cases c : g = (gsL I0 d k).length
        · rw [c, List.getElem?_concat_length] at hg
          cases hg
          rw [c, up2_self]
        · have hg' : (gsL I0 d k)[g]? = some l := by
            rcases Nat.lt_or_ge g (gsL I0 d k).length with h | h
            · rw [List.getElem?_append_left h] at hg
              exact hg
            · rw [List.getElem?_append_right h, List.getElem?_eq_none (by show 1 ≤ _; omega)] at hg
              cases hg
          rw [up2_nk _ _ _ _ _ c]
          exact q4 g l hg'
      · intro l p hl' hp'
        exact q5 l p hl' hp'
