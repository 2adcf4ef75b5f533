/-! ===== fit ===== -/
abbrev S4 : Type := Int32 × Int32 × Int32 × Int32
def mnI (a b : Int32) : Int32 := if b < a then b else a
def mxI (a b : Int32) : Int32 := if a < b then b else a
theorem e_Jm_min_I (a b : Int32) : f_Jm_min_I a b = some (mnI a b) := by
  unfold f_Jm_min_I f_Jm_min_I_b0 mnI
  split <;> rfl
theorem e_Jm_max_I (a b : Int32) : f_Jm_max_I a b = some (mxI a b) := by
  unfold f_Jm_max_I f_Jm_max_I_b0 mxI
  split <;> rfl
theorem mnI_i (a b : Int32) : (mnI a b).toInt ≤ a.toInt ∧ (mnI a b).toInt ≤ b.toInt ∧ ((mnI a b).toInt = a.toInt ∨ (mnI a b).toInt = b.toInt) := by
  unfold mnI
  split
  · rename_i h; rw [lt32] at h; omega
  · rename_i h; rw [lt32] at h; omega
theorem mxI_i (a b : Int32) : a.toInt ≤ (mxI a b).toInt ∧ b.toInt ≤ (mxI a b).toInt ∧ ((mxI a b).toInt = a.toInt ∨ (mxI a b).toInt = b.toInt) := by
  unfold mxI
  split
  · rename_i h; rw [lt32] at h; omega
  · rename_i h; rw [lt32] at h; omega
def fst4 (X Y : Nat → Nat → Int32) (o k : Nat) (p : S4) : S4 := (mnI p.1 (X o k), mxI p.2.1 (X o k), mnI p.2.2.1 (Y o k), mxI p.2.2.2 (Y o k))
def fk4 (X Y : Nat → Nat → Int32) (o : Nat) : Nat → S4 → S4
  | 0, s => s
  | k + 1, s => fst4 X Y o k (fk4 X Y o k s)
def snt : S4 := (40000, -40000, 40000, -40000)
def fo4 (h kd ct : Nat → Int32) (X Y : Nat → Nat → Int32) : Nat → Int32 × S4
  | 0 => (0, snt)
  | o + 1 => if h (Int32.toNatClampNeg (kd o)) = 0 then ((fo4 h kd ct X Y o).1 + 1, fk4 X Y o (Int32.toNatClampNeg (ct o)) (fo4 h kd ct X Y o).2) else fo4 h kd ct X Y o
def FO (I : xm_I) (o : Nat) : Int32 × S4 := fo4 (I 12) (I 7) (I 10) (CX I) (CY I) o
theorem CX_ag {I J : xm_I} (g : Ag [2005, 2, 4, 11] I J) : CX J = CX I := by
  funext o k
  unfold CX CR PX
  rw [g.row 11 rfl (by decide), g.row 2 rfl (by decide), g.row 4 rfl (by decide), g 1 5 (by decide)]
theorem CY_ag {I J : xm_I} (g : Ag [2005, 3, 5, 11] I J) : CY J = CY I := by
  funext o k
  unfold CY CR PY
  rw [g.row 11 rfl (by decide), g.row 3 rfl (by decide), g.row 5 rfl (by decide), g 1 5 (by decide)]
def good4 (s : S4) : Prop := -30000 ≤ s.1.toInt ∧ s.1.toInt ≤ s.2.1.toInt ∧ s.2.1.toInt ≤ 30000 ∧ -30000 ≤ s.2.2.1.toInt ∧ s.2.2.1.toInt ≤ s.2.2.2.toInt ∧ s.2.2.2.toInt ≤ 30000
theorem fst4_good {X Y : Nat → Nat → Int32} (hX : ∀ o k, -30000 ≤ (X o k).toInt ∧ (X o k).toInt ≤ 30000) (hY : ∀ o k, -30000 ≤ (Y o k).toInt ∧ (Y o k).toInt ≤ 30000) {s : S4} (h : s = snt ∨ good4 s) (o k : Nat) : good4 (fst4 X Y o k s) := by
  have x := hX o k
  have y := hY o k
  have a1 := mnI_i s.1 (X o k)
  have a2 := mxI_i s.2.1 (X o k)
  have a3 := mnI_i s.2.2.1 (Y o k)
  have a4 := mxI_i s.2.2.2 (Y o k)
  unfold good4 fst4
  dsimp only
  rcases h with h | h
  · have s1 : s.1.toInt = 40000 := by rw [h]; decide
    have s2 : s.2.1.toInt = -40000 := by rw [h]; decide
    have s3 : s.2.2.1.toInt = 40000 := by rw [h]; decide
    have s4 : s.2.2.2.toInt = -40000 := by rw [h]; decide
    omega
  · unfold good4 at h
    omega
theorem fk4_good {X Y : Nat → Nat → Int32} (hX : ∀ o k, -30000 ≤ (X o k).toInt ∧ (X o k).toInt ≤ 30000) (hY : ∀ o k, -30000 ≤ (Y o k).toInt ∧ (Y o k).toInt ≤ 30000) {s : S4} (h : s = snt ∨ good4 s) (o k : Nat) : (k = 0 ∧ fk4 X Y o k s = s) ∨ good4 (fk4 X Y o k s) := by
  induction k with
  | zero => exact Or.inl ⟨rfl, rfl⟩
  | succ k ih =>
    right
    show good4 (fst4 X Y o k (fk4 X Y o k s))
    rcases ih with ⟨_, e⟩ | hg
    · rw [e]
      exact fst4_good hX hY h o k
    · exact fst4_good hX hY (Or.inr hg) o k
theorem fo4_good {h kd ct : Nat → Int32} {X Y : Nat → Nat → Int32} (hX : ∀ o k, -30000 ≤ (X o k).toInt ∧ (X o k).toInt ≤ 30000) (hY : ∀ o k, -30000 ≤ (Y o k).toInt ∧ (Y o k).toInt ≤ 30000) (o : Nat) (hc : ∀ j, j < o → 1 ≤ (ct j).toInt) (ho : o ≤ 40) : ((fo4 h kd ct X Y o).1 = 0 ∧ (fo4 h kd ct X Y o).2 = snt) ∨ (1 ≤ (fo4 h kd ct X Y o).1.toInt ∧ (fo4 h kd ct X Y o).1.toInt ≤ o ∧ good4 (fo4 h kd ct X Y o).2) := by
  induction o with
  | zero => exact Or.inl ⟨rfl, rfl⟩
  | succ o ih =>
    have ih := ih (fun j hj => hc j (by omega)) (by omega)
    unfold fo4
    split
    · right
      have c1 := hc o (by omega)
      have t := tn32 (x := ct o) (by omega)
      have hg : good4 (fk4 X Y o (Int32.toNatClampNeg (ct o)) (fo4 h kd ct X Y o).2) := by
        have hs : (fo4 h kd ct X Y o).2 = snt ∨ good4 (fo4 h kd ct X Y o).2 := by
          rcases ih with k | k
          · exact Or.inl k.2
          · exact Or.inr k.2.2
        rcases fk4_good hX hY hs o (Int32.toNatClampNeg (ct o)) with ⟨k, _⟩ | k
        · omega
        · exact k
      refine ⟨?_, ?_, hg⟩
      · show 1 ≤ ((fo4 h kd ct X Y o).1 + 1).toInt
        rcases ih with ⟨k, _⟩ | k
        · rw [k]; decide
        · rw [i32p (by omega) (by omega)]
          omega
      · show ((fo4 h kd ct X Y o).1 + 1).toInt ≤ ((o + 1 : Nat) : Int)
        rcases ih with ⟨k, _⟩ | k
        · rw [k]
          have : ((0 : Int32) + 1).toInt = 1 := by decide
          omega
        · rw [i32p (by omega) (by omega)]
          omega
    · rcases ih with k | k
      · exact Or.inl k
      · exact Or.inr ⟨k.1, by omega, k.2.2⟩
def flat4 (s : S4) (k : Int32) : Int32 × Int32 × Int32 × Int32 × Int32 := (s.1, s.2.1, s.2.2.1, s.2.2.2, k)
theorem n32_lt {k n : Nat} (h : k < 2147483648) (hn : n < 2147483648) : n32 n ≤ n32 k ↔ n ≤ k := by
  rw [le32, n32i h, n32i hn]
  omega
theorem vo_n {I : xm_I} {o : Nat} (g : IvF I) (ho : (o : Int) < (I 6 9).toInt) : vo I (n32 o) := by
  have := g.1
  refine ⟨?_, ?_, this.2⟩ <;> rw [n32i (by omega)] <;> omega
theorem D_fit_in {I : xm_I} {o : Nat} {x1 : Int32} (hP : IvP I) (g : IvF I) (ho : (o : Int) < (I 6 9).toInt) (s : S4) : lp (f_D_fit_s59 x1 (n32 o) I) (flat4 s 0) = some (.inl (x1, (fk4 (CX I) (CY I) o (Int32.toNatClampNeg (I 10 o)) s).1, (fk4 (CX I) (CY I) o (Int32.toNatClampNeg (I 10 o)) s).2.1, (fk4 (CX I) (CY I) o (Int32.toNatClampNeg (I 10 o)) s).2.2.1, (fk4 (CX I) (CY I) o (Int32.toNatClampNeg (I 10 o)) s).2.2.2, n32 o + 1)) := by
  have hx := vo_n g ho
  have g40 := g.1
  have on : Int32.toNatClampNeg (n32 o) = o := n32n (by omega)
  have hct := g.ct hx
  rw [on] at hct
  have t := tn32 (x := I 10 o) (by omega)
  refine ok_eq (lp_inv (fun st => ∃ k : Nat, (k : Int) ≤ (I 10 o).toInt ∧ st = flat4 (fk4 (CX I) (CY I) o k s) (n32 k)) (fun st => (13 - st.2.2.2.2.toInt).toNat) _ ?_ _ ⟨0, by omega, rfl⟩)
  intro st ⟨k, hk, hst⟩
  subst hst
  have kn : (n32 k).toInt = k := n32i (by omega)
  have ktn : Int32.toNatClampNeg (n32 k) = k := n32n (by omega)
  unfold f_D_fit_s59 f_D_fit_b147
  refine ok_e (e_Fg_cornersOf hx) ?_
  rw [on]
  refine ok_le (fun hc => ?_) (fun hc => ?_)
  · have hc' : (I 10 o).toInt ≤ (n32 k).toInt := hc
    have e : k = Int32.toNatClampNeg (I 10 o) := by omega
    rw [e]
    exact ok_s rfl
  · have hc' : (n32 k).toInt < (I 10 o).toInt := hc
    have v : vc I (n32 o) (n32 k) := ⟨hx, by omega, by rw [on]; exact hc'⟩
    have eX := e_Fg_xOf hP g v
    have eY := e_Fg_yOf hP g v
    rw [on, ktn] at eX eY
    refine ok_e eX (ok_e (e_Jm_min_I _ _) (ok_e eX (ok_e (e_Jm_max_I _ _) (ok_e eY (ok_e (e_Jm_min_I _ _) (ok_e eY (ok_e (e_Jm_max_I _ _) (ok_s ?_))))))))
    refine ⟨⟨k + 1, by omega, ?_⟩, ?_⟩
    · show _ = flat4 (fst4 (CX I) (CY I) o k (fk4 (CX I) (CY I) o k s)) (n32 (k + 1))
      rw [← n32s (by omega)]
      rfl
    · show (13 - (n32 k + 1).toInt).toNat < (13 - (n32 k).toInt).toNat
      rw [i32p (by omega) (by omega)]
      omega
theorem D_fit_out {I : xm_I} (hP : IvP I) (g : IvF I) {K : Int32 × xm_I → Prop} (h0 : (FO I (Int32.toNatClampNeg (I 6 9))).1 = 0 → K (-100003, I)) (h1 : (FO I (Int32.toNatClampNeg (I 6 9))).1 ≠ 0 → ok (f_Fr_setWindow (FO I (Int32.toNatClampNeg (I 6 9))).2.1 (FO I (Int32.toNatClampNeg (I 6 9))).2.2.1 (FO I (Int32.toNatClampNeg (I 6 9))).2.2.2.1 (FO I (Int32.toNatClampNeg (I 6 9))).2.2.2.2 I) (fun J => K ((FO I (Int32.toNatClampNeg (I 6 9))).1, J))) : ok (f_D_fit I) K := by
  have g40 := g.1
  have t := tn32 (x := I 6 9) (by omega)
  unfold f_D_fit f_D_fit_b0 f_D_fit_b19
  refine lp_inv (fun st => ∃ o : Nat, (o : Int) ≤ (I 6 9).toInt ∧ st = ((FO I o).1, (FO I o).2.1, (FO I o).2.2.1, (FO I o).2.2.2.1, (FO I o).2.2.2.2, n32 o)) (fun st => (41 - st.2.2.2.2.2.toInt).toNat) _ ?_ _ ⟨0, by omega, rfl⟩
  intro st ⟨o, ho, hst⟩
  subst hst
  have oi : (n32 o).toInt = o := n32i (by omega)
  unfold f_D_fit_s19
  refine ok_le (fun hc => ?_) (fun hc => ?_)
  · have hc' : (I 6 9).toInt ≤ (n32 o).toInt := hc
    have e : o = Int32.toNatClampNeg (I 6 9) := by omega
    rw [e]
    by_cases hz : (FO I (Int32.toNatClampNeg (I 6 9))).1 = 0
    · exact ok_t hz (ok_s (h0 hz))
    · exact ok_f hz (ok_b (ok_mono (h1 hz) fun J hJ => ok_s hJ))
  · have hc' : (n32 o).toInt < (I 6 9).toInt := hc
    have ho' : (o : Int) < (I 6 9).toInt := by omega
    have hx := vo_n g ho'
    have on : Int32.toNatClampNeg (n32 o) = o := n32n (by omega)
    have hct := g.ct hx
    rw [on] at hct
    have eK := e_Fg_kindOf hx
    rw [on] at eK
    have es := n32s (k := o) (by omega)
    have dec : (41 - (n32 o + 1).toInt).toNat < (41 - (n32 o).toInt).toNat := by
      rw [i32p (by omega) (by omega)]
      omega
    refine ok_e eK (ok_e (e_Fg_isHidden hct.1.1 (by omega)) ?_)
    by_cases hh : I 12 (Int32.toNatClampNeg (I 7 o)) = 0
    · refine ok_t (by rw [bi0]; exact fun k => k hh) ?_
      unfold f_D_fit_b59
      have e := D_fit_in (x1 := (FO I o).1 + 1) hP g ho' (FO I o).2
      refine ⟨_, e, ?_⟩
      have eF : FO I (o + 1) = ((FO I o).1 + 1, fk4 (CX I) (CY I) o (Int32.toNatClampNeg (I 10 o)) (FO I o).2) := by
        unfold FO
        show (if _ then _ else _) = _
        rw [if_pos hh]
      refine ⟨⟨o + 1, by omega, ?_⟩, ?_⟩
      · rw [eF, es]
      · exact dec
    · refine ok_f (by rw [bi0]; exact fun k => k hh) ?_
      unfold f_D_fit_b147
      have eF : FO I (o + 1) = FO I o := by
        unfold FO
        show (if _ then _ else _) = _
        rw [if_neg hh]
      refine ok_s ⟨⟨o + 1, by omega, ?_⟩, ?_⟩
      · rw [eF, es]
      · exact dec
theorem le_mn {a b : Int32} : mnI a b = if a ≤ b then a else b := by
  unfold mnI
  by_cases h : b < a
  · rw [if_pos h, if_neg]
    rw [lt32] at h
    rw [le32]
    omega
  · rw [if_neg h, if_pos]
    rw [lt32] at h
    rw [le32]
    omega
theorem le_mx {a b : Int32} : mxI a b = if b ≤ a then a else b := by
  unfold mxI
  by_cases h : a < b
  · rw [if_pos h, if_neg]
    rw [lt32] at h
    rw [le32]
    omega
  · rw [if_neg h, if_pos]
    rw [lt32] at h
    rw [le32]
    omega
theorem M_fit_st {x1 x6 k x y : Int32} {s : S4} {I : xm_I} : f_M_fit_b91 x1 s.1 s.2.1 s.2.2.1 s.2.2.2 x6 k x y 0 I = some (.inl (flat4 (mnI s.1 x, mxI s.2.1 x, mnI s.2.2.1 y, mxI s.2.2.2 y) (k + 1))) ∧ f_M_fit_b91 x1 s.1 s.2.1 s.2.2.1 s.2.2.2 x6 k x y 1 I = some (.inl (flat4 (x, x, y, y) (k + 1))) := by
  unfold f_M_fit_b91 f_M_fit_b104 f_M_fit_b110 f_M_fit_b122 f_M_fit_b128 f_M_fit_b141 f_M_fit_b148 f_M_fit_b162 f_M_fit_b169 flat4
  rw [le_mn, le_mx, le_mn, le_mx]
  constructor
  · simp only [if_pos]
    (repeat' split) <;> rfl
  · rfl
theorem M_fit_in {I : xm_I} {o : Nat} {x1 : Int32} (hP : IvP I) (g : IvF I) (ho : (o : Int) < (I 6 9).toInt) (s q : S4) (hq : x1 ≠ 0 → q = s) (hs : x1 = 0 → s = snt) : lp (f_M_fit_s45 x1 (n32 o) I) (flat4 q 0) = some (.inl (x1 + 1, (fk4 (CX I) (CY I) o (Int32.toNatClampNeg (I 10 o)) s).1, (fk4 (CX I) (CY I) o (Int32.toNatClampNeg (I 10 o)) s).2.1, (fk4 (CX I) (CY I) o (Int32.toNatClampNeg (I 10 o)) s).2.2.1, (fk4 (CX I) (CY I) o (Int32.toNatClampNeg (I 10 o)) s).2.2.2, n32 o + 1)) := by
  have hx := vo_n g ho
  have g40 := g.1
  have on : Int32.toNatClampNeg (n32 o) = o := n32n (by omega)
  have hct := g.ct hx
  rw [on] at hct
  have t := tn32 (x := I 10 o) (by omega)
  have r56 : I 56 = I 10 := g.2.2.1.2.2.2.2.1
  refine ok_eq (lp_inv (fun st => ∃ k : Nat, (k : Int) ≤ (I 10 o).toInt ∧ ((k = 0 ∧ st = flat4 q 0) ∨ st = flat4 (fk4 (CX I) (CY I) o k s) (n32 k))) (fun st => (13 - st.2.2.2.2.toInt).toNat) _ ?_ _ ⟨0, by omega, Or.inl ⟨rfl, rfl⟩⟩)
  intro st ⟨k, hk, hst⟩
  have kn : (n32 k).toInt = k := n32i (by omega)
  have ktn : Int32.toNatClampNeg (n32 k) = k := n32n (by omega)
  have st5 : st.2.2.2.2 = n32 k := by
    rcases hst with ⟨h1, h2⟩ | h2
    · rw [h2, h1]; rfl
    · rw [h2]; rfl
  have st4 : ∃ u : S4, st = flat4 u (n32 k) ∧ (u = fk4 (CX I) (CY I) o k s ∨ (k = 0 ∧ x1 = 0)) := by
    rcases hst with ⟨h1, h2⟩ | h2
    · by_cases hz : x1 = 0
      · exact ⟨q, by rw [h2, h1]; rfl, Or.inr ⟨h1, hz⟩⟩
      · refine ⟨q, by rw [h2, h1]; rfl, Or.inl ?_⟩
        rw [h1, hq hz]
        rfl
    · exact ⟨_, h2, Or.inl rfl⟩
  obtain ⟨u, hu, hu2⟩ := st4
  subst hu
  unfold f_M_fit_s45 f_M_fit_b180
  have gn : 0 ≤ (n32 o).toInt ∧ (n32 o).toInt < 40 := by rw [n32i (by omega)]; omega
  refine ok_g gn ?_
  rw [r56, on]
  refine ok_le (fun hc => ?_) (fun hc => ?_)
  · have hc' : (I 10 o).toInt ≤ (n32 k).toInt := hc
    have e : k = Int32.toNatClampNeg (I 10 o) := by omega
    have eu : u = fk4 (CX I) (CY I) o k s := by
      rcases hu2 with h | h
      · exact h
      · omega
    rw [eu, e]
    exact ok_s rfl
  · have hc' : (n32 k).toInt < (I 10 o).toInt := hc
    have v : vc I (n32 o) (n32 k) := ⟨hx, by omega, by rw [on]; exact hc'⟩
    have eX := e_M_cornerX hP g v
    have eY := e_M_cornerY hP g v
    rw [on, ktn] at eX eY
    have mst := M_fit_st (x1 := x1) (x6 := n32 o) (k := n32 k) (x := CX I o k) (y := CY I o k) (s := u) (I := I)
    have bX := (PX_i hP (Int32.toNatClampNeg (CR I o k))).2
    have bY := (PY_i hP (Int32.toNatClampNeg (CR I o k))).2
    have dec : (13 - (n32 k + 1).toInt).toNat < (13 - (n32 k).toInt).toNat := by
      rw [i32p (by omega) (by omega)]
      omega
    have goal2 : ∀ r : S4, r = fst4 (CX I) (CY I) o k (fk4 (CX I) (CY I) o k s) → Sum.elim (fun s' => (∃ k : Nat, (k : Int) ≤ (I 10 o).toInt ∧ ((k = 0 ∧ s' = flat4 q 0) ∨ s' = flat4 (fk4 (CX I) (CY I) o k s) (n32 k))) ∧ (13 - s'.2.2.2.2.toInt).toNat < (13 - (flat4 u (n32 k)).2.2.2.2.toInt).toNat) (fun r => r = Sum.inl (x1 + 1, (fk4 (CX I) (CY I) o (Int32.toNatClampNeg (I 10 o)) s).1, (fk4 (CX I) (CY I) o (Int32.toNatClampNeg (I 10 o)) s).2.1, (fk4 (CX I) (CY I) o (Int32.toNatClampNeg (I 10 o)) s).2.2.1, (fk4 (CX I) (CY I) o (Int32.toNatClampNeg (I 10 o)) s).2.2.2, n32 o + 1)) (Sum.inl (flat4 r (n32 k + 1)) : (Int32 × Int32 × Int32 × Int32 × Int32) ⊕ ((Int32 × Int32 × Int32 × Int32 × Int32 × Int32) ⊕ (Int32 × xm_I))) := by
      intro r hr
      refine ⟨⟨k + 1, by omega, Or.inr ?_⟩, dec⟩
      rw [hr, n32s (by omega)]
      rfl
    refine ok_e eX (ok_e eY ?_)
    by_cases hz : x1 = 0
    · refine ok_t hz ?_
      by_cases hk0 : n32 k = 0
      · refine ok_t hk0 ⟨_, mst.2, goal2 _ ?_⟩
        have k0 : k = 0 := by
          rw [eq32, kn] at hk0
          simp only [Int32.reduceToInt] at hk0
          omega
        subst k0
        show _ = fst4 (CX I) (CY I) o 0 s
        rw [hs hz]
        unfold fst4 snt mnI mxI
        dsimp only
        have bX' : -30000 ≤ (CX I o 0).toInt ∧ (CX I o 0).toInt ≤ 30000 := bX
        have bY' : -30000 ≤ (CY I o 0).toInt ∧ (CY I o 0).toInt ≤ 30000 := bY
        rw [if_pos (by rw [lt32]; simp only [Int32.reduceToInt]; omega), if_pos (by rw [lt32]; simp only [Int32.reduceToInt]; omega), if_pos (by rw [lt32]; simp only [Int32.reduceToInt]; omega), if_pos (by rw [lt32]; simp only [Int32.reduceToInt]; omega)]
      · refine ok_f hk0 ⟨_, mst.1, goal2 _ ?_⟩
        rcases hu2 with h | h
        · rw [h]
          rfl
        · exfalso
          apply hk0
          rw [h.1]
          rfl
    · refine ok_f hz ⟨_, mst.1, goal2 _ ?_⟩
      rcases hu2 with h | h
      · rw [h]
        rfl
      · exact absurd h.2 hz
theorem FO_zero {I : xm_I} (hP : IvP I) (g : IvF I) (o : Nat) (ho : (o : Int) ≤ (I 6 9).toInt) : ((FO I o).1 = 0 ∧ (FO I o).2 = snt) ∨ (1 ≤ (FO I o).1.toInt ∧ (FO I o).1.toInt ≤ o ∧ good4 (FO I o).2) := by
  have g40 := g.1
  refine fo4_good (fun o k => (PX_i hP _).2) (fun o k => (PY_i hP _).2) o (fun j hj => ?_) (by omega)
  have := g.ct (vo_n g (o := j) (by omega))
  rw [n32n (by omega)] at this
  exact this.2.1
theorem M_fit_out {I : xm_I} (hP : IvP I) (g : IvF I) : f_M_fit I = if (FO I (Int32.toNatClampNeg (I 6 9))).1 = 0 then some (-100003, I) else some ((FO I (Int32.toNatClampNeg (I 6 9))).1, up2 (up2 (up2 (up2 I 49 15 (FO I (Int32.toNatClampNeg (I 6 9))).2.1) 49 16 (FO I (Int32.toNatClampNeg (I 6 9))).2.2.1) 49 17 (FO I (Int32.toNatClampNeg (I 6 9))).2.2.2.1) 49 18 (FO I (Int32.toNatClampNeg (I 6 9))).2.2.2.2) := by
  have g40 := g.1
  have t := tn32 (x := I 6 9) (by omega)
  have r11 : I 49 11 = I 6 9 := g.2.2.1.1
  have r54 : I 54 = I 7 := g.2.2.1.2.2.1
  have r60 : I 60 = I 12 := g.2.2.1.2.2.2.2.2.1
  unfold f_M_fit f_M_fit_b0 f_M_fit_b15
  have key : ok (lp (f_M_fit_s15 I) (0, 0, 0, 0, 0, 0)) (fun r => some r = if (FO I (Int32.toNatClampNeg (I 6 9))).1 = 0 then some (-100003, I) else some ((FO I (Int32.toNatClampNeg (I 6 9))).1, up2 (up2 (up2 (up2 I 49 15 (FO I (Int32.toNatClampNeg (I 6 9))).2.1) 49 16 (FO I (Int32.toNatClampNeg (I 6 9))).2.2.1) 49 17 (FO I (Int32.toNatClampNeg (I 6 9))).2.2.2.1) 49 18 (FO I (Int32.toNatClampNeg (I 6 9))).2.2.2.2)) := by
    refine lp_inv (fun st => ∃ (o : Nat) (u : S4), (o : Int) ≤ (I 6 9).toInt ∧ st = ((FO I o).1, u.1, u.2.1, u.2.2.1, u.2.2.2, n32 o) ∧ ((FO I o).1 ≠ 0 → u = (FO I o).2)) (fun st => (41 - st.2.2.2.2.2.toInt).toNat) _ ?_ _ ⟨0, (0, 0, 0, 0), by omega, rfl, fun k => absurd rfl k⟩
    intro st ⟨o, u, ho, hst, hu⟩
    subst hst
    have oi : (n32 o).toInt = o := n32i (by omega)
    unfold f_M_fit_s15
    rw [r11, r54, r60]
    refine ok_le (fun hc => ?_) (fun hc => ?_)
    · have hc' : (I 6 9).toInt ≤ (n32 o).toInt := hc
      have e : o = Int32.toNatClampNeg (I 6 9) := by omega
      rw [e] at hu ⊢
      by_cases hz : (FO I (Int32.toNatClampNeg (I 6 9))).1 = 0
      · refine ok_t hz (ok_s ?_)
        show some _ = _
        rw [if_pos hz]
      · refine ok_f hz (ok_s ?_)
        show some _ = _
        rw [if_neg hz, hu hz]
    · have hc' : (n32 o).toInt < (I 6 9).toInt := hc
      have ho' : (o : Int) < (I 6 9).toInt := by omega
      have hx := vo_n g ho'
      have on : Int32.toNatClampNeg (n32 o) = o := n32n (by omega)
      have hct := g.ct hx
      rw [on] at hct
      have es := n32s (k := o) (by omega)
      have dec : (41 - (n32 o + 1).toInt).toNat < (41 - (n32 o).toInt).toNat := by
        rw [i32p (by omega) (by omega)]
        omega
      have hz := FO_zero hP g o ho
      refine ok_g (by rw [oi]; omega) ?_
      rw [on]
      refine ok_g (by omega) ?_
      by_cases hh : I 12 (Int32.toNatClampNeg (I 7 o)) = 0
      · refine ok_t hh ?_
        unfold f_M_fit_b45
        have e := M_fit_in (x1 := (FO I o).1) hP g ho' (FO I o).2 u hu (fun k => by
          rcases hz with h | h
          · exact h.2
          · rw [k] at h
            exact absurd h.1 (by decide))
        refine ⟨_, e, ?_⟩
        have eF : FO I (o + 1) = ((FO I o).1 + 1, fk4 (CX I) (CY I) o (Int32.toNatClampNeg (I 10 o)) (FO I o).2) := by
          unfold FO
          show (if _ then _ else _) = _
          rw [if_pos hh]
        refine ⟨⟨o + 1, (FO I (o + 1)).2, by omega, ?_, fun _ => rfl⟩, ?_⟩
        · rw [eF, es]
        · exact dec
      · refine ok_f hh ?_
        unfold f_M_fit_b180
        have eF : FO I (o + 1) = FO I o := by
          unfold FO
          show (if _ then _ else _) = _
          rw [if_neg hh]
        refine ok_s ⟨⟨o + 1, u, by omega, ?_, ?_⟩, ?_⟩
        · rw [eF, es]
        · rw [eF]
          exact hu
        · exact dec
  obtain ⟨r, h1, h2⟩ := key
  rw [h1]
  exact h2
theorem c_fit {I : xm_I} (hP : IvP I) (g : IvF I) (h : IvW I) : ok (f_D_fit I) (fun p => xl_sc I p.2 ∧ ok (f_M_fit p.2) (fun q => p.1 = q.1 ∧ Fr [15000, 15001, 15002, 15003, 15009, 15010, 50015, 50016, 50017, 50018] I q.2 ∧ IvW q.2)) := by
  have g40 := g.1
  have t := tn32 (x := I 6 9) (by omega)
  refine D_fit_out hP g (fun hz => ⟨⟨rfl, rfl⟩, ?_⟩) (fun hz => ?_)
  · refine ⟨(-100003, I), ?_, rfl, Fr.refl _ _, h⟩
    show f_M_fit I = _
    rw [M_fit_out hP g, if_pos hz]
  · have hg : good4 (FO I (Int32.toNatClampNeg (I 6 9))).2 := by
      rcases FO_zero hP g (Int32.toNatClampNeg (I 6 9)) (by omega) with k | k
      · exact absurd k.1 hz
      · exact k.2.2
    unfold good4 at hg
    refine ok_mono (sw_ok h (by omega) (by omega)) (fun J hJ => ⟨hJ.1, ?_⟩)
    obtain ⟨j1, j2, j3⟩ := hJ
    have hPJ : IvP J := hP.ag (j2.ag _ (by decide))
    have e14 : J 1 4 = I 1 4 := j2 1 4 (by decide)
    have gJ : IvF J := g.ag (by rw [e14]; exact Int.le_refl _) (j2.ag _ (by decide))
    have eFO : FO J (Int32.toNatClampNeg (J 6 9)) = FO I (Int32.toNatClampNeg (I 6 9)) := by
      unfold FO
      rw [CX_ag (j2.ag _ (by decide)), CY_ag (j2.ag _ (by decide)), j2.row 12 rfl (by decide), j2.row 7 rfl (by decide), j2.row 10 rfl (by decide), j2 6 9 (by decide)]
    have eM := M_fit_out hPJ gJ
    rw [eFO, if_neg hz] at eM
    exact ⟨_, eM, rfl, Fr.up (Fr.up (Fr.up (Fr.up (j2.mono (by decide)) (by decide)) (by decide)) (by decide)) (by decide), j3⟩
