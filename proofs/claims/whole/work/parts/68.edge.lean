/-! ===== edges ===== -/
/-- how far a face looks towards the eye -/
def eye (I : xm_I) (s f : Nat) : Int32 :=
  if I 15 2 = 0 then I (86 + 8 * s + 6) f else if I 15 2 = 1 then I (86 + 8 * s + 5) f else if I 15 2 = 2 then I (86 + 8 * s + 4) f else if I 15 2 = 3 then (I (86 + 8 * s + 4) f + I (86 + 8 * s + 5) f) + 2 * I (86 + 8 * s + 6) f else (I (86 + 8 * s + 4) f + I (86 + 8 * s + 5) f) + I (86 + 8 * s + 6) f
theorem e_towardsEye {I : xm_I} {s f : Nat} (hf : f < 10) : f_So_towardsEye (86 + 8 * s) (n32 f) (I 15 2) I = some (eye I s f) := by
  have g : 0 ≤ (n32 f).toInt ∧ (n32 f).toInt < 10 := by rw [n32i (by omega)]; omega
  have kn : Int32.toNatClampNeg (n32 f) = f := n32n (by omega)
  unfold f_So_towardsEye f_So_towardsEye_b0 eye
  simp only [gd_p _ g, kn]
  (repeat' split) <;> rfl
theorem e_less {I : xm_I} {n s f k ax : Nat} {a F K X : Int32} (h : IvS I n) (hs : (s : Int) < (I 15 1).toInt) (hf : (f : Int) < (I (86 + 8 * s) 10).toInt) (ha : a = n32 s) (hF : F = n32 (10 * s + f)) (hK : K = n32 k) (hX : X = n32 ax) (hk : k < 3) (hax : ax < 3) : f_M_less a F K X I = some (dif I s f k ax) := by
  obtain ⟨h1, h2, h3, h4, h5, h6, h7⟩ := h
  obtain ⟨_, ⟨b1, b2, b3⟩, ⟨c1, c2, c3⟩, _⟩ := h6 s hs
  obtain ⟨e1, e2, e3, e4, e5, e6⟩ := c3 f hf
  have n3 : 3 ≤ fz I s f := by
    have := tn32 (x := I 66 (10 * s + f)) (by omega)
    unfold fz
    omega
  have q0 := e2 0 (by omega)
  have qk := e2 k (by omega)
  have k6 := z6
  have k3 := z3
  have k36 : (36 : Int32).toInt = 36 := by decide
  have ai : a.toInt = s := by rw [ha, n32i (by omega)]
  have Fi : F.toInt = ((10 * s + f : Nat) : Int) := by rw [hF, n32i (by omega)]
  have Ki : K.toInt = k := by rw [hK, n32i (by omega)]
  have Xi : X.toInt = ax := by rw [hX, n32i (by omega)]
  have p0 : (6 * F).toInt = 6 * F.toInt := by rw [i32m (by rw [k6]; omega), k6]
  have p1 : (6 * F + K).toInt = 6 * F.toInt + k := by rw [i32a (by omega), p0, Ki]
  have t0 : Int32.toNatClampNeg (6 * F) = 6 * (10 * s + f) + 0 := by
    have := tn32 (x := 6 * F) (by omega)
    omega
  have t1 : Int32.toNatClampNeg (6 * F + K) = 6 * (10 * s + f) + k := by
    have := tn32 (x := 6 * F + K) (by omega)
    omega
  have w0 : (36 * a).toInt = 36 * s := by rw [i32m (by rw [k36]; omega), k36, ai]
  have key : ∀ j, j < 3 → ((36 * a + 3 * fv I s f j) + X).toInt = 36 * s + 3 * (fv I s f j).toInt + ax ∧ Int32.toNatClampNeg ((36 * a + 3 * fv I s f j) + X) = 36 * s + 3 * Int32.toNatClampNeg (fv I s f j) + ax := by
    intro j hj
    have qj := e2 j (by omega)
    have m1 : (3 * fv I s f j).toInt = 3 * (fv I s f j).toInt := by rw [i32m (by rw [k3]; omega), k3]
    have m2 : (36 * a + 3 * fv I s f j).toInt = 36 * s + 3 * (fv I s f j).toInt := by rw [i32a (by omega), w0, m1]
    have m3 : ((36 * a + 3 * fv I s f j) + X).toInt = 36 * s + 3 * (fv I s f j).toInt + ax := by rw [i32a (by omega), m2, Xi]
    refine ⟨m3, ?_⟩
    have := tn32 (x := (36 * a + 3 * fv I s f j) + X) (by omega)
    have := tn32 qj.1
    omega
  obtain ⟨y1, y2⟩ := key 0 (by omega)
  obtain ⟨y3, y4⟩ := key k hk
  have tq0 := tn32 q0.1
  have tqk := tn32 qk.1
  unfold f_M_less f_M_less_b0
  rw [gd_p _ (by omega), t0, gd_p _ (by omega), t1]
  show gd (0 ≤ ((36 * a + 3 * fv I s f k) + X).toInt ∧ ((36 * a + 3 * fv I s f k) + X).toInt < 144) (gd (0 ≤ ((36 * a + 3 * fv I s f 0) + X).toInt ∧ ((36 * a + 3 * fv I s f 0) + X).toInt < 144) (some (I 64 (Int32.toNatClampNeg ((36 * a + 3 * fv I s f k) + X)) - I 64 (Int32.toNatClampNeg ((36 * a + 3 * fv I s f 0) + X))))) = _
  rw [gd_p _ (by omega), gd_p _ (by omega), y2, y4, (b3 _ _ (by omega) hax).1, (b3 _ _ (by omega) hax).1]
  rfl
theorem e_isSeen {I : xm_I} {n s f : Nat} (h : IvS I n) (hs : (s : Int) < (I 15 1).toInt) (hf : (f : Int) < (I (86 + 8 * s) 10).toInt) : f_M_isSeen (n32 s) (n32 (10 * s + f)) I = some (bi (0 < (eye I s f).toInt)) := by
  have h' := h
  obtain ⟨h1, h2, h3, h4, h5, h6, h7⟩ := h'
  obtain ⟨_, _, ⟨c1, c2, c3⟩, _⟩ := h6 s hs
  obtain ⟨_, _, _, e4, e5, e6⟩ := c3 f hf
  unfold f_M_isSeen f_M_isSeen_b0
  rw [e_less h hs hf rfl rfl (show (1 : Int32) = n32 1 from rfl) (show (0 : Int32) = n32 0 from rfl) (by omega) (by omega), e_less h hs hf rfl rfl (show (1 : Int32) = n32 1 from rfl) (show (1 : Int32) = n32 1 from rfl) (by omega) (by omega), e_less h hs hf rfl rfl (show (1 : Int32) = n32 1 from rfl) (show (2 : Int32) = n32 2 from rfl) (by omega) (by omega), e_less h hs hf rfl rfl (show (2 : Int32) = n32 2 from rfl) (show (0 : Int32) = n32 0 from rfl) (by omega) (by omega), e_less h hs hf rfl rfl (show (2 : Int32) = n32 2 from rfl) (show (1 : Int32) = n32 1 from rfl) (by omega) (by omega), e_less h hs hf rfl rfl (show (2 : Int32) = n32 2 from rfl) (show (2 : Int32) = n32 2 from rfl) (by omega) (by omega)]
  simp only [Option.bind_some]
  rw [← e4, ← e5, ← e6, h4]
  have e : ∀ y : Int32, f_M_isSeen_b163 y I = some (bi (0 < y.toInt)) := fun y => by
    unfold f_M_isSeen_b163
    have k0 := z0
    by_cases hy : y ≤ 0
    · rw [if_pos hy, bi_f (by rw [le32] at hy; omega)]
    · rw [if_neg hy, bi_t (by rw [le32] at hy; omega)]
  unfold eye
  rw [e, e, e, e, e]
  (repeat' split) <;> rfl
/-- the faces at a pair, and whether one of them is seen -/
def cntA (I : xm_I) (s p : Nat) : Nat → Nat
  | 0 => 0
  | f + 1 => cntA I s p f + ((bn (I (86 + 8 * s + 7) p)).testBit f).toNat
theorem cntA_pcs (I : xm_I) (s p f : Nat) : cntA I s p f = pcs (bn (I (86 + 8 * s + 7) p)) f := by
  induction f with
  | zero => rfl
  | succ f ih => unfold cntA pcs; rw [ih]
def snA (I : xm_I) (s p g : Nat) : Prop := ∃ f, f < g ∧ (bn (I (86 + 8 * s + 7) p)).testBit f = true ∧ 0 < (eye I s f).toInt
/-- in one face a pair is a side once -/
theorem adj_one {I : xm_I} {s f a b k k' : Nat} (hd : ∀ j k, j < k → k < fz I s f → fv I s f j ≠ fv I s f k) (hp : ∀ k, k < fz I s f → 0 ≤ (fv I s f k).toInt) (h3 : 3 ≤ fz I s f) (hk : k < fz I s f) (hk' : k' < fz I s f) (h : adjk I s f k a b) (h' : adjk I s f k' a b) : k = k' := by
  have inj : ∀ i j, i < fz I s f → j < fz I s f → Int32.toNatClampNeg (fv I s f i) = Int32.toNatClampNeg (fv I s f j) → i = j := by
    intro i j hi hj he
    have e : fv I s f i = fv I s f j := by
      rw [eq32, ← tn32 (hp i hi), ← tn32 (hp j hj), he]
    rcases Nat.lt_trichotomy i j with c | c | c
    · exact absurd e (hd i j c hj)
    · exact c
    · exact absurd e.symm (hd j i c hi)
  have m1 : (k + 1) % fz I s f < fz I s f := Nat.mod_lt _ (by omega)
  have m2 : (k' + 1) % fz I s f < fz I s f := Nat.mod_lt _ (by omega)
  have w1 := nxk_mod hk
  have w2 := nxk_mod hk'
  unfold nxk at w1 w2
  unfold adjk at h h'
  rcases h with ⟨x1, x2⟩ | ⟨x1, x2⟩ <;> rcases h' with ⟨y1, y2⟩ | ⟨y1, y2⟩
  · exact inj k k' hk hk' (by omega)
  · have e1 := inj k _ hk m2 (by omega)
    have e2 := inj _ k' m1 hk' (by omega)
    split at w1 <;> split at w2 <;> omega
  · have e1 := inj k _ hk m2 (by omega)
    have e2 := inj _ k' m1 hk' (by omega)
    split at w1 <;> split at w2 <;> omega
  · exact inj k k' hk hk' (by omega)
