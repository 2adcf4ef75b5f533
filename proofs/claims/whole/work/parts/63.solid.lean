/-! ===== solids: what holds between calls ===== -/
def bn (x : Int32) : Nat := x.toBitVec.toNat
def vtx (I : xm_I) (s v ax : Nat) : Int32 := I (86 + 8 * s + 1 + ax) v
def fv (I : xm_I) (s f k : Nat) : Int32 := I 67 (6 * (10 * s + f) + k)
def fz (I : xm_I) (s f : Nat) : Nat := Int32.toNatClampNeg (I 66 (10 * s + f))
def adjk (I : xm_I) (s f k a b : Nat) : Prop := (Int32.toNatClampNeg (fv I s f k) = a ∧ Int32.toNatClampNeg (fv I s f ((k + 1) % fz I s f)) = b) ∨ (Int32.toNatClampNeg (fv I s f k) = b ∧ Int32.toNatClampNeg (fv I s f ((k + 1) % fz I s f)) = a)
def adjF (I : xm_I) (s f a b : Nat) : Prop := ∃ k, k < fz I s f ∧ adjk I s f k a b
def dif (I : xm_I) (s f k ax : Nat) : Int32 := vtx I s (Int32.toNatClampNeg (fv I s f k)) ax - vtx I s (Int32.toNatClampNeg (fv I s f 0)) ax
def IvFc (I : xm_I) (s f : Nat) : Prop :=
  (3 ≤ (I 66 (10 * s + f)).toInt ∧ (I 66 (10 * s + f)).toInt ≤ 6) ∧ (∀ k, k < fz I s f → 0 ≤ (fv I s f k).toInt ∧ (fv I s f k).toInt < (I (86 + 8 * s) 9).toInt) ∧ (∀ j k, j < k → k < fz I s f → fv I s f j ≠ fv I s f k) ∧
  I (86 + 8 * s + 4) f = dif I s f 1 1 * dif I s f 2 2 - dif I s f 1 2 * dif I s f 2 1 ∧ I (86 + 8 * s + 5) f = dif I s f 1 2 * dif I s f 2 0 - dif I s f 1 0 * dif I s f 2 2 ∧ I (86 + 8 * s + 6) f = dif I s f 1 0 * dif I s f 2 1 - dif I s f 1 1 * dif I s f 2 0
def IvS1 (I : xm_I) (s : Nat) : Prop :=
  (vp I (I (86 + 8 * s) 0) ∧ I 61 s = I (86 + 8 * s) 0 ∧ (1 ≤ (I (86 + 8 * s) 1).toInt ∧ (I (86 + 8 * s) 1).toInt ≤ 50) ∧ I 62 s = I (86 + 8 * s) 1) ∧
  ((0 ≤ (I (86 + 8 * s) 9).toInt ∧ (I (86 + 8 * s) 9).toInt ≤ 12) ∧ I 63 s = I (86 + 8 * s) 9 ∧ ∀ v ax : Nat, (v : Int) < (I (86 + 8 * s) 9).toInt → ax < 3 → I 64 (36 * s + 3 * v + ax) = vtx I s v ax ∧ -100 ≤ (vtx I s v ax).toInt ∧ (vtx I s v ax).toInt ≤ 100) ∧
  ((0 ≤ (I (86 + 8 * s) 10).toInt ∧ (I (86 + 8 * s) 10).toInt ≤ 10) ∧ I 65 s = I (86 + 8 * s) 10 ∧ ∀ f : Nat, (f : Int) < (I (86 + 8 * s) 10).toInt → IvFc I s f) ∧
  (∀ p f : Nat, p < 144 → ((bn (I (86 + 8 * s + 7) p)).testBit f = true ↔ ((f : Int) < (I (86 + 8 * s) 10).toInt ∧ p / 12 < p % 12 ∧ adjF I s f (p / 12) (p % 12))))
def IvS (I : xm_I) (n : Nat) : Prop :=
  (0 ≤ (I 15 1).toInt ∧ (I 15 1).toInt ≤ 4) ∧ I 49 31 = I 15 1 ∧ (0 ≤ (I 15 2).toInt ∧ (I 15 2).toInt ≤ 4) ∧ I 49 32 = I 15 2 ∧ n = 86 + 8 * Int32.toNatClampNeg (I 15 1) ∧
  (∀ s : Nat, (s : Int) < (I 15 1).toInt → IvS1 I s) ∧ (∀ s : Nat, (I 15 1).toInt ≤ (s : Int) → s < 4 → I 63 s = 0 ∧ I 65 s = 0)
/-- one solid stays as it is -/
theorem IvS1.kept {I J : xm_I} {s : Nat} (h : IvS1 I s) (e14 : (I 1 4).toInt ≤ (J 1 4).toInt) (r : ∀ a, 86 + 8 * s ≤ a → a < 86 + 8 * s + 8 → J a = I a) (r61 : J 61 s = I 61 s) (r62 : J 62 s = I 62 s) (r63 : J 63 s = I 63 s) (r65 : J 65 s = I 65 s) (r64 : ∀ j, 36 * s ≤ j → j < 36 * s + 36 → J 64 j = I 64 j) (r66 : ∀ j, 10 * s ≤ j → j < 10 * s + 10 → J 66 j = I 66 j) (r67 : ∀ j, 60 * s ≤ j → j < 60 * s + 60 → J 67 j = I 67 j) : IvS1 J s := by
  obtain ⟨⟨a1, a2, a3, a4⟩, ⟨b1, b2, b3⟩, ⟨c1, c2, c3⟩, d⟩ := h
  have ra := r (86 + 8 * s) (by omega) (by omega)
  have ra4 := r (86 + 8 * s + 4) (by omega) (by omega)
  have ra5 := r (86 + 8 * s + 5) (by omega) (by omega)
  have ra6 := r (86 + 8 * s + 6) (by omega) (by omega)
  have ra7 := r (86 + 8 * s + 7) (by omega) (by omega)
  have rv : ∀ v ax, ax < 3 → vtx J s v ax = vtx I s v ax := fun v ax h => by unfold vtx; rw [r (86 + 8 * s + 1 + ax) (by omega) (by omega)]
  have rf : ∀ f, f < 10 → fz J s f = fz I s f := fun f hf => by unfold fz; rw [r66 _ (by omega) (by omega)]
  have rw7 : ∀ f k, f < 10 → k < 6 → fv J s f k = fv I s f k := fun f k hf hk => by unfold fv; rw [r67 _ (by omega) (by omega)]
  unfold IvS1
  rw [ra, r61, r62, r63, r65]
  refine ⟨⟨⟨a1.1, by have := a1.2; omega⟩, a2, a3, a4⟩, ⟨b1, b2, fun v ax hv hax => ?_⟩, ⟨c1, c2, fun f hf => ?_⟩, fun p f hp => ?_⟩
  · rw [rv v ax hax, r64 _ (by omega) (by omega)]
    exact b3 v ax hv hax
  · obtain ⟨e1, e2, e3, e4, e5, e6⟩ := c3 f hf
    have hf10 : f < 10 := by omega
    have n6 : fz I s f ≤ 6 := by
      have := tn32 (x := I 66 (10 * s + f)) (by omega)
      unfold fz
      omega
    have n3 : 3 ≤ fz I s f := by
      have := tn32 (x := I 66 (10 * s + f)) (by omega)
      unfold fz
      omega
    have rd : ∀ k ax, k < 6 → ax < 3 → dif J s f k ax = dif I s f k ax := fun k ax hk hax => by
      unfold dif
      rw [rw7 f k hf10 hk, rw7 f 0 hf10 (by omega), rv _ _ hax, rv _ _ hax]
    unfold IvFc
    rw [rf f hf10, ra, ra4, ra5, ra6, r66 _ (by omega) (by omega), rd 1 0 (by omega) (by omega), rd 1 1 (by omega) (by omega), rd 1 2 (by omega) (by omega), rd 2 0 (by omega) (by omega), rd 2 1 (by omega) (by omega), rd 2 2 (by omega) (by omega)]
    refine ⟨e1, fun k hk => ?_, fun j k hj hk => ?_, e4, e5, e6⟩
    · rw [rw7 f k hf10 (by omega)]
      exact e2 k hk
    · rw [rw7 f k hf10 (by omega), rw7 f j hf10 (by omega)]
      exact e3 j k hj hk
  · rw [ra7, d p f hp]
    refine and_congr_right fun hf => and_congr_right fun _ => ?_
    obtain ⟨e1, _⟩ := c3 f hf
    have hf10 : f < 10 := by omega
    have n6 : fz I s f ≤ 6 := by
      have := tn32 (x := I 66 (10 * s + f)) (by omega)
      unfold fz
      omega
    have n3 : 3 ≤ fz I s f := by
      have := tn32 (x := I 66 (10 * s + f)) (by omega)
      unfold fz
      omega
    unfold adjF adjk
    rw [rf f hf10]
    refine exists_congr fun k => and_congr_right fun hk => ?_
    have hm : (k + 1) % fz I s f < 6 := Nat.lt_of_lt_of_le (Nat.mod_lt _ (by omega)) n6
    rw [rw7 f k hf10 (by omega), rw7 f _ hf10 hm]
theorem IvS.ag {I J : xm_I} {n : Nat} (h : IvS I n) (e14 : (I 1 4).toInt ≤ (J 1 4).toInt) (g : Ag [16001, 16002, 50031, 50032, 61, 62, 63, 64, 65, 66, 67, 86, 87, 88, 89, 90, 91, 92, 93, 94, 95, 96, 97, 98, 99, 100, 101, 102, 103, 104, 105, 106, 107, 108, 109, 110, 111, 112, 113, 114, 115, 116, 117] I J) : IvS J n := by
  obtain ⟨h1, h2, h3, h4, h5, h6, h7⟩ := h
  have r61 := g.row 61 rfl (by decide)
  have r62 := g.row 62 rfl (by decide)
  have r63 := g.row 63 rfl (by decide)
  have r64 := g.row 64 rfl (by decide)
  have r65 := g.row 65 rfl (by decide)
  have r66 := g.row 66 rfl (by decide)
  have r67 := g.row 67 rfl (by decide)
  unfold IvS
  rw [g 15 1 (by decide), g 15 2 (by decide), g 49 31 (by decide), g 49 32 (by decide), r63, r65]
  refine ⟨h1, h2, h3, h4, h5, fun s hs => (h6 s hs).kept e14 (fun a ha ha' => ?_) (by rw [r61]) (by rw [r62]) (by rw [r63]) (by rw [r65]) (fun j _ _ => by rw [r64]) (fun j _ _ => by rw [r66]) (fun j _ _ => by rw [r67]), h7⟩
  have hc : ∀ x : Fin 32, [0, 1, 6, 14, 15, 17, 21, 25, 30, 38, 39, 49].contains (86 + x.val) = false ∧ 86 + x.val ∈ [16001, 16002, 50031, 50032, 61, 62, 63, 64, 65, 66, 67, 86, 87, 88, 89, 90, 91, 92, 93, 94, 95, 96, 97, 98, 99, 100, 101, 102, 103, 104, 105, 106, 107, 108, 109, 110, 111, 112, 113, 114, 115, 116, 117] := by decide
  have := hc ⟨a - 86, by omega⟩
  simp only [] at this
  have e : 86 + (a - 86) = a := by omega
  rw [e] at this
  exact g.row a this.1 this.2
/-- what a call on the solid at r leaves alone -/
def FrS (W : List Nat) (r : Nat) (I J : xm_I) : Prop := ∀ a k, cd a k ∉ W → ¬ (r ≤ a ∧ a < r + 8) → J a k = I a k
theorem cd_mid {a : Nat} (h1 : 86 ≤ a) (h2 : a < 1000) (k : Nat) : cd a k = a := by
  refine cd_row ?_ k
  simp only [List.contains_cons, List.contains_nil, Bool.or_false, Bool.or_eq_false_iff, beq_eq_false_iff_ne]
  omega
theorem FrS.ag {W : List Nat} {r : Nat} {I J : xm_I} (h : FrS W r I J) (hr : 86 ≤ r ∧ r + 8 ≤ 1000) (S : List Nat) (hd : ∀ x ∈ S, x ∉ W ∧ (x < 86 ∨ 1000 ≤ x)) : Ag S I J := by
  intro a k hs
  refine h a k (hd _ hs).1 fun hh => ?_
  have e := cd_mid (a := a) (by omega) (by omega) k
  rw [e] at hs
  have := (hd _ hs).2
  omega
theorem FrS.up {W : List Nat} {r : Nat} {I J : xm_I} {c k : Nat} {v : Int32} (h : FrS W r I J) (hw : cd c k ∈ W ∨ (r ≤ c ∧ c < r + 8)) : FrS W r I (up2 J c k v) := by
  intro a j h1 h2
  have : ¬ (a = c ∧ j = k) := by
    rintro ⟨rfl, rfl⟩
    rcases hw with hw | hw
    · exact h1 hw
    · exact h2 hw
  simp only [up2, if_neg this]
  exact h a j h1 h2
theorem FrS.refl (W : List Nat) (r : Nat) (I : xm_I) : FrS W r I I := fun _ _ _ _ => rfl
theorem FrS.trans {W : List Nat} {r : Nat} {I J K : xm_I} (h : FrS W r I J) (h' : FrS W r J K) : FrS W r I K := fun a k h1 h2 => (h' a k h1 h2).trans (h a k h1 h2)
theorem FrS.row {W : List Nat} {r : Nat} {I J : xm_I} (h : FrS W r I J) (c : Nat) (hc : [0, 1, 6, 14, 15, 17, 21, 25, 30, 38, 39, 49].contains c = false) (hw : c ∉ W) (hr : ¬ (r ≤ c ∧ c < r + 8)) : J c = I c := funext fun k => h c k (by rw [cd_row hc]; exact hw) hr
theorem e_Ss_isFull (I : xm_I) : f_Ss_isFull I = some (bi (4 ≤ (I 15 1).toInt)) := by
  unfold f_Ss_isFull f_Ss_isFull_b0
  simp only [lt32, le32, Int32.reduceToInt]
  (repeat' split) <;> first | rw [bi_t (by omega)] | rw [bi_f (by omega)]
theorem e_M_isSolid (x : Int32) (I : xm_I) : f_M_isSolid x I = some (bi (0 ≤ x.toInt ∧ x.toInt < (I 49 31).toInt)) := by
  unfold f_M_isSolid f_M_isSolid_b0
  simp only [lt32, le32, Int32.reduceToInt]
  (repeat' split) <;> first | rw [bi_t (by omega)] | rw [bi_f (by omega)]
theorem e_So_verticesAreFull (r : Nat) (I : xm_I) : f_So_verticesAreFull r I = some (bi (12 ≤ (I r 9).toInt)) := by
  unfold f_So_verticesAreFull f_So_verticesAreFull_b0
  simp only [lt32, le32, Int32.reduceToInt]
  (repeat' split) <;> first | rw [bi_t (by omega)] | rw [bi_f (by omega)]
theorem e_So_facesAreFull (r : Nat) (I : xm_I) : f_So_facesAreFull r I = some (bi (10 ≤ (I r 10).toInt)) := by
  unfold f_So_facesAreFull f_So_facesAreFull_b0
  simp only [lt32, le32, Int32.reduceToInt]
  (repeat' split) <;> first | rw [bi_t (by omega)] | rw [bi_f (by omega)]
theorem e_Ss_find {I : xm_I} {n : Nat} {x : Int32} (h : IvS I n) (hx : 0 ≤ x.toInt ∧ x.toInt < (I 15 1).toInt) : f_Ss_find x n I = some (some (86 + 8 * Int32.toNatClampNeg x)) ∧ xm_sd n (86 + 8 * Int32.toNatClampNeg x) := by
  obtain ⟨h1, h2, h3, h4, h5, h6, h7⟩ := h
  have t1 := tn32 h1.1
  have t2 := tn32 hx.1
  constructor
  · unfold f_Ss_find f_Ss_find_b0
    rw [if_neg (by rw [lt32]; simp only [Int32.reduceToInt]; omega), if_neg (by rw [le32]; omega), if_neg (by rw [le32]; simp only [Int32.reduceToInt]; omega), gd_p _ (by omega)]
    congr 1
    unfold RC
    rw [if_pos (by decide), if_pos rfl, if_pos (by omega)]
  · refine ⟨by omega, by omega, by omega⟩
theorem e_Ss_none {I : xm_I} {n : Nat} {x : Int32} (h : ¬ (0 ≤ x.toInt ∧ x.toInt < (I 15 1).toInt)) : f_Ss_find x n I = some none := by
  unfold f_Ss_find f_Ss_find_b0
  by_cases h0 : x.toInt < 0
  · rw [if_pos (by rw [lt32]; simp only [Int32.reduceToInt]; omega)]
  · rw [if_neg (by rw [lt32]; simp only [Int32.reduceToInt]; omega), if_pos (by rw [le32]; omega)]
theorem c_view {x : Int32} {I : xm_I} {n : Nat} (h : IvS I n) : ok (f_D_view x I) (fun p => xl_sc I p.2 ∧ ok (f_M_view x p.2) (fun q => p.1 = q.1 ∧ Fr [16002, 50032] I q.2 ∧ IvS q.2 n)) := by
  have h' := h
  obtain ⟨h1, h2, h3, h4, h5, h6, h7⟩ := h'
  unfold f_D_view f_D_view_b0 f_M_view f_M_view_b0
  repeat' first | with_reducible refine ok_e (e_D_isWithin _ _ _) ?_ | with_reducible refine ok_e (e_M_in _ _ _) ?_ | (with_reducible refine ok_ib (fun _ => ?_) (fun _ => ?_) <;> try (exfalso; first | omega | (simp (disch := decide) only [Int32.reduceToInt, Int64.reduceToInt, i64of, up2_self, up2_ne, up2_nk] at *; omega))) | (with_reducible refine ok_lt (fun _ => ?_) (fun _ => ?_) <;> try (exfalso; first | omega | (simp (disch := decide) only [Int32.reduceToInt, Int64.reduceToInt, i64of, up2_self, up2_ne, up2_nk] at *; omega))) | (with_reducible refine ok_le (fun _ => ?_) (fun _ => ?_) <;> try (exfalso; first | omega | (simp (disch := decide) only [Int32.reduceToInt, Int64.reduceToInt, i64of, up2_self, up2_ne, up2_nk] at *; omega))) | (with_reducible refine ok_iq (fun _ => ?_) (fun _ => ?_) <;> try (exfalso; first | omega | (simp (disch := decide) only [Int32.reduceToInt, Int64.reduceToInt, i64of, up2_self, up2_ne, up2_nk] at *; omega))) | (with_reducible refine ok_s ?_; try dsimp only) | with_reducible refine ok_b ?_ | refine x_sc ⟨rfl, rfl⟩ ?_ | fail
  all_goals try simp (disch := decide) only [Int32.reduceToInt, Int64.reduceToInt, i64of, up2_self, up2_ne, up2_nk] at *
  all_goals first | (exfalso; omega) | exact ⟨trivial, Fr.refl _ _, h⟩ | skip
  refine ⟨h4.symm, by (repeat first | exact Fr.refl _ _ | refine Fr.upA ?_ (by decide) (by decide) | refine Fr.up ?_ (by decide)), h1, h2, by assumption, rfl, h5, fun s hs => (h6 s hs).kept (Int.le_refl _) (fun a ha ha' => ?_) rfl rfl rfl rfl (fun _ _ _ => rfl) (fun _ _ _ => rfl) (fun _ _ _ => rfl), h7⟩
  rw [up2_row _ _ _ _ _ (by omega), up2_row _ _ _ _ _ (by omega)]
theorem c_solid {x y : Int32} {I : xm_I} {L : xm_L} {n : Nat} (hP : IvP I) (h : IvS I n) (hz : ∀ a, n ≤ a → a < 1000 → ∀ k, I a k = 0) : ok (f_D_solid x y n I) (fun p => xl_sc I p.2.1 ∧ 86 ≤ p.2.2 ∧ ok (f_M_solid x y p.2.1) (fun q => p.1 = q.1 ∧ n ≤ p.2.2 ∧ p.2.2 ≤ 118 ∧ FrS [16001, 61, 62, 50031] n I q.2 ∧ IvS q.2 p.2.2 ∧ (p.2.2 = n → q.2 = I) ∧ (∀ a, p.2.2 ≤ a → a < 1000 → ∀ k, q.2 a k = 0))) := by
  have h' := h
  obtain ⟨h1, h2, h3, h4, h5, h6, h7⟩ := h'
  have k0 := z0
  have k4 := z4
  have t1 := tn32 h1.1
  have e4' : (I 49 4).toInt = (I 1 4).toInt := by rw [hP.2.2.1.1]
  have h60 := hP.1
  have h2' : (I 49 31).toInt = (I 15 1).toInt := by rw [h2]
  have triv : ∀ v : Int32, ∀ o : Option (Int32 × xm_I), o = some (v, I) → xl_sc I (v, I, n).2.1 ∧ 86 ≤ (v, I, n).2.2 ∧ ok o (fun q => (v, I, n).1 = q.1 ∧ n ≤ (v, I, n).2.2 ∧ (v, I, n).2.2 ≤ 118 ∧ FrS [16001, 61, 62, 50031] n I q.2 ∧ IvS q.2 (v, I, n).2.2 ∧ ((v, I, n).2.2 = n → q.2 = I) ∧ (∀ a, (v, I, n).2.2 ≤ a → a < 1000 → ∀ k, q.2 a k = 0)) := by
    intro v o ho
    refine ⟨⟨rfl, rfl⟩, by show 86 ≤ n; omega, (v, I), ho, rfl, Nat.le_refl n, by show n ≤ 118; omega, FrS.refl _ _ _, h, fun _ => rfl, hz⟩
  unfold f_D_solid
  refine ok_e (e_Pt_has _ _) (ok_ib (fun hc => ok_s (triv _ _ ?_)) (fun hc => ?_))
  · unfold f_M_solid f_M_solid_b0
    show (f_M_isPoint x I).bind _ = _
    rw [e_M_isPoint, bi_f (by omega)]
    rfl
  have hpt : f_M_isPoint x I = some 1 := by rw [e_M_isPoint, bi_t (by omega)]
  refine ok_e (e_D_isWithin _ _ _) (ok_ib (fun hd => ok_s (triv _ _ ?_)) (fun hd => ?_))
  · simp only [Int32.reduceToInt] at hd
    unfold f_M_solid f_M_solid_b0
    show (f_M_isPoint x I).bind _ = _
    rw [hpt]
    show (f_M_in _ _ _).bind _ = _
    rw [e_M_in, bi_f (by simp only [Int64.reduceToInt, i64of]; exact hd)]
    rfl
  simp only [Int32.reduceToInt] at hd
  have hin : f_M_in y.toInt64 1 50 = some 1 := by rw [e_M_in, bi_t (by simp only [Int64.reduceToInt, i64of]; exact hd)]
  refine ok_e (e_Ss_isFull _) (ok_ib (fun hf => ?_) (fun hf => ok_s (triv _ _ ?_)))
  · unfold f_Ss_add
    refine ok_b (ok_f (by rw [le32]; omega) (ok_g ⟨by omega, by omega, h5⟩ (ok_s (ok_s ⟨⟨?_, ?_⟩, ?_, ?_⟩))))
    · show (up2 (up2 (up2 I n 0 x) n 1 y) 15 1 (I 15 1 + 1)) 1000000 = I 1000000
      rw [up2_row _ _ _ _ _ (by decide), up2_row _ _ _ _ _ (by omega), up2_row _ _ _ _ _ (by omega)]
    · show (up2 (up2 (up2 I n 0 x) n 1 y) 15 1 (I 15 1 + 1)) 1000001 = I 1000001
      rw [up2_row _ _ _ _ _ (by decide), up2_row _ _ _ _ _ (by omega), up2_row _ _ _ _ _ (by omega)]
    · show 86 ≤ n + 8
      omega
    · generalize hJ : up2 (up2 (up2 I n 0 x) n 1 y) 15 1 (I 15 1 + 1) = J
      have fJ : FrS [16001] n I J := by
        rw [← hJ]
        exact FrS.up (FrS.up (FrS.up (FrS.refl _ _ _) (Or.inr ⟨by omega, by omega⟩)) (Or.inr ⟨by omega, by omega⟩)) (Or.inl (by decide))
      have c4 : J 49 4 = I 49 4 := fJ 49 4 (by decide) (by omega)
      have c31 : J 49 31 = I 49 31 := fJ 49 31 (by decide) (by omega)
      have c151 : J 15 1 = I 15 1 + 1 := by rw [← hJ]; exact up2_self _ _ _ _
      have cn0 : J n 0 = x := by rw [← hJ, up2_ne _ _ _ _ _ _ (by omega), up2_nk _ _ _ _ _ (by omega), up2_self]
      have cn1 : J n 1 = y := by rw [← hJ, up2_ne _ _ _ _ _ _ (by omega), up2_self]
      have cnz : ∀ k, 2 ≤ k → J n k = 0 := fun k hk => by rw [← hJ, up2_ne _ _ _ _ _ _ (by omega), up2_nk _ _ _ _ _ (by omega), up2_nk _ _ _ _ _ (by omega)]; exact hz n (by omega) (by omega) k
      have crz : ∀ a, n < a → a < 1000 → ∀ k, J a k = 0 := fun a ha ha' k => by rw [← hJ, up2_ne _ _ _ _ _ _ (by omega), up2_ne _ _ _ _ _ _ (by omega), up2_ne _ _ _ _ _ _ (by omega)]; exact hz a (by omega) ha' k
      have hpt' : f_M_isPoint x J = some 1 := by rw [e_M_isPoint, c4, bi_t (by omega)]
      unfold f_M_solid f_M_solid_b0
      refine ok_e hpt' (ok_f (by decide) (ok_e hin (ok_f (by decide) ?_)))
      dsimp only
      refine ok_f (by rw [c31, h2, eq32]; omega) (ok_g (by rw [c31, h2]; omega) (ok_g ?_ (ok_s ?_)))
      · rw [up2_ne _ _ _ _ _ _ (by decide), c31, h2]
        omega
      · simp (disch := decide) only [up2_self, up2_ne]
        rw [c31, h2]
        have es : (I 15 1 + 1).toInt = (I 15 1).toInt + 1 := i32p (by omega) (by omega)
        have en : n + 8 = 86 + 8 * Int32.toNatClampNeg (I 15 1 + 1) := by
          have := tn32 (x := I 15 1 + 1) (by omega)
          omega
        generalize hm : Int32.toNatClampNeg (I 15 1) = m at *
        have fK : FrS [16001, 61, 62, 50031] n I (up2 (up2 (up2 J 61 m x) 62 m y) 49 31 (I 15 1 + 1)) := FrS.up (FrS.up (FrS.up (fun a k h1 h2 => fJ a k (fun h3 => h1 (by simp only [List.mem_cons, List.not_mem_nil, or_false] at h3 ⊢; omega)) h2) (Or.inl (by rw [cd_row rfl]; decide))) (Or.inl (by rw [cd_row rfl]; decide))) (Or.inl (by decide))
        generalize hK : up2 (up2 (up2 J 61 m x) 62 m y) 49 31 (I 15 1 + 1) = K at *
        have kr : ∀ a, a ≠ 61 → a ≠ 62 → a ≠ 49 → K a = J a := fun a ha hb hc => by rw [← hK, up2_row _ _ _ _ _ hc, up2_row _ _ _ _ _ hb, up2_row _ _ _ _ _ ha]
        have k61 : K 61 = upd (I 61) m x := by
          rw [← hK, up2_row _ _ _ _ _ (by decide), up2_row _ _ _ _ _ (by decide), up2_upd, fJ.row 61 rfl (by decide) (by omega)]
        have k62 : K 62 = upd (I 62) m y := by
          rw [← hK, up2_row _ _ _ _ _ (by decide), up2_upd, up2_row _ _ _ _ _ (by decide), fJ.row 62 rfl (by decide) (by omega)]
        have k63 : K 63 = I 63 := fK.row 63 rfl (by decide) (by omega)
        have k64 : K 64 = I 64 := fK.row 64 rfl (by decide) (by omega)
        have k65 : K 65 = I 65 := fK.row 65 rfl (by decide) (by omega)
        have k66 : K 66 = I 66 := fK.row 66 rfl (by decide) (by omega)
        have k67 : K 67 = I 67 := fK.row 67 rfl (by decide) (by omega)
        have c14 : K 1 4 = I 1 4 := fK 1 4 (by decide) (by omega)
        refine ⟨?_, by omega, by omega, fK, ⟨?_, ?_, ?_, ?_, ?_, ?_, ?_⟩, fun hh => by omega, fun a ha ha' k => ?_⟩
        · rw [Int32.add_sub_cancel]
        · rw [kr 15 (by decide) (by decide) (by decide), c151]
          omega
        · rw [kr 15 (by decide) (by decide) (by decide), c151, ← hK, up2_self]
        · rw [fK 15 2 (by decide) (by omega)]
          exact h3
        · rw [fK 15 2 (by decide) (by omega), fK 49 32 (by decide) (by omega)]
          exact h4
        · rw [kr 15 (by decide) (by decide) (by decide), c151]
          exact en
        · intro s hs
          rw [kr 15 (by decide) (by decide) (by decide), c151] at hs
          by_cases he : s = m
          · subst he
            have er : 86 + 8 * s = n := h5.symm
            have z9 : K n 9 = 0 := by rw [kr n (by omega) (by omega) (by omega)]; exact cnz 9 (by omega)
            have z10' : K n 10 = 0 := by rw [kr n (by omega) (by omega) (by omega)]; exact cnz 10 (by omega)
            unfold IvS1
            rw [er, z9, z10', kr n (by omega) (by omega) (by omega), cn0, cn1, k61, k62, upd_at, upd_at, k63, k65]
            obtain ⟨w1, w2⟩ := h7 s (by omega) (by omega)
            rw [w1, w2]
            refine ⟨⟨⟨hc.1, by rw [c14]; omega⟩, rfl, hd, rfl⟩, ⟨by decide, rfl, fun v ax hv => ?_⟩, ⟨by decide, rfl, fun f hf => ?_⟩, fun p f hp => ?_⟩
            · exfalso
              rw [k0] at hv
              omega
            · exfalso
              rw [k0] at hf
              omega
            · have e0 : K (n + 7) p = 0 := by rw [kr (n + 7) (by omega) (by omega) (by omega)]; exact crz (n + 7) (by omega) (by omega) p
              rw [e0]
              have b0 : bn 0 = 0 := rfl
              rw [b0, Nat.zero_testBit]
              constructor
              · intro hh; cases hh
              · intro hh
                have := hh.1
                rw [k0] at this
                omega
          · have hlt : s < m := by omega
            refine (h6 s (by omega)).kept (by rw [c14]; exact Int.le_refl _) (fun a ha ha' => ?_) (by rw [k61, upd_ne _ _ _ _ he]) (by rw [k62, upd_ne _ _ _ _ he]) (by rw [k63]) (by rw [k65]) (fun j _ _ => by rw [k64]) (fun j _ _ => by rw [k66]) (fun j _ _ => by rw [k67])
            funext k
            exact fK a k (by rw [cd_mid (by omega) (by omega)]; simp only [List.mem_cons, List.not_mem_nil, or_false]; omega) (by omega)
        · intro s hs hs4
          rw [kr 15 (by decide) (by decide) (by decide), c151] at hs
          rw [k63, k65]
          exact h7 s (by omega) hs4
        · rw [kr a (by omega) (by omega) (by omega)]
          exact crz a (by omega) ha' k
  · unfold f_M_solid f_M_solid_b0
    show (f_M_isPoint x I).bind _ = _
    rw [hpt]
    show (f_M_in _ _ _).bind _ = _
    rw [hin]
    show (if I 49 31 = 4 then _ else _) = _
    rw [if_pos (by rw [eq32]; omega)]
