/-! ===== a face more ===== -/
theorem bn_or (x y : Int32) : bn (x ||| y) = bn x ||| bn y := BitVec.toNat_or ..
theorem bn_and (x y : Int32) : bn (x &&& y) = bn x &&& bn y := BitVec.toNat_and ..
theorem bn_lt (x : Int32) : bn x < 4294967296 := x.toBitVec.isLt
theorem bn_i {x : Int32} (h : bn x < 2147483648) : x.toInt = (bn x : Int) := BitVec.toInt_eq_toNat_of_lt (show 2 * x.toBitVec.toNat < 2 ^ 32 by unfold bn at h; omega)
theorem bn_of {x : Int32} (h : 0 ≤ x.toInt) : (bn x : Int) = x.toInt := by
  have e : x.toInt = x.toBitVec.toInt := rfl
  have e2 := BitVec.toInt_eq_toNat_cond (x := x.toBitVec)
  have := bn_lt x
  unfold bn at *
  rw [e] at h ⊢
  rw [e2] at h ⊢
  split at h
  · rename_i hc; rw [if_pos hc]
  · omega
theorem bn_tn {x : Int32} (h : 0 ≤ x.toInt) : bn x = Int32.toNatClampNeg x := by
  have h1 := bn_of h
  have h2 := tn32 h
  omega
theorem bn_inj {x y : Int32} (h : bn x = bn y) : x = y := Int32.toBitVec_inj.1 (BitVec.eq_of_toNat_eq h)
theorem bn_one {t : Nat} (h : t < 16) : bn ((1 : Int32) <<< (n32 t &&& 31)) = 2 ^ t := by
  have : ∀ t : Fin 16, bn ((1 : Int32) <<< (n32 t.val &&& 31)) = 2 ^ t.val := by decide
  exact this ⟨t, h⟩
theorem bn_shr {x : Int32} {t : Nat} (h : t < 16) (hx : bn x < 2147483648) : bn (x >>> (n32 t &&& 31)) = bn x >>> t := by
  have hm : x.toBitVec.msb = false := by
    rw [BitVec.msb_eq_false_iff_two_mul_lt]
    unfold bn at hx
    omega
  have key : (x >>> (n32 t &&& 31)).toBitVec = x.toBitVec.sshiftRight t := by
    have : t = 0 ∨ t = 1 ∨ t = 2 ∨ t = 3 ∨ t = 4 ∨ t = 5 ∨ t = 6 ∨ t = 7 ∨ t = 8 ∨ t = 9 ∨ t = 10 ∨ t = 11 ∨ t = 12 ∨ t = 13 ∨ t = 14 ∨ t = 15 := by omega
    rcases this with rfl | rfl | rfl | rfl | rfl | rfl | rfl | rfl | rfl | rfl | rfl | rfl | rfl | rfl | rfl | rfl <;> rfl
  unfold bn
  rw [key, BitVec.sshiftRight_eq_of_msb_false hm, BitVec.toNat_ushiftRight]
theorem and15 (y : Int32) : 0 ≤ (y &&& 15).toInt ∧ (y &&& 15).toInt ≤ 15 := by
  have h : bn (y &&& 15) ≤ 15 := by
    rw [bn_and]
    exact Nat.and_le_right
  rw [bn_i (by omega)]
  omega
/-! bits counted -/
def pcs (x : Nat) : Nat → Nat
  | 0 => 0
  | i + 1 => pcs x i + (x.testBit i).toNat
theorem pc16_pcs (x : Nat) : pc16 x = pcs x 16 := by
  have e : ∀ i, (x >>> i &&& 1) = (x.testBit i).toNat := fun i => by
    rw [Nat.toNat_testBit, Nat.and_one_is_mod, Nat.shiftRight_eq_div_pow]
  have e0 : (x &&& 1) = (x.testBit 0).toNat := by
    have := e 0
    rwa [Nat.shiftRight_zero] at this
  unfold pc16
  rw [e0, e 1, e 2, e 3, e 4, e 5, e 6, e 7, e 8, e 9, e 10, e 11, e 12, e 13, e 14, e 15]
  simp only [pcs, Nat.zero_add]
theorem pcs_add (x v n : Nat) : pcs (x ||| 2 ^ v) n = pcs x n + (if v < n ∧ x.testBit v = false then 1 else 0) := by
  induction n with
  | zero => rfl
  | succ n ih =>
    unfold pcs
    rw [ih, Nat.testBit_or, Nat.testBit_two_pow]
    by_cases h1 : v = n
    · subst h1
      rw [if_neg (by omega)]
      cases hb : x.testBit v with
      | true => simp
      | false => simp
    · by_cases h2 : v < n
      · by_cases h3 : x.testBit v = false
        · rw [if_pos ⟨h2, h3⟩, if_pos ⟨by omega, h3⟩]
          simp [h1]
          omega
        · rw [if_neg (fun k => h3 k.2), if_neg (fun k => h3 k.2)]
          simp [h1]
      · rw [if_neg (fun k => h2 k.1), if_neg (fun k => by omega)]
        simp [h1]
theorem bc_pcs {x : Int32} (h : bn x < 65536) : bcI x = n32 (pcs (bn x) 16) := by
  have h1 := bc_at (bn x / 256) (bn x % 256) (by omega) (by omega)
  unfold bcOk at h1
  have e : 256 * (bn x / 256) + bn x % 256 = bn x := by omega
  rw [e, beq_iff_eq, pc16_pcs] at h1
  have ex : Int32.ofNat (bn x) = x := by
    apply bn_inj
    show (BitVec.ofNat 32 (bn x)).toNat = bn x
    rw [BitVec.toNat_ofNat]
    exact Nat.mod_eq_of_lt (bn_lt x)
  rw [ex] at h1
  apply bn_inj
  have hb : ∀ n, pcs (bn x) n ≤ n := by
    intro n
    induction n with
    | zero => exact Nat.le_refl _
    | succ n ih =>
      unfold pcs
      have := Bool.toNat_le ((bn x).testBit n)
      omega
  have := hb 16
  show _ = (BitVec.ofNat 32 (pcs (bn x) 16)).toNat
  rw [BitVec.toNat_ofNat, Nat.mod_eq_of_lt (by omega)]
  exact h1
/-! the vertices that a face names -/
def wv (v : Int32) (k : Nat) : Int32 := (v >>> ((4 * n32 k) &&& 31)) &&& 15
theorem wv_b (v : Int32) (k : Nat) : 0 ≤ (wv v k).toInt ∧ (wv v k).toInt ≤ 15 := and15 _
theorem e_So_vertexIn (v : Int32) (k : Nat) : f_So_vertexIn v (n32 k) = some (wv v k) := rfl
def mkv (v : Int32) : Nat → Int32
  | 0 => 0
  | k + 1 => mkv v k ||| (1 <<< (wv v k &&& 31))
def dist (v : Int32) (n : Nat) : Prop := ∀ i j, i < j → j < n → wv v i ≠ wv v j
theorem wv_n (v : Int32) (k : Nat) : wv v k = n32 (Int32.toNatClampNeg (wv v k)) := (n32x (wv_b v k).1).symm
theorem wv_t (v : Int32) (k : Nat) : Int32.toNatClampNeg (wv v k) < 16 := by
  have := tn32 (wv_b v k).1
  have := wv_b v k
  omega
theorem mkv_bit (v : Int32) (k i : Nat) : (bn (mkv v k)).testBit i = true ↔ ∃ j, j < k ∧ Int32.toNatClampNeg (wv v j) = i := by
  induction k with
  | zero =>
    have : bn (mkv v 0) = 0 := rfl
    rw [this, Nat.zero_testBit]
    constructor
    · intro h; cases h
    · rintro ⟨j, hj, _⟩; omega
  | succ k ih =>
    show (bn (mkv v k ||| (1 <<< (wv v k &&& 31)))).testBit i = true ↔ _
    have e : bn ((1 : Int32) <<< (wv v k &&& 31)) = 2 ^ Int32.toNatClampNeg (wv v k) := by
      rw [wv_n v k, bn_one (wv_t v k), n32n (by have := wv_t v k; omega)]
    rw [bn_or, e, Nat.testBit_or, Nat.testBit_two_pow, Bool.or_eq_true, decide_eq_true_iff, ih]
    constructor
    · rintro (⟨j, hj, h⟩ | h)
      · exact ⟨j, by omega, h⟩
      · exact ⟨k, by omega, h⟩
    · rintro ⟨j, hj, h⟩
      by_cases hk : j = k
      · exact Or.inr (by rw [← hk]; exact h)
      · exact Or.inl ⟨j, by omega, h⟩
theorem mkv_lt (v : Int32) (k : Nat) : bn (mkv v k) < 65536 := by
  refine Nat.lt_pow_two_of_testBit (n := 16) _ fun i hi => ?_
  cases hb : (bn (mkv v k)).testBit i with
  | false => rfl
  | true =>
    obtain ⟨j, _, hj⟩ := (mkv_bit v k i).mp hb
    have := wv_t v j
    omega
theorem wv_eq {v : Int32} {i j : Nat} (h : Int32.toNatClampNeg (wv v i) = Int32.toNatClampNeg (wv v j)) : wv v i = wv v j := by
  rw [wv_n v i, wv_n v j, h]
/-- one more vertex is new, or not -/
theorem dist_succ (v : Int32) (k : Nat) : dist v (k + 1) ↔ dist v k ∧ (bn (mkv v k)).testBit (Int32.toNatClampNeg (wv v k)) = false := by
  constructor
  · intro h
    refine ⟨fun i j hi hj => h i j hi (by omega), ?_⟩
    cases hb : (bn (mkv v k)).testBit (Int32.toNatClampNeg (wv v k)) with
    | false => rfl
    | true =>
      obtain ⟨j, hj, e⟩ := (mkv_bit v k _).mp hb
      exact absurd (wv_eq e) (h j k hj (by omega))
  · rintro ⟨h1, h2⟩ i j hi hj
    by_cases hk : j = k
    · subst hk
      intro he
      have : (bn (mkv v j)).testBit (Int32.toNatClampNeg (wv v j)) = true := (mkv_bit v j _).mpr ⟨i, hi, by rw [he]⟩
      rw [this] at h2
      cases h2
    · exact h1 i j hi (by omega)
theorem mkv_cnt (v : Int32) (k : Nat) : (pcs (bn (mkv v k)) 16 = k ∧ dist v k) ∨ (pcs (bn (mkv v k)) 16 < k ∧ ¬ dist v k) := by
  induction k with
  | zero =>
    left
    have e : bn (mkv v 0) = 0 := rfl
    exact ⟨by rw [e]; decide, fun i j _ hj => by omega⟩
  | succ k ih =>
    have e : bn (mkv v (k + 1)) = bn (mkv v k) ||| 2 ^ Int32.toNatClampNeg (wv v k) := by
      show bn (mkv v k ||| (1 <<< (wv v k &&& 31))) = _
      have e : bn ((1 : Int32) <<< (wv v k &&& 31)) = 2 ^ Int32.toNatClampNeg (wv v k) := by
        rw [wv_n v k, bn_one (wv_t v k), n32n (by have := wv_t v k; omega)]
      rw [bn_or, e]
    rw [e, pcs_add, dist_succ]
    have ht := wv_t v k
    cases hb : (bn (mkv v k)).testBit (Int32.toNatClampNeg (wv v k)) with
    | false =>
      rw [if_pos ⟨ht, rfl⟩]
      rcases ih with ⟨h1, h2⟩ | ⟨h1, h2⟩
      · exact Or.inl ⟨by omega, h2, rfl⟩
      · exact Or.inr ⟨by omega, fun h => h2 h.1⟩
    | true =>
      rw [if_neg (fun h => by cases h.2)]
      right
      refine ⟨?_, fun h => by cases h.2⟩
      rcases ih with ⟨h1, h2⟩ | ⟨h1, h2⟩ <;> omega
theorem e_hasOneTwice {x v : Int32} (hx : 3 ≤ x.toInt ∧ x.toInt ≤ 6) : ok (f_So_hasOneTwice x v) (fun r => (r = 0 ∧ dist v (Int32.toNatClampNeg x)) ∨ (r = 1 ∧ ¬ dist v (Int32.toNatClampNeg x))) := by
  have t := tn32 (x := x) (by omega)
  unfold f_So_hasOneTwice f_So_hasOneTwice_b0 f_So_hasOneTwice_b4
  refine lp_inv (fun s => ∃ k : Nat, k ≤ Int32.toNatClampNeg x ∧ s = (mkv v k, n32 k)) (fun s => (7 - s.2.toInt).toNat) _ ?_ (0, 0) ⟨0, by omega, rfl⟩
  rintro s ⟨k, hk, rfl⟩
  have ki : (n32 k).toInt = k := n32i (by omega)
  unfold f_So_hasOneTwice_s4
  refine ok_le (fun hc => ?_) (fun hc => ?_)
  · have hc' : x.toInt ≤ (n32 k).toInt := hc
    have e : k = Int32.toNatClampNeg x := by omega
    subst e
    refine ok_e (e_Ji_bitCount_I _) ?_
    rw [bc_pcs (mkv_lt v _)]
    have hcn := mkv_cnt v (Int32.toNatClampNeg x)
    have pi : (n32 (pcs (bn (mkv v (Int32.toNatClampNeg x))) 16)).toInt = ((pcs (bn (mkv v (Int32.toNatClampNeg x))) 16 : Nat) : Int) := n32i (by omega)
    refine ok_le (fun hd => ok_s ?_) (fun hd => ok_s ?_)
    · left
      refine ⟨rfl, ?_⟩
      rcases hcn with h | h
      · exact h.2
      · omega
    · right
      refine ⟨rfl, ?_⟩
      rcases hcn with h | h
      · omega
      · exact h.2
  · have hc' : (n32 k).toInt < x.toInt := hc
    refine ok_e (e_So_vertexIn v k) (ok_s ⟨⟨k + 1, by omega, ?_⟩, ?_⟩)
    · rw [n32s (by omega)]
      rfl
    · show (7 - (n32 k + 1).toInt).toNat < (7 - (n32 k).toInt).toNat
      rw [i32p (by omega) (by omega)]
      omega
theorem e_hasVertices {x v : Int32} {r : Nat} {I : xm_I} (hx : 3 ≤ x.toInt ∧ x.toInt ≤ 6) : ok (f_So_hasVertices r x v I) (fun q => (q = 1 ∧ ∀ k, k < Int32.toNatClampNeg x → (wv v k).toInt < (I r 9).toInt) ∨ (q = 0 ∧ ¬ ∀ k, k < Int32.toNatClampNeg x → (wv v k).toInt < (I r 9).toInt)) := by
  have t := tn32 (x := x) (by omega)
  unfold f_So_hasVertices f_So_hasVertices_b0 f_So_hasVertices_b2
  refine lp_inv (fun s => ∃ k : Nat, k ≤ Int32.toNatClampNeg x ∧ s = n32 k ∧ ∀ j, j < k → (wv v j).toInt < (I r 9).toInt) (fun s => (7 - s.toInt).toNat) _ ?_ 0 ⟨0, by omega, rfl, fun j hj => by omega⟩
  rintro s ⟨k, hk, rfl, hj⟩
  have ki : (n32 k).toInt = k := n32i (by omega)
  unfold f_So_hasVertices_s2
  refine ok_le (fun hc => ?_) (fun hc => ?_)
  · have e : k = Int32.toNatClampNeg x := by omega
    subst e
    exact ok_s (Or.inl ⟨rfl, hj⟩)
  · refine ok_e (e_So_vertexIn v k) (ok_lt (fun hd => ok_s ⟨⟨k + 1, by omega, n32s (by omega), fun j hj' => ?_⟩, ?_⟩) (fun hd => ok_s (Or.inr ⟨rfl, fun hh => ?_⟩)))
    · by_cases he : j = k
      · rw [he]; exact hd
      · exact hj j (by omega)
    · show (7 - (n32 k + 1).toInt).toNat < (7 - (n32 k).toInt).toNat
      rw [i32p (by omega) (by omega)]
      omega
    · have := hh k (by omega)
      omega
/-- the pair that side k of the face is -/
def nxk (n k : Nat) : Nat := if k + 1 < n then k + 1 else 0
def prn (v : Int32) (n k : Nat) : Nat := Nat.min (Int32.toNatClampNeg (wv v k)) (Int32.toNatClampNeg (wv v (nxk n k))) * 12 + Nat.max (Int32.toNatClampNeg (wv v k)) (Int32.toNatClampNeg (wv v (nxk n k)))
theorem mnI_t {a b : Int32} (ha : 0 ≤ a.toInt) (hb : 0 ≤ b.toInt) : ((Nat.min (Int32.toNatClampNeg a) (Int32.toNatClampNeg b) : Nat) : Int) = (mnI a b).toInt := by
  have h1 := tn32 ha
  have h2 := tn32 hb
  have h3 := mnI_i a b
  have h4 : Nat.min (Int32.toNatClampNeg a) (Int32.toNatClampNeg b) = min (Int32.toNatClampNeg a) (Int32.toNatClampNeg b) := rfl
  rw [h4]
  omega
theorem mxI_t {a b : Int32} (ha : 0 ≤ a.toInt) (hb : 0 ≤ b.toInt) : ((Nat.max (Int32.toNatClampNeg a) (Int32.toNatClampNeg b) : Nat) : Int) = (mxI a b).toInt := by
  have h1 := tn32 ha
  have h2 := tn32 hb
  have h3 := mxI_i a b
  have h4 : Nat.max (Int32.toNatClampNeg a) (Int32.toNatClampNeg b) = max (Int32.toNatClampNeg a) (Int32.toNatClampNeg b) := rfl
  rw [h4]
  omega
theorem af_loop {x v : Int32} {r f : Nat} {J : xm_I} (hx : 3 ≤ x.toInt ∧ x.toInt ≤ 6) (hf : (f : Int) = (J r 10).toInt) (hf10 : f < 10) (hw : ∀ k, k < Int32.toNatClampNeg x → (wv v k).toInt < 12) : ok (lp (f_So_addFace_s40 r x v) (0, J)) (fun p => p.1 = J r 10 + 1 ∧ (∀ a k, ¬ (a = r ∧ k = 10) → a ≠ r + 7 → p.2 a k = J a k) ∧ p.2 r 10 = J r 10 + 1 ∧ (∀ q g : Nat, ((bn (p.2 (r + 7) q)).testBit g = true ↔ ((bn (J (r + 7) q)).testBit g = true ∨ (g = f ∧ ∃ k, k < Int32.toNatClampNeg x ∧ prn v (Int32.toNatClampNeg x) k = q))))) := by
  have t := tn32 (x := x) (by omega)
  refine lp_inv (fun s => ∃ k : Nat, k ≤ Int32.toNatClampNeg x ∧ s.1 = n32 k ∧ (∀ a k, a ≠ r + 7 → s.2 a k = J a k) ∧ (∀ q g : Nat, ((bn (s.2 (r + 7) q)).testBit g = true ↔ ((bn (J (r + 7) q)).testBit g = true ∨ (g = f ∧ ∃ j, j < k ∧ prn v (Int32.toNatClampNeg x) j = q))))) (fun s => (7 - s.1.toInt).toNat) _ ?_ (0, J) ⟨0, by omega, rfl, fun _ _ _ => rfl, fun q g => ⟨fun h => Or.inl h, fun h => h.elim id fun h => by obtain ⟨_, j, hj, _⟩ := h; omega⟩⟩
  rintro ⟨s1, s2⟩ ⟨k, hk, e1, e2, e3⟩
  simp only at e1 e2 e3
  subst e1
  have ki : (n32 k).toInt = k := n32i (by omega)
  unfold f_So_addFace_s40
  refine ok_le (fun hc => ?_) (fun hc => ?_)
  · have hc' : x.toInt ≤ (n32 k).toInt := hc
    have e : k = Int32.toNatClampNeg x := by omega
    subst e
    refine ok_s ⟨?_, fun a j h1 h2 => ?_, ?_, fun q g => ?_⟩
    · show up2 s2 r 10 (s2 r 10 + 1) r 10 = _
      rw [up2_self, e2 r 10 (by omega)]
    · show up2 s2 r 10 (s2 r 10 + 1) a j = J a j
      unfold up2
      rw [if_neg h1]
      exact e2 a j h2
    · show up2 s2 r 10 (s2 r 10 + 1) r 10 = _
      rw [up2_self, e2 r 10 (by omega)]
    · show (bn (up2 s2 r 10 (s2 r 10 + 1) (r + 7) q)).testBit g = true ↔ _
      rw [up2_ne _ _ _ _ _ _ (by omega)]
      exact e3 q g
  · have hc' : (n32 k).toInt < x.toInt := hc
    have hk' : k < Int32.toNatClampNeg x := by omega
    have hn : nxk (Int32.toNatClampNeg x) k < Int32.toNatClampNeg x := by unfold nxk; split <;> omega
    have b1 := wv_b v k
    have b2 := wv_b v (nxk (Int32.toNatClampNeg x) k)
    have b3 := hw k hk'
    have b4 := hw _ hn
    have body : ∀ y : Int32, y = n32 (nxk (Int32.toNatClampNeg x) k) → ok (f_So_addFace_b67 r x v (n32 k) (wv v k) v y s2) (fun z => Sum.elim (fun s' => (∃ k : Nat, k ≤ Int32.toNatClampNeg x ∧ s'.1 = n32 k ∧ (∀ a k, a ≠ r + 7 → s'.2 a k = J a k) ∧ (∀ q g : Nat, ((bn (s'.2 (r + 7) q)).testBit g = true ↔ ((bn (J (r + 7) q)).testBit g = true ∨ (g = f ∧ ∃ j, j < k ∧ prn v (Int32.toNatClampNeg x) j = q))))) ∧ (7 - s'.1.toInt).toNat < (7 - (n32 k).toInt).toNat) (fun p => p.1 = J r 10 + 1 ∧ (∀ a k, ¬ (a = r ∧ k = 10) → a ≠ r + 7 → p.2 a k = J a k) ∧ p.2 r 10 = J r 10 + 1 ∧ (∀ q g : Nat, ((bn (p.2 (r + 7) q)).testBit g = true ↔ ((bn (J (r + 7) q)).testBit g = true ∨ (g = f ∧ ∃ k, k < Int32.toNatClampNeg x ∧ prn v (Int32.toNatClampNeg x) k = q))))) z) := by
      intro y hy
      subst hy
      unfold f_So_addFace_b67
      refine ok_e (e_So_vertexIn v _) (ok_e (e_Jm_min_I _ _) (ok_e (e_Jm_max_I _ _) ?_))
      have m1 := mnI_t b1.1 b2.1
      have m2 := mxI_t b1.1 b2.1
      have m3 := mnI_i (wv v k) (wv v (nxk (Int32.toNatClampNeg x) k))
      have m4 := mxI_i (wv v k) (wv v (nxk (Int32.toNatClampNeg x) k))
      have k12 := z12
      have p0 : (mnI (wv v k) (wv v (nxk (Int32.toNatClampNeg x) k)) * 12).toInt = 12 * (mnI (wv v k) (wv v (nxk (Int32.toNatClampNeg x) k))).toInt := by rw [i32m (by rw [k12]; omega), k12]; omega
      have p1 : (mnI (wv v k) (wv v (nxk (Int32.toNatClampNeg x) k)) * 12 + mxI (wv v k) (wv v (nxk (Int32.toNatClampNeg x) k))).toInt = 12 * (mnI (wv v k) (wv v (nxk (Int32.toNatClampNeg x) k))).toInt + (mxI (wv v k) (wv v (nxk (Int32.toNatClampNeg x) k))).toInt := by rw [i32a (by omega), p0]
      have p2 : Int32.toNatClampNeg (mnI (wv v k) (wv v (nxk (Int32.toNatClampNeg x) k)) * 12 + mxI (wv v k) (wv v (nxk (Int32.toNatClampNeg x) k))) = prn v (Int32.toNatClampNeg x) k := by
        have := tn32 (x := mnI (wv v k) (wv v (nxk (Int32.toNatClampNeg x) k)) * 12 + mxI (wv v k) (wv v (nxk (Int32.toNatClampNeg x) k))) (by omega)
        unfold prn
        omega
      refine ok_g (by omega) (ok_g (by omega) (ok_s ?_))
      rw [p2]
      have ef : s2 r 10 = n32 f := by
        rw [e2 r 10 (by omega), eq32, n32i (by omega)]
        exact hf.symm
      refine ⟨⟨k + 1, by omega, n32s (by omega), fun a j ha => ?_, fun q g => ?_⟩, ?_⟩
      · show up2 s2 (r + 7) _ _ a j = J a j
        rw [up2_ne _ _ _ _ _ _ ha]
        exact e2 a j ha
      · show (bn (up2 s2 (r + 7) (prn v (Int32.toNatClampNeg x) k) (s2 (r + 7) (prn v (Int32.toNatClampNeg x) k) ||| 1 <<< (s2 r 10 &&& 31)) (r + 7) q)).testBit g = true ↔ _
        by_cases hq : q = prn v (Int32.toNatClampNeg x) k
        · rw [hq, up2_self, ef, bn_or, bn_one (by omega), Nat.testBit_or, Nat.testBit_two_pow, Bool.or_eq_true, decide_eq_true_iff, e3]
          constructor
          · rintro ((h | ⟨h1, j, hj, h2⟩) | h)
            · exact Or.inl h
            · exact Or.inr ⟨h1, j, by omega, h2⟩
            · exact Or.inr ⟨h.symm, k, by omega, rfl⟩
          · rintro (h | ⟨h1, j, hj, h2⟩)
            · exact Or.inl (Or.inl h)
            · exact Or.inr h1.symm
        · rw [up2_nk _ _ _ _ _ hq, e3]
          constructor
          · rintro (h | ⟨h1, j, hj, h2⟩)
            · exact Or.inl h
            · exact Or.inr ⟨h1, j, by omega, h2⟩
          · rintro (h | ⟨h1, j, hj, h2⟩)
            · exact Or.inl h
            · refine Or.inr ⟨h1, j, ?_, h2⟩
              have : j ≠ k := fun he => hq (by rw [← h2, he])
              omega
      · show (7 - (n32 k + 1).toInt).toNat < (7 - (n32 k).toInt).toNat
        rw [i32p (by omega) (by omega)]
        omega
    have es : (n32 k + 1).toInt = (k : Int) + 1 := by rw [i32p (by omega) (by omega), ki]
    refine ok_e (e_So_vertexIn v k) (ok_le (fun hd => body 0 ?_) (fun hd => body (n32 k + 1) ?_))
    · have hd' : x.toInt ≤ (n32 k + 1).toInt := hd
      unfold nxk
      rw [if_neg (by omega)]
      rfl
    · have hd' : (n32 k + 1).toInt < x.toInt := hd
      unfold nxk
      rw [if_pos (by omega), n32s (by omega)]
theorem mf_loop {x v : Int32} {a : Int32} {F : Int32} {J : xm_I} (ha : 0 ≤ a.toInt ∧ a.toInt < 4) (hx : 3 ≤ x.toInt ∧ x.toInt ≤ 6) (hF : 0 ≤ F.toInt ∧ F.toInt < 40) : ok (lp (f_M_face_s172 a x v F) (0, J)) (fun q => q.1 = J 65 (Int32.toNatClampNeg a) + 1 ∧ Fr [65, 67] J q.2 ∧ q.2 65 = upd (J 65) (Int32.toNatClampNeg a) (J 65 (Int32.toNatClampNeg a) + 1) ∧ (∀ k, k < Int32.toNatClampNeg x → q.2 67 (6 * Int32.toNatClampNeg F + k) = wv v k) ∧ (∀ j, (j < 6 * Int32.toNatClampNeg F ∨ 6 * Int32.toNatClampNeg F + 6 ≤ j) → q.2 67 j = J 67 j)) := by
  have t := tn32 (x := x) (by omega)
  have tF := tn32 hF.1
  refine lp_inv (fun s => ∃ k : Nat, k ≤ Int32.toNatClampNeg x ∧ s.1 = n32 k ∧ Fr [67] J s.2 ∧ (∀ j, j < k → s.2 67 (6 * Int32.toNatClampNeg F + j) = wv v j) ∧ (∀ j, (j < 6 * Int32.toNatClampNeg F ∨ 6 * Int32.toNatClampNeg F + 6 ≤ j) → s.2 67 j = J 67 j)) (fun s => (7 - s.1.toInt).toNat) _ ?_ (0, J) ⟨0, by omega, rfl, Fr.refl _ _, fun j hj => by omega, fun _ _ => rfl⟩
  rintro ⟨s1, s2⟩ ⟨k, hk, e1, e2, e3, e4⟩
  simp only at e1 e2 e3 e4
  subst e1
  have ki : (n32 k).toInt = k := n32i (by omega)
  have kn : Int32.toNatClampNeg (n32 k) = k := n32n (by omega)
  have r65 := e2.row 65 rfl (by decide)
  unfold f_M_face_s172
  dsimp only
  refine ok_le (fun hc => ?_) (fun hc => ?_)
  · have hc' : x.toInt ≤ (n32 k).toInt := hc
    have e : k = Int32.toNatClampNeg x := by omega
    subst e
    refine ok_g ha (ok_g ha (ok_g ha (ok_s ⟨?_, Fr.upA (e2.mono (by decide)) (by decide) (by decide), ?_, fun j hj => ?_, fun j hj => ?_⟩)))
    · show up2 s2 65 (Int32.toNatClampNeg a) (s2 65 (Int32.toNatClampNeg a) + 1) 65 (Int32.toNatClampNeg a) = _
      rw [up2_self, r65]
    · show up2 s2 65 (Int32.toNatClampNeg a) (s2 65 (Int32.toNatClampNeg a) + 1) 65 = _
      rw [up2_upd, r65]
    · exact e3 j hj
    · exact e4 j hj
  · have hc' : (n32 k).toInt < x.toInt := hc
    have k6 := z6
    have p0 : (6 * F).toInt = 6 * F.toInt := by rw [i32m (by rw [k6]; omega), k6]
    have p1 : (6 * F + n32 k).toInt = 6 * F.toInt + k := by rw [i32a (by omega), p0, ki]
    have p2 : Int32.toNatClampNeg (6 * F + n32 k) = 6 * Int32.toNatClampNeg F + k := by
      have := tn32 (x := 6 * F + n32 k) (by omega)
      omega
    refine ok_g (by omega) (ok_s ?_)
    rw [p2]
    refine ⟨⟨k + 1, by omega, n32s (by omega), Fr.upA e2 (by decide) (by decide), fun j hj => ?_, fun j hj => ?_⟩, ?_⟩
    · show up2 s2 67 _ _ 67 _ = _
      by_cases he : j = k
      · rw [he, up2_self]
        rfl
      · rw [up2_nk _ _ _ _ _ (by omega)]
        exact e3 j (by omega)
    · show up2 s2 67 _ _ 67 _ = _
      rw [up2_nk _ _ _ _ _ (by omega)]
      exact e4 j hj
    · show (7 - (n32 k + 1).toInt).toNat < (7 - (n32 k).toInt).toNat
      rw [i32p (by omega) (by omega)]
      omega
/-- what the reference says of a face -/
theorem M_face_ok {a x v : Int32} {J : xm_I} {K : Int32 × xm_I → Prop} (ha : 0 ≤ a.toInt ∧ a.toInt < (J 49 31).toInt) (hs4 : (J 49 31).toInt ≤ 4) (hx : 3 ≤ x.toInt ∧ x.toInt ≤ 6)
    (c1 : (¬ ∀ k, k < Int32.toNatClampNeg x → (wv v k).toInt < (J 63 (Int32.toNatClampNeg a)).toInt) → K (-100001, J))
    (c2 : (∀ k, k < Int32.toNatClampNeg x → (wv v k).toInt < (J 63 (Int32.toNatClampNeg a)).toInt) → ¬ dist v (Int32.toNatClampNeg x) → K (-100003, J))
    (c3 : (∀ k, k < Int32.toNatClampNeg x → (wv v k).toInt < (J 63 (Int32.toNatClampNeg a)).toInt) → dist v (Int32.toNatClampNeg x) → J 65 (Int32.toNatClampNeg a) = 10 → K (-100004, J))
    (c4 : (∀ k, k < Int32.toNatClampNeg x → (wv v k).toInt < (J 63 (Int32.toNatClampNeg a)).toInt) → dist v (Int32.toNatClampNeg x) → J 65 (Int32.toNatClampNeg a) ≠ 10 → ok (gd (0 ≤ (10 * a + J 65 (Int32.toNatClampNeg a)).toInt ∧ (10 * a + J 65 (Int32.toNatClampNeg a)).toInt < 40) (lp (f_M_face_s172 a x v (10 * a + J 65 (Int32.toNatClampNeg a))) (0, up2 J 66 (Int32.toNatClampNeg (10 * a + J 65 (Int32.toNatClampNeg a))) x))) K) : ok (f_M_face a x v J) K := by
  have t := tn32 (x := x) (by omega)
  have ga : 0 ≤ a.toInt ∧ a.toInt < 4 := by omega
  have i1 : f_M_in x.toInt64 3 6 = some 1 := by rw [e_M_in, bi_t (by simp only [Int64.reduceToInt, i64of]; exact hx)]
  have hS : f_M_isSolid a J = some 1 := by rw [e_M_isSolid, bi_t ha]
  unfold f_M_face f_M_face_b0 f_M_face_b40
  refine ok_e hS (ok_f (by decide) (ok_e i1 (ok_f (by decide) ?_)))
  refine lp_inv (fun s => ∃ k : Nat, k ≤ Int32.toNatClampNeg x ∧ s.2.2 = (mkv v k, n32 k) ∧ ((s.1 = 0 ∧ dist v k) ∨ (s.1 = 1 ∧ ¬ dist v k)) ∧ ((s.2.1 = 1 ∧ ∀ j, j < k → (wv v j).toInt < (J 63 (Int32.toNatClampNeg a)).toInt) ∨ (s.2.1 = 0 ∧ ¬ ∀ j, j < k → (wv v j).toInt < (J 63 (Int32.toNatClampNeg a)).toInt))) (fun s => (7 - s.2.2.2.toInt).toNat) _ ?_ (0, 1, 0, 0) ⟨0, by omega, rfl, Or.inl ⟨rfl, fun i j _ hj => by omega⟩, Or.inl ⟨rfl, fun j hj => by omega⟩⟩
  rintro ⟨tw, kn, met, kk⟩ ⟨k, hk, e1, e2, e3⟩
  simp only [Prod.mk.injEq] at e1 e2 e3
  obtain ⟨rfl, rfl⟩ := e1
  have ki : (n32 k).toInt = k := n32i (by omega)
  unfold f_M_face_s40
  refine ok_le (fun hc => ?_) (fun hc => ?_)
  · have hc' : x.toInt ≤ (n32 k).toInt := hc
    have e : k = Int32.toNatClampNeg x := by omega
    subst e
    rcases e3 with ⟨h1, h2⟩ | ⟨h1, h2⟩
    · refine ok_f (show ¬ kn = 0 by rw [h1]; decide) ?_
      rcases e2 with ⟨h3, h4⟩ | ⟨h3, h4⟩
      · refine ok_t (show tw = 0 from h3) (ok_g ga ?_)
        by_cases h10 : J 65 (Int32.toNatClampNeg a) = 10
        · exact ok_t h10 (ok_s (c3 h2 h4 h10))
        · refine ok_f h10 (ok_g ga ?_)
          have := c4 h2 h4 h10
          obtain ⟨hg, hl⟩ := ok_gd this
          unfold f_M_face_b172
          exact ok_g hg (ok_m (ok_mono hl fun q hq => hq))
      · exact ok_f (show ¬ tw = 0 by rw [h3]; decide) (ok_s (c2 h2 h4))
    · exact ok_t (show kn = 0 from h1) (ok_s (c1 h2))
  · have hc' : (n32 k).toInt < x.toInt := hc
    have dec : (7 - (n32 k + 1).toInt).toNat < (7 - (n32 k).toInt).toNat := by
      rw [i32p (by omega) (by omega)]
      omega
    have hb : bn (mkv v k >>> (wv v k &&& 31)) = bn (mkv v k) >>> Int32.toNatClampNeg (wv v k) := by
      rw [wv_n v k, bn_shr (wv_t v k) (by have := mkv_lt v k; omega), n32n (by have := wv_t v k; omega)]
    have hbit : ((mkv v k >>> (wv v k &&& 31)) &&& 1 = 1) ↔ (bn (mkv v k)).testBit (Int32.toNatClampNeg (wv v k)) = true := by
      have e : bn ((mkv v k >>> (wv v k &&& 31)) &&& 1) = ((bn (mkv v k)).testBit (Int32.toNatClampNeg (wv v k))).toNat := by
        rw [bn_and, hb]
        show bn (mkv v k) >>> _ &&& 1 = _
        rw [Nat.toNat_testBit, Nat.and_one_is_mod, Nat.shiftRight_eq_div_pow]
      constructor
      · intro h
        rw [h] at e
        have h1 : bn 1 = 1 := rfl
        rw [h1] at e
        cases hh : (bn (mkv v k)).testBit (Int32.toNatClampNeg (wv v k)) with
        | true => rfl
        | false => rw [hh] at e; cases e
      · intro h
        rw [h] at e
        exact bn_inj (by rw [e]; rfl)
    have fin : ∀ kn' : Int32, ((kn' = 1 ∧ ∀ j, j < k + 1 → (wv v j).toInt < (J 63 (Int32.toNatClampNeg a)).toInt) ∨ (kn' = 0 ∧ ¬ ∀ j, j < k + 1 → (wv v j).toInt < (J 63 (Int32.toNatClampNeg a)).toInt)) → ok (f_M_face_b78 a x v tw (mkv v k) (n32 k) (wv v k) kn' J) (fun z => Sum.elim (fun s' => (∃ k : Nat, k ≤ Int32.toNatClampNeg x ∧ s'.2.2 = (mkv v k, n32 k) ∧ ((s'.1 = 0 ∧ dist v k) ∨ (s'.1 = 1 ∧ ¬ dist v k)) ∧ ((s'.2.1 = 1 ∧ ∀ j, j < k → (wv v j).toInt < (J 63 (Int32.toNatClampNeg a)).toInt) ∨ (s'.2.1 = 0 ∧ ¬ ∀ j, j < k → (wv v j).toInt < (J 63 (Int32.toNatClampNeg a)).toInt))) ∧ (7 - s'.2.2.2.toInt).toNat < (7 - (n32 k).toInt).toNat) K z) := by
      intro kn' hkn
      have res : ∀ tw' : Int32, ((tw' = 0 ∧ dist v (k + 1)) ∨ (tw' = 1 ∧ ¬ dist v (k + 1))) → ok (f_M_face_b101 a x v kn' (mkv v k) (n32 k) (wv v k) tw' J) (fun z => Sum.elim (fun s' => (∃ k : Nat, k ≤ Int32.toNatClampNeg x ∧ s'.2.2 = (mkv v k, n32 k) ∧ ((s'.1 = 0 ∧ dist v k) ∨ (s'.1 = 1 ∧ ¬ dist v k)) ∧ ((s'.2.1 = 1 ∧ ∀ j, j < k → (wv v j).toInt < (J 63 (Int32.toNatClampNeg a)).toInt) ∨ (s'.2.1 = 0 ∧ ¬ ∀ j, j < k → (wv v j).toInt < (J 63 (Int32.toNatClampNeg a)).toInt))) ∧ (7 - s'.2.2.2.toInt).toNat < (7 - (n32 k).toInt).toNat) K z) := by
        intro tw' htw
        unfold f_M_face_b101
        refine ok_s ⟨⟨k + 1, by omega, ?_, htw, hkn⟩, dec⟩
        show (mkv v k ||| 1 <<< (wv v k &&& 31), n32 k + 1) = _
        rw [n32s (by omega)]
        rfl
      unfold f_M_face_b78 f_M_face_b96
      have hd := dist_succ v k
      rcases e2 with ⟨h3, h4⟩ | ⟨h3, h4⟩
      · refine ok_t h3 ?_
        by_cases hh : (mkv v k >>> (wv v k &&& 31)) &&& 1 = 1
        · refine ok_t hh (res 1 (Or.inr ⟨rfl, fun h => ?_⟩))
          have := (hd.mp h).2
          rw [hbit.mp hh] at this
          cases this
        · refine ok_f hh (res 0 (Or.inl ⟨rfl, hd.mpr ⟨h4, ?_⟩⟩))
          cases hq : (bn (mkv v k)).testBit (Int32.toNatClampNeg (wv v k)) with
          | false => rfl
          | true => exact absurd (hbit.mpr hq) hh
      · refine ok_f (by rw [h3]; decide) (res 1 (Or.inr ⟨rfl, fun h => h4 (hd.mp h).1⟩))
    show ok (if kn = 0 then f_M_face_b77 a x v tw (mkv v k) (n32 k) (wv v k) J else gd (0 ≤ a.toInt ∧ a.toInt < 4) (if J 63 (Int32.toNatClampNeg a) ≤ wv v k then f_M_face_b77 a x v tw (mkv v k) (n32 k) (wv v k) J else f_M_face_b78 a x v tw (mkv v k) (n32 k) (wv v k) 1 J)) _
    unfold f_M_face_b77
    rcases e3 with ⟨h1, h2⟩ | ⟨h1, h2⟩
    · refine ok_f (by rw [h1]; decide) (ok_g ga (ok_le (fun hh => fin 0 (Or.inr ⟨rfl, fun hq => ?_⟩)) (fun hh => fin 1 (Or.inl ⟨rfl, fun j hj => ?_⟩))))
      · have := hq k (by omega)
        omega
      · by_cases he : j = k
        · rw [he]; exact hh
        · exact h2 j (by omega)
    · exact ok_t h1 (fin 0 (Or.inr ⟨rfl, fun hq => h2 fun j hj => hq j (by omega)⟩))
