/-! ===== crossings of a line, kept in order ===== -/
abbrev Cr : Type := Int64 × Int64
def rowsL (L : xm_L) (a b : Nat) (l : List Cr) : Prop := ∀ i q, l[i]? = some q → L a i = q.1 ∧ L b i = q.2
def pos (l : List Cr) (p : Cr) : Nat → Nat
  | 0 => 0
  | j + 1 => if ((l[j]?).getD (0, 0)).1 * p.2 ≤ p.1 * ((l[j]?).getD (0, 0)).2 then j + 1 else pos l p j
def ins (l : List Cr) (p : Cr) : List Cr := l.take (pos l p l.length) ++ p :: l.drop (pos l p l.length)
theorem pos_le (l : List Cr) (p : Cr) (j : Nat) : pos l p j ≤ j := by
  induction j with
  | zero => exact Nat.le_refl _
  | succ j ih =>
    unfold pos
    split <;> omega
theorem ins_get {l : List Cr} {p : Cr} {j i : Nat} (hj : j ≤ l.length) : (l.take j ++ p :: l.drop j)[i]? = if i < j then l[i]? else if i = j then some p else l[i - 1]? := by
  have ht : (l.take j).length = j := by rw [List.length_take]; omega
  by_cases h1 : i < j
  · rw [if_pos h1, List.getElem?_append_left (by omega), List.getElem?_take_of_lt h1]
  · rw [if_neg h1, List.getElem?_append_right (by omega), ht]
    by_cases h2 : i = j
    · rw [if_pos h2, h2, Nat.sub_self]
      rfl
    · rw [if_neg h2]
      have e : i - j = (i - j - 1) + 1 := by omega
      rw [e, List.getElem?_cons_succ, List.getElem?_drop]
      congr 1
      omega
theorem ins_len (l : List Cr) (p : Cr) : (ins l p).length = l.length + 1 := by
  have := pos_le l p l.length
  unfold ins
  rw [List.length_append, List.length_cons, List.length_take, List.length_drop]
  omega
theorem insC {I : xm_I} {L : xm_L} {l : List Cr} {p : Cr} (hl : l.length < 12) (hc : I 30 13 = n32 l.length) (hr : rowsL L 36 37 l) : ok (lp (f_Pn_meetSide_s86 p.2 p.1 I) (n32 l.length, L)) (fun q => q.1 = up2 I 30 13 (n32 (ins l p).length) ∧ Fr [36, 37] L q.2 ∧ rowsL q.2 36 37 (ins l p)) := by
  have k0 := z0
  have k1 := z1
  have fin : ∀ (j : Nat) (M : xm_L), j ≤ l.length → Fr [36, 37] L M → pos l p l.length = j → (∀ i q, i < j → l[i]? = some q → M 36 i = q.1 ∧ M 37 i = q.2) → (∀ i q, j ≤ i → l[i]? = some q → M 36 (i + 1) = q.1 ∧ M 37 (i + 1) = q.2) → ok (f_Pn_meetSide_b157 p.2 p.1 (n32 j) I M) (fun q => q.1 = up2 I 30 13 (n32 (ins l p).length) ∧ Fr [36, 37] L q.2 ∧ rowsL q.2 36 37 (ins l p)) := by
    intro j M hj hM hp h1 h2
    have ji : (n32 j).toInt = j := n32i (by omega)
    have jt : Int32.toNatClampNeg (n32 j) = j := n32n (by omega)
    unfold f_Pn_meetSide_b157
    refine ok_g (by omega) (ok_g (by omega) (ok_s ⟨?_, ?_, ?_⟩))
    · rw [ins_len, hc, n32s (by omega)]
    · exact Fr.upA (Fr.upA hM (by decide) (by decide)) (by decide) (by decide)
    · rw [jt]
      intro i q hq
      unfold ins at hq
      rw [hp, ins_get hj] at hq
      by_cases c1 : i < j
      · rw [if_pos c1] at hq
        simp (disch := first | decide | omega) only [up2_ne, up2_nk]
        exact h1 i q c1 hq
      · rw [if_neg c1] at hq
        by_cases c2 : i = j
        · rw [if_pos c2] at hq
          cases hq
          rw [c2]
          simp (disch := first | decide | omega) only [up2_ne, up2_self]
          exact ⟨trivial, trivial⟩
        · rw [if_neg c2] at hq
          simp (disch := first | decide | omega) only [up2_ne, up2_nk]
          have := h2 (i - 1) q (by omega) hq
          have e : i - 1 + 1 = i := by omega
          rw [e] at this
          exact this
  refine lp_inv (fun st => ∃ j : Nat, j ≤ l.length ∧ st.1 = n32 j ∧ Fr [36, 37] L st.2 ∧ pos l p l.length = pos l p j ∧ (∀ i q, i < j → l[i]? = some q → st.2 36 i = q.1 ∧ st.2 37 i = q.2) ∧ (∀ i q, j ≤ i → l[i]? = some q → st.2 36 (i + 1) = q.1 ∧ st.2 37 (i + 1) = q.2)) (fun st => st.1.toInt.toNat) _ ?_ (n32 l.length, L) ⟨l.length, by omega, rfl, Fr.refl _ _, rfl, fun i q _ hq => hr i q hq, fun i q hi hq => by rw [List.getElem?_eq_none hi] at hq; cases hq⟩
  rintro ⟨jj, M⟩ ⟨j, hj, q1, q2, q3, q4, q5⟩
  simp only at q1 q2 q4 q5
  subst q1
  have ji : (n32 j).toInt = j := n32i (by omega)
  have jt : Int32.toNatClampNeg (n32 j) = j := n32n (by omega)
  unfold f_Pn_meetSide_s86
  dsimp only
  refine ok_le (fun hc => ?_) (fun hc => ?_)
  · have e : j = 0 := by omega
    subst e
    exact ok_m (ok_mono (fin 0 M hj q2 q3 q4 q5) fun _ h => h)
  · obtain ⟨i, rfl⟩ : ∃ i, j = i + 1 := ⟨j - 1, by omega⟩
    have s1 : (n32 (i + 1) - 1).toInt = i := by rw [i32s (by omega), ji, k1]; omega
    have t1 : Int32.toNatClampNeg (n32 (i + 1) - 1) = i := by have := tn32 (x := n32 (i + 1) - 1) (by omega); omega
    obtain ⟨q, hq⟩ : ∃ q, l[i]? = some q := ⟨_, List.getElem?_eq_getElem (by omega)⟩
    obtain ⟨r1, r2⟩ := q4 i q (by omega) hq
    have ep : pos l p (i + 1) = if q.1 * p.2 ≤ p.1 * q.2 then i + 1 else pos l p i := by
      show (if _ then _ else _) = _
      rw [hq]
      rfl
    refine ok_g (by omega) (ok_g (by omega) ?_)
    rw [t1, jt]
    refine ok_i (fun hle => ?_) (fun hle => ?_)
    · rw [r1, r2] at hle
      rw [ep, if_pos hle] at q3
      exact ok_m (ok_mono (fin (i + 1) M hj q2 q3 q4 q5) fun _ h => h)
    · rw [r1, r2] at hle
      rw [ep, if_neg hle] at q3
      refine ok_g (by omega) (ok_g (by omega) (ok_g (by omega) (ok_g (by omega) (ok_s ⟨⟨i, by omega, ?_, ?_, q3, ?_, ?_⟩, ?_⟩))))
      · show n32 (i + 1) + -1 = n32 i
        rw [eq32, i32a (by rw [ji]; simp only [Int32.reduceToInt]; omega), ji, n32i (by omega)]
        simp only [Int32.reduceToInt]
        omega
      · exact Fr.upA (Fr.upA q2 (by decide) (by decide)) (by decide) (by decide)
      · intro k w hk hw
        simp (disch := first | decide | omega) only [up2_ne, up2_nk]
        exact q4 k w (by omega) hw
      · intro k w hk hw
        by_cases c : k = i
        · subst c
          rw [hq] at hw
          cases hw
          simp (disch := first | decide | omega) only [up2_ne, up2_self]
          exact ⟨r1, r2⟩
        · simp (disch := first | decide | omega) only [up2_ne, up2_nk]
          exact q5 k w (by omega) hw
      · show ((n32 (i + 1)) + -1).toInt.toNat < (n32 (i + 1)).toInt.toNat
        rw [i32a (by rw [ji]; simp only [Int32.reduceToInt]; omega), ji]
        simp only [Int32.reduceToInt]
        omega
theorem insM {I : xm_I} {L : xm_L} {l : List Cr} {p : Cr} (hl : l.length < 12) (hc : I 49 67 = n32 l.length) (hr : rowsL L 77 78 l) : ok (lp (f_M_cross_s91 p.2 p.1 I) (n32 l.length, L)) (fun q => q.1 = up2 I 49 67 (n32 (ins l p).length) ∧ Fr [77, 78] L q.2 ∧ rowsL q.2 77 78 (ins l p)) := by
  have k0 := z0
  have k1 := z1
  have fin : ∀ (j : Nat) (M : xm_L), j ≤ l.length → Fr [77, 78] L M → pos l p l.length = j → (∀ i q, i < j → l[i]? = some q → M 77 i = q.1 ∧ M 78 i = q.2) → (∀ i q, j ≤ i → l[i]? = some q → M 77 (i + 1) = q.1 ∧ M 78 (i + 1) = q.2) → ok (f_M_cross_b162 p.2 p.1 (n32 j) I M) (fun q => q.1 = up2 I 49 67 (n32 (ins l p).length) ∧ Fr [77, 78] L q.2 ∧ rowsL q.2 77 78 (ins l p)) := by
    intro j M hj hM hp h1 h2
    have ji : (n32 j).toInt = j := n32i (by omega)
    have jt : Int32.toNatClampNeg (n32 j) = j := n32n (by omega)
    unfold f_M_cross_b162
    refine ok_g (by omega) (ok_g (by omega) (ok_s ⟨?_, ?_, ?_⟩))
    · rw [ins_len, hc, n32s (by omega)]
    · exact Fr.upA (Fr.upA hM (by decide) (by decide)) (by decide) (by decide)
    · rw [jt]
      intro i q hq
      unfold ins at hq
      rw [hp, ins_get hj] at hq
      by_cases c1 : i < j
      · rw [if_pos c1] at hq
        simp (disch := first | decide | omega) only [up2_ne, up2_nk]
        exact h1 i q c1 hq
      · rw [if_neg c1] at hq
        by_cases c2 : i = j
        · rw [if_pos c2] at hq
          cases hq
          rw [c2]
          simp (disch := first | decide | omega) only [up2_ne, up2_self]
          exact ⟨trivial, trivial⟩
        · rw [if_neg c2] at hq
          simp (disch := first | decide | omega) only [up2_ne, up2_nk]
          have := h2 (i - 1) q (by omega) hq
          have e : i - 1 + 1 = i := by omega
          rw [e] at this
          exact this
  refine lp_inv (fun st => ∃ j : Nat, j ≤ l.length ∧ st.1 = n32 j ∧ Fr [77, 78] L st.2 ∧ pos l p l.length = pos l p j ∧ (∀ i q, i < j → l[i]? = some q → st.2 77 i = q.1 ∧ st.2 78 i = q.2) ∧ (∀ i q, j ≤ i → l[i]? = some q → st.2 77 (i + 1) = q.1 ∧ st.2 78 (i + 1) = q.2)) (fun st => st.1.toInt.toNat) _ ?_ (n32 l.length, L) ⟨l.length, by omega, rfl, Fr.refl _ _, rfl, fun i q _ hq => hr i q hq, fun i q hi hq => by rw [List.getElem?_eq_none hi] at hq; cases hq⟩
  rintro ⟨jj, M⟩ ⟨j, hj, q1, q2, q3, q4, q5⟩
  simp only at q1 q2 q4 q5
  subst q1
  have ji : (n32 j).toInt = j := n32i (by omega)
  have jt : Int32.toNatClampNeg (n32 j) = j := n32n (by omega)
  unfold f_M_cross_s91
  dsimp only
  refine ok_le (fun hc => ?_) (fun hc => ?_)
  · have e : j = 0 := by omega
    subst e
    exact ok_m (ok_mono (fin 0 M hj q2 q3 q4 q5) fun _ h => h)
  · obtain ⟨i, rfl⟩ : ∃ i, j = i + 1 := ⟨j - 1, by omega⟩
    have s1 : (n32 (i + 1) - 1).toInt = i := by rw [i32s (by omega), ji, k1]; omega
    have t1 : Int32.toNatClampNeg (n32 (i + 1) - 1) = i := by have := tn32 (x := n32 (i + 1) - 1) (by omega); omega
    obtain ⟨q, hq⟩ : ∃ q, l[i]? = some q := ⟨_, List.getElem?_eq_getElem (by omega)⟩
    obtain ⟨r1, r2⟩ := q4 i q (by omega) hq
    have ep : pos l p (i + 1) = if q.1 * p.2 ≤ p.1 * q.2 then i + 1 else pos l p i := by
      show (if _ then _ else _) = _
      rw [hq]
      rfl
    refine ok_g (by omega) (ok_g (by omega) ?_)
    rw [t1, jt]
    refine ok_i (fun hle => ?_) (fun hle => ?_)
    · rw [r1, r2] at hle
      rw [ep, if_pos hle] at q3
      exact ok_m (ok_mono (fin (i + 1) M hj q2 q3 q4 q5) fun _ h => h)
    · rw [r1, r2] at hle
      rw [ep, if_neg hle] at q3
      refine ok_g (by omega) (ok_g (by omega) (ok_g (by omega) (ok_g (by omega) (ok_s ⟨⟨i, by omega, ?_, ?_, q3, ?_, ?_⟩, ?_⟩))))
      · show n32 (i + 1) + -1 = n32 i
        rw [eq32, i32a (by rw [ji]; simp only [Int32.reduceToInt]; omega), ji, n32i (by omega)]
        simp only [Int32.reduceToInt]
        omega
      · exact Fr.upA (Fr.upA q2 (by decide) (by decide)) (by decide) (by decide)
      · intro k w hk hw
        simp (disch := first | decide | omega) only [up2_ne, up2_nk]
        exact q4 k w (by omega) hw
      · intro k w hk hw
        by_cases c : k = i
        · subst c
          rw [hq] at hw
          cases hw
          simp (disch := first | decide | omega) only [up2_ne, up2_self]
          exact ⟨r1, r2⟩
        · simp (disch := first | decide | omega) only [up2_ne, up2_nk]
          exact q5 k w (by omega) hw
      · show ((n32 (i + 1)) + -1).toInt.toNat < (n32 (i + 1)).toInt.toNat
        rw [i32a (by rw [ji]; simp only [Int32.reduceToInt]; omega), ji]
        simp only [Int32.reduceToInt]
        omega
