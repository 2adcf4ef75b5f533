/-! ===== the reference gathers the edges ===== -/
theorem fv_eq {I : xm_I} {s f k a : Nat} (h : 0 ≤ (fv I s f k).toInt) (ha : a < 16) : fv I s f k = n32 a ↔ Int32.toNatClampNeg (fv I s f k) = a := by
  have t := tn32 h
  rw [eq32, n32i (by omega)]
  omega
theorem g_inner {I : xm_I} {n s f a b : Nat} {m0 s0 x2 : Int32} (h : IvS I n) (hs : (s : Int) < (I 15 1).toInt) (hf : (f : Int) < (I (86 + 8 * s) 10).toInt) (ha : a < 12) (hb : b < 12) (hs0 : s0 = 0 ∨ s0 = 1) : ok (lp (f_M_gather_s62 (n32 s) x2 (n32 a) (n32 b) (n32 (10 * s + f)) I) (m0, s0, 0)) (fun r => ∃ m1 s1 : Int32, r = .inl (m1, s1, n32 (10 * s + f) + 1) ∧ ((adjF I s f a b ∧ m1 = m0 + 1 ∧ s1 = bi (s0 = 1 ∨ 0 < (eye I s f).toInt)) ∨ (¬ adjF I s f a b ∧ m1 = m0 ∧ s1 = s0))) := by
  have h' := h
  obtain ⟨h1, h2, h3, h4, h5, h6, h7⟩ := h'
  obtain ⟨_, ⟨b1, b2, b3⟩, ⟨c1, c2, c3⟩, _⟩ := h6 s hs
  obtain ⟨e1, e2, e3, e4, e5, e6⟩ := c3 f hf
  have tn66 := tn32 (x := I 66 (10 * s + f)) (by omega)
  have n3 : 3 ≤ fz I s f ∧ fz I s f ≤ 6 := by unfold fz; omega
  have nI : (I 66 (10 * s + f)).toInt = (fz I s f : Int) := by unfold fz; omega
  have Fi : (n32 (10 * s + f)).toInt = ((10 * s + f : Nat) : Int) := n32i (by omega)
  have Ft : Int32.toNatClampNeg (n32 (10 * s + f)) = 10 * s + f := n32n (by omega)
  have k6 := z6
  have gF : 0 ≤ (n32 (10 * s + f)).toInt ∧ (n32 (10 * s + f)).toInt < 40 := by omega
  refine lp_inv (fun st => ∃ k : Nat, k ≤ fz I s f ∧ st.2.2 = n32 k ∧ (((∃ j, j < k ∧ adjk I s f j a b) ∧ st.1 = m0 + 1 ∧ st.2.1 = bi (s0 = 1 ∨ 0 < (eye I s f).toInt)) ∨ ((¬ ∃ j, j < k ∧ adjk I s f j a b) ∧ st.1 = m0 ∧ st.2.1 = s0))) (fun st => (7 - st.2.2.toInt).toNat) _ ?_ (m0, s0, 0) ⟨0, by omega, rfl, Or.inr ⟨by rintro ⟨j, hj, _⟩; omega, rfl, rfl⟩⟩
  rintro ⟨m, sn, kk⟩ ⟨k, hk, q1, q2⟩
  simp only at q1 q2
  subst q1
  have ki : (n32 k).toInt = k := n32i (by omega)
  have kt : Int32.toNatClampNeg (n32 k) = k := n32n (by omega)
  unfold f_M_gather_s62
  dsimp only
  refine ok_g gF ?_
  rw [Ft]
  refine ok_le (fun hc => ?_) (fun hc => ?_)
  · have e : k = fz I s f := by omega
    subst e
    refine ok_s ⟨m, sn, rfl, ?_⟩
    rcases q2 with ⟨q2, q3, q4⟩ | ⟨q2, q3, q4⟩
    · exact Or.inl ⟨q2, q3, q4⟩
    · exact Or.inr ⟨q2, q3, q4⟩
  · have hk' : k < fz I s f := by omega
    have p0 : (6 * n32 (10 * s + f)).toInt = 6 * ((10 * s + f : Nat) : Int) := by rw [i32m (by rw [k6]; omega), k6, Fi]
    have p1 : ∀ j : Nat, j < 6 → (6 * n32 (10 * s + f) + n32 j).toInt = 6 * ((10 * s + f : Nat) : Int) + j ∧ Int32.toNatClampNeg (6 * n32 (10 * s + f) + n32 j) = 6 * (10 * s + f) + j := by
      intro j hj
      have ji : (n32 j).toInt = j := n32i (by omega)
      have e : (6 * n32 (10 * s + f) + n32 j).toInt = 6 * ((10 * s + f : Nat) : Int) + j := by rw [i32a (by omega), p0, ji]
      refine ⟨e, ?_⟩
      have := tn32 (x := 6 * n32 (10 * s + f) + n32 j) (by omega)
      omega
    have hnx : (n32 k + 1) - (n32 k + 1) / I 66 (10 * s + f) * I 66 (10 * s + f) = n32 ((k + 1) % fz I s f) := by
      rw [nxt_mod (by omega) (by omega) (by omega), ← nxk_mod hk']
      have es : (n32 k + 1).toInt = (k : Int) + 1 := by rw [i32p (by omega) (by omega), ki]
      unfold nxk
      by_cases hh : k + 1 < fz I s f
      · rw [if_pos hh, if_neg (by rw [le32]; omega), n32s (by omega)]
      · rw [if_neg hh, if_pos (by rw [le32]; omega)]
        rfl
    have hmod : (k + 1) % fz I s f < fz I s f := Nat.mod_lt _ (by omega)
    obtain ⟨pk1, pk2⟩ := p1 k (by omega)
    obtain ⟨pm1, pm2⟩ := p1 ((k + 1) % fz I s f) (by omega)
    have gk := e2 k hk'
    have gm := e2 _ hmod
    refine ok_g (by omega) (ok_g gF (ok_g ?_ ?_))
    · rw [eq32, nI, z0]
      omega
    · rw [hnx, pk2, pm2]
      refine ok_g (by omega) ?_
      show ok (if fv I s f k = n32 a then (if fv I s f ((k + 1) % fz I s f) = n32 b then _ else _) else _) _
      have dec : (7 - (n32 k + 1).toInt).toNat < (7 - (n32 k).toInt).toNat := by
        rw [i32p (by omega) (by omega)]
        omega
      have no : ¬ adjk I s f k a b → ok (f_M_gather_b165 (n32 s) x2 (n32 a) (n32 b) m sn (n32 (10 * s + f)) (n32 k) I) (fun x => Sum.elim (fun s' => (∃ k : Nat, k ≤ fz I s f ∧ s'.2.2 = n32 k ∧ (((∃ j, j < k ∧ adjk I s f j a b) ∧ s'.1 = m0 + 1 ∧ s'.2.1 = bi (s0 = 1 ∨ 0 < (eye I s f).toInt)) ∨ ((¬ ∃ j, j < k ∧ adjk I s f j a b) ∧ s'.1 = m0 ∧ s'.2.1 = s0))) ∧ (7 - s'.2.2.toInt).toNat < (7 - (n32 k).toInt).toNat) (fun r => ∃ m1 s1 : Int32, r = .inl (m1, s1, n32 (10 * s + f) + 1) ∧ ((adjF I s f a b ∧ m1 = m0 + 1 ∧ s1 = bi (s0 = 1 ∨ 0 < (eye I s f).toInt)) ∨ (¬ adjF I s f a b ∧ m1 = m0 ∧ s1 = s0))) x) := by
        intro hn
        unfold f_M_gather_b165
        refine ok_s ⟨⟨k + 1, by omega, n32s (by omega), ?_⟩, dec⟩
        rcases q2 with ⟨⟨j, hj, hja⟩, q3, q4⟩ | ⟨q2, q3, q4⟩
        · exact Or.inl ⟨⟨j, by omega, hja⟩, q3, q4⟩
        · refine Or.inr ⟨?_, q3, q4⟩
          rintro ⟨j, hj, hja⟩
          by_cases he : j = k
          · exact hn (by rw [← he]; exact hja)
          · exact q2 ⟨j, by omega, hja⟩
      have yes : adjk I s f k a b → ok (f_M_gather_b140 (n32 s) x2 (n32 a) (n32 b) m sn (n32 (10 * s + f)) (n32 k) I) (fun x => Sum.elim (fun s' => (∃ k : Nat, k ≤ fz I s f ∧ s'.2.2 = n32 k ∧ (((∃ j, j < k ∧ adjk I s f j a b) ∧ s'.1 = m0 + 1 ∧ s'.2.1 = bi (s0 = 1 ∨ 0 < (eye I s f).toInt)) ∨ ((¬ ∃ j, j < k ∧ adjk I s f j a b) ∧ s'.1 = m0 ∧ s'.2.1 = s0))) ∧ (7 - s'.2.2.toInt).toNat < (7 - (n32 k).toInt).toNat) (fun r => ∃ m1 s1 : Int32, r = .inl (m1, s1, n32 (10 * s + f) + 1) ∧ ((adjF I s f a b ∧ m1 = m0 + 1 ∧ s1 = bi (s0 = 1 ∨ 0 < (eye I s f).toInt)) ∨ (¬ adjF I s f a b ∧ m1 = m0 ∧ s1 = s0))) x) := by
        intro hy
        have q2' : m = m0 ∧ sn = s0 := by
          rcases q2 with ⟨⟨j, hj, hja⟩, q3, q4⟩ | ⟨q2, q3, q4⟩
          · have := adj_one e3 (fun k hk => (e2 k hk).1) n3.1 (by omega) hk' hja hy
            omega
          · exact ⟨q3, q4⟩
        obtain ⟨rfl, rfl⟩ := q2'
        have res : ∀ sv : Int32, sv = bi (sn = 1 ∨ 0 < (eye I s f).toInt) → ok (f_M_gather_b163 (n32 s) x2 (n32 a) (n32 b) (m + 1) (n32 (10 * s + f)) (n32 k) sv I) (fun x => Sum.elim (fun s' => (∃ k : Nat, k ≤ fz I s f ∧ s'.2.2 = n32 k ∧ (((∃ j, j < k ∧ adjk I s f j a b) ∧ s'.1 = m + 1 ∧ s'.2.1 = bi (sn = 1 ∨ 0 < (eye I s f).toInt)) ∨ ((¬ ∃ j, j < k ∧ adjk I s f j a b) ∧ s'.1 = m ∧ s'.2.1 = sn))) ∧ (7 - s'.2.2.toInt).toNat < (7 - (n32 k).toInt).toNat) (fun r => ∃ m1 s1 : Int32, r = .inl (m1, s1, n32 (10 * s + f) + 1) ∧ ((adjF I s f a b ∧ m1 = m + 1 ∧ s1 = bi (sn = 1 ∨ 0 < (eye I s f).toInt)) ∨ (¬ adjF I s f a b ∧ m1 = m ∧ s1 = sn))) x) := by
          intro sv hsv
          unfold f_M_gather_b163 f_M_gather_b165
          exact ok_s ⟨⟨k + 1, by omega, n32s (by omega), Or.inl ⟨⟨k, by omega, hy⟩, rfl, hsv⟩⟩, dec⟩
        unfold f_M_gather_b140 f_M_gather_b158
        rcases hs0 with hz | hz
        · refine ok_t hz (ok_e (e_isSeen h hs hf) (ok_ib (fun he => res 0 ?_) (fun he => res 1 ?_)))
          · rw [bi_f]
            rintro (w | w)
            · rw [hz] at w; exact absurd w (by decide)
            · exact he w
          · rw [bi_t (Or.inr he)]
        · exact ok_f (by rw [hz]; decide) (res 1 (by rw [bi_t (Or.inl hz)]))
      have ea := fv_eq (a := a) gk.1 (by omega)
      have eb := fv_eq (a := b) gm.1 (by omega)
      have ea' := fv_eq (a := b) gk.1 (by omega)
      have eb' := fv_eq (a := a) gm.1 (by omega)
      have b127 : ¬ (fv I s f k = n32 a ∧ fv I s f ((k + 1) % fz I s f) = n32 b) → ok (f_M_gather_b127 (n32 s) x2 (n32 a) (n32 b) m sn (n32 (10 * s + f)) (n32 k) (fv I s f k) (fv I s f ((k + 1) % fz I s f)) I) (fun x => Sum.elim (fun s' => (∃ k : Nat, k ≤ fz I s f ∧ s'.2.2 = n32 k ∧ (((∃ j, j < k ∧ adjk I s f j a b) ∧ s'.1 = m0 + 1 ∧ s'.2.1 = bi (s0 = 1 ∨ 0 < (eye I s f).toInt)) ∨ ((¬ ∃ j, j < k ∧ adjk I s f j a b) ∧ s'.1 = m0 ∧ s'.2.1 = s0))) ∧ (7 - s'.2.2.toInt).toNat < (7 - (n32 k).toInt).toNat) (fun r => ∃ m1 s1 : Int32, r = .inl (m1, s1, n32 (10 * s + f) + 1) ∧ ((adjF I s f a b ∧ m1 = m0 + 1 ∧ s1 = bi (s0 = 1 ∨ 0 < (eye I s f).toInt)) ∨ (¬ adjF I s f a b ∧ m1 = m0 ∧ s1 = s0))) x) := by
        intro hn
        unfold f_M_gather_b127
        by_cases w1 : fv I s f k = n32 b
        · refine ok_t w1 ?_
          by_cases w2 : fv I s f ((k + 1) % fz I s f) = n32 a
          · exact ok_t w2 (yes (Or.inr ⟨ea'.mp w1, eb'.mp w2⟩))
          · refine ok_f w2 (no ?_)
            rintro (⟨u1, u2⟩ | ⟨u1, u2⟩)
            · exact hn ⟨ea.mpr u1, eb.mpr u2⟩
            · exact w2 (eb'.mpr u2)
        · refine ok_f w1 (no ?_)
          rintro (⟨u1, u2⟩ | ⟨u1, u2⟩)
          · exact hn ⟨ea.mpr u1, eb.mpr u2⟩
          · exact w1 (ea'.mpr u1)
      by_cases w1 : fv I s f k = n32 a
      · refine ok_t w1 ?_
        by_cases w2 : fv I s f ((k + 1) % fz I s f) = n32 b
        · exact ok_t w2 (yes (Or.inl ⟨ea.mp w1, eb.mp w2⟩))
        · exact ok_f w2 (b127 fun hh => w2 hh.2)
      · exact ok_f w1 (b127 fun hh => w1 hh.1)
theorem pcs_le (x n : Nat) : pcs x n ≤ n := by
  induction n with
  | zero => exact Nat.le_refl _
  | succ n ih =>
    unfold pcs
    have := Bool.toNat_le (x.testBit n)
    omega
theorem mid3 {α β γ : Type} {a : α} {b b' : β} {c : γ} (h : b = b') : (a, b, c) = (a, b', c) := by rw [h]
theorem lp_step {σ ρ : Type} {f : σ → Option (σ ⊕ ρ)} {s : σ} {K : ρ → Prop} (h : ok (f s) (fun x => Sum.elim (fun s' => ok (lp f s') K) K x)) : ok (lp f s) K := by
  rw [lp_eq]
  refine ok_b (ok_mono h fun x hx => ?_)
  cases x with
  | inl s' => exact hx
  | inr r => exact ok_s hx
/-- one pair -/
theorem g_mid {I : xm_I} {n s p : Nat} {K : (Int32 × xm_I) ⊕ xm_I → Prop} (h : IvS I n) (hs : (s : Int) < (I 15 1).toInt) (hp : p < 144) (hk : ok (f_M_gather_b177 (n32 s) (n32 p) (n32 (p / 12)) (n32 (p % 12)) (n32 (cntA I s p (Int32.toNatClampNeg (I (86 + 8 * s) 10)))) (@bi (snA I s p (Int32.toNatClampNeg (I (86 + 8 * s) 10))) (Classical.propDecidable _)) I) K) : ok (lp (f_M_gather_s37 (n32 s) (n32 p) (n32 (p / 12)) (n32 (p % 12)) I) (0, 0, 10 * n32 s)) K := by
  have h' := h
  obtain ⟨h1, h2, h3, h4, h5, h6, h7⟩ := h'
  obtain ⟨_, ⟨b1, b2, b3⟩, ⟨c1, c2, c3⟩, d⟩ := h6 s hs
  have t10 := tn32 (x := I (86 + 8 * s) 10) (by omega)
  have si : (n32 s).toInt = s := n32i (by omega)
  have st' : Int32.toNatClampNeg (n32 s) = s := n32n (by omega)
  have k10 := z10
  have gs : 0 ≤ (n32 s).toInt ∧ (n32 s).toInt < 4 := by omega
  have s10 : 10 * n32 s = n32 (10 * s + 0) := by rw [eq32, i32m (by rw [k10]; omega), k10, si, n32i (by omega)]; omega
  have hF : (10 * n32 s + I (86 + 8 * s) 10).toInt = 10 * s + (I (86 + 8 * s) 10).toInt := by rw [i32a (by rw [s10, n32i (by omega)]; omega), s10, n32i (by omega)]; omega
  have ai : (n32 (p / 12)).toInt = ((p / 12 : Nat) : Int) := n32i (by omega)
  have bi' : (n32 (p % 12)).toInt = ((p % 12 : Nat) : Int) := n32i (by omega)
  by_cases hab : p / 12 < p % 12
  · refine lp_inv (fun st => ∃ f : Nat, f ≤ Int32.toNatClampNeg (I (86 + 8 * s) 10) ∧ st = (n32 (cntA I s p f), @bi (snA I s p f) (Classical.propDecidable _), n32 (10 * s + f))) (fun st => (50 - st.2.2.toInt).toNat) K ?_ (0, 0, 10 * n32 s) ⟨0, by omega, ?_⟩
    · rintro st ⟨f, hf, rfl⟩
      have fi : (n32 (10 * s + f)).toInt = ((10 * s + f : Nat) : Int) := n32i (by omega)
      unfold f_M_gather_s37
      dsimp only
      refine ok_g gs ?_
      rw [st', c2]
      refine ok_le (fun hc => ?_) (fun hc => ?_)
      · have e : f = Int32.toNatClampNeg (I (86 + 8 * s) 10) := by omega
        rw [e]
        exact ok_m (ok_mono hk fun q hq => hq)
      · refine ok_f (by rw [le32]; omega) ?_
        unfold f_M_gather_b62
        have hf' : (f : Int) < (I (86 + 8 * s) 10).toInt := by omega
        refine ok_mono (g_inner (a := p / 12) (b := p % 12) h hs hf' (by omega) (by omega) ?_) ?_
        · by_cases w : snA I s p f
          · exact Or.inr (@if_pos _ (Classical.propDecidable _) w _ _ _)
          · exact Or.inl (@if_neg _ (Classical.propDecidable _) w _ _ _)
        · rintro r ⟨m1, s1, rfl, hr⟩
          have hb := d p f hp
          refine ⟨⟨f + 1, by omega, ?_⟩, ?_⟩
          · have es : n32 (10 * s + f) + 1 = n32 (10 * s + (f + 1)) := n32s (by omega)
            rw [es]
            have cl : cntA I s p f ≤ f := by
              rw [cntA_pcs]
              exact pcs_le _ _
            rcases hr with ⟨r1, r2, r3⟩ | ⟨r1, r2, r3⟩
            · have hbt := hb.mpr ⟨hf', hab, r1⟩
              have ec : cntA I s p (f + 1) = cntA I s p f + 1 := by
                show cntA I s p f + ((bn (I (86 + 8 * s + 7) p)).testBit f).toNat = _
                rw [hbt]
                rfl
              rw [r2, r3, ec, n32s (by omega)]
              refine mid3 ?_
              by_cases w : snA I s p (f + 1)
              · rw [@bi_t _ (Classical.propDecidable _) w]
                refine bi_t ?_
                obtain ⟨j, hj, hj1, hj2⟩ := w
                by_cases he : j = f
                · exact Or.inr (by rw [← he]; exact hj2)
                · exact Or.inl (@if_pos _ (Classical.propDecidable _) ⟨j, by omega, hj1, hj2⟩ _ _ _)
              · rw [@bi_f _ (Classical.propDecidable _) w]
                refine bi_f ?_
                rintro (u | u)
                · by_cases w' : snA I s p f
                  · obtain ⟨j, hj, hj1, hj2⟩ := w'
                    exact w ⟨j, by omega, hj1, hj2⟩
                  · rw [@bi_f _ (Classical.propDecidable _) w'] at u
                    exact absurd u (by decide)
                · exact w ⟨f, by omega, hbt, u⟩
            · have hbt : ((bn (I (86 + 8 * s + 7) p)).testBit f) = false := by
                cases hq : (bn (I (86 + 8 * s + 7) p)).testBit f with
                | false => rfl
                | true => exact absurd (hb.mp hq).2.2 r1
              have ec : cntA I s p (f + 1) = cntA I s p f := by
                show cntA I s p f + ((bn (I (86 + 8 * s + 7) p)).testBit f).toNat = _
                rw [hbt]
                rfl
              rw [r2, r3, ec]
              refine mid3 ?_
              by_cases w : snA I s p f
              · obtain ⟨j, hj, hj1, hj2⟩ := w
                rw [@bi_t _ (Classical.propDecidable _) ⟨j, hj, hj1, hj2⟩, @bi_t _ (Classical.propDecidable _) ⟨j, by omega, hj1, hj2⟩]
              · rw [@bi_f _ (Classical.propDecidable _) w, @bi_f _ (Classical.propDecidable _)]
                rintro ⟨j, hj, hj1, hj2⟩
                by_cases he : j = f
                · rw [he, hbt] at hj1
                  cases hj1
                · exact w ⟨j, by omega, hj1, hj2⟩
          · show (50 - (n32 (10 * s + f) + 1).toInt).toNat < (50 - (n32 (10 * s + f)).toInt).toNat
            rw [i32p (by omega) (by omega)]
            omega
    · rw [s10, @bi_f _ (Classical.propDecidable _)]
      · rfl
      · rintro ⟨j, hj, _⟩
        omega
  · refine lp_step ?_
    have z1 : cntA I s p (Int32.toNatClampNeg (I (86 + 8 * s) 10)) = 0 := by
      have : ∀ g, cntA I s p g = 0 := by
        intro g
        induction g with
        | zero => rfl
        | succ g ih =>
          have hbt : ((bn (I (86 + 8 * s + 7) p)).testBit g) = false := by
            cases hq : (bn (I (86 + 8 * s + 7) p)).testBit g with
            | false => rfl
            | true => exact absurd ((d p g hp).mp hq).2.1 hab
          show cntA I s p g + ((bn (I (86 + 8 * s + 7) p)).testBit g).toNat = 0
          rw [ih, hbt]
          rfl
      exact this _
    have z2 : ¬ snA I s p (Int32.toNatClampNeg (I (86 + 8 * s) 10)) := by
      rintro ⟨j, _, hj, _⟩
      exact hab ((d p j hp).mp hj).2.1
    rw [z1, @bi_f _ (Classical.propDecidable _) z2] at hk
    generalize hK : (fun x => Sum.elim (fun s' => ok (lp (f_M_gather_s37 (n32 s) (n32 p) (n32 (p / 12)) (n32 (p % 12)) I) s') K) K x) = K'
    have hk0 : ok ((f_M_gather_b177 (n32 s) (n32 p) (n32 (p / 12)) (n32 (p % 12)) 0 0 I).map (Sum.inr (α := Int32 × Int32 × Int32))) K' := by
      rw [← hK]
      exact ok_m (ok_mono hk fun q hq => hq)
    unfold f_M_gather_s37
    dsimp only
    refine ok_g gs ?_
    refine ok_le (fun _ => hk0) (fun _ => ok_t (by rw [le32]; omega) hk0)
