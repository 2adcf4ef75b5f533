/-! ===== the call: a face ===== -/
theorem nxk_mod {n k : Nat} (h : k < n) : nxk n k = (k + 1) % n := by
  unfold nxk
  by_cases hc : k + 1 < n
  · rw [if_pos hc, Nat.mod_eq_of_lt hc]
  · have : k + 1 = n := by omega
    rw [if_neg hc, this, Nat.mod_self]
theorem prn_iff {v : Int32} {n k p : Nat} (hd : dist v n) (hk : k < n) (hn : 3 ≤ n) (h12 : ∀ j, j < n → Int32.toNatClampNeg (wv v j) < 12) (hp : p < 144) : prn v n k = p ↔ (p / 12 < p % 12 ∧ ((Int32.toNatClampNeg (wv v k) = p / 12 ∧ Int32.toNatClampNeg (wv v ((k + 1) % n)) = p % 12) ∨ (Int32.toNatClampNeg (wv v k) = p % 12 ∧ Int32.toNatClampNeg (wv v ((k + 1) % n)) = p / 12))) := by
  rw [← nxk_mod hk]
  have hn' : nxk n k < n := by unfold nxk; split <;> omega
  have hne : Int32.toNatClampNeg (wv v k) ≠ Int32.toNatClampNeg (wv v (nxk n k)) := by
    intro he
    have e := wv_eq he
    by_cases hc : k < nxk n k
    · exact hd _ _ hc hn' e
    · have : nxk n k ≠ k := by unfold nxk; split <;> omega
      exact hd _ _ (by omega) hk e.symm
  have a1 := h12 k hk
  have a2 := h12 _ hn'
  unfold prn
  have e1 : ∀ a b : Nat, Nat.min a b = min a b := fun _ _ => rfl
  have e2 : ∀ a b : Nat, Nat.max a b = max a b := fun _ _ => rfl
  rw [e1, e2]
  generalize Int32.toNatClampNeg (wv v k) = a at *
  generalize Int32.toNatClampNeg (wv v (nxk n k)) = b at *
  omega
theorem IvS1.addf {I K : xm_I} {s f n : Nat} {x v : Int32} (h : IvS1 I s) (hf : (f : Int) = (I (86 + 8 * s) 10).toInt) (hf10 : f < 10) (hs : s < 4) (hx : 3 ≤ x.toInt ∧ x.toInt ≤ 6) (hn : n = Int32.toNatClampNeg x) (hw : ∀ k, k < n → (wv v k).toInt < (I (86 + 8 * s) 9).toInt) (hd : dist v n) (e14 : K 1 4 = I 1 4) (ra : ∀ k, k ≠ 10 → K (86 + 8 * s) k = I (86 + 8 * s) k) (ra10 : K (86 + 8 * s) 10 = I (86 + 8 * s) 10 + 1) (r1 : K (86 + 8 * s + 1) = I (86 + 8 * s + 1)) (r2 : K (86 + 8 * s + 2) = I (86 + 8 * s + 2)) (r3 : K (86 + 8 * s + 3) = I (86 + 8 * s + 3))
    (r4 : K (86 + 8 * s + 4) = upd (I (86 + 8 * s + 4)) f (dif K s f 1 1 * dif K s f 2 2 - dif K s f 1 2 * dif K s f 2 1)) (r5 : K (86 + 8 * s + 5) = upd (I (86 + 8 * s + 5)) f (dif K s f 1 2 * dif K s f 2 0 - dif K s f 1 0 * dif K s f 2 2)) (r6 : K (86 + 8 * s + 6) = upd (I (86 + 8 * s + 6)) f (dif K s f 1 0 * dif K s f 2 1 - dif K s f 1 1 * dif K s f 2 0))
    (r7 : ∀ q g : Nat, ((bn (K (86 + 8 * s + 7) q)).testBit g = true ↔ ((bn (I (86 + 8 * s + 7) q)).testBit g = true ∨ (g = f ∧ ∃ k, k < n ∧ prn v n k = q)))) (r61 : K 61 s = I 61 s) (r62 : K 62 s = I 62 s) (r63 : K 63 s = I 63 s) (r65 : K 65 s = I 65 s + 1) (r64 : K 64 = I 64) (r66 : K 66 = upd (I 66) (10 * s + f) x) (r67 : ∀ k, k < n → K 67 (6 * (10 * s + f) + k) = wv v k) (r67' : ∀ j, (j < 6 * (10 * s + f) ∨ 6 * (10 * s + f) + 6 ≤ j) → K 67 j = I 67 j) : IvS1 K s := by
  obtain ⟨⟨a1, a2, a3, a4⟩, ⟨b1, b2, b3⟩, ⟨c1, c2, c3⟩, d⟩ := h
  have tx := tn32 (x := x) (by omega)
  have es : (I (86 + 8 * s) 10 + 1).toInt = (I (86 + 8 * s) 10).toInt + 1 := i32p (by omega) (by omega)
  have rv : ∀ v ax, ax < 3 → vtx K s v ax = vtx I s v ax := by
    intro v ax hax
    have : ax = 0 ∨ ax = 1 ∨ ax = 2 := by omega
    unfold vtx
    rcases this with rfl | rfl | rfl
    · show K (86 + 8 * s + 1) v = I (86 + 8 * s + 1) v
      rw [r1]
    · show K (86 + 8 * s + 2) v = I (86 + 8 * s + 2) v
      rw [r2]
    · show K (86 + 8 * s + 3) v = I (86 + 8 * s + 3) v
      rw [r3]
  have rf : ∀ g, g ≠ f → fz K s g = fz I s g := fun g hg => by unfold fz; rw [r66, upd_ne _ _ _ _ (by omega)]
  have rff : fz K s f = n := by unfold fz; rw [r66, upd_at, hn]
  have rw7 : ∀ g k, g ≠ f → k < 6 → fv K s g k = fv I s g k := fun g k hg hk => by unfold fv; rw [r67' _ (by omega)]
  have rwf : ∀ k, k < n → fv K s f k = wv v k := fun k hk => r67 k hk
  have sz : ∀ g : Nat, (g : Int) < (I (86 + 8 * s) 10).toInt → 3 ≤ fz I s g ∧ fz I s g ≤ 6 := fun g hg => by
    obtain ⟨e1, _⟩ := c3 g hg
    have := tn32 (x := I 66 (10 * s + g)) (by omega)
    unfold fz
    omega
  unfold IvS1
  rw [ra 0 (by decide), ra 1 (by decide), ra 9 (by decide), ra10, r61, r62, r63, r65]
  refine ⟨⟨⟨a1.1, by rw [e14]; exact a1.2⟩, a2, a3, a4⟩, ⟨b1, b2, fun v ax hv hax => ?_⟩, ⟨by omega, by rw [c2], fun g hg => ?_⟩, fun p g hp => ?_⟩
  · rw [rv v ax hax, r64]
    exact b3 v ax hv hax
  · by_cases he : g = f
    · subst he
      unfold IvFc
      rw [rff, r4, r5, r6, r66, upd_at, upd_at, upd_at, upd_at, ra 9 (by decide)]
      refine ⟨hx, fun k hk => ?_, fun j k hj hk => ?_, rfl, rfl, rfl⟩
      · rw [rwf k hk]
        exact ⟨(wv_b v k).1, hw k hk⟩
      · rw [rwf j (by omega), rwf k hk]
        exact hd j k hj hk
    · have hg' : (g : Int) < (I (86 + 8 * s) 10).toInt := by omega
      obtain ⟨e1, e2, e3, e4, e5, e6⟩ := c3 g hg'
      obtain ⟨n3, n6⟩ := sz g hg'
      have rd : ∀ k ax, k < 6 → ax < 3 → dif K s g k ax = dif I s g k ax := fun k ax hk hax => by
        unfold dif
        rw [rw7 g k he hk, rw7 g 0 he (by omega), rv _ _ hax, rv _ _ hax]
      unfold IvFc
      rw [rf g he, r4, r5, r6, r66, upd_ne _ _ _ _ he, upd_ne _ _ _ _ he, upd_ne _ _ _ _ he, upd_ne _ _ _ _ (show 10 * s + g ≠ 10 * s + f by omega), ra 9 (by decide), rd 1 0 (by omega) (by omega), rd 1 1 (by omega) (by omega), rd 1 2 (by omega) (by omega), rd 2 0 (by omega) (by omega), rd 2 1 (by omega) (by omega), rd 2 2 (by omega) (by omega)]
      refine ⟨e1, fun k hk => ?_, fun j k hj hk => ?_, e4, e5, e6⟩
      · rw [rw7 g k he (by omega)]
        exact e2 k hk
      · rw [rw7 g k he (by omega), rw7 g j he (by omega)]
        exact e3 j k hj hk
  · rw [r7, d p g hp, es]
    have h12 : ∀ j, j < n → Int32.toNatClampNeg (wv v j) < 12 := fun j hj => by
      have := tn32 (wv_b v j).1
      have := hw j hj
      omega
    by_cases he : g = f
    · subst he
      constructor
      · rintro (⟨h1, _⟩ | ⟨_, k, hk, hp'⟩)
        · omega
        · obtain ⟨q1, q2⟩ := (prn_iff hd hk (by omega) h12 hp).mp hp'
          refine ⟨by omega, q1, k, by rw [rff]; exact hk, ?_⟩
          unfold adjk
          rw [rff, rwf k hk, rwf _ (Nat.mod_lt _ (by omega))]
          exact q2
      · rintro ⟨_, q1, k, hk, q2⟩
        rw [rff] at hk
        unfold adjk at q2
        rw [rff, rwf k hk, rwf _ (Nat.mod_lt _ (by omega))] at q2
        exact Or.inr ⟨rfl, k, hk, (prn_iff hd hk (by omega) h12 hp).mpr ⟨q1, q2⟩⟩
    · constructor
      · rintro (⟨h1, h2, k, hk, h3⟩ | ⟨h, _⟩)
        · obtain ⟨n3, n6⟩ := sz g h1
          refine ⟨by omega, h2, k, by rw [rf g he]; exact hk, ?_⟩
          unfold adjk at h3 ⊢
          rw [rf g he, rw7 g k he (by omega), rw7 g _ he (Nat.lt_of_lt_of_le (Nat.mod_lt _ (by omega)) n6)]
          exact h3
        · exact absurd h he
      · rintro ⟨h1, h2, k, hk, h3⟩
        have h1' : (g : Int) < (I (86 + 8 * s) 10).toInt := by omega
        obtain ⟨n3, n6⟩ := sz g h1'
        rw [rf g he] at hk
        refine Or.inl ⟨h1', h2, k, hk, ?_⟩
        unfold adjk at h3 ⊢
        rw [rf g he, rw7 g k he (by omega), rw7 g _ he (Nat.lt_of_lt_of_le (Nat.mod_lt _ (by omega)) n6)] at h3
        exact h3
theorem c_face {a x v : Int32} {I : xm_I} {n : Nat} (h : IvS I n) : ok (f_D_face a x v n I) (fun p => xl_sc I p.2 ∧ ok (f_M_face a x v p.2) (fun q => p.1 = q.1 ∧ (q.2 = I ∨ ∃ r, 86 ≤ r ∧ r + 8 ≤ n ∧ FrS [65, 66, 67] r I q.2) ∧ IvS q.2 n)) := by
  have h' := h
  obtain ⟨h1, h2, h3, h4, h5, h6, h7⟩ := h'
  have t1 := tn32 h1.1
  have h2' : (I 49 31).toInt = (I 15 1).toInt := by rw [h2]
  have k3 := z3
  have k6 := z6
  have k10 := z10
  unfold f_D_face f_D_face_b0
  by_cases ha : 0 ≤ a.toInt ∧ a.toInt < (I 15 1).toInt
  · obtain ⟨ef, hsd⟩ := e_Ss_find h ha
    have ts := tn32 ha.1
    refine ok_e ef (ok_g hsd ?_)
    refine ok_e (e_D_isWithin _ _ _) (ok_ib (fun hx => ok_s ⟨⟨rfl, rfl⟩, ?_⟩) (fun hx => ?_))
    · rw [k3, k6] at hx
      unfold f_M_face f_M_face_b0
      refine ok_e (e_M_isSolid _ _) (ok_f (by rw [bi0]; exact fun k => k (show 0 ≤ a.toInt ∧ a.toInt < (I 49 31).toInt by omega)) (ok_e (e_M_in _ _ _) (ok_t ?_ (ok_s ⟨rfl, Or.inl rfl, h⟩))))
      rw [bi0]
      simp only [Int64.reduceToInt, i64of]
      exact hx
    rw [k3, k6] at hx
    have tx := tn32 (x := x) (by omega)
    have hs1 := h6 (Int32.toNatClampNeg a) (by omega)
    have hs1' := hs1
    obtain ⟨_, ⟨b1, b2, b3⟩, ⟨c1, c2, c3⟩, _⟩ := hs1'
    generalize hs : Int32.toNatClampNeg a = s at *
    have ga : 0 ≤ a.toInt ∧ a.toInt < 4 := by omega
    have mJ : ∀ (J : xm_I) (K : Int32 × xm_I → Prop), FrS [] (86 + 8 * s) I J → ((¬ ∀ k, k < Int32.toNatClampNeg x → (wv v k).toInt < (I (86 + 8 * s) 9).toInt) → K (-100001, J)) → ((∀ k, k < Int32.toNatClampNeg x → (wv v k).toInt < (I (86 + 8 * s) 9).toInt) → ¬ dist v (Int32.toNatClampNeg x) → K (-100003, J)) → ((∀ k, k < Int32.toNatClampNeg x → (wv v k).toInt < (I (86 + 8 * s) 9).toInt) → dist v (Int32.toNatClampNeg x) → (I (86 + 8 * s) 10).toInt = 10 → K (-100004, J)) → ((∀ k, k < Int32.toNatClampNeg x → (wv v k).toInt < (I (86 + 8 * s) 9).toInt) → dist v (Int32.toNatClampNeg x) → (I (86 + 8 * s) 10).toInt ≠ 10 → ok (gd (0 ≤ (10 * a + I (86 + 8 * s) 10).toInt ∧ (10 * a + I (86 + 8 * s) 10).toInt < 40) (lp (f_M_face_s172 a x v (10 * a + I (86 + 8 * s) 10)) (0, up2 J 66 (Int32.toNatClampNeg (10 * a + I (86 + 8 * s) 10)) x))) K) → ok (f_M_face a x v J) K := by
      intro J K fJ q1 q2 q3 q4
      have e63 : J 63 (Int32.toNatClampNeg a) = I (86 + 8 * s) 9 := by rw [hs, fJ.row 63 rfl (by decide) (by omega), b2]
      have e65 : J 65 (Int32.toNatClampNeg a) = I (86 + 8 * s) 10 := by rw [hs, fJ.row 65 rfl (by decide) (by omega), c2]
      have e31 : J 49 31 = I 49 31 := fJ 49 31 (by decide) (by omega)
      refine M_face_ok (by rw [e31]; omega) (by rw [e31]; omega) hx ?_ ?_ ?_ ?_ <;> rw [e63]
      · exact q1
      · exact q2
      · rw [e65]
        exact fun p1 p2 p3 => q3 p1 p2 (by rw [p3]; exact k10)
      · rw [e65]
        exact fun p1 p2 p3 => q4 p1 p2 (fun p => p3 (by rw [eq32, p]; exact k10.symm))
    have hvr := e_hasVertices (x := x) (v := v) (r := 86 + 8 * s) (I := I) hx
    obtain ⟨qv, hqv, hq⟩ := hvr
    refine ok_e hqv ?_
    rcases hq with ⟨hq1, hw⟩ | ⟨hq1, hw⟩
    · refine ok_f (by rw [hq1]; decide) ?_
      obtain ⟨qt, hqt, hqd⟩ := e_hasOneTwice (x := x) (v := v) hx
      refine ok_e hqt ?_
      rcases hqd with ⟨hq2, hd⟩ | ⟨hq2, hd⟩
      · refine ok_t hq2 (ok_e (e_So_facesAreFull _ _) (ok_ib (fun hf => ?_) (fun hf => ok_s ⟨⟨rfl, rfl⟩, ?_⟩)))
        · have hf' : ¬ 10 ≤ (I (86 + 8 * s) 10).toInt := hf
          unfold f_So_addFace f_So_addFace_b0
          refine ok_b (ok_e (e_So_facesAreFull _ _) (ok_ib (fun _ => ?_) (fun hf2 => absurd hf2 hf)))
          refine ok_e hqv (ok_f (by rw [hq1]; decide) (ok_e (e_So_vertexIn v 0) (ok_e (e_So_vertexIn v 1) (ok_e (e_So_vertexIn v 2) ?_))))
          have w0 := hw 0 (by omega)
          have w1 := hw 1 (by omega)
          have w2 := hw 2 (by omega)
          have v0 := wv_b v 0
          have v1 := wv_b v 1
          have v2 := wv_b v 2
          have g0 : 0 ≤ (wv v 0).toInt ∧ (wv v 0).toInt < 12 := by omega
          have g1 : 0 ≤ (wv v 1).toInt ∧ (wv v 1).toInt < 12 := by omega
          have g2 : 0 ≤ (wv v 2).toInt ∧ (wv v 2).toInt < 12 := by omega
          have gf : 0 ≤ (I (86 + 8 * s) 10).toInt ∧ (I (86 + 8 * s) 10).toInt < 10 := by omega
          have tf := tn32 gf.1
          generalize hfn : Int32.toNatClampNeg (I (86 + 8 * s) 10) = f at *
          unfold f_So_setNormal f_So_setNormal_b0
          refine ok_b (ok_g g1 (ok_g g0 (ok_g g1 (ok_g g0 (ok_g g1 (ok_g g0 (ok_g g2 (ok_g g0 (ok_g g2 (ok_g g0 (ok_g g2 (ok_g g0 (ok_g gf (ok_g ?_ (ok_g ?_ (ok_s ?_))))))))))))))))
          · rw [up2_ne _ _ _ _ _ _ (by omega)]
            exact gf
          · rw [up2_ne _ _ _ _ _ _ (by omega), up2_ne _ _ _ _ _ _ (by omega)]
            exact gf
          · simp (disch := omega) only [up2_ne]
            rw [hfn]
            generalize hN4 : (I (86 + 8 * s + 2) (Int32.toNatClampNeg (wv v 1)) - I (86 + 8 * s + 2) (Int32.toNatClampNeg (wv v 0))) * (I (86 + 8 * s + 3) (Int32.toNatClampNeg (wv v 2)) - I (86 + 8 * s + 3) (Int32.toNatClampNeg (wv v 0))) - (I (86 + 8 * s + 3) (Int32.toNatClampNeg (wv v 1)) - I (86 + 8 * s + 3) (Int32.toNatClampNeg (wv v 0))) * (I (86 + 8 * s + 2) (Int32.toNatClampNeg (wv v 2)) - I (86 + 8 * s + 2) (Int32.toNatClampNeg (wv v 0))) = N4
            generalize hN5 : (I (86 + 8 * s + 3) (Int32.toNatClampNeg (wv v 1)) - I (86 + 8 * s + 3) (Int32.toNatClampNeg (wv v 0))) * (I (86 + 8 * s + 1) (Int32.toNatClampNeg (wv v 2)) - I (86 + 8 * s + 1) (Int32.toNatClampNeg (wv v 0))) - (I (86 + 8 * s + 1) (Int32.toNatClampNeg (wv v 1)) - I (86 + 8 * s + 1) (Int32.toNatClampNeg (wv v 0))) * (I (86 + 8 * s + 3) (Int32.toNatClampNeg (wv v 2)) - I (86 + 8 * s + 3) (Int32.toNatClampNeg (wv v 0))) = N5
            generalize hN6 : (I (86 + 8 * s + 1) (Int32.toNatClampNeg (wv v 1)) - I (86 + 8 * s + 1) (Int32.toNatClampNeg (wv v 0))) * (I (86 + 8 * s + 2) (Int32.toNatClampNeg (wv v 2)) - I (86 + 8 * s + 2) (Int32.toNatClampNeg (wv v 0))) - (I (86 + 8 * s + 2) (Int32.toNatClampNeg (wv v 1)) - I (86 + 8 * s + 2) (Int32.toNatClampNeg (wv v 0))) * (I (86 + 8 * s + 1) (Int32.toNatClampNeg (wv v 2)) - I (86 + 8 * s + 1) (Int32.toNatClampNeg (wv v 0))) = N6
            generalize hJ : up2 (up2 (up2 I (86 + 8 * s + 4) f N4) (86 + 8 * s + 5) f N5) (86 + 8 * s + 6) f N6 = J
            have jr : ∀ c, c ≠ 86 + 8 * s + 4 → c ≠ 86 + 8 * s + 5 → c ≠ 86 + 8 * s + 6 → J c = I c := fun c q4 q5 q6 => by rw [← hJ, up2_row _ _ _ _ _ q6, up2_row _ _ _ _ _ q5, up2_row _ _ _ _ _ q4]
            have j4 : J (86 + 8 * s + 4) = upd (I (86 + 8 * s + 4)) f N4 := by rw [← hJ, up2_row _ _ _ _ _ (by omega), up2_row _ _ _ _ _ (by omega), up2_upd]
            have j5 : J (86 + 8 * s + 5) = upd (I (86 + 8 * s + 5)) f N5 := by rw [← hJ, up2_row _ _ _ _ _ (by omega), up2_upd, up2_row _ _ _ _ _ (by omega)]
            have j6 : J (86 + 8 * s + 6) = upd (I (86 + 8 * s + 6)) f N6 := by rw [← hJ, up2_upd, up2_row _ _ _ _ _ (by omega), up2_row _ _ _ _ _ (by omega)]
            unfold f_So_addFace_b40
            have j10 : J (86 + 8 * s) 10 = I (86 + 8 * s) 10 := by rw [jr _ (by omega) (by omega) (by omega)]
            refine ok_mono (af_loop (f := f) hx (by rw [j10]; omega) (by omega) (fun k hk => by have := hw k hk; omega)) (fun p hp => ok_s ?_)
            obtain ⟨p1, p2, p3, p4⟩ := hp
            rw [j10] at p1 p3
            have fP : FrS [] (86 + 8 * s) I p.2 := by
              intro c k _ hc
              rw [p2 c k (by omega) (by omega), jr c (by omega) (by omega) (by omega)]
            refine ⟨⟨fP.row _ rfl (by decide) (by omega), fP.row _ rfl (by decide) (by omega)⟩, ?_⟩
            show ok (f_M_face a x v p.2) _
            refine mJ p.2 _ fP (fun hn => absurd hw hn) (fun _ hn => absurd hd hn) (fun _ _ hn => by omega) (fun _ _ _ => ?_)
            have w1' : (10 * a).toInt = 10 * a.toInt := by rw [i32m (by rw [k10]; omega), k10]
            have w3 : (10 * a + I (86 + 8 * s) 10).toInt = 10 * a.toInt + (I (86 + 8 * s) 10).toInt := by rw [i32a (by omega), w1']
            have v3 : Int32.toNatClampNeg (10 * a + I (86 + 8 * s) 10) = 10 * s + f := by
              have := tn32 (x := 10 * a + I (86 + 8 * s) 10) (by omega)
              omega
            refine ok_g (by omega) (ok_mono (mf_loop ga hx (by omega)) (fun q hq => ?_))
            rw [v3, hs] at hq
            obtain ⟨q1, q2, q3, q4, q5⟩ := hq
            simp (disch := decide) only [up2_row] at q1 q2 q3 q4 q5
            have e65 : p.2 65 = I 65 := fP.row 65 rfl (by decide) (by omega)
            have e66 : p.2 66 = I 66 := fP.row 66 rfl (by decide) (by omega)
            have e67 : p.2 67 = I 67 := fP.row 67 rfl (by decide) (by omega)
            rw [e65] at q1 q3
            rw [e67] at q5
            have fQ : FrS [65, 66, 67] (86 + 8 * s) I q.2 := by
              intro c k hc1 hc2
              rw [q2 c k (fun hh => hc1 (by simp only [List.mem_cons, List.not_mem_nil, or_false] at hh ⊢; omega))]
              have : ¬ (c = 66 ∧ k = 10 * s + f) := fun hh => hc1 (by rw [hh.1, cd_row rfl]; decide)
              unfold up2
              rw [if_neg this]
              exact fP c k (by exact List.not_mem_nil) hc2
            have k66 : q.2 66 = upd (I 66) (10 * s + f) x := by rw [q2.row 66 rfl (by decide), up2_upd, e66]
            have kr : ∀ c, 86 ≤ c → c < 1000 → q.2 c = p.2 c := fun c hc hc' => by
              funext k
              rw [q2 c k (by rw [cd_mid hc hc']; simp only [List.mem_cons, List.not_mem_nil, or_false]; omega), up2_ne _ _ _ _ _ _ (by omega)]
            have vq : ∀ u ax, ax < 3 → vtx q.2 s u ax = I (86 + 8 * s + 1 + ax) u := fun u ax hax => by
              unfold vtx
              rw [kr _ (by omega) (by omega), p2 _ _ (by omega) (by omega), jr _ (by omega) (by omega) (by omega)]
            have fvq : ∀ k, k < Int32.toNatClampNeg x → fv q.2 s f k = wv v k := fun k hk => q4 k hk
            have dq : ∀ k ax, k < Int32.toNatClampNeg x → ax < 3 → dif q.2 s f k ax = I (86 + 8 * s + 1 + ax) (Int32.toNatClampNeg (wv v k)) - I (86 + 8 * s + 1 + ax) (Int32.toNatClampNeg (wv v 0)) := fun k ax hk hax => by
              unfold dif
              rw [fvq k hk, fvq 0 (by omega), vq _ _ hax, vq _ _ hax]
            refine ⟨?_, Or.inr ⟨86 + 8 * s, by omega, by omega, fQ⟩, ?_⟩
            · show p.1 = q.1
              rw [p1, q1, c2]
            · unfold IvS
              rw [fQ 15 1 (by decide) (by omega), fQ 15 2 (by decide) (by omega), fQ 49 31 (by decide) (by omega), fQ 49 32 (by decide) (by omega)]
              refine ⟨h1, h2, h3, h4, h5, fun s' hs' => ?_, fun s' hs' hs4 => ?_⟩
              · by_cases he : s' = s
                · rw [he]
                  refine hs1.addf (f := f) (x := x) (v := v) (n := Int32.toNatClampNeg x) (by omega) (by omega) (by omega) hx rfl hw hd (fQ 1 4 (by decide) (by omega)) ?_ ?_ ?_ ?_ ?_ ?_ ?_ ?_ ?_ ?_ ?_ ?_ ?_ ?_ k66 q4 q5
                  · intro k hk
                    rw [kr _ (by omega) (by omega), p2 _ _ (by omega) (by omega), jr _ (by omega) (by omega) (by omega)]
                  · rw [kr _ (by omega) (by omega), p3]
                  · funext k
                    rw [kr _ (by omega) (by omega), p2 _ _ (by omega) (by omega), jr _ (by omega) (by omega) (by omega)]
                  · funext k
                    rw [kr _ (by omega) (by omega), p2 _ _ (by omega) (by omega), jr _ (by omega) (by omega) (by omega)]
                  · funext k
                    rw [kr _ (by omega) (by omega), p2 _ _ (by omega) (by omega), jr _ (by omega) (by omega) (by omega)]
                  · funext k
                    rw [kr _ (by omega) (by omega), p2 _ _ (by omega) (by omega), j4, ← hN4, dq 1 1 (by omega) (by omega), dq 2 2 (by omega) (by omega), dq 1 2 (by omega) (by omega), dq 2 1 (by omega) (by omega)]
                  · funext k
                    rw [kr _ (by omega) (by omega), p2 _ _ (by omega) (by omega), j5, ← hN5, dq 1 2 (by omega) (by omega), dq 2 0 (by omega) (by omega), dq 1 0 (by omega) (by omega), dq 2 2 (by omega) (by omega)]
                  · funext k
                    rw [kr _ (by omega) (by omega), p2 _ _ (by omega) (by omega), j6, ← hN6, dq 1 0 (by omega) (by omega), dq 2 1 (by omega) (by omega), dq 1 1 (by omega) (by omega), dq 2 0 (by omega) (by omega)]
                  · intro u g
                    rw [kr _ (by omega) (by omega), p4 u g, jr _ (by omega) (by omega) (by omega)]
                  · rw [fQ.row 61 rfl (by decide) (by omega)]
                  · rw [fQ.row 62 rfl (by decide) (by omega)]
                  · rw [fQ.row 63 rfl (by decide) (by omega)]
                  · rw [q3, upd_at]
                  · exact fQ.row 64 rfl (by decide) (by omega)
                · refine (h6 s' hs').kept (by rw [fQ 1 4 (by decide) (by omega)]; exact Int.le_refl _) (fun c hc hc' => ?_) (by rw [fQ.row 61 rfl (by decide) (by omega)]) (by rw [fQ.row 62 rfl (by decide) (by omega)]) (by rw [fQ.row 63 rfl (by decide) (by omega)]) (by rw [q3, upd_ne _ _ _ _ he]) (fun j hj hj' => by rw [fQ.row 64 rfl (by decide) (by omega)]) (fun j _ _ => by rw [k66, upd_ne _ _ _ _ (by omega)]) (fun j _ _ => q5 j (by omega))
                  funext k
                  exact fQ c k (by rw [cd_mid (by omega) (by omega)]; simp only [List.mem_cons, List.not_mem_nil, or_false]; omega) (by omega)
              · rw [q3, upd_ne _ _ _ _ (by omega), fQ.row 63 rfl (by decide) (by omega)]
                exact h7 s' hs' hs4
        · have hf' : 10 ≤ (I (86 + 8 * s) 10).toInt := hf
          exact mJ I _ (FrS.refl _ _ _) (fun hn => absurd hw hn) (fun _ hn => absurd hd hn) (fun _ _ _ => ⟨rfl, Or.inl rfl, h⟩) (fun _ _ hn => absurd (by omega) hn)
      · refine ok_f (by rw [hq2]; decide) (ok_s ⟨⟨rfl, rfl⟩, ?_⟩)
        exact mJ I _ (FrS.refl _ _ _) (fun hn => absurd hw hn) (fun _ _ => ⟨rfl, Or.inl rfl, h⟩) (fun _ hn => absurd hn hd) (fun _ hn => absurd hn hd)
    · refine ok_t hq1 (ok_s ⟨⟨rfl, rfl⟩, ?_⟩)
      exact mJ I _ (FrS.refl _ _ _) (fun _ => ⟨rfl, Or.inl rfl, h⟩) (fun hn => absurd hn hw) (fun hn => absurd hn hw) (fun hn => absurd hn hw)
  · refine ok_e (e_Ss_none ha) (ok_s ⟨⟨rfl, rfl⟩, ?_⟩)
    unfold f_M_face f_M_face_b0
    refine ok_e (e_M_isSolid _ _) (ok_ib (fun _ => ok_s ⟨rfl, Or.inl rfl, h⟩) (fun hh => ?_))
    exfalso
    have hh' : 0 ≤ a.toInt ∧ a.toInt < (I 49 31).toInt := hh
    omega
