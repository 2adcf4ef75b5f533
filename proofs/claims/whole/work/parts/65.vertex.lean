/-! ===== a vertex more ===== -/
theorem IvS1.addv {I K : xm_I} {s m : Nat} {x y z : Int32} (h : IvS1 I s) (hm : m = Int32.toNatClampNeg (I (86 + 8 * s) 9)) (h12 : (I (86 + 8 * s) 9).toInt < 12) (hx : -100 ≤ x.toInt ∧ x.toInt ≤ 100) (hy : -100 ≤ y.toInt ∧ y.toInt ≤ 100) (hz : -100 ≤ z.toInt ∧ z.toInt ≤ 100) (e14 : K 1 4 = I 1 4) (ra : ∀ k, k ≠ 9 → K (86 + 8 * s) k = I (86 + 8 * s) k) (ra9 : K (86 + 8 * s) 9 = I (86 + 8 * s) 9 + 1) (r1 : K (86 + 8 * s + 1) = upd (I (86 + 8 * s + 1)) m x) (r2 : K (86 + 8 * s + 2) = upd (I (86 + 8 * s + 2)) m y) (r3 : K (86 + 8 * s + 3) = upd (I (86 + 8 * s + 3)) m z) (ra4 : K (86 + 8 * s + 4) = I (86 + 8 * s + 4)) (ra5 : K (86 + 8 * s + 5) = I (86 + 8 * s + 5)) (ra6 : K (86 + 8 * s + 6) = I (86 + 8 * s + 6)) (ra7 : K (86 + 8 * s + 7) = I (86 + 8 * s + 7)) (r61 : K 61 s = I 61 s) (r62 : K 62 s = I 62 s) (r63 : K 63 s = I 63 s + 1) (r65 : K 65 s = I 65 s) (r66 : K 66 = I 66) (r67 : K 67 = I 67) (r64 : K 64 = upd (upd (upd (I 64) (36 * s + 3 * m) x) (36 * s + 3 * m + 1) y) (36 * s + 3 * m + 2) z) : IvS1 K s := by
  obtain ⟨⟨a1, a2, a3, a4⟩, ⟨b1, b2, b3⟩, ⟨c1, c2, c3⟩, d⟩ := h
  have mi : (m : Int) = (I (86 + 8 * s) 9).toInt := by rw [hm]; exact tn32 b1.1
  have es : (I (86 + 8 * s) 9 + 1).toInt = (I (86 + 8 * s) 9).toInt + 1 := i32p (by omega) (by omega)
  have rv : ∀ v ax, v ≠ m → ax < 3 → vtx K s v ax = vtx I s v ax := by
    intro v ax hv hax
    have : ax = 0 ∨ ax = 1 ∨ ax = 2 := by omega
    unfold vtx
    rcases this with rfl | rfl | rfl
    · show K (86 + 8 * s + 1) v = I (86 + 8 * s + 1) v
      rw [r1, upd_ne _ _ _ _ hv]
    · show K (86 + 8 * s + 2) v = I (86 + 8 * s + 2) v
      rw [r2, upd_ne _ _ _ _ hv]
    · show K (86 + 8 * s + 3) v = I (86 + 8 * s + 3) v
      rw [r3, upd_ne _ _ _ _ hv]
  have rf : ∀ f, fz K s f = fz I s f := fun f => by unfold fz; rw [r66]
  have rw7 : ∀ f k, fv K s f k = fv I s f k := fun f k => by unfold fv; rw [r67]
  unfold IvS1
  rw [ra 0 (by decide), ra 1 (by decide), ra9, ra 10 (by decide), r61, r62, r63, r65]
  refine ⟨⟨⟨a1.1, by rw [e14]; exact a1.2⟩, a2, a3, a4⟩, ⟨by omega, by rw [b2], fun v ax hv hax => ?_⟩, ⟨c1, c2, fun f hf => ?_⟩, fun p f hp => ?_⟩
  · by_cases he : v = m
    · subst he
      rw [r64]
      have : ax = 0 ∨ ax = 1 ∨ ax = 2 := by omega
      unfold vtx
      rcases this with rfl | rfl | rfl
      · show _ = K (86 + 8 * s + 1) v ∧ -100 ≤ (K (86 + 8 * s + 1) v).toInt ∧ (K (86 + 8 * s + 1) v).toInt ≤ 100
        rw [r1, upd_at, upd_ne _ _ _ _ (by omega), upd_ne _ _ _ _ (by omega)]
        exact ⟨upd_at _ _ _, hx⟩
      · show _ = K (86 + 8 * s + 2) v ∧ -100 ≤ (K (86 + 8 * s + 2) v).toInt ∧ (K (86 + 8 * s + 2) v).toInt ≤ 100
        rw [r2, upd_at, upd_ne _ _ _ _ (by omega), upd_at]
        exact ⟨rfl, hy⟩
      · show _ = K (86 + 8 * s + 3) v ∧ -100 ≤ (K (86 + 8 * s + 3) v).toInt ∧ (K (86 + 8 * s + 3) v).toInt ≤ 100
        rw [r3, upd_at, upd_at]
        exact ⟨rfl, hz⟩
    · rw [rv v ax he hax, r64, upd_ne _ _ _ _ (by omega), upd_ne _ _ _ _ (by omega), upd_ne _ _ _ _ (by omega)]
      exact b3 v ax (by omega) hax
  · obtain ⟨e1, e2, e3, e4, e5, e6⟩ := c3 f hf
    have n3 : 3 ≤ fz I s f := by
      have := tn32 (x := I 66 (10 * s + f)) (by omega)
      unfold fz
      omega
    have nm : ∀ k, k < fz I s f → Int32.toNatClampNeg (fv I s f k) ≠ m := fun k hk => by
      obtain ⟨q1, q2⟩ := e2 k hk
      have := tn32 q1
      omega
    have rd : ∀ k ax, k < fz I s f → ax < 3 → dif K s f k ax = dif I s f k ax := fun k ax hk hax => by
      unfold dif
      rw [rw7, rw7, rv _ _ (nm k hk) hax, rv _ _ (nm 0 (by omega)) hax]
    unfold IvFc
    rw [rf f, ra9, ra4, ra5, ra6, r66, rd 1 0 (by omega) (by omega), rd 1 1 (by omega) (by omega), rd 1 2 (by omega) (by omega), rd 2 0 (by omega) (by omega), rd 2 1 (by omega) (by omega), rd 2 2 (by omega) (by omega)]
    refine ⟨e1, fun k hk => ?_, fun j k hj hk => ?_, e4, e5, e6⟩
    · rw [rw7]
      have := e2 k hk
      omega
    · rw [rw7, rw7]
      exact e3 j k hj hk
  · rw [ra7, d p f hp]
    refine and_congr_right fun hf => and_congr_right fun _ => ?_
    unfold adjF adjk
    rw [rf f]
    refine exists_congr fun k => and_congr_right fun hk => ?_
    rw [rw7, rw7]
theorem c_vertex {a x y z : Int32} {I : xm_I} {n : Nat} (h : IvS I n) : ok (f_D_vertex a x y z n I) (fun p => xl_sc I p.2 ∧ ok (f_M_vertex a x y z p.2) (fun q => p.1 = q.1 ∧ (q.2 = I ∨ ∃ r, 86 ≤ r ∧ r + 8 ≤ n ∧ FrS [63, 64] r I q.2) ∧ IvS q.2 n)) := by
  have h' := h
  obtain ⟨h1, h2, h3, h4, h5, h6, h7⟩ := h'
  have t1 := tn32 h1.1
  have h2' : (I 49 31).toInt = (I 15 1).toInt := by rw [h2]
  have k12 := z12
  have k100 : (100 : Int32).toInt = 100 := by decide
  have km : (-100 : Int32).toInt = -100 := by decide
  unfold f_D_vertex f_D_vertex_b0
  by_cases ha : 0 ≤ a.toInt ∧ a.toInt < (I 15 1).toInt
  · obtain ⟨ef, hsd⟩ := e_Ss_find h ha
    have ts := tn32 ha.1
    have hS : f_M_isSolid a I = some 1 := by rw [e_M_isSolid, bi_t (by omega)]
    refine ok_e ef (ok_g hsd ?_)
    have tr : ∀ v : Int32, f_M_vertex a x y z I = some (v, I) → xl_sc I (v, I).2 ∧ ok (f_M_vertex a x y z (v, I).2) (fun q => (v, I).1 = q.1 ∧ (q.2 = I ∨ ∃ r, 86 ≤ r ∧ r + 8 ≤ n ∧ FrS [63, 64] r I q.2) ∧ IvS q.2 n) := fun v hv => ⟨⟨rfl, rfl⟩, (v, I), hv, rfl, Or.inl rfl, h⟩
    refine ok_e (e_D_isWithin _ _ _) (ok_ib (fun hx => ok_s (tr _ ?_)) (fun hx => ?_))
    · rw [km, k100] at hx
      unfold f_M_vertex f_M_vertex_b0
      rw [hS, e_M_in, bi_f (by simp only [Int64.reduceToInt, i64of]; exact hx)]
      rfl
    rw [km, k100] at hx
    have ix : f_M_in x.toInt64 (-100) 100 = some 1 := by rw [e_M_in, bi_t (by simp only [Int64.reduceToInt, i64of]; exact hx)]
    refine ok_e (e_D_isWithin _ _ _) (ok_ib (fun hy => ok_s (tr _ ?_)) (fun hy => ?_))
    · rw [km, k100] at hy
      unfold f_M_vertex f_M_vertex_b0
      rw [hS, ix, e_M_in, bi_f (by simp only [Int64.reduceToInt, i64of]; exact hy)]
      rfl
    rw [km, k100] at hy
    have iy : f_M_in y.toInt64 (-100) 100 = some 1 := by rw [e_M_in, bi_t (by simp only [Int64.reduceToInt, i64of]; exact hy)]
    refine ok_e (e_D_isWithin _ _ _) (ok_ib (fun hz => ok_s (tr _ ?_)) (fun hz => ?_))
    · rw [km, k100] at hz
      unfold f_M_vertex f_M_vertex_b0
      rw [hS, ix, iy, e_M_in, bi_f (by simp only [Int64.reduceToInt, i64of]; exact hz)]
      rfl
    rw [km, k100] at hz
    have iz : f_M_in z.toInt64 (-100) 100 = some 1 := by rw [e_M_in, bi_t (by simp only [Int64.reduceToInt, i64of]; exact hz)]
    have hs1 := h6 (Int32.toNatClampNeg a) (by omega)
    have hs1' := hs1
    obtain ⟨_, ⟨b1, b2, b3⟩, _, _⟩ := hs1'
    generalize hs : Int32.toNatClampNeg a = s at *
    have ga : 0 ≤ a.toInt ∧ a.toInt < 4 := by omega
    refine ok_e (e_So_verticesAreFull _ _) (ok_ib (fun hf => ?_) (fun hf => ok_s (tr _ ?_)))
    · have hf' : ¬ 12 ≤ (I (86 + 8 * s) 9).toInt := hf
      unfold f_So_addVertex f_So_addVertex_b0
      refine ok_b (ok_e (e_So_verticesAreFull _ _) (ok_ib (fun _ => ?_) (fun hf2 => absurd hf2 hf)))
      refine ok_g (by omega) (ok_g ?_ (ok_g ?_ (ok_s (ok_s ⟨⟨?_, ?_⟩, ?_⟩))))
      · rw [up2_ne _ _ _ _ _ _ (by omega)]
        omega
      · rw [up2_ne _ _ _ _ _ _ (by omega), up2_ne _ _ _ _ _ _ (by omega)]
        omega
      · simp (disch := omega) only [up2_row]
      · simp (disch := omega) only [up2_row]
      · simp (disch := omega) only [up2_ne, up2_self]
        generalize hm : Int32.toNatClampNeg (I (86 + 8 * s) 9) = m at *
        have mi : (m : Int) = (I (86 + 8 * s) 9).toInt := by rw [← hm]; exact tn32 b1.1
        generalize hJ : up2 (up2 (up2 (up2 I (86 + 8 * s + 1) m x) (86 + 8 * s + 2) m y) (86 + 8 * s + 3) m z) (86 + 8 * s) 9 (I (86 + 8 * s) 9 + 1) = J
        have fJ : FrS [] (86 + 8 * s) I J := by
          rw [← hJ]
          exact FrS.up (FrS.up (FrS.up (FrS.up (FrS.refl _ _ _) (Or.inr ⟨by omega, by omega⟩)) (Or.inr ⟨by omega, by omega⟩)) (Or.inr ⟨by omega, by omega⟩)) (Or.inr ⟨by omega, by omega⟩)
        have c31 : J 49 31 = I 49 31 := fJ 49 31 (by decide) (by omega)
        have c63 : J 63 = I 63 := fJ.row 63 rfl (by decide) (by omega)
        have c64 : J 64 = I 64 := fJ.row 64 rfl (by decide) (by omega)
        have hS' : f_M_isSolid a J = some 1 := by rw [e_M_isSolid, c31, bi_t (by omega)]
        have k36 : (36 : Int32).toInt = 36 := by decide
        have k3 := z3
        have w1 : (36 * a).toInt = 36 * a.toInt := by rw [i32m (by rw [k36]; omega), k36]
        have w2 : (3 * I (86 + 8 * s) 9).toInt = 3 * (I (86 + 8 * s) 9).toInt := by rw [i32m (by rw [k3]; omega), k3]
        have w3 : (36 * a + 3 * I (86 + 8 * s) 9).toInt = 36 * a.toInt + 3 * (I (86 + 8 * s) 9).toInt := by rw [i32a (by omega), w1, w2]
        have w4 : (36 * a + 3 * I (86 + 8 * s) 9 + 1).toInt = 36 * a.toInt + 3 * (I (86 + 8 * s) 9).toInt + 1 := by rw [i32a (by have := z1; omega), w3, z1]
        have w5 : (36 * a + 3 * I (86 + 8 * s) 9 + 2).toInt = 36 * a.toInt + 3 * (I (86 + 8 * s) 9).toInt + 2 := by rw [i32a (by have := z2; omega), w3, z2]
        have v3 : Int32.toNatClampNeg (36 * a + 3 * I (86 + 8 * s) 9) = 36 * s + 3 * m := by
          have := tn32 (x := 36 * a + 3 * I (86 + 8 * s) 9) (by omega)
          omega
        have v4 : Int32.toNatClampNeg (36 * a + 3 * I (86 + 8 * s) 9 + 1) = 36 * s + 3 * m + 1 := by
          have := tn32 (x := 36 * a + 3 * I (86 + 8 * s) 9 + 1) (by omega)
          omega
        have v5 : Int32.toNatClampNeg (36 * a + 3 * I (86 + 8 * s) 9 + 2) = 36 * s + 3 * m + 2 := by
          have := tn32 (x := 36 * a + 3 * I (86 + 8 * s) 9 + 2) (by omega)
          omega
        unfold f_M_vertex f_M_vertex_b0
        rw [hs]
        refine ok_e hS' (ok_f (by decide) (ok_e ix (ok_f (by decide) (ok_e iy (ok_f (by decide) (ok_e iz (ok_f (by decide) ?_)))))))
        rw [c63, b2]
        refine ok_g ga (ok_f (by rw [eq32]; omega) (ok_g ga (ok_g (by omega) (ok_g (by omega) (ok_g (by omega) (ok_g ga (ok_g ga (ok_g ga (ok_s ?_)))))))))
        rw [v3, v4, v5]
        simp (disch := decide) only [up2_ne, up2_self]
        rw [c63, b2]
        generalize hK : up2 (up2 (up2 (up2 J 64 (36 * s + 3 * m) x) 64 (36 * s + 3 * m + 1) y) 64 (36 * s + 3 * m + 2) z) 63 s (I (86 + 8 * s) 9 + 1) = K
        have fK : FrS [63, 64] (86 + 8 * s) I K := by
          rw [← hK]
          refine FrS.up (FrS.up (FrS.up (FrS.up (fun a k _ h2 => fJ a k (List.not_mem_nil) h2) ?_) ?_) ?_) ?_ <;> exact Or.inl (by rw [cd_row rfl]; decide)
        have kr : ∀ a, a ≠ 63 → a ≠ 64 → K a = J a := fun a ha hb => by rw [← hK, up2_row _ _ _ _ _ ha, up2_row _ _ _ _ _ hb, up2_row _ _ _ _ _ hb, up2_row _ _ _ _ _ hb]
        have k64 : K 64 = upd (upd (upd (I 64) (36 * s + 3 * m) x) (36 * s + 3 * m + 1) y) (36 * s + 3 * m + 2) z := by
          rw [← hK, up2_row _ _ _ _ _ (by decide), up2_upd, up2_upd, up2_upd, c64]
        have k63 : K 63 = upd (I 63) s (I (86 + 8 * s) 9 + 1) := by
          rw [← hK, up2_upd, up2_row _ _ _ _ _ (by decide), up2_row _ _ _ _ _ (by decide), up2_row _ _ _ _ _ (by decide), c63]
        have j9 : J (86 + 8 * s) 9 = I (86 + 8 * s) 9 + 1 := by rw [← hJ, up2_self]
        have jk : ∀ k, k ≠ 9 → J (86 + 8 * s) k = I (86 + 8 * s) k := fun k hk => by rw [← hJ, up2_nk _ _ _ _ _ hk, up2_ne _ _ _ _ _ _ (by omega), up2_ne _ _ _ _ _ _ (by omega), up2_ne _ _ _ _ _ _ (by omega)]
        have j1 : J (86 + 8 * s + 1) = upd (I (86 + 8 * s + 1)) m x := by rw [← hJ, up2_row _ _ _ _ _ (by omega), up2_row _ _ _ _ _ (by omega), up2_row _ _ _ _ _ (by omega), up2_upd]
        have j2 : J (86 + 8 * s + 2) = upd (I (86 + 8 * s + 2)) m y := by rw [← hJ, up2_row _ _ _ _ _ (by omega), up2_row _ _ _ _ _ (by omega), up2_upd, up2_row _ _ _ _ _ (by omega)]
        have j3 : J (86 + 8 * s + 3) = upd (I (86 + 8 * s + 3)) m z := by rw [← hJ, up2_row _ _ _ _ _ (by omega), up2_upd, up2_row _ _ _ _ _ (by omega), up2_row _ _ _ _ _ (by omega)]
        have jo : ∀ a, a ≠ 86 + 8 * s → a ≠ 86 + 8 * s + 1 → a ≠ 86 + 8 * s + 2 → a ≠ 86 + 8 * s + 3 → J a = I a := fun a q0 q1 q2 q3 => by rw [← hJ, up2_row _ _ _ _ _ q0, up2_row _ _ _ _ _ q3, up2_row _ _ _ _ _ q2, up2_row _ _ _ _ _ q1]
        refine ⟨rfl, Or.inr ⟨86 + 8 * s, by omega, by omega, fK⟩, ?_⟩
        unfold IvS
        rw [fK 15 1 (by decide) (by omega), fK 15 2 (by decide) (by omega), fK 49 31 (by decide) (by omega), fK 49 32 (by decide) (by omega)]
        refine ⟨h1, h2, h3, h4, h5, fun s' hs' => ?_, fun s' hs' hs4 => ?_⟩
        · by_cases he : s' = s
          · rw [he]
            refine hs1.addv (x := x) (y := y) (z := z) hm.symm (by omega) hx hy hz (fK 1 4 (by decide) (by omega)) ?_ ?_ ?_ ?_ ?_ ?_ ?_ ?_ ?_ ?_ ?_ ?_ ?_ ?_ ?_ k64
            · intro k hk
              rw [kr _ (by omega) (by omega)]
              exact jk k hk
            · rw [kr _ (by omega) (by omega), j9]
            · rw [kr _ (by omega) (by omega), j1]
            · rw [kr _ (by omega) (by omega), j2]
            · rw [kr _ (by omega) (by omega), j3]
            · rw [kr _ (by omega) (by omega), jo _ (by omega) (by omega) (by omega) (by omega)]
            · rw [kr _ (by omega) (by omega), jo _ (by omega) (by omega) (by omega) (by omega)]
            · rw [kr _ (by omega) (by omega), jo _ (by omega) (by omega) (by omega) (by omega)]
            · rw [kr _ (by omega) (by omega), jo _ (by omega) (by omega) (by omega) (by omega)]
            · rw [fK.row 61 rfl (by decide) (by omega)]
            · rw [fK.row 62 rfl (by decide) (by omega)]
            · rw [k63, upd_at, b2]
            · rw [fK.row 65 rfl (by decide) (by omega)]
            · exact fK.row 66 rfl (by decide) (by omega)
            · exact fK.row 67 rfl (by decide) (by omega)
          · refine (h6 s' hs').kept (by rw [fK 1 4 (by decide) (by omega)]; exact Int.le_refl _) (fun c hc hc' => ?_) (by rw [fK.row 61 rfl (by decide) (by omega)]) (by rw [fK.row 62 rfl (by decide) (by omega)]) (by rw [k63, upd_ne _ _ _ _ he]) (by rw [fK.row 65 rfl (by decide) (by omega)]) (fun j hj hj' => ?_) (fun j _ _ => by rw [fK.row 66 rfl (by decide) (by omega)]) (fun j _ _ => by rw [fK.row 67 rfl (by decide) (by omega)])
            · funext k
              exact fK c k (by rw [cd_mid (by omega) (by omega)]; simp only [List.mem_cons, List.not_mem_nil, or_false]; omega) (by omega)
            · rw [k64, upd_ne _ _ _ _ (by omega), upd_ne _ _ _ _ (by omega), upd_ne _ _ _ _ (by omega)]
        · rw [k63, upd_ne _ _ _ _ (by omega), fK.row 65 rfl (by decide) (by omega)]
          exact h7 s' hs' hs4
    · have hf' : 12 ≤ (I (86 + 8 * s) 9).toInt := hf
      unfold f_M_vertex f_M_vertex_b0
      rw [hS, ix, iy, iz]
      simp only [Option.bind_some]
      rw [if_neg (by decide), if_neg (by decide), if_neg (by decide), if_neg (by decide), gd_p _ ga, hs, b2, if_pos (by rw [eq32]; omega)]
  · refine ok_e (e_Ss_none ha) (ok_s ⟨⟨rfl, rfl⟩, ?_⟩)
    unfold f_M_vertex f_M_vertex_b0
    refine ok_e (e_M_isSolid _ _) (ok_ib (fun _ => ok_s ⟨rfl, Or.inl rfl, h⟩) (fun hh => ?_))
    exfalso
    have hh' : 0 ≤ a.toInt ∧ a.toInt < (I 49 31).toInt := hh
    omega
