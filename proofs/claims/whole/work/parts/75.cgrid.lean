/-! ===== the grid, drawn by both ===== -/
def g64 (lo g : Int) (k : Nat) : Int64 := Int64.ofInt (mulF lo g + k * g)
theorem g64_i {lo g : Int} {k : Nat} (h : -1000000 ≤ mulF lo g + k * g ∧ mulF lo g + k * g ≤ 1000000) : (g64 lo g k).toInt = mulF lo g + k * g := by
  unfold g64
  rw [Int64.toInt_ofInt]
  show Int.bmod (mulF lo g + k * g) 18446744073709551616 = _
  exact Int.bmod_eq_of_le (by omega) (by omega)
def gvm (I : xm_I) (x : Int64) : M6 := (83, SX I x 1, SY I (I 14 2).toInt64 1, SX I x 1, SY I (I 14 3).toInt64 1, 1)
def ghm (I : xm_I) (y : Int64) : M6 := (83, SX I (I 14 0).toInt64 1, SY I y 1, SX I (I 14 1).toInt64 1, SY I y 1, 1)
def gvs (I : xm_I) : List M6 := (List.range (mulN (I 14 0).toInt (I 14 1).toInt (I 14 7).toInt)).map fun k => gvm I (g64 (I 14 0).toInt (I 14 7).toInt k)
def ghs (I : xm_I) : List M6 := (List.range (mulN (I 14 2).toInt (I 14 3).toInt (I 14 7).toInt)).map fun k => ghm I (g64 (I 14 2).toInt (I 14 7).toInt k)
def gridL (I : xm_I) : List M6 := if 0 < (I 14 7).toInt then gvs I ++ ghs I else []
theorem gd1 : gdn 1 := ⟨by decide, by decide⟩
theorem rg_take {α : Type} (f : Nat → α) (n i : Nat) (h : i < n) : ((List.range n).map f).take (i + 1) = ((List.range n).map f).take i ++ [f i] := by
  rw [List.take_succ]
  congr 1
  rw [List.getElem?_map, List.getElem?_range h]
  rfl
set_option maxRecDepth 100000 in
theorem gridStroke {n : Nat} {I0 I : xm_I} {s : MS} {x up : Int32} (hst : Sta n I0 I) (hs : 0 < (I0 14 10).toInt) (hC : CM I s) : ok (f_Pn_paintGridStroke x up I) (fun J => Fr WP I J ∧ CM J (em s (if up = 0 then ghm I0 x.toInt64 else gvm I0 x.toInt64))) := by
  have e10 : I 14 10 = I0 14 10 := hst.2 14 10 (by decide)
  have e0 : I 14 0 = I0 14 0 := hst.2 14 0 (by decide)
  have e1 : I 14 1 = I0 14 1 := hst.2 14 1 (by decide)
  have e2 : I 14 2 = I0 14 2 := hst.2 14 2 (by decide)
  have e3 : I 14 3 = I0 14 3 := hst.2 14 3 (by decide)
  have hW := hst.1.2.2.1
  obtain ⟨sx, sy⟩ := hst.sx
  have hs' : 0 < (I 14 10).toInt := by rw [e10]; exact hs
  have eX : ∀ m : Int64, f_Fr_sheetX m 1 I = some (SX I0 m 1) := fun m => by rw [e_Fr_sheetX hW hs' gd1, sx]
  have eY : ∀ m : Int64, f_Fr_sheetY m 1 I = some (SY I0 m 1) := fun m => by rw [e_Fr_sheetY hW hs' gd1, sy]
  unfold f_Pn_paintGridStroke f_Pn_paintGridStroke_b0
  by_cases hu : up = 0
  · rw [show (if up = 0 then ghm I0 x.toInt64 else gvm I0 x.toInt64) = ghm I0 x.toInt64 from if_pos hu]
    refine ok_t hu (ok_e (eY _) (ok_e (eX _) (ok_e (eX _) (ok_b (ok_mono (mk_add hC) (fun J hJ => ok_s ⟨hJ.1.mono (by decide), ?_⟩))))))
    have := hJ.2
    rw [e0, e1] at this
    exact this
  · rw [show (if up = 0 then ghm I0 x.toInt64 else gvm I0 x.toInt64) = gvm I0 x.toInt64 from if_neg hu]
    refine ok_f hu (ok_e (eX _) (ok_e (eY _) (ok_e (eY _) (ok_b (ok_mono (mk_add hC) (fun J hJ => ok_s ⟨hJ.1.mono (by decide), ?_⟩))))))
    have := hJ.2
    rw [e2, e3] at this
    exact this
theorem ems_len {s : MS} {xs : List M6} (h : s.1.length + xs.length ≤ 600) : (ems s xs).1.length = s.1.length + xs.length ∧ (ems s xs).2 = s.2 := by
  induction xs generalizing s with
  | nil => exact ⟨rfl, rfl⟩
  | cons x xs ih =>
    rw [List.length_cons] at h
    have e : em s x = (s.1 ++ [x], s.2) := if_pos (by omega)
    rw [ems_cons, e]
    have hl : (s.1 ++ [x]).length = s.1.length + 1 := by rw [List.length_append]; rfl
    have := ih (s := (s.1 ++ [x], s.2)) (by show (s.1 ++ [x]).length + xs.length ≤ 600; omega)
    refine ⟨?_, this.2⟩
    rw [this.1, List.length_cons]
    show (s.1 ++ [x]).length + xs.length = _
    omega
set_option maxRecDepth 100000 in
theorem gridWay {n : Nat} {I0 I : xm_I} {s : MS} {lo hi up : Int32} (hst : Sta n I0 I) (hs : 0 < (I0 14 10).toInt) (hg : 0 < (I0 14 7).toInt) (hlo : -40000 ≤ lo.toInt ∧ lo.toInt ≤ 40000) (hhi : -40000 ≤ hi.toInt ∧ hi.toInt ≤ 40000) (hC : CM I s) : ok (f_Pn_paintGridWay lo hi up I) (fun J => Fr WP I J ∧ CM J (ems s ((List.range (mulN lo.toInt hi.toInt (I0 14 7).toInt)).map fun k => if up = 0 then ghm I0 (g64 lo.toInt (I0 14 7).toInt k) else gvm I0 (g64 lo.toInt (I0 14 7).toInt k)))) := by
  have e7 : I 14 7 = I0 14 7 := hst.2 14 7 (by decide)
  have hg4 : (I0 14 7).toInt ≤ 40000 := by
    have := hst.1.2.2.1.2.2.1.1.2
    rw [e7] at this
    exact this
  have hG : 0 < (I 14 7).toInt ∧ (I 14 7).toInt ≤ 40000 := by rw [e7]; exact ⟨hg, hg4⟩
  obtain ⟨f, hf1, hf2⟩ := e_multipleFrom (a := lo) (g := I 14 7) (by omega) hG
  obtain ⟨N, hN1, hN2⟩ := e_multiplesWithin (a := lo) (b := hi) (g := I 14 7) (by omega) (by omega) hG
  rw [e7] at hf2 hN2
  obtain ⟨a1, a2, a3, a4⟩ := hC
  have hC' : CM I s := ⟨a1, a2, a3, a4⟩
  have si : (I 17 4).toInt = s.1.length := by rw [a2, n32i (by omega)]
  have hNle := mulN_le (a := lo.toInt) (b := hi.toInt) hg (by omega)
  have k600 : (600 : Int32).toInt = 600 := by decide
  have h6 : (600 - I 17 4).toInt = 600 - s.1.length := by rw [i32s (by omega), k600, si]
  generalize hxs : ((List.range (mulN lo.toInt hi.toInt (I0 14 7).toInt)).map fun k => if up = 0 then ghm I0 (g64 lo.toInt (I0 14 7).toInt k) else gvm I0 (g64 lo.toInt (I0 14 7).toInt k)) = xs
  have xl : xs.length = mulN lo.toInt hi.toInt (I0 14 7).toInt := by rw [← hxs, List.length_map, List.length_range]
  have mm := mnI_i N (600 - I 17 4)
  have hk0 : 0 ≤ (mnI N (600 - I 17 4)).toInt := by omega
  have tk := tn32 hk0
  unfold f_Pn_paintGridWay f_Pn_paintGridWay_b0 f_Pn_paintGridWay_b47
  dsimp only
  refine ok_e hf1 (ok_e hN1 (ok_e (e_Jm_min_I _ _) ?_))
  refine lp_inv (fun st => ∃ i : Nat, i ≤ Int32.toNatClampNeg (mnI N (600 - I 17 4)) ∧ st.1 = n32 i ∧ Fr WP I st.2 ∧ CM st.2 (ems s (xs.take i))) (fun st => (601 - st.1.toInt).toNat) _ ?_ (0, I) ⟨0, by omega, rfl, Fr.refl _ _, hC'⟩
  rintro ⟨ii, J⟩ ⟨i, hi1, e1, e2, e3⟩
  simp only at e1 e2 e3
  subst e1
  have i1 : (n32 i).toInt = i := n32i (by omega)
  unfold f_Pn_paintGridWay_s47
  dsimp only
  refine ok_le (fun hc => ?_) (fun hc => ?_)
  · have ei : i = Int32.toNatClampNeg (mnI N (600 - I 17 4)) := by omega
    refine ok_b (ok_mono (mk_lose e3) (fun K hK => ok_s ⟨e2.trans (hK.1.mono (by decide)), ?_⟩))
    have hsplit : ems s xs = ems (ems s (xs.take i)) (xs.drop i) := by rw [← ems_app, List.take_append_drop]
    have ht : (xs.take i).length = i := by rw [List.length_take]; omega
    have hd : (xs.drop i).length = xs.length - i := List.length_drop
    have hel := ems_len (s := s) (xs := xs.take i) (by omega)
    have hxk : N - mnI N (600 - I 17 4) = n32 (xs.length - i) := by
      rw [eq32, i32s (by omega), n32i (by omega)]
      omega
    rw [hsplit]
    have hK2 := hK.2
    rw [hxk] at hK2
    by_cases hfull : i = xs.length
    · have hnil : xs.drop i = [] := by rw [hfull]; exact List.drop_length
      rw [hnil, ems_nil]
      rw [hfull, Nat.sub_self] at hK2
      have : ((ems s (List.take xs.length xs)).1, (ems s (List.take xs.length xs)).2 + n32 0) = ems s (xs.take i) := by
        rw [hfull]
        show (_, _ + (0 : Int32)) = _
        rw [Int32.add_zero]
      rw [this] at hK2
      exact hK2
    · rw [ems_full (by rw [hel.1]; omega), hd]
      exact hK2
  · have hiN : i < xs.length := by omega
    have hb := (mulN_lt (a := lo.toInt) (b := hi.toInt) hg i).mp (by omega)
    have hm := mulF_b (a := lo.toInt) hg
    have hstJ : Sta n I0 J := hst.of e2 dWP
    have hpos : 0 ≤ (i : Int) * (I0 14 7).toInt := Int.mul_nonneg (by omega) (by omega)
    have p0 : (n32 i * I 14 7).toInt = i * (I0 14 7).toInt := by rw [i32m (by rw [i1, e7]; omega), i1, e7]
    have p1 : (f + n32 i * I 14 7).toInt = mulF lo.toInt (I0 14 7).toInt + i * (I0 14 7).toInt := by rw [i32a (by omega), hf2, p0]
    have p2 : (f + n32 i * I 14 7).toInt64 = g64 lo.toInt (I0 14 7).toInt i := by rw [eq64, i64of, p1, g64_i (by omega)]
    have es := n32s (k := i) (by omega)
    refine ok_b (ok_mono (gridStroke (up := up) (x := f + n32 i * I 14 7) hstJ hs e3) (fun K hK => ok_s ⟨⟨i + 1, by omega, es, e2.trans hK.1, ?_⟩, ?_⟩))
    · have hK2 := hK.2
      rw [p2] at hK2
      have ht : xs.take (i + 1) = xs.take i ++ [if up = 0 then ghm I0 (g64 lo.toInt (I0 14 7).toInt i) else gvm I0 (g64 lo.toInt (I0 14 7).toInt i)] := by
        rw [← hxs]
        exact rg_take _ _ _ (by omega)
      rw [ht, ems_app]
      exact hK2
    · show (601 - (n32 i + 1).toInt).toNat < (601 - (n32 i).toInt).toNat
      rw [i32p (by omega) (by omega)]
      omega
set_option maxRecDepth 100000 in
theorem paintGrid {n : Nat} {I0 I : xm_I} {s : MS} (hst : Sta n I0 I) (hs : 0 < (I0 14 10).toInt) (hC : CM I s) : ok (f_Pn_paintGrid I) (fun J => Fr WP I J ∧ CM J (ems s (gridL I0))) := by
  have e7 : I 14 7 = I0 14 7 := hst.2 14 7 (by decide)
  have e0 : I 14 0 = I0 14 0 := hst.2 14 0 (by decide)
  have e1 : I 14 1 = I0 14 1 := hst.2 14 1 (by decide)
  have e2 : I 14 2 = I0 14 2 := hst.2 14 2 (by decide)
  have e3 : I 14 3 = I0 14 3 := hst.2 14 3 (by decide)
  obtain ⟨b1, b2, _⟩ := hst.1.2.2.1.2.1
  unfold f_Pn_paintGrid f_Pn_paintGrid_b0 gridL
  refine ok_lt (fun hc => ?_) (fun hc => ?_)
  · rw [z0, e7] at hc
    rw [if_pos hc, ems_app]
    refine ok_b (ok_mono (gridWay (up := 1) hst hs hc (by omega) (by omega) hC) (fun J hJ => ?_))
    have hJst : Sta n I0 J := hst.of hJ.1 dWP
    have f2 : J 14 2 = I0 14 2 := hJst.2 14 2 (by decide)
    have f3 : J 14 3 = I0 14 3 := hJst.2 14 3 (by decide)
    have hJ2 := hJ.2
    rw [e0, e1] at hJ2
    refine ok_b (ok_mono (gridWay (up := 0) hJst hs hc (by rw [f2, ← e2]; omega) (by rw [f3, ← e3]; omega) hJ2) (fun K hK => ok_s ⟨hJ.1.trans hK.1, ?_⟩))
    have hK2 := hK.2
    rw [f2, f3] at hK2
    exact hK2
  · rw [z0, e7] at hc
    rw [if_neg (by omega)]
    exact ok_s ⟨Fr.refl _ _, hC⟩
/-! the reference's grid -/
theorem HL.ag {I J : xm_I} {L M : xm_L} (h : HL I L) (e9 : J 14 9 = I 14 9) (e10 : J 14 10 = I 14 10) (f : M 49 39 = L 49 39 ∧ M 49 40 = L 49 40) : HL J M := ⟨by rw [f.1, e9]; exact h.1, by rw [f.2, e10]; exact h.2⟩
set_option maxRecDepth 100000 in
theorem m_stroke {n : Nat} {I0 I : xm_I} {L : xm_L} {s : MS} {a ad b bd c cd' d dd : Int64} {st : Int32} (hst : Sta n I0 I) (hL : HL I0 L) (hs : 0 < (I0 14 10).toInt) (h1 : gdn ad) (h2 : gdn bd) (h3 : gdn cd') (h4 : gdn dd) (hM : MM I s) : ok (f_M_stroke a ad b bd c cd' d dd st I L) (fun J => Fr [71, 50049, 50050, 50061, 50062, 50063, 50064] I J ∧ MM J (em s (83, SX I0 a ad, SY I0 b bd, SX I0 c cd', SY I0 d dd, st)) ∧ J 49 61 = SX I0 a ad ∧ J 49 62 = SY I0 b bd ∧ J 49 63 = SX I0 c cd' ∧ J 49 64 = SY I0 d dd) := by
  have e10 : I 14 10 = I0 14 10 := hst.2 14 10 (by decide)
  have e9 : I 14 9 = I0 14 9 := hst.2 14 9 (by decide)
  have key : ∀ J, Fr [50061, 50062, 50063, 50064] I J → (∀ m e, gdn e → f_M_on m e 1 J L = some (SX I0 m e)) ∧ (∀ m e, gdn e → f_M_on m e 0 J L = some (SY I0 m e)) := by
    intro J hJ
    have hJs : Sta n I0 J := hst.of hJ (by decide)
    have f10 : J 14 10 = I0 14 10 := hJs.2 14 10 (by decide)
    have f9 : J 14 9 = I0 14 9 := hJs.2 14 9 (by decide)
    have hLJ : HL J L := hL.ag f9 f10 ⟨rfl, rfl⟩
    obtain ⟨sx, sy⟩ := hJs.sx
    have hs' : 0 < (J 14 10).toInt := by rw [f10]; exact hs
    exact ⟨fun m e he => by rw [e_M_onX hJs.1.2.2.1 hLJ hs' he, sx], fun m e he => by rw [e_M_onY hJs.1.2.2.1 hLJ hs' he, sy]⟩
  have q1 : Fr [50061, 50062, 50063, 50064] I (up2 I 49 61 (SX I0 a ad)) := Fr.up (Fr.refl _ _) (by decide)
  have q2 : Fr [50061, 50062, 50063, 50064] I (up2 (up2 I 49 61 (SX I0 a ad)) 49 62 (SY I0 b bd)) := Fr.up q1 (by decide)
  have q3 : Fr [50061, 50062, 50063, 50064] I (up2 (up2 (up2 I 49 61 (SX I0 a ad)) 49 62 (SY I0 b bd)) 49 63 (SX I0 c cd')) := Fr.up q2 (by decide)
  have q4 : Fr [50061, 50062, 50063, 50064] I (up2 (up2 (up2 (up2 I 49 61 (SX I0 a ad)) 49 62 (SY I0 b bd)) 49 63 (SX I0 c cd')) 49 64 (SY I0 d dd)) := Fr.up q3 (by decide)
  unfold f_M_stroke f_M_stroke_b0
  dsimp only
  refine ok_e ((key I (Fr.refl _ _)).1 _ _ h1) (ok_e ((key _ q1).2 _ _ h2) (ok_e ((key _ q2).1 _ _ h3) (ok_e ((key _ q3).2 _ _ h4) ?_)))
  have hM4 : MM (up2 (up2 (up2 (up2 I 49 61 (SX I0 a ad)) 49 62 (SY I0 b bd)) 49 63 (SX I0 c cd')) 49 64 (SY I0 d dd)) s := hM.kept (q4 49 49 (by decide)) (q4 49 50 (by decide)) (q4.row 71 rfl (by decide))
  refine ok_b (ok_mono (mm_add hM4) (fun J hJ => ok_s ⟨(q4.mono (by decide)).trans (hJ.1.mono (by decide)), ?_, ?_, ?_, ?_, ?_⟩))
  · have := hJ.2
    simp (disch := decide) only [up2_self, up2_nk] at this
    exact this
  · rw [hJ.1 49 61 (by decide)]
    simp (disch := decide) only [up2_self, up2_nk]
  · rw [hJ.1 49 62 (by decide)]
    simp (disch := decide) only [up2_self, up2_nk]
  · rw [hJ.1 49 63 (by decide)]
    simp (disch := decide) only [up2_self, up2_nk]
  · rw [hJ.1 49 64 (by decide)]
    simp (disch := decide) only [up2_self]
theorem e_M_ceiling {a g : Int64} (ha : -100000 ≤ a.toInt ∧ a.toInt ≤ 100000) (hg : 0 < g.toInt ∧ g.toInt ≤ 40000) : ∃ r : Int64, f_M_ceiling a g = some r ∧ (g * r).toInt = mulF a.toInt g.toInt := by
  have hb := mulF_b (a := a.toInt) hg.1
  have hn : (-a).toInt = -a.toInt := i64n (by omega)
  unfold f_M_ceiling f_M_ceiling_b0
  rw [e_M_floor (by omega)]
  refine ⟨-(fl (-a) g), rfl, ?_⟩
  have h2 := fl_i (x := -a) hg.1
  rw [hn] at h2
  have q1 := Int.mul_ediv_add_emod (-a.toInt) g.toInt
  have q2 := Int.emod_nonneg (-a.toInt) (show g.toInt ≠ 0 by omega)
  have q3 := Int.emod_lt_of_pos (-a.toInt) hg.1
  have rb : -100000 ≤ (fl (-a) g).toInt ∧ (fl (-a) g).toInt ≤ 100000 := by
    rw [h2]
    constructor
    · exact (Int.le_ediv_iff_mul_le hg.1).mpr (by
        have : (-100000 : Int) * g.toInt ≤ -100000 * 1 := Int.mul_le_mul_of_nonpos_left (by omega) (by omega)
        omega)
    · refine Int.not_lt.mp fun hh => ?_
      have := (Int.le_ediv_iff_mul_le (a := 100001) (b := -a.toInt) hg.1).mp (by omega)
      have h4 : (100001 : Int) * 1 ≤ 100001 * g.toInt := Int.mul_le_mul_of_nonneg_left (by omega) (by omega)
      omega
  have nr : (-(fl (-a) g)).toInt = -(fl (-a) g).toInt := i64n (by omega)
  have hm : g.toInt * (-(fl (-a) g)).toInt = mulF a.toInt g.toInt := by rw [nr, h2, Int.mul_comm]; rfl
  rw [i64m (by rw [hm]; omega), hm]
