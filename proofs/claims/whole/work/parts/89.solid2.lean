/-! ===== all solids ===== -/
theorem Sta.ey {n : Nat} {I0 I : xm_I} (h : Sta n I0 I) {s : Nat} (hs : s < 4) : (∀ f, eye I s f = eye I0 s f) ∧ I (86 + 8 * s) = I0 (86 + 8 * s) := by
  have r0 := h.so hs (86 + 8 * s) (by omega) (by omega)
  have r4 := h.so hs (86 + 8 * s + 4) (by omega) (by omega)
  have r5 := h.so hs (86 + 8 * s + 5) (by omega) (by omega)
  have r6 := h.so hs (86 + 8 * s + 6) (by omega) (by omega)
  have e15 : I 15 2 = I0 15 2 := h.2 15 2 (by decide)
  exact ⟨fun f => by unfold eye; rw [e15, r4, r5, r6], r0⟩
theorem flatL_one {α β : Type} (f : α → List β) (x : α) : flatL f [x] = f x := List.append_nil _
theorem EL_step (I : xm_I) (s p : Nat) : (isE I s p = true → flatL (resE I s) (EL I s (p + 1)) = flatL (resE I s) (EL I s p) ++ resE I s p) ∧ (¬ isE I s p = true → flatL (resE I s) (EL I s (p + 1)) = flatL (resE I s) (EL I s p)) := by
  constructor
  · intro h
    rw [EL_succ, if_pos h, flatL_app, flatL_one]
  · intro h
    rw [EL_succ, if_neg h, List.append_nil]
theorem paintSolid {n : Nat} {I0 I : xm_I} {L : xm_L} {ms : MS} {s : Nat} (hst : Sta n I0 I) (hsc : 0 < (I0 14 10).toInt) (hs : (s : Int) < (I0 15 1).toInt) (hC : CM I ms) : ok (f_Pn_paintSolid (86 + 8 * s) (I 15 2) I L) (fun r => Fr WP I r.1 ∧ Fr WK L r.2 ∧ CM r.1 (ems ms (flatL (resE I0 s) (EL I0 s 144)))) := by
  have k144 : (144 : Int32).toInt = 144 := by decide
  have e151 : I 15 1 = I0 15 1 := hst.2 15 1 (by decide)
  have e152 : I 15 2 = I0 15 2 := hst.2 15 2 (by decide)
  have hS := hst.1.2.2.2.1
  have s4 : s < 4 := by
    have := hS.1.2
    rw [e151] at this
    omega
  unfold f_Pn_paintSolid f_Pn_paintSolid_b0 f_Pn_paintSolid_b9
  refine ok_b (ok_mono (e_facesSeen hS (by rw [e151]; exact hs)) (fun m hm => ?_))
  refine lp_inv (fun st => ∃ p : Nat, p ≤ 144 ∧ st.1 = n32 p ∧ Fr WP I st.2.1 ∧ Fr WK L st.2.2 ∧ CM st.2.1 (ems ms (flatL (resE I0 s) (EL I0 s p)))) (fun st => (145 - st.1.toInt).toNat) _ ?_ (0, I, L) ⟨0, by omega, rfl, Fr.refl _ _, Fr.refl _ _, hC⟩
  rintro ⟨pp, J, M⟩ ⟨p, hp, q1, q2, q3, q4⟩
  simp only at q1 q2 q3 q4
  subst q1
  have pi : (n32 p).toInt = p := n32i (by omega)
  have hJ : Sta n I0 J := hst.of q2 dWP
  have j151 : J 15 1 = I0 15 1 := hJ.2 15 1 (by decide)
  have j152 : J 15 2 = I0 15 2 := hJ.2 15 2 (by decide)
  have j10 : J 14 10 = I0 14 10 := hJ.2 14 10 (by decide)
  obtain ⟨g1, g2, g3⟩ := hJ.EL s4
  obtain ⟨y1, y2⟩ := hJ.ey s4
  obtain ⟨y3, y4⟩ := hst.ey s4
  obtain ⟨t1, t2⟩ := EL_step I0 s p
  unfold f_Pn_paintSolid_s9
  dsimp only
  refine ok_le (fun hc => ok_s ?_) (fun hc => ?_)
  · have e : p = 144 := by omega
    rw [e] at q4
    exact ⟨q2, q3, q4⟩
  · have dec : (145 - (n32 p + 1).toInt).toNat < (145 - (n32 p).toInt).toNat := by
      rw [i32p (by omega) (by omega)]
      omega
    have es := n32s (k := p) (by omega)
    have hp' : p < 144 := by omega
    have ed := e_So_isEdge (I := J) (s := s) hp'
    rw [g1] at ed
    refine ok_e ed (ok_ib (fun hn => ?_) (fun hy => ?_))
    · unfold f_Pn_paintSolid_b70
      exact ok_s ⟨⟨p + 1, by omega, es, q2, q3, by rw [t2 hn]; exact q4⟩, dec⟩
    · have bh : f_So_isBehind (86 + 8 * s) (n32 p) m J = some (bhd J s p) := e_isBehind hp' (by
        intro g
        rw [y2, y1, ← y4, ← y3]
        exact hm g)
      rw [g3] at bh
      have hid := e_Fg_isHidden (I := J) (x := 9) (by decide) (by decide)
      have j12 : J 12 = I0 12 := hJ.2.row 12 rfl (by decide)
      rw [show Int32.toNatClampNeg 9 = 9 from rfl, j12] at hid
      have go : ∀ st : Int32, (st = if bhd I0 s p = 0 then 0 else 1) → ¬ (¬ bhd I0 s p = 0 ∧ ¬ I0 12 9 = 0) → ok (f_Pn_paintSolid_b67 (86 + 8 * s) (I 15 2) m (n32 p) (86 + 8 * s) (n32 p) (I 15 2) st J M) (fun x => Sum.elim (fun s' => (∃ p : Nat, p ≤ 144 ∧ s'.1 = n32 p ∧ Fr WP I s'.2.1 ∧ Fr WK L s'.2.2 ∧ CM s'.2.1 (ems ms (flatL (resE I0 s) (EL I0 s p)))) ∧ (145 - s'.1.toInt).toNat < (145 - (n32 p).toInt).toNat) (fun r => Fr WP I r.1 ∧ Fr WK L r.2 ∧ CM r.1 (ems ms (flatL (resE I0 s) (EL I0 s 144)))) x) := by
        intro st hst' hh
        unfold f_Pn_paintSolid_b67 f_Pn_paintSolid_b70
        rw [e152, ← j152]
        refine ok_b (ok_mono (paintEdge (ms := ems ms (flatL (resE I0 s) (EL I0 s p))) hJ.1.1 hJ.1.2.2.2.1 hJ.1.2.2.1 (by rw [j10]; exact hsc) (by rw [j151]; exact hs) hp' (by rw [g1]; exact hy) (by rw [g3, j12]; exact hh) (by rw [g3]; exact hst') q4) (fun r hr => ok_s ⟨⟨p + 1, by omega, es, q2.trans hr.1, q3.trans hr.2.1, ?_⟩, dec⟩))
        have := hr.2.2
        rw [g2] at this
        rw [t1 hy, ems_app]
        exact this
      unfold f_Pn_paintSolid_b52
      refine ok_e bh (ok_i (fun hb => ok_t hb (go 0 (by rw [if_pos hb]) (fun k => k.1 hb))) (fun hb => ok_e hid (ok_ib (fun hz => ok_f hb (go 1 (by rw [if_neg hb]) (fun k => hz k.2))) (fun hz => ?_))))
      unfold f_Pn_paintSolid_b70
      refine ok_s ⟨⟨p + 1, by omega, es, q2, q3, ?_⟩, dec⟩
      have er : resE I0 s p = [] := by
        unfold resE
        by_cases c : FX I0 s (p / 12) = FX I0 s (p % 12) ∧ FY I0 s (p / 12) = FY I0 s (p % 12)
        · rw [if_pos c]
        · rw [if_neg c, if_pos ⟨hb, hz⟩]
      rw [t1 hy, er, List.append_nil]
      exact q4
/-- the marks of the first solids -/
noncomputable def solL (I : xm_I) : Nat → List M6
  | 0 => []
  | s + 1 => solL I s ++ flatL (resE I s) (EL I s 144)
noncomputable def solA (I : xm_I) : List M6 := if I 12 8 = 0 then solL I (Int32.toNatClampNeg (I 15 1)) else []
theorem paintSolids {n : Nat} {I0 I : xm_I} {L : xm_L} {ms : MS} (hst : Sta n I0 I) (hsc : 0 < (I0 14 10).toInt) (hC : CM I ms) : ok (f_Pn_paintSolids n I L) (fun r => Fr WP I r.1 ∧ Fr WK L r.2 ∧ CM r.1 (ems ms (solA I0))) := by
  have e151 : I 15 1 = I0 15 1 := hst.2 15 1 (by decide)
  have g4 : 0 ≤ (I0 15 1).toInt ∧ (I0 15 1).toInt ≤ 4 := by rw [← e151]; exact hst.1.2.2.2.1.1
  have t := tn32 g4.1
  have hid := e_Fg_isHidden (I := I) (x := 8) (by decide) (by decide)
  have j12 : I 12 = I0 12 := hst.2.row 12 rfl (by decide)
  rw [show Int32.toNatClampNeg 8 = 8 from rfl, j12] at hid
  unfold f_Pn_paintSolids f_Pn_paintSolids_b0 f_Pn_paintSolids_b15 solA
  refine ok_e hid (ok_ib (fun hn => ?_) (fun hy => ?_))
  · have h8 : I0 12 8 = 0 := Classical.byContradiction hn
    rw [if_pos h8]
    refine lp_inv (fun st => ∃ s : Nat, s ≤ Int32.toNatClampNeg (I0 15 1) ∧ st.1 = n32 s ∧ Fr WP I st.2.1 ∧ Fr WK L st.2.2 ∧ CM st.2.1 (ems ms (solL I0 s))) (fun st => (5 - st.1.toInt).toNat) _ ?_ (0, I, L) ⟨0, by omega, rfl, Fr.refl _ _, Fr.refl _ _, hC⟩
    rintro ⟨ss, J, M⟩ ⟨s, hs, q1, q2, q3, q4⟩
    simp only at q1 q2 q3 q4
    subst q1
    have si : (n32 s).toInt = s := n32i (by omega)
    have sn : Int32.toNatClampNeg (n32 s) = s := n32n (by omega)
    have hJ : Sta n I0 J := hst.of q2 dWP
    have j151 : J 15 1 = I0 15 1 := hJ.2 15 1 (by decide)
    unfold f_Pn_paintSolids_s15 f_Pn_paintSolids_b42
    dsimp only
    refine ok_le (fun hc => ok_s ?_) (fun hc => ?_)
    · rw [j151] at hc
      have e : s = Int32.toNatClampNeg (I0 15 1) := by omega
      rw [e] at q4
      exact ⟨q2, q3, q4⟩
    · rw [j151] at hc
      have fd := e_Ss_find (x := n32 s) hJ.1.2.2.2.1 (by rw [j151]; omega)
      rw [sn] at fd
      have dec : (5 - (n32 s + 1).toInt).toNat < (5 - (n32 s).toInt).toNat := by
        rw [i32p (by omega) (by omega)]
        omega
      refine ok_e fd.1 ?_
      show ok (gd (xm_sd n (86 + 8 * s)) _) _
      refine ok_g fd.2 (ok_b (ok_mono (paintSolid (ms := ems ms (solL I0 s)) hJ hsc (by omega) q4) (fun r hr => ok_s ⟨⟨s + 1, by omega, n32s (by omega), q2.trans hr.1, q3.trans hr.2.1, ?_⟩, dec⟩)))
      show CM r.1 (ems ms (solL I0 s ++ flatL (resE I0 s) (EL I0 s 144)))
      rw [ems_app]
      exact hr.2.2
  · rw [if_neg hy]
    exact ok_s ⟨Fr.refl _ _, Fr.refl _ _, hC⟩
set_option maxRecDepth 100000 in
theorem d68 : ∀ x ∈ STC, x ∉ [68, 50034] := by decide
abbrev W6 : List Nat := [68, 50034, 71, 50049, 50050, 50041, 50042, 50061, 50062, 50063, 50064]
set_option maxRecDepth 100000 in
theorem dW6 : ∀ x ∈ STC, x ∉ W6 := by decide
theorem drawSolid {n : Nat} {I0 I : xm_I} {L : xm_L} {ms : MS} {s : Nat} (hst : Sta n I0 I) (hL : HL I0 L) (hsc : 0 < (I0 14 10).toInt) (hs : (s : Int) < (I0 15 1).toInt) (hM : MM I ms) : ok (f_M_drawSolid (n32 s) I L) (fun r => Fr W6 I r.1 ∧ Fr WL L r.2 ∧ MM r.1 (ems ms (flatL (resE I0 s) (EL I0 s 144)))) := by
  have e151 : I 15 1 = I0 15 1 := hst.2 15 1 (by decide)
  have hS := hst.1.2.2.2.1
  have s4 : s < 4 := by
    have := hS.1.2
    rw [e151] at this
    omega
  have hsI : (s : Int) < (I 15 1).toInt := by rw [e151]; exact hs
  obtain ⟨a1, a2, a3⟩ := hst.EL s4
  have eEL : EL I s 144 = EL I0 s 144 := by unfold EL; rw [a1]
  unfold f_M_drawSolid f_M_drawSolid_b0 f_M_drawSolid_b7
  refine ok_b (ok_mono (gather_ok hS hsI) (fun G hG => ?_))
  obtain ⟨G1, G2, G3⟩ := hG
  have l66 := EL_len (p := 144) hS hsI (by omega)
  rw [eEL] at G2 G3 l66
  have hMG : MM G ms := hM.kept (G1 49 49 (by decide)) (G1 49 50 (by decide)) (G1.row 71 rfl (by decide))
  have hstG := hst.of G1 d68
  refine lp_inv (fun st => ∃ i : Nat, i ≤ (EL I0 s 144).length ∧ st.1 = n32 i ∧ Fr W5 G st.2.1 ∧ Fr WL L st.2.2 ∧ MM st.2.1 (ems ms (flatL (resE I0 s) ((EL I0 s 144).take i)))) (fun st => (67 - st.1.toInt).toNat) _ ?_ (0, G, L) ⟨0, by omega, rfl, Fr.refl _ _, Fr.refl _ _, hMG⟩
  rintro ⟨ii, J, M⟩ ⟨i, hi, q1, q2, q3, q4⟩
  simp only at q1 q2 q3 q4
  subst q1
  have ni : (n32 i).toInt = i := n32i (by omega)
  have hJ : Sta n I0 J := hstG.of q2 dW5
  have j34 : J 49 34 = n32 (EL I0 s 144).length := by rw [q2 49 34 (by decide)]; exact G2
  have j68 : J 68 = G 68 := q2.row 68 rfl (by decide)
  have j151 : J 15 1 = I0 15 1 := hJ.2 15 1 (by decide)
  obtain ⟨g1, g2, g3⟩ := hJ.EL s4
  have dec : (67 - (n32 i + 1).toInt).toNat < (67 - (n32 i).toInt).toNat := by
    rw [i32p (by omega) (by omega)]
    omega
  have es := n32s (k := i) (by omega)
  have k4 := z4
  unfold f_M_drawSolid_s7
  dsimp only
  have nl : (n32 (EL I0 s 144).length).toInt = (EL I0 s 144).length := n32i (by omega)
  refine ok_le (fun hc => ok_s ?_) (fun hc => ?_)
  · rw [j34] at hc
    have e : i = (EL I0 s 144).length := by omega
    rw [e, List.take_length] at q4
    exact ⟨(G1.mono (by decide)).trans (q2.mono (by decide)), q3, q4⟩
  · rw [j34] at hc
    have hi' : i < (EL I0 s 144).length := by omega
    obtain ⟨q, hq⟩ : ∃ q, (EL I0 s 144)[i]? = some q := ⟨_, List.getElem?_eq_getElem hi'⟩
    obtain ⟨r1, r2, r3, _⟩ := G3 i q hq
    have hqm : q ∈ EL I0 s 144 := List.mem_of_getElem? hq
    unfold EL at hqm
    rw [List.mem_filter, List.mem_range] at hqm
    obtain ⟨hq144, hqe⟩ := hqm
    have tk : (EL I0 s 144).take (i + 1) = (EL I0 s 144).take i ++ [q] := by
      rw [List.take_add_one, hq]
      rfl
    have x0 : (4 * n32 i).toInt = 4 * i := by rw [i32m (by rw [k4]; omega), k4, ni]
    have x1 : (4 * n32 i + 1).toInt = 4 * i + 1 := by rw [i32a (by rw [z1]; omega), x0, z1]
    have x2 : (4 * n32 i + 2).toInt = 4 * i + 2 := by rw [i32a (by rw [z2]; omega), x0, z2]
    have y0 : Int32.toNatClampNeg (4 * n32 i) = 4 * i := by have := tn32 (x := 4 * n32 i) (by omega); omega
    have y1 : Int32.toNatClampNeg (4 * n32 i + 1) = 4 * i + 1 := by have := tn32 (x := 4 * n32 i + 1) (by omega); omega
    have y2 : Int32.toNatClampNeg (4 * n32 i + 2) = 4 * i + 2 := by have := tn32 (x := 4 * n32 i + 2) (by omega); omega
    refine ok_g (by omega) (ok_g (by omega) (ok_g (by omega) ?_))
    have A0 : J 68 (Int32.toNatClampNeg (4 * n32 i)) = n32 (q / 12) := by rw [j68, y0, r1]
    have A1 : J 68 (Int32.toNatClampNeg (4 * n32 i + 1)) = n32 (q % 12) := by rw [j68, y1, r2]
    rw [A0, A1]
    have r3' : G 68 (4 * i + 2) = bhd I0 s q := by
      rw [r3]
      show bhd I s q = _
      rw [a3]
    have A2 : J 68 (Int32.toNatClampNeg (4 * n32 i + 2)) = bhd I0 s q := by rw [j68, y2, r3']
    obtain ⟨v1, v2⟩ := E_v hJ.1.2.2.2.1 (by rw [j151]; exact hs) hq144 (by rw [g1]; exact hqe)
    obtain ⟨fx1, fy1⟩ := e_M_flat hJ.1.1 hJ.1.2.2.2.1 (by rw [j151]; exact hs) v1
    obtain ⟨fx2, fy2⟩ := e_M_flat hJ.1.1 hJ.1.2.2.2.1 (by rw [j151]; exact hs) v2
    obtain ⟨bx1, by1⟩ := F_b hJ.1.1 hJ.1.2.2.2.1 (by rw [j151]; exact hs) v1
    obtain ⟨bx2, by2⟩ := F_b hJ.1.1 hJ.1.2.2.2.1 (by rw [j151]; exact hs) v2
    have j60 : J 60 (Int32.toNatClampNeg 9) = I0 12 9 := by
      show J 60 9 = _
      rw [hJ.1.2.1.2.2.1.2.2.2.2.2.1, hJ.2.row 12 rfl (by decide)]
    have skip : resE I0 s q = [] → ok (f_M_drawSolid_b146 (n32 s) (n32 i) J M) (fun x => Sum.elim (fun s' => (∃ i : Nat, i ≤ (EL I0 s 144).length ∧ s'.1 = n32 i ∧ Fr W5 G s'.2.1 ∧ Fr WL L s'.2.2 ∧ MM s'.2.1 (ems ms (flatL (resE I0 s) ((EL I0 s 144).take i)))) ∧ (67 - s'.1.toInt).toNat < (67 - (n32 i).toInt).toNat) (fun r => Fr W6 I r.1 ∧ Fr WL L r.2 ∧ MM r.1 (ems ms (flatL (resE I0 s) (EL I0 s 144)))) x) := by
      intro er
      unfold f_M_drawSolid_b146
      refine ok_s ⟨⟨i + 1, by omega, es, q2, q3, ?_⟩, dec⟩
      rw [tk, flatL_app, flatL_one, er, List.append_nil]
      exact q4
    have way : ∀ st : Int32, (st = if bhd I0 s q = 0 then 0 else 1) → ¬ (¬ bhd I0 s q = 0 ∧ ¬ I0 12 9 = 0) → ¬ (FX J s (q / 12) = FX J s (q % 12) ∧ FY J s (q / 12) = FY J s (q % 12)) → ok (f_M_drawSolid_b141 (n32 s) (n32 i) (FX J s (q / 12)) (FY J s (q / 12)) (FX J s (q % 12)) (FY J s (q % 12)) 1 1 st J M) (fun x => Sum.elim (fun s' => (∃ i : Nat, i ≤ (EL I0 s 144).length ∧ s'.1 = n32 i ∧ Fr W5 G s'.2.1 ∧ Fr WL L s'.2.2 ∧ MM s'.2.1 (ems ms (flatL (resE I0 s) ((EL I0 s 144).take i)))) ∧ (67 - s'.1.toInt).toNat < (67 - (n32 i).toInt).toNat) (fun r => Fr W6 I r.1 ∧ Fr WL L r.2 ∧ MM r.1 (ems ms (flatL (resE I0 s) (EL I0 s 144)))) x) := by
      intro st hst' hh hne
      have j9 : J 14 9 = I0 14 9 := hJ.2 14 9 (by decide)
      have j10 : J 14 10 = I0 14 10 := hJ.2 14 10 (by decide)
      have hLJ : HL J M := (hL.wl q3).ag j9 j10 ⟨rfl, rfl⟩
      have hne' : (FX J s (q % 12)).toInt ≠ (FX J s (q / 12)).toInt ∨ (FY J s (q % 12)).toInt ≠ (FY J s (q / 12)).toInt := by
        refine Classical.byContradiction fun k => hne ?_
        have u1 : (FX J s (q % 12)).toInt = (FX J s (q / 12)).toInt := Classical.byContradiction fun w => k (Or.inl w)
        have u2 : (FY J s (q % 12)).toInt = (FY J s (q / 12)).toInt := Classical.byContradiction fun w => k (Or.inr w)
        exact ⟨by rw [eq32, u1], by rw [eq32, u2]⟩
      have eR : resE J s q = (match wayC J (FX J s (q / 12)).toInt (FY J s (q / 12)).toInt (FX J s (q % 12)).toInt (FY J s (q % 12)).toInt (k0F 1) (k0T 1) with
  | none => []
  | some (F, T) => [wayM J (FX J s (q / 12)).toInt (FY J s (q / 12)).toInt (FX J s (q % 12)).toInt (FY J s (q % 12)).toInt F T st]) := by
        unfold resE
        rw [if_neg hne, if_neg (by rw [g3, hJ.2.row 12 rfl (by decide)]; exact hh), g3, ← hst']
        rfl
      have f1 : fqS 1 = k0F 1 := rfl
      have f2 : fqE 1 = k0T 1 := rfl
      unfold f_M_drawSolid_b141 f_M_drawSolid_b146
      refine ok_b (ok_mono (m_way (s := ems ms (flatL (resE I0 s) ((EL I0 s 144).take i))) (st := st) hJ.self hLJ (by rw [j10]; exact hsc) bx1 by1 bx2 by2 (Or.inr rfl) (Or.inr rfl) hne' q4) (fun r hr => ok_s ⟨⟨i + 1, by omega, es, q2.trans hr.1, q3.trans hr.2.1, ?_⟩, dec⟩))
      have h3 := hr.2.2
      rw [f1, f2] at h3
      rw [tk, flatL_app, flatL_one, ems_app, ← g2, eR]
      cases hc : wayC J (FX J s (q / 12)).toInt (FY J s (q / 12)).toInt (FX J s (q % 12)).toInt (FY J s (q % 12)).toInt (k0F 1) (k0T 1) with
      | none =>
        rw [hc] at h3
        rw [g2]
        exact h3.2
      | some FT =>
        obtain ⟨F, T⟩ := FT
        rw [hc] at h3
        rw [g2]
        exact h3.2.1
    have b105 : ∀ y : Int32, (y = 0 ↔ bhd I0 s q = 0) → ¬ (FX J s (q / 12) = FX J s (q % 12) ∧ FY J s (q / 12) = FY J s (q % 12)) → ok (f_M_drawSolid_b105 (n32 s) (n32 i) y (FX J s (q / 12)) (FY J s (q / 12)) (FX J s (q % 12)) (FY J s (q % 12)) J M) (fun x => Sum.elim (fun s' => (∃ i : Nat, i ≤ (EL I0 s 144).length ∧ s'.1 = n32 i ∧ Fr W5 G s'.2.1 ∧ Fr WL L s'.2.2 ∧ MM s'.2.1 (ems ms (flatL (resE I0 s) ((EL I0 s 144).take i)))) ∧ (67 - s'.1.toInt).toNat < (67 - (n32 i).toInt).toNat) (fun r => Fr W6 I r.1 ∧ Fr WL L r.2 ∧ MM r.1 (ems ms (flatL (resE I0 s) (EL I0 s 144)))) x) := by
      intro y hy hne
      unfold f_M_drawSolid_b105 f_M_drawSolid_b120
      by_cases hb : bhd I0 s q = 0
      · exact ok_t (hy.mpr hb) (ok_t (hy.mpr hb) (way 0 (by rw [if_pos hb]) (fun k => k.1 hb) hne))
      · have hy' : ¬ y = 0 := fun k => hb (hy.mp k)
        refine ok_f hy' ?_
        by_cases h9 : I0 12 9 = 0
        · exact ok_t (by rw [j60]; exact h9) (ok_f hy' (way 1 (by rw [if_neg hb]) (fun k => k.2 h9) hne))
        · refine ok_f (by rw [j60]; exact h9) (skip ?_)
          unfold resE
          by_cases c : FX I0 s (q / 12) = FX I0 s (q % 12) ∧ FY I0 s (q / 12) = FY I0 s (q % 12)
          · rw [if_pos c]
          · rw [if_neg c, if_pos ⟨hb, h9⟩]
    have b55 : ∀ y : Int32, (y = 0 ↔ bhd I0 s q = 0) → ok (f_M_drawSolid_b55 (n32 s) (n32 i) (n32 (q / 12)) (n32 (q % 12)) y J M) (fun x => Sum.elim (fun s' => (∃ i : Nat, i ≤ (EL I0 s 144).length ∧ s'.1 = n32 i ∧ Fr W5 G s'.2.1 ∧ Fr WL L s'.2.2 ∧ MM s'.2.1 (ems ms (flatL (resE I0 s) ((EL I0 s 144).take i)))) ∧ (67 - s'.1.toInt).toNat < (67 - (n32 i).toInt).toNat) (fun r => Fr W6 I r.1 ∧ Fr WL L r.2 ∧ MM r.1 (ems ms (flatL (resE I0 s) (EL I0 s 144)))) x) := by
      intro y hy
      unfold f_M_drawSolid_b55
      refine ok_e fx1 (ok_e fy1 (ok_e fx2 (ok_e fy2 (ok_i (fun c1 => ok_i (fun c2 => skip ?_) (fun c2 => b105 y hy (fun k => c2 k.2))) (fun c1 => b105 y hy (fun k => c1 k.1))))))
      rw [← g2]
      unfold resE
      rw [if_pos ⟨c1, c2⟩]
    have b01 : bhd I0 s q = 0 ∨ bhd I0 s q = 1 := by
      unfold bhd bi
      split
      · exact Or.inr rfl
      · exact Or.inl rfl
    refine ok_i (fun h1 => b55 1 ?_) (fun h1 => b55 0 ?_)
    · rw [A2] at h1
      rw [h1]
    · rw [A2] at h1
      rcases b01 with h | h
      · rw [h]
      · exact absurd h h1
theorem drawSolids {n : Nat} {I0 I : xm_I} {L : xm_L} {ms : MS} {K : Int32 × xm_I × xm_L → Prop} (hst : Sta n I0 I) (hL : HL I0 L) (hsc : 0 < (I0 14 10).toInt) (hM : MM I ms) (hK : ∀ J M, Fr W6 I J → Fr WL L M → MM J (ems ms (solA I0)) → ok (f_M_draw_b249 J M) K) : ok (f_M_draw_b220 (0, I, L)) K := by
  have e151 : I 15 1 = I0 15 1 := hst.2 15 1 (by decide)
  have g4 : 0 ≤ (I0 15 1).toInt ∧ (I0 15 1).toInt ≤ 4 := by rw [← e151]; exact hst.1.2.2.2.1.1
  have t := tn32 g4.1
  unfold f_M_draw_b220
  refine lp_inv (fun st => ∃ s : Nat, s ≤ Int32.toNatClampNeg (I0 15 1) ∧ (I0 12 8 = 0 ∨ s = 0) ∧ st.1 = n32 s ∧ Fr W6 I st.2.1 ∧ Fr WL L st.2.2 ∧ MM st.2.1 (ems ms (solL I0 s))) (fun st => (5 - st.1.toInt).toNat) _ ?_ (0, I, L) ⟨0, by omega, Or.inr rfl, rfl, Fr.refl _ _, Fr.refl _ _, hM⟩
  rintro ⟨ss, J, M⟩ ⟨s, hs, hz, q1, q2, q3, q4⟩
  simp only at q1 q2 q3 q4
  subst q1
  have si : (n32 s).toInt = s := n32i (by omega)
  have hJ : Sta n I0 J := hst.of q2 dW6
  have j31 : J 49 31 = I0 15 1 := by rw [hJ.1.2.2.2.1.2.1]; exact hJ.2 15 1 (by decide)
  have j60 : J 60 (Int32.toNatClampNeg 8) = I0 12 8 := by
    show J 60 8 = _
    rw [hJ.1.2.1.2.2.1.2.2.2.2.2.1, hJ.2.row 12 rfl (by decide)]
  unfold f_M_draw_s220
  dsimp only
  refine ok_le (fun hc => ?_) (fun hc => ?_)
  · rw [j31] at hc
    have e : s = Int32.toNatClampNeg (I0 15 1) := by omega
    refine ok_m (ok_mono (hK J M q2 q3 ?_) fun _ h => h)
    unfold solA
    rcases hz with hz | hz
    · rw [if_pos hz, ← e]
      exact q4
    · have e0 : solL I0 (Int32.toNatClampNeg (I0 15 1)) = [] := by rw [← e, hz]; rfl
      rw [e0]
      rw [hz] at q4
      by_cases c : I0 12 8 = 0
      · rw [if_pos c]; exact q4
      · rw [if_neg c]; exact q4
  · rw [j31] at hc
    by_cases h8 : I0 12 8 = 0
    · have dec : (5 - (n32 s + 1).toInt).toNat < (5 - (n32 s).toInt).toNat := by
        rw [i32p (by omega) (by omega)]
        omega
      have hLJ : HL I0 M := hL.wl q3
      refine ok_t (by rw [j60]; exact h8) (ok_b (ok_mono (drawSolid (ms := ems ms (solL I0 s)) hJ hLJ hsc (by omega) q4) (fun r hr => ok_s ⟨⟨s + 1, by omega, Or.inl h8, n32s (by omega), q2.trans hr.1, q3.trans hr.2.1, ?_⟩, dec⟩)))
      show MM r.1 (ems ms (solL I0 s ++ flatL (resE I0 s) (EL I0 s 144)))
      rw [ems_app]
      exact hr.2.2
    · refine ok_f (by rw [j60]; exact h8) (ok_m (ok_mono (hK J M q2 q3 ?_) fun _ h => h))
      rcases hz with hz | hz
      · exact absurd hz h8
      · rw [hz] at q4
        unfold solA
        rw [if_neg h8]
        exact q4
