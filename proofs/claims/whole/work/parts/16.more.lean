/-! ===== a float out of the pool by a wide index; a row copied; the script's length ===== -/
section XM
variable {d : Nat} {M : xm_M} {pc : Nat} {Ls : List (Nat × Value)} {S : List Value} {h : xm_H} {kc ks : Nat} {Q : Option Value → xm_H → Prop} {i index a b : Nat}
theorem r_ldcwf {v : UInt32} (hd : M.2.2.2.2[i]? = some (pc, .ldc_w index, 3)) (hw : Cond.constantFloat M.1.cls index v ∈ xm_tb) (kk : xm_J d M (pc + 3) Ls (.float v :: S) h kc ks Q) : xm_J d M pc Ls S h kc ks Q :=
  xm_st hd (fun p l e R s m args below meth c H locs cells slots Qm g ls hx hb hde hl hown hts k T hT X => by
    obtain ⟨t, a1, b1⟩ := k T hT X
    refine ⟨t, ?_, b1⟩
    obtain ⟨k1, cf, hk, hcf, hcp⟩ := Cond.constantFloat_spec hown (hts _ hw)
    obtain ⟨k', hk', he⟩ := X.warmed.alike.2.2 _ _ hk
    jvm_step X.here [hx, hb, hde, ldc_w.wp_float (s := T) (f := F0 m pc ls (S.map (xm_v g))) X.here.top hk' (by rw [he]; exact hcf) hcp]
    exact a1) kk
theorem r_lenS (hd : M.2.2.2.2[i]? = some (pc, .arraylength, 1)) (kk : xm_J d M (pc + 1) Ls (.int (h.1 1000001 0) :: S) h kc ks Q) : xm_J d M pc Ls (.ref 1000000 :: S) h kc ks Q := by
  intro p l e R s m args below meth c' H locs cells slots Qm g d0 ls hC hd0 hW hS hr hl hR
  have hJ := kk p l e R s m args below meth c' H locs cells slots Qm g d0 ls hC hd0 hW hS hr hl hR
  rw [hW.2.2.2.2.2] at hJ
  obtain ⟨hx, hb, -, -, -, -, -, -, -, hbs, ⟨⟨b1, b2, -⟩, hX, -⟩, ht⟩ := hC
  exact va_slen (b := g.1.2.1) hx hb (s := s.setDrawn d0) (H0 := s.heap) (A := fun q => g.1.1 ≤ q) hX (by omega) (by omega) hS (ht (pc, .arraylength, 1) (List.mem_of_getElem? hd)) hJ
/-- what a copy of ints leaves -/
def xm_cp (I : xm_I) (a b : Nat) (sp dp k : Nat) : xm_I := fun q j => if q = b ∧ dp ≤ j ∧ j < dp + k then I a (sp + (j - dp)) else I q j
theorem r_copy {na nb : Nat} {sp dp k : Int32} (hd : M.2.2.2.2[i]? = some (pc, .invokestatic index, 3)) (hw1 : Cond.methodLink M.1.cls index arraycopyName ∈ xm_tb) (hw2 : Cond.native arraycopyName ∈ xm_tb) (hw3 : Cond.static arraycopyName ∈ xm_tb) (hw4 : Cond.initialized "java/lang/System" ∈ xm_tb) (hd1 : 1 ≤ d) (ha : a < h.2.2.2) (hla : xm_lay a = (100, na)) (hb0 : b < h.2.2.2) (hlb : xm_lay b = (100, nb)) (hsum : (S.map fun v => v.category).sum ≤ 8)
    (h1 : ¬ sp < 0) (h2 : ¬ dp < 0) (h3 : ¬ k < 0) (h4 : sp.toNatClampNeg + k.toNatClampNeg ≤ na) (h5 : dp.toNatClampNeg + k.toNatClampNeg ≤ nb)
    (kk : xm_J d M (pc + 3) Ls S (xm_cp h.1 a b sp.toNatClampNeg dp.toNatClampNeg k.toNatClampNeg, h.2) kc ks Q) : xm_J d M pc Ls (.int k :: .int dp :: .ref b :: .int sp :: .ref a :: S) h kc ks Q := by
  intro p l e R s m args below meth c' H locs cells slots Qm g d0 ls hC hd0 hW hS hr hl hR T hT X
  have hC' := hC
  obtain ⟨hx, hb, hml, hown, hts, -, -, -, hdp, hbs, -, htt⟩ := hC'
  obtain ⟨hK, hP, hsz, hn, hsc⟩ := hW
  have hde : decode M.2.1 pc = .ok (.invokestatic index, 3) := htt (pc, .invokestatic index, 3) (List.mem_of_getElem? hd)
  have hts := dr_words hts d0
  have hca : H[g.1.1 + a]? = some (arrV (g.2.2.2 0) na (fun j => .int (h.1 a j))) := by
    have h0 := hP a _ (xm_ws_at ha)
    rw [xm_E_int hla] at h0
    exact h0
  have hcb : H[g.1.1 + b]? = some (arrV (g.2.2.2 0) nb (fun j => .int (h.1 b j))) := by
    have h0 := hP b _ (xm_ws_at hb0)
    rw [xm_E_int hlb] at h0
    exact h0
  obtain ⟨-, kA, hkA, cmA, hkkA⟩ := (hK.2 0 (g.2.2.2 0, .int) rfl).1 na (fun j => .int (h.1 a j))
  have nn : ∀ z : Int32, ¬ z < 0 → z.toInt = (z.toNatClampNeg : Int) := by
    intro z hz
    have hz0 : (0 : Int) ≤ z.toInt := by
      have := Int32.not_lt.mp hz
      simpa using Int32.le_iff_toInt_le.mp this
    show z.toInt = ((z.toInt.toNat : Nat) : Int)
    omega
  have hra : (g.1.1 + a) = xm_al g a := (xm_al_in (by omega)).symm
  have hrb : (g.1.1 + b) = xm_al g b := (xm_al_in (by omega)).symm
  obtain ⟨vm', X', step⟩ := X.arraycopy (s := s.setDrawn d0) hx hown (hts _ hw1) (hts _ hw2) (hts _ hw3) (hts _ hw4) (src := g.1.1 + a) (dst := g.1.1 + b) (cs := arrV (g.2.2.2 0) na (fun j => .int (h.1 a j))) (cd := arrV (g.2.2.2 0) nb (fun j => .int (h.1 b j))) (srcPos := sp) (destPos := dp) (n := k) (by rw [hT]; exact hca) (by rw [hT]; exact hcb)
    (fun _ h => by cases h) (fun _ h => by cases h) (fun h => by cases h) (fun h => by cases h) hkA hkA hkkA hkkA rfl h1 h2 h3
    (by rw [nn sp h1, nn k h3, arrV_size]; omega) (by rw [nn dp h2, nn k h3, arrV_size]; omega)
    (fun vm₁ _ j hj => by
      have ej : (arrV (g.2.2.2 0) na (fun j => .int (h.1 a j))).slots.getD (sp.toNatClampNeg + j) .null = .int (h.1 a (sp.toNatClampNeg + j)) := by
        rw [Array.getD_eq_getD_getElem?, arrV_read _ _ (by omega)]
        rfl
      rw [ej]
      exact ⟨rfl, trivial⟩)
    (g := F0 m pc ls (.int k :: .int dp :: .ref (g.1.1 + b) :: .int sp :: .ref (g.1.1 + a) :: S.map (xm_v g))) rfl (by rw [hml]; exact hl.1) (rest := S.map (xm_v g)) rfl (by rw [hb]; exact hde) (by omega) (by
      have h9 : nativeFrameWords "java/lang/System" "arraycopy" 5 + 11 ≤ 40 := by decide +kernel
      have h8 : ((S.map (xm_v g)).map fun v => v.category).sum ≤ 8 := by rw [xm_sum]; exact hsum
      show 2 * 0 + _ + _ ≤ _
      omega)
  have e1 : copied (arrV (g.2.2.2 0) na (fun j => .int (h.1 a j))) (arrV (g.2.2.2 0) nb (fun j => .int (h.1 b j))) sp dp k = arrV (g.2.2.2 0) nb (fun j => .int (va_cpy (h.1 a) (h.1 b) sp.toNatClampNeg dp.toNatClampNeg k.toNatClampNeg j)) := va_copied (fun z => .int z) (g.2.2.2 0) (g.2.2.2 0) (h.1 a) (h.1 b) h4
  rw [e1] at X' step
  generalize hcell : arrV (g.2.2.2 0) nb (fun j => .int (va_cpy (h.1 a) (h.1 b) sp.toNatClampNeg dp.toNatClampNeg k.toNatClampNeg j)) = cell at X' step
  have hbl : g.1.1 + b < H.size := by omega
  generalize hh' : (xm_cp h.1 a b sp.toNatClampNeg dp.toNatClampNeg k.toNatClampNeg, h.2) = h' at kk
  have hrow : ∀ q, q ≠ b → h'.1 q = h.1 q := by
    intro q hq
    rw [← hh']
    funext j
    simp [xm_cp, hq]
  have hset : (xm_ws g h).set b (g.1.1 + b, xm_E g h' b) = xm_ws g h' := xm_ws_set (by rw [← hh']) (fun q hq => xm_E_ext (hrow q hq) (by rw [← hh']) (by rw [← hh']))
  have hP1 : va_P g.2.2.1 vwCl (xm_ws g h') (H.setIfInBounds (g.1.1 + b) cell) := by
    rw [← hset]
    refine hP.set (xm_D g h) (xm_ws_at hb0) ?_ (fun q hq => by simp [Array.getElem?_setIfInBounds, Ne.symm hq])
    rw [xm_E_int hlb]
    show (H.setIfInBounds (g.1.1 + b) cell)[g.1.1 + b]? = some (vp_cell _ _)
    rw [vp_cell_i, ← hcell]
    have : h'.1 b = va_cpy (h.1 a) (h.1 b) sp.toNatClampNeg dp.toNatClampNeg k.toNatClampNeg := by
      rw [← hh']
      funext j
      simp [xm_cp, va_cpy]
    rw [this]
    simp [Array.getElem?_setIfInBounds, hbl]
  have hn' : h'.2.2.2 = h.2.2.2 := by rw [← hh']
  obtain ⟨t, a1, b1⟩ := kk p l e R s m args below meth c' (H.setIfInBounds (g.1.1 + b) cell) _ cells slots Qm g d0 ls hC hd0 ⟨hK, hP1, by rw [Array.size_setIfInBounds, hn']; exact hsz, by rw [hn']; exact hn, hsc.kept (hrow _ (by omega)) (hrow _ (by omega))⟩
    ⟨by simp; exact hS.1, fun q g1 g2 => by
      have hq : q ≠ g.1.1 + b := fun e => g2 (by omega)
      rw [show (H.setIfInBounds (g.1.1 + b) cell)[q]? = H[q]? by simp [Array.getElem?_setIfInBounds, Ne.symm hq]]
      exact hS.2.1 q g1 g2, fun q hq => by
      rcases List.mem_append.mp hq with hq | hq
      · exact hS.2.2 q hq
      · obtain ⟨z, -, hz⟩ := List.mem_map.mp hq
        rw [← hz]
        exact Nat.le_add_right _ _⟩ hr hl hR _ (by rw [← hT]; rfl) X'
  refine ⟨t, ?_, b1⟩
  have := step t a1
  rw [hra, hrb] at this
  exact this
end XM
