section XP
variable {d : Nat} {M : xm_M} {pc : Nat} {Ls : List (Nat × Value)} {S : List Value} {h : xm_H} {kc ks : Nat} {Q : Option Value → xm_H → Prop} {i index a c k : Nat}
theorem xm_Fl.tyEq {own : String} {ty : FieldType} {fin : Bool} (hf : xm_Fl own index c k ty fin) : xm_ty c k = ty := by obtain ⟨_, _, _, -, -, -, e, -⟩ := hf; exact e
theorem r_puti {x : Int32} {fin : Bool} (hd : M.2.2.2.2[i]? = some (pc, .putfield index, 3)) (hf : xm_Fl M.1.cls index c k .int fin) (hfin : fin = true → M.1.name = "<init>" ∧ (vwCl[c]?).map (fun q => q.1) = some M.1.cls) (ha : a < h.2.2.2) (hl0 : xm_lay a = (c, 0)) (kk : xm_J d M (pc + 3) Ls S (up2 h.1 a k x, h.2) kc ks Q) : xm_J d M pc Ls (.int x :: .ref a :: S) h kc ks Q := by
  have e := hf.tyEq
  refine r_put0 (h' := (up2 h.1 a k x, h.2)) hd hf hfin ha hl0 (fun g => rfl) (fun g => rfl) rfl (fun g => ?_) (fun g j hj => ?_) (fun b hb => ?_) kk
  · simp [xm_fv, e, up2, xm_v]
  · have : up2 h.1 a k x a j = h.1 a j := by simp [up2, hj]
    simp only [xm_fv, this]
  · exact ⟨up2_row _ _ _ _ _ hb, rfl, rfl⟩
theorem r_putz {x : Int32} {fin : Bool} (hd : M.2.2.2.2[i]? = some (pc, .putfield index, 3)) (hf : xm_Fl M.1.cls index c k .boolean fin) (hfin : fin = true → M.1.name = "<init>" ∧ (vwCl[c]?).map (fun q => q.1) = some M.1.cls) (ha : a < h.2.2.2) (hl0 : xm_lay a = (c, 0)) (hx : x = 0 ∨ x = 1) (kk : xm_J d M (pc + 3) Ls S (up2 h.1 a k x, h.2) kc ks Q) : xm_J d M pc Ls (.int x :: .ref a :: S) h kc ks Q := by
  have e := hf.tyEq
  refine r_put0 (h' := (up2 h.1 a k x, h.2)) hd hf hfin ha hl0 (fun g => ?_) (fun g => ?_) rfl (fun g => ?_) (fun g j hj => ?_) (fun b hb => ?_) kk
  · rcases hx with rfl | rfl <;> rfl
  · rcases hx with rfl | rfl <;> rfl
  · simp [xm_fv, e, up2, xm_v]
  · have : up2 h.1 a k x a j = h.1 a j := by simp [up2, hj]
    simp only [xm_fv, this]
  · exact ⟨up2_row _ _ _ _ _ hb, rfl, rfl⟩
theorem r_putl {x : Int64} {fin : Bool} (hd : M.2.2.2.2[i]? = some (pc, .putfield index, 3)) (hf : xm_Fl M.1.cls index c k .long fin) (hfin : fin = true → M.1.name = "<init>" ∧ (vwCl[c]?).map (fun q => q.1) = some M.1.cls) (ha : a < h.2.2.2) (hl0 : xm_lay a = (c, 0)) (kk : xm_J d M (pc + 3) Ls S (h.1, up2 h.2.1 a k x, h.2.2) kc ks Q) : xm_J d M pc Ls (.long x :: .ref a :: S) h kc ks Q := by
  have e := hf.tyEq
  refine r_put0 (h' := (h.1, up2 h.2.1 a k x, h.2.2)) hd hf hfin ha hl0 (fun g => rfl) (fun g => rfl) rfl (fun g => ?_) (fun g j hj => ?_) (fun b hb => ?_) kk
  · simp [xm_fv, e, up2, xm_v]
  · have : up2 h.2.1 a k x a j = h.2.1 a j := by simp [up2, hj]
    simp only [xm_fv, this]
  · exact ⟨rfl, up2_row _ _ _ _ _ hb, rfl⟩
theorem r_putr {x : Nat} {ty : FieldType} {fin : Bool} (hd : M.2.2.2.2[i]? = some (pc, .putfield index, 3)) (hf : xm_Fl M.1.cls index c k ty fin) (hty : (∃ n, ty = .object n) ∨ ∃ n, ty = .array n) (hfin : fin = true → M.1.name = "<init>" ∧ (vwCl[c]?).map (fun q => q.1) = some M.1.cls) (ha : a < h.2.2.2) (hl0 : xm_lay a = (c, 0)) (kk : xm_J d M (pc + 3) Ls S (h.1, h.2.1, up2 h.2.2.1 a k (some x), h.2.2.2) kc ks Q) : xm_J d M pc Ls (.ref x :: .ref a :: S) h kc ks Q := by
  have e := hf.tyEq
  refine r_put0 (h' := (h.1, h.2.1, up2 h.2.2.1 a k (some x), h.2.2.2)) hd hf hfin ha hl0 (fun g => ?_) (fun g => ?_) rfl (fun g => ?_) (fun g j hj => ?_) (fun b hb => ?_) kk
  · rcases hty with ⟨n, rfl⟩ | ⟨n, rfl⟩ <;> rfl
  · rcases hty with ⟨n, rfl⟩ | ⟨n, rfl⟩ <;> rfl
  · rcases hty with ⟨n, rfl⟩ | ⟨n, rfl⟩ <;> simp [xm_fv, e, up2, xm_v, va_rf]
  · have : up2 h.2.2.1 a k (some x) a j = h.2.2.1 a j := by simp [up2, hj]
    simp only [xm_fv, this]
  · exact ⟨rfl, rfl, up2_row _ _ _ _ _ hb⟩
/-- the common road of the loads -/
theorem xm_ld {v : Value} {pc' : Nat} {x : Int32} {ins : Instr} (hd : M.2.2.2.2[i]? = some (pc, ins, 1)) (ha : a < h.2.2.2)
    (hs : ∀ (p : Program) (l : Launch) (e : Env) (R : Room) (s : State) (m : MethodId) (args : Array Value) (below : List Frame) (meth : Method) (c : Code) (H : Heap) (locs : List Loc) (cells slots : Nat) (Qm : State → Prop) (g : xm_G) (ls : Array Slot),
      p.tables.exec = Jvm.exec → c.code = M.2.1 → decode M.2.1 pc = .ok (ins, 1) → va_K g.2.2.1 vwCl (xm_tys g) s → va_P g.2.2.1 vwCl (xm_ws g h) H →
      W p l e R s m args below meth c H locs cells slots Qm (F0 m pc' ls (xm_v g v :: S.map (xm_v g))) → W p l e R s m args below meth c H locs cells slots Qm (F0 m pc ls (.int x :: .ref (g.1.1 + a) :: S.map (xm_v g))))
    (kk : xm_J d M pc' Ls (v :: S) h kc ks Q) : xm_J d M pc Ls (.int x :: .ref a :: S) h kc ks Q := by
  intro p l e R s m args below meth c' H locs cells slots Qm g d0 ls hC hd0 hW hS hr hl hR
  have hJ := kk p l e R s m args below meth c' H locs cells slots Qm g d0 ls hC hd0 hW hS hr hl hR
  have hn := hW.2.2.2.1
  show W p l e R (s.setDrawn d0) m args below meth c' H locs cells slots Qm (F0 m pc ls (.int x :: .ref (xm_al g a) :: S.map (xm_v g)))
  rw [xm_al_in (by omega)]
  exact hs p l e R _ m args below meth c' H locs cells slots Qm g ls hC.1 hC.2.1 (hC.2.2.2.2.2.2.2.2.2.2.2 (pc, ins, 1) (List.mem_of_getElem? hd)) hW.1 hW.2.1 hJ
theorem r_iaload {x : Int32} {n : Nat} (hd : M.2.2.2.2[i]? = some (pc, .iaload, 1)) (ha : a < h.2.2.2) (hl0 : xm_lay a = (100, n)) (hin : vp_in x n) (kk : xm_J d M (pc + 1) Ls (.int (h.1 a x.toNatClampNeg) :: S) h kc ks Q) : xm_J d M pc Ls (.int x :: .ref a :: S) h kc ks Q :=
  xm_ld hd ha (fun p l e R s m args below meth c H locs cells slots Qm g ls hx hb hde hK hP k2 => va_iald hx hb hK hP a 0 (by rw [xm_ws_at ha, xm_E_int hl0]) rfl hin hde k2) kk
theorem r_baload {x : Int32} {n : Nat} (hd : M.2.2.2.2[i]? = some (pc, .baload, 1)) (ha : a < h.2.2.2) (hl0 : xm_lay a = (101, n)) (hin : vp_in x n) (kk : xm_J d M (pc + 1) Ls (.int (h.1 a x.toNatClampNeg) :: S) h kc ks Q) : xm_J d M pc Ls (.int x :: .ref a :: S) h kc ks Q :=
  xm_ld hd ha (fun p l e R s m args below meth c H locs cells slots Qm g ls hx hb hde hK hP k2 => va_zald hx hb hK hP a 1 (by rw [xm_ws_at ha, xm_E_bool hl0]) rfl hin hde k2) kk
theorem r_laload {x : Int32} {n : Nat} (hd : M.2.2.2.2[i]? = some (pc, .laload, 1)) (ha : a < h.2.2.2) (hl0 : xm_lay a = (102, n)) (hin : vp_in x n) (kk : xm_J d M (pc + 1) Ls (.long (h.2.1 a x.toNatClampNeg) :: S) h kc ks Q) : xm_J d M pc Ls (.int x :: .ref a :: S) h kc ks Q :=
  xm_ld hd ha (fun p l e R s m args below meth c H locs cells slots Qm g ls hx hb hde hK hP k2 => va_lald hx hb hK hP a 2 (by rw [xm_ws_at ha, xm_E_long hl0]) rfl hin hde k2) kk
theorem r_aaload {x : Int32} {n : Nat} (hd : M.2.2.2.2[i]? = some (pc, .aaload, 1)) (ha : a < h.2.2.2) (hl0 : xm_lay a = (103, n)) (hin : vp_in x n) (kk : xm_J d M (pc + 1) Ls (va_rf (h.2.2.1 a x.toNatClampNeg) :: S) h kc ks Q) : xm_J d M pc Ls (.int x :: .ref a :: S) h kc ks Q :=
  xm_ld hd ha (fun p l e R s m args below meth c H locs cells slots Qm g ls hx hb hde hK hP k2 => va_aldq hx hb hK hP a 3 (by rw [xm_ws_at ha, xm_E_ref hl0]) rfl hin hde (by rw [xm_v_rf] at k2; exact k2)) kk
/-- the script and the static row -/
theorem r_ialoadS {x : Int32} (hd : M.2.2.2.2[i]? = some (pc, .iaload, 1)) (hin : 0 ≤ x.toInt ∧ x.toInt < (h.1 1000001 0).toInt) (kk : xm_J d M (pc + 1) Ls (.int (h.1 1000000 x.toNatClampNeg) :: S) h kc ks Q) : xm_J d M pc Ls (.int x :: .ref 1000000 :: S) h kc ks Q := by
  intro p l e R s m args below meth c' H locs cells slots Qm g d0 ls hC hd0 hW hS hr hl hR
  have hJ := kk p l e R s m args below meth c' H locs cells slots Qm g d0 ls hC hd0 hW hS hr hl hR
  obtain ⟨hx, hb, -, -, -, -, -, -, -, hbs, ⟨⟨b1, b2, b3⟩, hX, -⟩, ht⟩ := hC
  obtain ⟨sc1, sc2⟩ := hW.2.2.2.2
  rw [sc1] at hJ
  rw [sc2] at hin
  have hL : (Int32.ofNat g.1.2.2.2).toInt = (g.1.2.2.2 : Int) := by
    show (nI g.1.2.2.2).toInt = _
    exact nI_toInt (by omega)
  rw [hL] at hin
  exact va_sld (b := g.1.2.1) hx hb (s := s.setDrawn d0) (H0 := s.heap) (A := fun q => g.1.1 ≤ q) hX (by omega) (by omega) hS (vp_in_iff.mpr hin) (ht (pc, .iaload, 1) (List.mem_of_getElem? hd)) hJ
theorem r_ialoadT {x : Int32} (hd : M.2.2.2.2[i]? = some (pc, .iaload, 1)) (hin : vp_in x 8) (kk : xm_J d M (pc + 1) Ls (.int (xm_tp x.toNatClampNeg) :: S) h kc ks Q) : xm_J d M pc Ls (.int x :: .ref 1000001 :: S) h kc ks Q := by
  intro p l e R s m args below meth c' H locs cells slots Qm g d0 ls hC hd0 hW hS hr hl hR
  have hJ := kk p l e R s m args below meth c' H locs cells slots Qm g d0 ls hC hd0 hW hS hr hl hR
  obtain ⟨hx, hb, -, -, -, -, -, -, -, hbs, ⟨⟨b1, b2, -⟩, -, hX, -⟩, ht⟩ := hC
  exact va_ti hx hb (s := s.setDrawn d0) (A := fun q => g.1.1 ≤ q) hX hS hin rfl (ht (pc, .iaload, 1) (List.mem_of_getElem? hd)) hJ
theorem r_getT (hd : M.2.2.2.2[i]? = some (pc, .getstatic index, 3)) (hw : Cond.fieldLink M.1.cls index "DrawLabels$Placer" "TOP_FROM_ANCHOR" "[I" ∈ xm_tb) (kk : xm_J d M (pc + 3) Ls (.ref 1000001 :: S) h kc ks Q) : xm_J d M pc Ls S h kc ks Q := by
  intro p l e R s m args below meth c' H locs cells slots Qm g d0 ls hC hd0 hW hS hr hl hR
  have hJ := kk p l e R s m args below meth c' H locs cells slots Qm g d0 ls hC hd0 hW hS hr hl hR
  obtain ⟨hx, hb, -, hown, hts, -, -, -, -, hbs, ⟨-, -, -, hZ⟩, ht⟩ := hC
  exact va_gets hx hb (s := s.setDrawn d0) (A := fun q => g.1.1 ≤ q) hZ hS hown (dr_words hts d0 _ hw) (fun _ h9 => h9) (ht (pc, .getstatic index, 3) (List.mem_of_getElem? hd)) hJ
/-- the common road of the stores -/
theorem xm_sto {v : Value} {x : Int32} {ins : Instr} {h' : xm_H} (hd : M.2.2.2.2[i]? = some (pc, ins, 1)) (ha : a < h.2.2.2) (hn' : h'.2.2.2 = h.2.2.2) (ho : ∀ b, b ≠ a → h'.1 b = h.1 b ∧ h'.2.1 b = h.2.1 b ∧ h'.2.2.1 b = h.2.2.1 b)
    (hs : ∀ (p : Program) (l : Launch) (e : Env) (R : Room) (s : State) (m : MethodId) (args : Array Value) (below : List Frame) (meth : Method) (c : Code) (H : Heap) (locs : List Loc) (cells slots : Nat) (Qm : State → Prop) (g : xm_G) (ls : Array Slot),
      p.tables.exec = Jvm.exec → c.code = M.2.1 → decode M.2.1 pc = .ok (ins, 1) → va_K g.2.2.1 vwCl (xm_tys g) s → va_P g.2.2.1 vwCl (xm_ws g h) H → h.2.2.2 ≤ 1000 →
      (∀ (H1 : Heap) (sl : Nat), va_at g.2.2.1 vwCl (g.1.1 + a, xm_E g h' a) H1 → H1.size = H.size → (∀ q, q ≠ g.1.1 + a → H1[q]? = H[q]?) → W p l e R s m args below meth c H1 (locs ++ [⟨g.1.1 + a, sl⟩]) cells slots Qm (F0 m (pc + 1) ls (S.map (xm_v g)))) → W p l e R s m args below meth c H locs cells slots Qm (F0 m pc ls (xm_v g v :: .int x :: .ref (g.1.1 + a) :: S.map (xm_v g))))
    (kk : xm_J d M (pc + 1) Ls S h' kc ks Q) : xm_J d M pc Ls (v :: .int x :: .ref a :: S) h kc ks Q := by
  intro p l e R s m args below meth c' H locs cells slots Qm g d0 ls hC hd0 hW hS hr hl hR
  obtain ⟨hK, hP, hsz, hn, hsc⟩ := hW
  show W p l e R (s.setDrawn d0) m args below meth c' H locs cells slots Qm (F0 m pc ls (xm_v g v :: .int x :: .ref (xm_al g a) :: S.map (xm_v g)))
  rw [xm_al_in (by omega)]
  refine hs p l e R _ m args below meth c' H locs cells slots Qm g ls hC.1 hC.2.1 (hC.2.2.2.2.2.2.2.2.2.2.2 (pc, ins, 1) (List.mem_of_getElem? hd)) hK hP hn (fun H1 sl e1 z oq => ?_)
  have hP1 := hP.set (xm_D g h) (xm_ws_at ha) e1 oq
  rw [xm_ws_set hn' (fun b hb => xm_E_ext (ho b hb).1 (ho b hb).2.1 (ho b hb).2.2)] at hP1
  exact kk p l e R s m args below meth c' H1 _ cells slots Qm g d0 ls hC hd0 ⟨hK, hP1, by rw [z, hn']; exact hsz, by rw [hn']; exact hn, hsc.kept (ho _ (by omega)).1 (ho _ (by omega)).1⟩ (hS.put z oq (Nat.le_add_right _ _)) hr hl hR
theorem xm_arr {s : State} {g : xm_G} {n : Nat} {t0 : Nat} {cA : ClassId} {ty : FieldType} (hK : va_K g.2.2.1 vwCl (xm_tys g) s) (ht : (xm_tys g)[t0]? = some (cA, ty)) (f : Nat → Value) : s.isArrayOf (arrV cA n f) ty := (hK.2 t0 _ ht).1 n f
theorem r_iastore {x v : Int32} {n : Nat} (hd : M.2.2.2.2[i]? = some (pc, .iastore, 1)) (ha : a < h.2.2.2) (hl0 : xm_lay a = (100, n)) (hin : vp_in x n) (kk : xm_J d M (pc + 1) Ls S (up2 h.1 a x.toNatClampNeg v, h.2) kc ks Q) : xm_J d M pc Ls (.int v :: .int x :: .ref a :: S) h kc ks Q := by
  refine xm_sto (h' := (up2 h.1 a x.toNatClampNeg v, h.2)) hd ha rfl (fun b hb => ⟨up2_row _ _ _ _ _ hb, rfl, rfl⟩) (fun p l e R s m args below meth c H locs cells slots Qm g ls hx hb hde hK hP hn k2 => ?_) kk
  have hc : H[g.1.1 + a]? = some (arrV (g.2.2.2 0) n (fun j => .int (h.1 a j))) := by
    have h0 := hP a _ (xm_ws_at ha)
    rw [xm_E_int hl0] at h0
    exact h0
  refine W.iast (s := s) (g := F0 m pc ls (.int v :: .int x :: .ref (g.1.1 + a) :: S.map (xm_v g))) hx hb hc (xm_arr hK (t0 := 0) rfl _) (fun q => by cases q) (by rw [arrV_size]; exact hin) rfl rfl hde fun H1 e1 z oq => k2 H1 _ ?_ z oq
  rw [xm_E_int hl0]
  dsimp only
  rw [up2_upd]
  show H1[g.1.1 + a]? = some (vp_cell _ _)
  rw [e1, vp_cell_i, arrV_store]
  congr 2
  funext q
  by_cases hq : q = x.toNatClampNeg <;> simp [updV, upd, hq]
theorem r_bastore {x v : Int32} {n : Nat} (hd : M.2.2.2.2[i]? = some (pc, .bastore, 1)) (ha : a < h.2.2.2) (hl0 : xm_lay a = (101, n)) (hin : vp_in x n) (kk : xm_J d M (pc + 1) Ls S (up2 h.1 a x.toNatClampNeg (v &&& 1), h.2) kc ks Q) : xm_J d M pc Ls (.int v :: .int x :: .ref a :: S) h kc ks Q := by
  refine xm_sto (h' := (up2 h.1 a x.toNatClampNeg (v &&& 1), h.2)) hd ha rfl (fun b hb => ⟨up2_row _ _ _ _ _ hb, rfl, rfl⟩) (fun p l e R s m args below meth c H locs cells slots Qm g ls hx hb hde hK hP hn k2 => ?_) kk
  have hc : H[g.1.1 + a]? = some (arrV (g.2.2.2 1) n (fun j => .int (h.1 a j))) := by
    have h0 := hP a _ (xm_ws_at ha)
    rw [xm_E_bool hl0] at h0
    exact h0
  refine W.zast (s := s) (g := F0 m pc ls (.int v :: .int x :: .ref (g.1.1 + a) :: S.map (xm_v g))) hx hb hc (xm_arr hK (t0 := 1) rfl _) (fun q => by cases q) (by rw [arrV_size]; exact hin) rfl rfl hde fun H1 e1 z oq => k2 H1 _ ?_ z oq
  rw [xm_E_bool hl0]
  dsimp only
  rw [up2_upd]
  show H1[g.1.1 + a]? = some (vp_cell _ _)
  rw [e1, vp_cell_i, arrV_store]
  congr 2
  funext q
  by_cases hq : q = x.toNatClampNeg <;> simp [updV, upd, hq, narrow]
theorem r_lastore {x : Int32} {v : Int64} {n : Nat} (hd : M.2.2.2.2[i]? = some (pc, .lastore, 1)) (ha : a < h.2.2.2) (hl0 : xm_lay a = (102, n)) (hin : vp_in x n) (kk : xm_J d M (pc + 1) Ls S (h.1, up2 h.2.1 a x.toNatClampNeg v, h.2.2) kc ks Q) : xm_J d M pc Ls (.long v :: .int x :: .ref a :: S) h kc ks Q := by
  refine xm_sto (h' := (h.1, up2 h.2.1 a x.toNatClampNeg v, h.2.2)) hd ha rfl (fun b hb => ⟨rfl, up2_row _ _ _ _ _ hb, rfl⟩) (fun p l e R s m args below meth c H locs cells slots Qm g ls hx hb hde hK hP hn k2 => ?_) kk
  have hc : H[g.1.1 + a]? = some (arrV (g.2.2.2 2) n (fun j => .long (h.2.1 a j))) := by
    have h0 := hP a _ (xm_ws_at ha)
    rw [xm_E_long hl0] at h0
    exact h0
  refine W.last (s := s) (g := F0 m pc ls (.long v :: .int x :: .ref (g.1.1 + a) :: S.map (xm_v g))) hx hb hc (xm_arr hK (t0 := 2) rfl _) (fun q => by cases q) (by rw [arrV_size]; exact hin) rfl rfl hde fun H1 e1 z oq => k2 H1 _ ?_ z oq
  rw [xm_E_long hl0]
  dsimp only
  rw [up2_updL]
  show H1[g.1.1 + a]? = some (vp_cell _ _)
  rw [e1, vp_cell_l, arrV_store]
  congr 2
  funext q
  by_cases hq : q = x.toNatClampNeg <;> simp [updV, vp_updL, hq]
/-- a solid into the row of solids -/
theorem r_aastore {x : Int32} {b n : Nat} (hd : M.2.2.2.2[i]? = some (pc, .aastore, 1)) (ha : a < h.2.2.2) (hl0 : xm_lay a = (103, n)) (hb0 : b < h.2.2.2) (hlb : xm_lay b = (9, 0)) (hin : vp_in x n) (kk : xm_J d M (pc + 1) Ls S (h.1, h.2.1, up2 h.2.2.1 a x.toNatClampNeg (some b), h.2.2.2) kc ks Q) : xm_J d M pc Ls (.ref b :: .int x :: .ref a :: S) h kc ks Q := by
  refine xm_sto (h' := (h.1, h.2.1, up2 h.2.2.1 a x.toNatClampNeg (some b), h.2.2.2)) hd ha rfl (fun b hb => ⟨rfl, rfl, up2_row _ _ _ _ _ hb⟩) (fun p l e R s m args below meth c H locs cells slots Qm g ls hx hb hde hK hP hn k2 => ?_) kk
  have hlt : x.toNatClampNeg < n := Nat.not_le.mp fun q => hin (Or.inr q)
  have h00 : ¬ x < 0 := fun q => hin (Or.inl q)
  have hc : H[g.1.1 + a]? = some (arrV (g.2.2.2 3) n (fun j => va_rf ((h.2.2.1 a j).map (xm_al g)))) := by
    have h0 := hP a _ (xm_ws_at ha)
    rw [xm_E_ref hl0] at h0
    exact h0
  have hv := hP b _ (xm_ws_at hb0)
  rw [xm_E_obj hlb (by omega)] at hv
  obtain ⟨r', hr', cellV, g1, g2, g3, -⟩ := hv
  have hcls := (hK.1 9 (RX9, TX9, 11) rfl).2
  obtain ⟨kA, comp, k1, k2', k3, -⟩ := (hK.2 3 (g.2.2.2 3, .object RX9) rfl).2
  have hcomp : comp = g.2.2.1.1 9 := Option.some.inj (k3.symm.trans hcls.1)
  subst hcomp
  obtain ⟨kC, hkC, -⟩ := hcls.2
  have e0 : xm_v g (.ref b) = .ref (g.1.1 + b) := by
    show Value.ref (xm_al g b) = _
    rw [xm_al_in (by omega)]
  rw [e0]
  refine W.aast (s := s) (g := F0 m pc ls (.ref (g.1.1 + b) :: .int x :: .ref (g.1.1 + a) :: S.map (xm_v g))) hx hb hc (fun q h => by cases h) (fun h => by cases h) k1 k2' rfl hkC ⟨h00, by rw [arrV_size]; exact hlt⟩ g1 (fun q h => by rw [g3] at h; cases h) (by rw [g2]; exact hkC) (by rw [g2]; exact va_assign hcls) rfl rfl hde fun H1 e1 z oq => k2 H1 _ ?_ z oq
  rw [xm_E_ref hl0]
  show H1[g.1.1 + a]? = some (vp_cell _ _)
  rw [e1, vp_cell_q, arrV_store]
  congr 2
  funext q
  by_cases hq : q = x.toNatClampNeg
  · subst hq
    simp [updV, up2, va_rf, xm_al_in (show b < 1000 by omega)]
  · simp [updV, up2, hq]
end XP
