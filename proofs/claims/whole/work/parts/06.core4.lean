/-! ===== fields and rows ===== -/
/-- class c of the table -/
def xm_Kl (c : Nat) (C : String) (T : u_T) (N : Nat) : Prop := c < 13 ∧ vwCl[c]? = some (C, T, N) ∧ (∀ w ∈ u_ws C T N, w ∈ xm_tb) ∧ N = xm_nf c ∧ (∀ k, k < N → parseFieldDescriptor (T k).2.2.1 = some (xm_ty c k)) ∧ (∀ a, a < N → ∀ b, b < N → a ≠ b → (T a).2.1 ≠ (T b).2.1)
/-- entry 'index' of class own's pool is field k of class c -/
def xm_Fl (own : String) (index c k : Nat) (ty : FieldType) (fin : Bool) : Prop := ∃ (C : String) (T : u_T) (N : Nat), xm_Kl c C T N ∧ k < N ∧ Cond.fieldLink own index (T k).1 (T k).2.1 (T k).2.2.1 ∈ xm_tb ∧ xm_ty c k = ty ∧ (T k).2.2.2 = fin ∧ (T k).1 = C
def xm_av (h : xm_H) (a c k : Nat) : Value := match xm_ty c k with
  | .int => .int (h.1 a k)
  | .boolean => .int (h.1 a k)
  | .long => .long (h.2.1 a k)
  | _ => va_rf (h.2.2.1 a k)
theorem xm_av_fv (g : xm_G) (h : xm_H) (a c k : Nat) : xm_v g (xm_av h a c k) = xm_fv g h a c k := by
  cases e : xm_ty c k <;> simp only [xm_av, xm_fv, e] <;> first | rfl | exact xm_v_rf g _
theorem xm_fs {g : xm_G} {h : xm_H} {a c k : Nat} (hk : k < xm_nf c) : ((List.range (xm_nf c)).map (xm_fv g h a c))[k]? = some (xm_fv g h a c k) := by
  simp [hk]
/-- the fields of a cell behind a write to field k -/
theorem xm_fset {g : xm_G} {h h' : xm_H} {a c k : Nat} {v : Value} (hv : v = xm_fv g h' a c k) (ho : ∀ j, j ≠ k → xm_fv g h' a c j = xm_fv g h a c j) : ((List.range (xm_nf c)).map (xm_fv g h a c)).set k v = (List.range (xm_nf c)).map (xm_fv g h' a c) := by
  apply List.ext_getElem?
  intro j
  by_cases hj : j = k
  · subst hj
    by_cases hl : j < xm_nf c
    · rw [List.getElem?_set_self (by simpa using hl), xm_fs hl, hv]
    · rw [List.getElem?_eq_none (by simp; omega), List.getElem?_eq_none (by simp; omega)]
  · rw [List.getElem?_set_ne (Ne.symm hj)]
    by_cases hl : j < xm_nf c
    · rw [xm_fs hl, xm_fs hl, ho j hj]
    · rw [List.getElem?_eq_none (by simp; omega), List.getElem?_eq_none (by simp; omega)]
section XF
variable {d : Nat} {M : xm_M} {pc : Nat} {Ls : List (Nat × Value)} {S : List Value} {h : xm_H} {kc ks : Nat} {Q : Option Value → xm_H → Prop} {i index a c k : Nat}
theorem r_get0 {ty : FieldType} {fin : Bool} (hd : M.2.2.2.2[i]? = some (pc, .getfield index, 3)) (hf : xm_Fl M.1.cls index c k ty fin) (ha : a < h.2.2.2) (hl0 : xm_lay a = (c, 0)) (kk : xm_J d M (pc + 3) Ls (xm_av h a c k :: S) h kc ks Q) : xm_J d M pc Ls (.ref a :: S) h kc ks Q := by
  intro p l e R s m args below meth c' H locs cells slots Qm g d0 ls hC hd0 hW hS hr hl hR
  have hJ := kk p l e R s m args below meth c' H locs cells slots Qm g d0 ls hC hd0 hW hS hr hl hR
  obtain ⟨C, T, N, ⟨hc13, hcl, hin, hN, -, -⟩, hk, hlink, -, -, -⟩ := hf
  obtain ⟨hx, hb, hml, hown, hts, -, -, -, -, -, -, ht⟩ := hC
  obtain ⟨hK, hP, hsz, hn, hsc⟩ := hW
  subst hN
  show W p l e R (s.setDrawn d0) m args below meth c' H locs cells slots Qm (F0 m pc ls (.ref (xm_al g a) :: S.map (xm_v g)))
  rw [xm_al_in (by omega)]
  have hJ' : W p l e R (s.setDrawn d0) m args below meth c' H locs cells slots Qm (F0 m (pc + 3) ls (xm_fv g h a c k :: S.map (xm_v g))) := by
    rw [← xm_av_fv]
    exact hJ
  exact va_get (D := g.2.2.1) (ci := c) (v := xm_fv g h a c k) (C := C) (T := T) hx hb (dr_words hts d0) hin hown hK hP a (by rw [xm_ws_at ha, xm_E_obj hl0 hc13]) hcl k hk (dr_words hts d0 _ hlink) (fun _ h9 => h9) (xm_fs hk) (ht (pc, .getfield index, 3) (List.mem_of_getElem? hd)) hJ'
theorem r_geti {fin : Bool} (hd : M.2.2.2.2[i]? = some (pc, .getfield index, 3)) (hf : xm_Fl M.1.cls index c k .int fin) (ha : a < h.2.2.2) (hl0 : xm_lay a = (c, 0)) (kk : xm_J d M (pc + 3) Ls (.int (h.1 a k) :: S) h kc ks Q) : xm_J d M pc Ls (.ref a :: S) h kc ks Q := by
  have e : xm_ty c k = .int := by obtain ⟨_, _, _, -, -, -, e, -⟩ := hf; exact e
  exact r_get0 hd hf ha hl0 (by rw [show xm_av h a c k = .int (h.1 a k) by simp [xm_av, e]]; exact kk)
theorem r_getz {fin : Bool} (hd : M.2.2.2.2[i]? = some (pc, .getfield index, 3)) (hf : xm_Fl M.1.cls index c k .boolean fin) (ha : a < h.2.2.2) (hl0 : xm_lay a = (c, 0)) (kk : xm_J d M (pc + 3) Ls (.int (h.1 a k) :: S) h kc ks Q) : xm_J d M pc Ls (.ref a :: S) h kc ks Q := by
  have e : xm_ty c k = .boolean := by obtain ⟨_, _, _, -, -, -, e, -⟩ := hf; exact e
  exact r_get0 hd hf ha hl0 (by rw [show xm_av h a c k = .int (h.1 a k) by simp [xm_av, e]]; exact kk)
theorem r_getl {fin : Bool} (hd : M.2.2.2.2[i]? = some (pc, .getfield index, 3)) (hf : xm_Fl M.1.cls index c k .long fin) (ha : a < h.2.2.2) (hl0 : xm_lay a = (c, 0)) (kk : xm_J d M (pc + 3) Ls (.long (h.2.1 a k) :: S) h kc ks Q) : xm_J d M pc Ls (.ref a :: S) h kc ks Q := by
  have e : xm_ty c k = .long := by obtain ⟨_, _, _, -, -, -, e, -⟩ := hf; exact e
  exact r_get0 hd hf ha hl0 (by rw [show xm_av h a c k = .long (h.2.1 a k) by simp [xm_av, e]]; exact kk)
/-- a reference that is known -/
theorem r_getr {ty : FieldType} {fin : Bool} {b : Nat} (hd : M.2.2.2.2[i]? = some (pc, .getfield index, 3)) (hf : xm_Fl M.1.cls index c k ty fin) (hty : (∃ n, ty = .object n) ∨ ∃ n, ty = .array n) (ha : a < h.2.2.2) (hl0 : xm_lay a = (c, 0)) (hb : h.2.2.1 a k = some b) (kk : xm_J d M (pc + 3) Ls (.ref b :: S) h kc ks Q) : xm_J d M pc Ls (.ref a :: S) h kc ks Q := by
  have e : xm_ty c k = ty := by obtain ⟨_, _, _, -, -, -, e, -⟩ := hf; exact e
  refine r_get0 hd hf ha hl0 ?_
  have : xm_av h a c k = .ref b := by
    rcases hty with ⟨n, rfl⟩ | ⟨n, rfl⟩ <;> simp [xm_av, e, hb, va_rf]
  rw [this]
  exact kk
/-- a write to a field: the new memory h' differs at (a, k) alone -/
theorem r_put0 {ty : FieldType} {fin : Bool} {v : Value} {h' : xm_H} (hd : M.2.2.2.2[i]? = some (pc, .putfield index, 3)) (hf : xm_Fl M.1.cls index c k ty fin) (hfin : fin = true → M.1.name = "<init>" ∧ (vwCl[c]?).map (fun q => q.1) = some M.1.cls) (ha : a < h.2.2.2) (hl0 : xm_lay a = (c, 0)) (hnar : ∀ g, narrow ty (xm_v g v) = xm_v g v) (hfit : ∀ g, fits ty (xm_v g v) = true)
    (hn' : h'.2.2.2 = h.2.2.2) (hv : ∀ g, xm_v g v = xm_fv g h' a c k) (hj : ∀ g j, j ≠ k → xm_fv g h' a c j = xm_fv g h a c j) (ho : ∀ b, b ≠ a → h'.1 b = h.1 b ∧ h'.2.1 b = h.2.1 b ∧ h'.2.2.1 b = h.2.2.1 b)
    (kk : xm_J d M (pc + 3) Ls S h' kc ks Q) : xm_J d M pc Ls (v :: .ref a :: S) h kc ks Q := by
  intro p l e R s m args below meth c' H locs cells slots Qm g d0 ls hC hd0 hW hS hr hl hR
  have hC' := hC
  obtain ⟨C, T, N, ⟨hc13, hcl, hin, hN, hty0, hnm⟩, hk, hlink, hety, hefin, hown2⟩ := hf
  obtain ⟨hx, hb, hml, hown, hts, -, -, hname, -, -, -, ht⟩ := hC'
  obtain ⟨hK, hP, hsz, hn, hsc⟩ := hW
  subst hN
  show W p l e R (s.setDrawn d0) m args below meth c' H locs cells slots Qm (F0 m pc ls (xm_v g v :: .ref (xm_al g a) :: S.map (xm_v g)))
  rw [xm_al_in (by omega)]
  have hnar := hnar g
  have hfit := hfit g
  have hv := hv g
  generalize xm_v g v = w at hnar hfit hv ⊢
  have hset : (xm_ws g h).set a (g.1.1 + a, .inr (c, ((List.range (xm_nf c)).map (xm_fv g h a c)).set k w)) = xm_ws g h' := by
    rw [xm_fset hv (hj g), ← xm_E_obj (h := h') hl0 hc13]
    exact xm_ws_set hn' (fun b hb => xm_E_ext (ho b hb).1 (ho b hb).2.1 (ho b hb).2.2)
  have go : ∀ (H1 : Heap) (locs1 : List Loc), H1.size = H.size → va_P g.2.2.1 vwCl ((xm_ws g h).set a (g.1.1 + a, .inr (c, ((List.range (xm_nf c)).map (xm_fv g h a c)).set k w))) H1 → va_S (fun q => g.1.1 ≤ q) s.heap H1 locs1 → W p l e R (s.setDrawn d0) m args below meth c' H1 locs1 cells slots Qm (F0 m (pc + 3) ls (S.map (xm_v g))) := by
    intro H1 locs1 hz hP1 hS1
    rw [hset] at hP1
    exact kk p l e R s m args below meth c' H1 locs1 cells slots Qm g d0 ls hC hd0 ⟨hK, hP1, by rw [hz, hn']; exact hsz, by rw [hn']; exact hn, hsc.kept (ho _ (by omega)).1 (ho _ (by omega)).1⟩ hS1 hr hl hR
  have he : (xm_ws g h)[a]? = some (g.1.1 + a, .inr (c, (List.range (xm_nf c)).map (xm_fv g h a c))) := by rw [xm_ws_at ha, xm_E_obj hl0 hc13]
  have hap := va_apart (s := s.setDrawn d0) (own := M.1.cls) (dr_words hts d0) hin (xm_ty c) hty0 hnm hK hcl
  obtain ⟨r, h1, cell, q1, q2, q3, q4⟩ := hP a _ he
  have hr' : r = (C, T, xm_nf c) := Option.some.inj (h1.symm.trans hcl)
  subst hr'
  obtain ⟨hSl, hfc, kC, hkC, hkind⟩ := hK.1 c _ hcl
  obtain ⟨cf, kf, fi, f, hi, hsl⟩ := hSl k hk
  have hlay := dr_words hts d0 _ (hin _ (u_in_lay hk))
  have hst := (u_facts (s := s.setDrawn d0) hfc hkC (u_lays (dr_words hts d0) hin hk) hi).1
  have hdecode : decode M.2.1 pc = .ok (.putfield index, 3) := ht (pc, .putfield index, 3) (List.mem_of_getElem? hd)
  have hdesc := (hty0 k hk).trans (congrArg some hety)
  have hlen : k < ((List.range (xm_nf c)).map (xm_fv g h a c)).length := by simpa using hk
  have hAa : g.1.1 ≤ g.1.1 + a := Nat.le_add_right _ _
  have hlt : f.slot < cell.slots.size := by rw [hsl]; exact k2_hasslot (q4 k hk)
  have hset2 : ∀ H' : Heap, H'[g.1.1 + a]? = some (cell.setSlot f.slot w) → (∀ q, q ≠ g.1.1 + a → H'[q]? = H[q]?) → va_P g.2.2.1 vwCl ((xm_ws g h).set a (g.1.1 + a, .inr (c, ((List.range (xm_nf c)).map (xm_fv g h a c)).set k w))) H' := by
    intro H' e1 e3
    rw [hsl] at e1
    exact hP.set (xm_D g h) he ⟨_, hcl, t_OB.to (V := updV (vp_V _) k w) ⟨_, e1, q2, q3, t_set q4 hap hk w⟩ (fun j _ => vp_updV_set hlen w j)⟩ e3
  unfold u_lay at hlay
  by_cases hfb : fin = true
  · rw [if_pos (hefin.trans hfb)] at hlay
    have hcf : m.cls = cf := by
      obtain ⟨_, _, c2, _, _, _, -, -, hf', -, -, -, hown3, -⟩ := Cond.laysFinal_spec hlay
      have e1 : c2 = cf := by have := hi.symm.trans hf'; simp at this; exact this.1.symm
      have hcn : C = M.1.cls := by have := (hfin hfb).2; rw [hcl] at this; exact Option.some.inj this
      rw [hown2, hcn] at hown3
      rw [← e1]; exact Option.some.inj (hown.symm.trans hown3)
    have h6 := u_fits (s := s.setDrawn d0) hfc hkC hkind (Or.inr hlay) hi hdesc hnar hfit
    rw [← q2] at h6
    exact W.putFinK (s := s.setDrawn d0) (g := F0 m pc ls (w :: .ref (g.1.1 + a) :: S.map (xm_v g))) (rest := S.map (xm_v g)) (v := w) (a := g.1.1 + a) hx hb hown (dr_words hts d0 _ hlink) hi hst hcf (hname.trans (hfin hfb).1) h6 q1 q3 hlt rfl rfl hdecode fun H' e1 e2 e3 => go H' _ e2 (hset2 H' e1 e3) (hS.put e2 e3 hAa)
  · rw [if_neg (by rw [hefin]; exact hfb)] at hlay
    have h6 := u_store (s := s.setDrawn d0) hfc hkC hkind hlay hi hdesc hnar hfit
    rw [← q2] at h6
    exact W.putK (s := s.setDrawn d0) (g := F0 m pc ls (w :: .ref (g.1.1 + a) :: S.map (xm_v g))) (rest := S.map (xm_v g)) (v := w) (a := g.1.1 + a) hx hb (f := f) ⟨hown, dr_words hts d0 _ hlink, ⟨_, _, _, hi⟩, hst⟩ h6 q1 q3 hlt rfl rfl hdecode fun H' e1 e2 e3 => go H' _ e2 (hset2 H' e1 e3) (hS.put e2 e3 hAa)
end XF
