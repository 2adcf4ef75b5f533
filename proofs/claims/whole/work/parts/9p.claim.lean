/-! ===== the claim ===== -/
/-- the memory may be told otherwise where no cell is -/
theorem xm_W_ext {g : xm_G} {h h' : xm_H} {U : State} {H : Heap} (hn : h'.2.2.2 = h.2.2.2) (h1 : h'.1 = h.1) (h2 : h'.2.1 = h.2.1) (h3 : ∀ a, a < h.2.2.2 → h'.2.2.1 a = h.2.2.1 a) (hW : xm_W g h U H) : xm_W g h' U H := by
  obtain ⟨a1, a2, a3, a4, a5⟩ := hW
  have e : xm_ws g h' = xm_ws g h := by
    unfold xm_ws
    rw [hn]
    apply List.map_congr_left
    intro a ha
    rw [xm_E_ext (h := h) (h' := h') (by rw [h1]) (by rw [h2]) (h3 a (List.mem_range.mp ha))]
  exact ⟨a1, by rw [e]; exact a2, by rw [hn]; exact a3, by rw [hn]; exact a4, by rw [h1]; exact a5⟩
theorem xm_J_ext {d : Nat} {M : xm_M} {pc : Nat} {Ls : List (Nat × Value)} {S : List Value} {h h' : xm_H} {kc ks : Nat} {Q : Option Value → xm_H → Prop} (hn : h'.2.2.2 = h.2.2.2) (h1 : h'.1 = h.1) (h2 : h'.2.1 = h.2.1) (h3 : ∀ a, a < h.2.2.2 → h'.2.2.1 a = h.2.2.1 a) (k : xm_J d M pc Ls S h' kc ks Q) : xm_J d M pc Ls S h kc ks Q := by
  intro p l e R s m args below meth c H locs cells slots Qm g d0 ls hC hd0 hW hS hr hl hR
  exact k p l e R s m args below meth c H locs cells slots Qm g d0 ls hC hd0 (xm_W_ext hn h1 h2 h3 hW) hS hr hl hR
theorem cls_all (k : Nat) (q : vw_C) (h : vwCl[k]? = some q) : (∀ w ∈ u_ws q.1 q.2.1 q.2.2, w ∈ xm_tb) ∧ ∃ n, Cond.instantiable q.1 n ∈ xm_tb := by
  match k, h with
  | 0, h => cases h.symm.trans kl_0.2.1; exact ⟨kl_0.2.2.1, _, ct_in_0⟩
  | 1, h => cases h.symm.trans kl_1.2.1; exact ⟨kl_1.2.2.1, _, ct_in_1⟩
  | 2, h => cases h.symm.trans kl_2.2.1; exact ⟨kl_2.2.2.1, _, ct_in_2⟩
  | 3, h => cases h.symm.trans kl_3.2.1; exact ⟨kl_3.2.2.1, _, ct_in_3⟩
  | 4, h => cases h.symm.trans kl_4.2.1; exact ⟨kl_4.2.2.1, _, ct_in_4⟩
  | 5, h => cases h.symm.trans kl_5.2.1; exact ⟨kl_5.2.2.1, _, ct_in_5⟩
  | 6, h => cases h.symm.trans kl_6.2.1; exact ⟨kl_6.2.2.1, _, ct_in_6⟩
  | 7, h => cases h.symm.trans kl_7.2.1; exact ⟨kl_7.2.2.1, _, ct_in_7⟩
  | 8, h => cases h.symm.trans kl_8.2.1; exact ⟨kl_8.2.2.1, _, ct_in_8⟩
  | 9, h => cases h.symm.trans kl_9.2.1; exact ⟨kl_9.2.2.1, _, ct_in_9⟩
  | 10, h => cases h.symm.trans kl_10.2.1; exact ⟨kl_10.2.2.1, _, ct_in_10⟩
  | 11, h => cases h.symm.trans kl_11.2.1; exact ⟨kl_11.2.2.1, _, ct_in_11⟩
  | 12, h => cases h.symm.trans kl_12.2.1; exact ⟨kl_12.2.2.1, _, ct_in_12⟩
  | k + 13, h => exact absurd h (by rw [List.getElem?_eq_none (show vwCl.length ≤ k + 13 from Nat.le_add_left 13 k)]; exact fun hh => by cases hh)
theorem law_all {sc : xm_I} {len : Int32} (hsc : ∀ a, a < 1000 → ∀ k, sc a k = 0) (h1 : sc 1000001 0 = len) (hl0 : 0 ≤ len.toInt) (hl1 : len.toInt ≤ 2560) : xm_J 14 mt_W_law 0 [(0, .ref 1000000)] [] (sc, (fun _ _ => 0), (fun _ _ => none), 0) (8 * 512 + 86) (221 * 512 + 55133) (fun v _ => v = some (.int 1)) := by
  refine law_start (kc := 8 * 512) (ks := 221 * 512) (sc := sc) hsc (by decide) ?_
  refine xm_J_ext (h' := (IKl sc li_24, L0, RC 86, 86)) rfl rfl rfl (fun a ha => RK_all ha) ?_
  refine law_loop (d := 14) (len := len) (G := GI (sc 1000000) len) (by decide) hl0 hl1 GI.ok (fun I L n i h _ => g_all h) 512 0 (IKl sc li_24) L0 86 (start_GI hsc h1) (by decide) (by decide) ?_
  have : (0 : Int32).toInt = 0 := by decide
  omega
def R_law : String := "DrawLabelsLaw"
def lw_P (b : Addr) (xs : List Int32) (args : Array Value) (s : State) : Prop := args = #[.ref b] ∧ s.IntsAt b xs ∧ xs.length ≤ 2560 ∧ (Jvm.Cond.and given_1 narrow_1).before args s = true
/-- what a walk over the start with the record d0 says of its end, said of the start itself -/
theorem lw_closed {s t : State} {o : Outcome} {d0 : Drawn} {L : List Loc} {k n : Nat} (hd0 : s.drawn.sameBut d0 lw_cs) (hv : ∃ v, o = .returned v) (hW : (s.setDrawn d0).WarmedH t.vm) (hs : (s.setDrawn d0).sameButNew ({ t with vm := s.vm } : State) L k n) : State.butDraws s t lw_cs (fun t1 => Framed s o t1 L k n) := by
  have h2 : t.drawn = d0 := congrArg State.drawn hs.1
  refine ⟨⟨hv, hW, State.sameButNew.setDrawn hs s.drawn⟩, ?_, by decide⟩
  rw [h2]
  exact hd0
def lw_Q (_ : Array Value) (s : State) (o : Outcome) (t : State) : Prop := o = .returned (some (.int 1)) ∧ State.butDraws s t lw_cs (fun t1 => Framed s o t1 [] 600000 7302250)
def lw_Z (below : List Frame) (a : Array Value) (s : State) : State → Prop := fun t => ∃ o, t.status = .running ∧ Ended t below o ∧ lw_Q a s o t
/-- the law's own end, with 1 on the stack, nothing written that was there before, its room as the claim has it; d0: the record of draws at this point (at the entry s.drawn: begin with 'refine W.base ?_' and 'have hd0 := Drawn.sameBut.refl s.drawn lw_cs') -/
theorem lw_ret {p : Program} {l : Launch} {e : Env} {s : State} {m : MethodId} {below : List Frame} {meth : Method} {c : Code} {b : Nat} {d0 : Drawn} (hd0 : s.drawn.sameBut d0 lw_cs) (hx : p.tables.exec = Jvm.exec) (hb : c.code = code) (hr : meth.sig.returnType = ret) (hlocks : meth.locks = false) {pc : Nat} {H : Heap} {ls : Array Slot} (hdg : decode code pc = .ok (.ireturn, 1)) : W p l e room_1 (s.setDrawn d0) m #[Value.ref b] below meth c H [] 600000 7302250 (lw_Z below #[Value.ref b] s) (F0 m pc ls [.int 1]) := by
  intro T hT X
  obtain ⟨fs, hret, hrun, hended, hW, hframe⟩ := X.leave (v := some (.int 1)) (hlocks := hlocks) (fun h => by rw [hr] at h; cases h)
  have hmeth' : T.vm.method? m = some meth := X.method'
  refine ⟨T.setFrames fs, ?_, .returned (some (.int 1)), hrun, hended, rfl, lw_closed hd0 ⟨_, rfl⟩ hW hframe⟩
  jvm_step X.here [X.here.top, hx, hb, hdg, hmeth', hr, ret, narrow_b1]
  (try refine ⟨rfl, ?_⟩); (try refine ⟨rfl, ?_⟩)
  first | (intro acts; rw [hret _ acts rfl rfl rfl]) | rw [hret _ _ rfl rfl rfl]
  exact Steps.refl _
/-- what holds at the law's entry: the machine, the code, the tables' words (any of lw_tbl by 'hts w (by decide +kernel)'), the script of L ints xs at the cell b, what the Statement gives of the start (any of its parts by flat_of_before) -/
def lw_At (p : Program) (s : State) (m : MethodId) (meth : Method) (c : Code) (b L : Nat) (xs : Nat → Int32) : Prop :=
  p.tables.exec = Jvm.exec ∧ c.code = code ∧ meth.sig.returnType = ret ∧ c.maxLocals = 8 ∧ s.vm.findClass R_law = some m.cls ∧ (∀ w ∈ lw_tbl, w.before #[Value.ref b] s = true) ∧ va_X b L xs s s.heap ∧ b < s.heap.size ∧ meth.locks = false ∧ (Jvm.Cond.and given_1 narrow_1).before #[Value.ref b] s = true ∧ meth.name = "law"
theorem arr_is {s : State} {cA : ClassId} {kA : Class} {comp : ClassId} {ty : FieldType} (h2 : s.vm.classes[cA]? = some kA) (h3 : kA.kind = .array comp ty) (n : Nat) (z : Nat → Value) : s.isArrayOf (arrV cA n z) ty := ⟨fun k h => (by cases h), kA, h2, comp, h3⟩
theorem whole_of {M : xm_M} {kc ks : Nat} {p : Program} {e : Env} {s : State} {m : MethodId} {below : List Frame} {meth : Method} {c : Code} (l : Launch) {b L : Nat} {xs : Nat → Int32} (hL : L ≤ 2560) (C0 : lw_At p s m meth c b L xs) (hM1 : M.2.1 = code) (hM2 : M.2.2.1 = 8) (hM3 : M.2.2.2.1 = ret) (hMc : M.1.cls = R_law) (hMn : M.1.name = "law") (hdec : ∀ q ∈ M.2.2.2.2, decode M.2.1 q.1 = .ok (q.2.1, q.2.2)) (hk : kc ≤ 600000 ∧ ks ≤ 7302250)
    (hKl : ∀ (k : Nat) (q : vw_C), vwCl[k]? = some q → (∀ w ∈ u_ws q.1 q.2.1 q.2.2, w ∈ xm_tb) ∧ ∃ n, Cond.instantiable q.1 n ∈ xm_tb)
    (hi : Cond.arrayClass .int ∈ xm_tb) (hz : Cond.arrayClass .boolean ∈ xm_tb) (hlg : Cond.arrayClass .long ∈ xm_tb) (hq : Cond.arrayOver (.object RX9) ∈ xm_tb)
    (hst : Cond.laysStatic "DrawLabels$Placer" "TOP_FROM_ANCHOR" "[I" ∈ lw_tbl) (hin : Cond.initialized "DrawLabels$Placer" ∈ lw_tbl)
    (hJ : ∀ sc : xm_I, (∀ a, a < 1000 → ∀ k, sc a k = 0) → sc 1000000 = xs → sc 1000001 0 = Int32.ofNat L → xm_J 14 M 0 [(0, .ref 1000000)] [] (sc, (fun _ _ => 0), (fun _ _ => none), 0) kc ks (fun v _ => v = some (.int 1))) :
    W p l e room_1 s m #[Value.ref b] below meth c s.heap [] 0 0 (lw_Z below #[Value.ref b] s) (entryFrame m ([Value.ref b] : List Value).toArray 8) := by
  obtain ⟨hx, hb, hr, hml, hown, hts, hX, hbl, hlocks, hgv, hname⟩ := id C0
  have htb : ∀ w ∈ xm_tb, w.before #[Value.ref b] s = true := fun w hw => hts w (List.mem_filter.mp hw).1
  have hA : ∀ a : Nat, a < s.heap.size → ¬ (fun q : Nat => s.heap.size ≤ q) a := fun a ha => Nat.not_le.mpr ha
  -- the classes
  have hcl : ∀ k : Nat, ∃ (cC : ClassId) (iS : Nat → Nat), ∀ q : vw_C, vwCl[k]? = some q → u_Kn s q.1 q.2.1 q.2.2 cC iS := by
    intro k
    cases hv : vwCl[k]? with
    | none => exact ⟨0, fun _ => 0, fun q h => (by cases h)⟩
    | some q =>
      obtain ⟨h1, n, h2⟩ := hKl k q hv
      obtain ⟨cC, iS, h3⟩ := u_known (C := q.1) (T := q.2.1) (N := q.2.2) htb h1 (htb _ h2)
      exact ⟨cC, iS, fun q' h => by cases h; exact h3⟩
  -- the array classes
  have prim : ∀ ty : FieldType, (∀ C, ty ≠ .object C) → Cond.arrayClass ty ∈ xm_tb → ∃ cA, ArrOfT s cA ty ∧ va_RA s cA ty := by
    intro ty hno hw
    obtain ⟨cA, kA, comp, h1, h2, h3⟩ := Cond.arrayClass_spec (htb _ hw)
    refine ⟨cA, fun n z => ?_, ?_⟩
    · exact arr_is h2 h3 n z
    · cases ty with
      | object C => exact absurd rfl (hno C)
      | _ => exact h1
  obtain ⟨ci, hi1, hi2⟩ := prim .int (fun C h => by cases h) hi
  obtain ⟨cz, hz1, hz2⟩ := prim .boolean (fun C h => by cases h) hz
  obtain ⟨cl, hl1, hl2⟩ := prim .long (fun C h => by cases h) hlg
  obtain ⟨cq, hq1, hq2⟩ : ∃ cA, ArrOfT s cA (.object RX9) ∧ va_RA s cA (.object RX9) := by
    obtain ⟨comp, cA, kA, h1, h2, h3, h4, h5⟩ := Cond.arrayOver_spec (htb _ hq)
    exact ⟨cA, fun n z => arr_is h3 h4 n z, kA, comp, h3, h4, h1, h5⟩
  -- the static row
  have hs := flat_of_before _ hgv
  have harr : (Cond.arrayOf (.static "DrawLabels$Placer" "TOP_FROM_ANCHOR" "[I") .int).before #[Value.ref b] s = true := hs _ (by decide +kernel)
  have hlen : (Cond.eq (.length (.static "DrawLabels$Placer" "TOP_FROM_ANCHOR" "[I")) (.int 8)).before #[Value.ref b] s = true := hs _ (by decide +kernel)
  have hel : ∀ j : Nat, j < 8 → (Term.elem (.static "DrawLabels$Placer" "TOP_FROM_ANCHOR" "[I") (.int (Int32.ofNat j))).eval #[Value.ref b] s none [] s = some (.int (xm_tp j)) := by
    intro j hj
    have h : j = 0 ∨ j = 1 ∨ j = 2 ∨ j = 3 ∨ j = 4 ∨ j = 5 ∨ j = 6 ∨ j = 7 := by omega
    rcases h with rfl | rfl | rfl | rfl | rfl | rfl | rfl | rfl
    · exact va_eqt (z := -4) (hs _ (by decide +kernel))
    · exact va_eqt (z := -11) (hs _ (by decide +kernel))
    · exact va_eqt (z := -12) (hs _ (by decide +kernel))
    · exact va_eqt (z := -11) (hs _ (by decide +kernel))
    · exact va_eqt (z := -4) (hs _ (by decide +kernel))
    · exact va_eqt (z := 2) (hs _ (by decide +kernel))
    · exact va_eqt (z := 3) (hs _ (by decide +kernel))
    · exact va_eqt (z := 2) (hs _ (by decide +kernel))
  obtain ⟨T, hT1, hT2⟩ := va_Tof (N := 8) (f := fun j => .int (xm_tp j)) (A := fun q : Nat => s.heap.size ≤ q) (by decide) harr (va_eqt hlen) hel hA
  have hTl : T < s.heap.size := by
    obtain ⟨cell, h1, _⟩ := hT2
    exact (Array.getElem?_eq_some_iff.mp h1).1
  have hZ : va_Z "DrawLabels$Placer" "TOP_FROM_ANCHOR" "[I" (.ref T) (fun q : Nat => s.heap.size ≤ q) s s.heap := va_Zref (hts _ hst) (hts _ hin) hT1 hA
  -- the launch's numbers
  obtain ⟨g, hg⟩ : ∃ g : xm_G, g = ((s.heap.size, b, T, L), xs, (fun k => (hcl k).choose, fun k => (hcl k).choose_spec.choose), (fun k => if k = 0 then ci else if k = 1 then cz else if k = 2 then cl else cq)) := ⟨_, rfl⟩
  have g0 : g.1.1 = s.heap.size := by rw [hg]
  have hRo : xm_Ro g s s.heap := by
    rw [hg]
    exact ⟨⟨hbl, hTl, hL⟩, hX, hT2, hZ⟩
  have hC : xm_Cx 14 M p room_1 s m #[Value.ref b] meth c g := ⟨hx, hb.trans hM1.symm, hml.trans hM2.symm, by rw [hMc]; exact hown, htb, hr.trans hM3.symm, hlocks, by rw [hMn]; exact hname, ⟨by decide, by decide⟩, by rw [g0]; exact Nat.le_refl _, hRo, hdec⟩
  obtain ⟨sc, hsc⟩ : ∃ sc : xm_I, sc = fun a k => if a = 1000000 then xs k else if a = 1000001 ∧ k = 0 then Int32.ofNat L else 0 := ⟨_, rfl⟩
  have hs0 : ∀ a, a < 1000 → ∀ k, sc a k = 0 := by
    intro a ha k
    rw [hsc]
    show (if a = 1000000 then xs k else if a = 1000001 ∧ k = 0 then Int32.ofNat L else 0) = 0
    rw [if_neg (by omega), if_neg (by omega)]
  have hs1 : sc 1000000 = xs := by
    rw [hsc]
    funext k
    exact if_pos rfl
  have hs2 : sc 1000001 0 = Int32.ofNat L := by
    rw [hsc]
    show (if (1000001 : Nat) = 1000000 then xs 0 else if (1000001 : Nat) = 1000001 ∧ (0 : Nat) = 0 then Int32.ofNat L else 0) = Int32.ofNat L
    rw [if_neg (by omega), if_pos ⟨rfl, rfl⟩]
  have hW : xm_W g (sc, (fun _ _ => 0), (fun _ _ => none), 0) s s.heap := by
    refine ⟨⟨fun k q hq' => ?_, fun k q hk' => ?_⟩, fun k q hk' => by simp [xm_ws] at hk', by rw [g0]; rfl, Nat.zero_le _, ?_, ?_⟩
    · rw [hg]
      exact (hcl k).choose_spec.choose_spec q hq'
    · rw [hg] at hk'
      match k, hk' with
      | 0, hk' => cases hk'; exact ⟨hi1, hi2⟩
      | 1, hk' => cases hk'; exact ⟨hz1, hz2⟩
      | 2, hk' => cases hk'; exact ⟨hl1, hl2⟩
      | 3, hk' => cases hk'; exact ⟨hq1, hq2⟩
      | k + 4, hk' => simp [xm_tys] at hk'
    · rw [hg]
      exact hs1
    · rw [hg]
      exact hs2
  have hd0 := Drawn.sameBut.refl s.drawn lw_cs
  refine W.base ?_
  have hl := lv_entry ([.ref b]) (n := 8) (Nat.le_of_ble_eq_true rfl)
  rw [lg_entry_eq]
  generalize (lg_sl ([.ref b]) ++ List.replicate (8 - (lg_sl ([.ref b])).length) Slot.unset).toArray = ls at hl ⊢
  have hl : lv_has ls 8 [(0, .ref b)] := hl
  have hall : xm_al g 1000000 = b := by rw [hg]; rfl
  have hlh : lv_has ls M.2.2.1 (([(0, Value.ref 1000000)] : List (Nat × Value)).map (fun q => (q.1, xm_v g q.2))) := by
    rw [hM2]
    show lv_has ls 8 [(0, .ref (xm_al g 1000000))]
    rw [hall]
    exact hl
  have hSv : va_S (fun q => g.1.1 ≤ q) s.heap s.heap [] := va_S.rf
  refine hJ sc hs0 hs1 hs2 p l e room_1 s m #[Value.ref b] below meth c s.heap [] 0 0 _ g s.drawn ls hC hd0 hW hSv ⟨by rw [Nat.zero_add]; exact hk.1, by rw [Nat.zero_add]; exact hk.2⟩ hlh ?_
  -- the end
  intro v h H locs cells slots d1 pc ls' hQ hW' hS' hc' hs' hd1 hrk
  have hv : v = some (.int 1) := hQ
  subst hv
  have hdr : decode code pc = .ok (.ireturn, 1) := by
    rw [← hM1]
    rcases hrk with ⟨h1, _⟩ | ⟨x, ty, h1, h2, h3, h4⟩ | ⟨x, h1, _⟩ | ⟨x, h1, _⟩ | ⟨x, nn, h1, _⟩
    · cases h1
    · exact h4
    · cases h1
    · cases h1
    · cases x <;> cases h1
  show W p l e room_1 (s.setDrawn d1) m #[Value.ref b] below meth c H locs cells slots (lw_Z below #[Value.ref b] s) (F0 m pc ls' [.int 1])
  refine W.widen (k := 600000) (n := 7302250) hc' hs' ?_
  refine va_forget (fun q hq => by have := hS'.2.2 q hq; rw [g0] at this; exact this) ?_
  exact lw_ret hd1 hx hb hr hlocks hdr
set_option maxRecDepth 100000 in
theorem st_lays : Cond.laysStatic "DrawLabels$Placer" "TOP_FROM_ANCHOR" "[I" ∈ lw_tbl := List.mem_append_right _ (by decide +kernel)
set_option maxRecDepth 100000 in
theorem st_init : Cond.initialized "DrawLabels$Placer" ∈ lw_tbl := List.mem_append_right _ (by decide +kernel)
/-- from the entry, for every script of at most 2560 ints, the law comes to its end with true -/
theorem whole_start {p : Program} {e : Env} {s : State} {m : MethodId} {below : List Frame} {meth : Method} {c : Code} (l : Launch) {b L : Nat} {xs : Nat → Int32} (hL : L ≤ 2560) (C0 : lw_At p s m meth c b L xs) : W p l e room_1 s m #[Value.ref b] below meth c s.heap [] 0 0 (lw_Z below #[Value.ref b] s) (entryFrame m ([Value.ref b] : List Value).toArray 8) := by
  have hLi : (Int32.ofNat L).toInt = (L : Int) := Int32.toInt_ofNat_of_lt (by omega)
  exact whole_of (M := mt_W_law) (kc := 8 * 512 + 86) (ks := 221 * 512 + 55133) l hL C0 rfl rfl rfl rfl rfl dv_W_law ⟨by decide, by decide⟩ cls_all ct_arr_int ct_arr_boolean ct_arr_long ct_arr_q st_lays st_init (fun sc h0 _ h2 => law_all h0 h2 (by rw [hLi]; omega) (by rw [hLi]; omega))
set_option maxHeartbeats 4000000 in
theorem lw_walk (l : Launch) (b : Addr) (xs : List Int32) : MetFree l x (headSpec (Jvm.Cond.code x code maxLocals ret :: tables_1) room_1) (lw_P b xs) (fun _ _ _ _ _ => True) lw_Q := by
  refine MetFree.of_bodyS (code := code) (maxLocals := maxLocals) (ret := ret) (by decide) ?_ ?_
  · intro args s m h hn
    obtain ⟨meth, c, h1, h2, h3, h4, h5, h6, -, -⟩ := Cond.code_spec hn (atoms_spec (ws := Jvm.Cond.code x code maxLocals ret :: tables_1) h _ List.mem_cons_self)
    exact ⟨meth, c, h1, h2, h3, h4, h5, h6⟩
  · intro p e s m args below meth c s₁ B hml0 hP _
    obtain ⟨rfl, hx, hbd, hgv⟩ := hP
    obtain ⟨scr, harrAt, hlist, hof, hsmall⟩ := hx
    obtain ⟨hcb, hkn, -, -⟩ := State.arrayAt?_spec harrAt
    have hown : s.vm.findClass R_law = some m.cls := findClass_of_methodNamed B.named
    have hts0 : ∀ c ∈ (Jvm.Cond.code x code maxLocals ret :: tables_1), c.before #[Value.ref b] s = true := atoms_spec (ws := Jvm.Cond.code x code maxLocals ret :: tables_1) B.pre
    have hts : ∀ w ∈ lw_tbl, w.before #[Value.ref b] s = true := k2_hts_sels lw_privs (fun w hw => hts0 w (List.mem_cons_of_mem _ hw)) lw_privs_ok
    have hml : c.maxLocals = 8 := B.maxLocals_eq (hts0 _ List.mem_cons_self)
    have X₀ : Stand p l e room_1 s m #[Value.ref b] below meth c s₁ [] 0 0 := Stand.of_body B
    have hh0 : s₁.heap = s.heap := by rw [B.state]; rfl
    have hsz : scr.slots.size = xs.length := by rw [← Array.length_toList, hlist, List.length_map]
    have hval : ∀ j : Nat, j < xs.length → scr.slots[j]? = some (.int (xs.getD j 0)) := fun j hj => by
      rw [← Array.getElem?_toList, hlist]
      simp [hj]
    have hbl : b < s.heap.size := (Array.getElem?_eq_some_iff.mp hcb).1
    have hX : va_X b xs.length (fun j => xs.getD j 0) s s.heap := ⟨scr, hcb, hof, hkn, hsz, hval⟩
    have K : W p l e room_1 s m #[Value.ref b] below meth c s₁.heap [] 0 0 (lw_Z below #[Value.ref b] s) (entryFrame m ([Value.ref b] : List Value).toArray 8) := by
      rw [hh0]
      exact whole_start l hbd ⟨B.exec, B.bytes, B.returns, hml, hown, hts, hX, hbl, B.notSynchronized, hgv, (name_of_methodNamed B.named B.method).1⟩
    obtain ⟨t, a1, o, b1, b2, b3⟩ := K s₁ rfl X₀
    exact ⟨t, o, a1, b1, b2, b3⟩
theorem lw_pre_spec {args : Array Value} {s : State} (h : (Jvm.Cond.and given_1 narrow_1).before args s = true) (hr : rest_1_c.before args s = true) : ∃ (b : Addr) (xs : List Int32), lw_P b xs args s := by
  have hs := flat_of_before _ h
  have hq := flat_of_before _ hr
  have hc : (Cond.count 1).before args s = true := hs _ (by decide +kernel)
  have harr : (Cond.arrayOf (.arg 0) .int).before args s = true := hs _ (by decide +kernel)
  have hle : (Cond.le (.length (.arg 0)) (.int 2560)).before args s = true := hs _ (by decide +kernel)
  have hlen : (Cond.isInt (.length (.arg 0))).before args s = true := hq _ (by decide +kernel)
  have hall : (Cond.all (.arg 0) (.isInt (.elem (.arg 0) (.index 0)))).before args s = true := hq _ (by decide +kernel)
  obtain ⟨b, xs, hb, hx⟩ := State.ints_of_pre rfl harr hlen hall
  have hsm : xs.length < 2 ^ 31 := hx.choose_spec.2.2.2
  have hev : (Term.length (.arg 0)).eval args s none [] s = some (.int xs.length.toInt32) := hx.length_eval hb
  have hv := Cond.le_ints hev (show (Term.int 2560).eval args s none [] s = some (.int 2560) from rfl)
  have hd : xs.length.toInt32 ≤ 2560 := by
    simpa [Cond.before, Cond.holds, hv] using hle
  have hN : xs.length ≤ 2560 := (Int32.ofNat_le_ofNat hsm (by decide)).mp (show Int32.ofNat xs.length ≤ Int32.ofNat 2560 from hd)
  exact ⟨b, xs, Cond.one_arg hc (show args[0]? = some (.ref b) from hb), hx, hN, h⟩
theorem lw_comes (l : Launch) : Comes l x (Jvm.Cond.code x code maxLocals ret :: tables_1) room_1 (fun tb e args s => Calls_1 tb e args s ∧ rest_1 tb e args s ∧ Pre_1 tb e args s)
    (fun _ _ args s o t => lw_Q args s o t) := by
  intro p e ha hc hk s m args below hf hfit hheap happ hpre
  obtain ⟨b, xs, hP⟩ := lw_pre_spec hpre.2.2 hpre.2.1
  obtain ⟨k, o, h1, h2, h3, hQ⟩ := lw_walk l b xs p e ha hc hk s m args below hf ((Spec.applies_iff_loose hf).mp happ).1 hP trivial
  exact ⟨k, o, h1, h2, h3, hQ⟩
theorem lw_frame {s t : State} {o : Outcome} {args : Array Value} (h : State.butDraws s t lw_cs (fun t1 => Framed s o t1 [] 600000 7302250)) :
    State.butDraws s t [Jvm.Choice.named "NaN.bits"] (fun t1 => Framed s o t1 (fieldLocs frame_1_writes args s ++ arrayLocs frame_1_arrays args s ++ staticLocs frame_1_statics s) 600000 7302250) := h
theorem lw_limb (L : Cond) (hL : ∀ (args : Array Value) (s t : State), L.after args s (.returned (some (.int 1))) t = true) :
    ArmFor flags0 classFile x code maxLocals ret World_1 tables_1 room_1 Calls_1 rest_1 Pre_1
      (fun tb e a s o t => postC L tb e a s o t ∧ State.butDraws s t [Jvm.Choice.named "NaN.bits"] (fun t1 => Framed s o t1 (fieldLocs frame_1_writes a s ++ arrayLocs frame_1_arrays a s ++ staticLocs frame_1_statics s) 600000 7302250)) := by
  intro l _ _ _ p e ha hc hk s m args below hf hfit hheap happ hpre
  obtain ⟨k, o, h1, h2, h3, rfl, hF⟩ := lw_comes l p e ha hc hk s m args below hf hfit hheap happ hpre
  exact ⟨k, _, h1, h2, h3, hL args s _, lw_frame hF⟩
theorem i_vc : Claimed_1_1 ∧ Claimed_1_2 := ⟨lw_limb limb_1_1 (fun args s t => by simp [limb_1_1, Cond.after, Cond.holds, Cond.value]), lw_limb limb_1_2 (fun args s t => Cond.after_iff.mpr (by
  first | (rw [show limb_1_2 = Cond.eq .result (.int 1) from rfl, Cond.eq_ints (x := 1) (y := 1) rfl rfl]; simp; done) | (simp [limb_1_2, Cond.value, Term.eval]; done)))⟩
