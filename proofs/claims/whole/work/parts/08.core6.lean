/-! ===== cells that are made; calls ===== -/
def xm_new (h : xm_H) : xm_H := (fun a k => if a = h.2.2.2 then 0 else h.1 a k, fun a k => if a = h.2.2.2 then 0 else h.2.1 a k, fun a k => if a = h.2.2.2 then none else h.2.2.1 a k, h.2.2.2 + 1)
theorem xm_new_ws (g : xm_G) (h : xm_H) : xm_ws g (xm_new h) = xm_ws g h ++ [(g.1.1 + h.2.2.2, xm_E g (xm_new h) h.2.2.2)] := by
  unfold xm_ws
  have e : (xm_new h).2.2.2 = h.2.2.2 + 1 := rfl
  rw [e, List.range_succ, List.map_append, List.map_cons, List.map_nil]
  congr 1
  apply List.map_congr_left
  intro a ha
  have hlt : a ≠ h.2.2.2 := by have := List.mem_range.mp ha; omega
  rw [xm_E_ext (h := h) (h' := xm_new h)]
  · funext k; simp [xm_new, hlt]
  · funext k; simp [xm_new, hlt]
  · funext k; simp [xm_new, hlt]
theorem xm_new_W {g : xm_G} {h : xm_H} {U : State} {H H1 : Heap} (hW : xm_W g h U H) (hn : h.2.2.2 < 1000) (z : H1.size = H.size + 1) (o : ∀ q, q < H.size → H1[q]? = H[q]?) (e1 : va_at g.2.2.1 vwCl (g.1.1 + h.2.2.2, xm_E g (xm_new h) h.2.2.2) H1) : xm_W g (xm_new h) U H1 := by
  obtain ⟨hK, hP, hsz, -, hsc⟩ := hW
  refine ⟨hK, ?_, by rw [z, hsz]; exact Nat.add_assoc _ _ _, hn, hsc.kept (by funext k; simp [xm_new, show ¬ 1000000 = h.2.2.2 by omega]) (by funext k; simp [xm_new, show ¬ 1000001 = h.2.2.2 by omega])⟩
  rw [xm_new_ws]
  refine (hP.kept fun k q hk => o q.1 ((hP k q hk).lt)).app fun k q hk => ?_
  have hz : k < 1 := (List.getElem?_eq_some_iff.mp hk).1
  rw [show k = 0 by omega] at hk
  cases hk
  exact e1
theorem xm_new_S {A : Nat → Prop} {H0 H H1 : Heap} {locs : List Loc} (hS : va_S A H0 H locs) (z : H1.size = H.size + 1) (o : ∀ q, q < H.size → H1[q]? = H[q]?) : va_S A H0 H1 locs :=
  ⟨Nat.le_trans hS.1 (by omega), fun x h1 h2 => (o x (Nat.lt_of_lt_of_le h1 hS.1)).trans (hS.2.1 x h1 h2), hS.2.2⟩
section XN
variable {d : Nat} {M : xm_M} {pc : Nat} {Ls : List (Nat × Value)} {S : List Value} {h : xm_H} {kc ks : Nat} {Q : Option Value → xm_H → Prop} {i index a c k : Nat}
theorem xm_newarr {x : Int32} {n t0 : Nat} {at_ : ArrayType} {ty : FieldType} {a0 : vp_A} (hd : M.2.2.2.2[i]? = some (pc, .newarray at_, 2)) (hty : newarray.typeOf at_ = ty) (hprim : ∀ (U : State) (cA : ClassId), va_RA U cA ty → U.vm.findClass ("[" ++ ty.toString) = some cA) (hw : Cond.arrayClass ty ∈ xm_tb) (hn : h.2.2.2 < 1000) (hE : ∀ g, xm_E g (xm_new h) h.2.2.2 = .inl (g.2.2.2 t0, a0)) (ha0 : ∀ cA, vp_cell cA a0 = arrV cA n (fun _ => defaultValue ty)) (ht : ∀ g, (xm_tys g)[t0]? = some (g.2.2.2 t0, ty))
    (hx0 : ¬ x < 0) (hxn : x.toNatClampNeg = n) (hbytes : n * componentBytes ty ≤ 536870912) (kk : xm_J d M (pc + 2) Ls (.ref h.2.2.2 :: S) (xm_new h) kc ks Q) : xm_J d M pc Ls (.int x :: S) h (kc + 1) (ks + n) Q := by
  intro p l e R s m args below meth c' H locs cells slots Qm g d0 ls hC hd0 hW hS hr hl hR
  have hC' := hC
  obtain ⟨hx, hb, hml, hown, hts, -, -, -, -, -, -, htt⟩ := hC'
  subst hty
  have hde : decode M.2.1 pc = .ok (.newarray at_, 2) := htt (pc, .newarray at_, 2) (List.mem_of_getElem? hd)
  refine va_newaK (s := s.setDrawn d0) (g := F0 m pc ls (.int x :: S.map (xm_v g))) hx hb (dr_words hts d0 _ hw) rfl hde rfl hx0 hxn hbytes (by omega) (by omega) rfl fun H1 cA e1 z1 o1 hAr hNm => ?_
  have hcA : cA = g.2.2.2 t0 := by
    have h1 := hprim _ _ (hW.1.2 t0 _ (ht g)).2
    exact Option.some.inj (hNm.symm.trans h1)
  subst hcA
  have hsz : H.size = g.1.1 + h.2.2.2 := hW.2.2.1
  have hW1 : xm_W g (xm_new h) s H1 := by
    refine xm_new_W hW hn z1 o1 ?_
    rw [hE g]
    show H1[g.1.1 + h.2.2.2]? = some (vp_cell _ _)
    rw [ha0, ← hsz]
    exact e1
  have := kk p l e R s m args below meth c' H1 locs (cells + 1) (slots + n) Qm g d0 ls hC hd0 hW1 (xm_new_S hS z1 o1) (by omega) hl hR
  have e2 : (xm_v g (.ref h.2.2.2)) = .ref H.size := by
    show Value.ref (xm_al g h.2.2.2) = _
    rw [xm_al_in hn, hsz]
  rw [List.map_cons, e2] at this
  exact this
theorem r_newi {x : Int32} {n : Nat} (hd : M.2.2.2.2[i]? = some (pc, .newarray .int, 2)) (hw : Cond.arrayClass .int ∈ xm_tb) (hn : h.2.2.2 < 1000) (hl0 : xm_lay h.2.2.2 = (100, n)) (hx0 : ¬ x < 0) (hxn : x.toNatClampNeg = n) (hN : n ≤ 100000) (kk : xm_J d M (pc + 2) Ls (.ref h.2.2.2 :: S) (xm_new h) kc ks Q) : xm_J d M pc Ls (.int x :: S) h (kc + 1) (ks + n) Q := by
  refine xm_newarr (t0 := 0) (a0 := (n, .inl (fun _ => 0))) hd rfl (fun U cA h => h) hw hn (fun g => ?_) (fun cA => ?_) (fun g => rfl) hx0 hxn ?_ kk
  · rw [xm_E_int hl0]
    congr 3
    congr 1
    funext j
    simp [xm_new]
  · rfl
  · show n * 4 ≤ 536870912
    omega
theorem r_newz {x : Int32} {n : Nat} (hd : M.2.2.2.2[i]? = some (pc, .newarray .boolean, 2)) (hw : Cond.arrayClass .boolean ∈ xm_tb) (hn : h.2.2.2 < 1000) (hl0 : xm_lay h.2.2.2 = (101, n)) (hx0 : ¬ x < 0) (hxn : x.toNatClampNeg = n) (hN : n ≤ 100000) (kk : xm_J d M (pc + 2) Ls (.ref h.2.2.2 :: S) (xm_new h) kc ks Q) : xm_J d M pc Ls (.int x :: S) h (kc + 1) (ks + n) Q := by
  refine xm_newarr (t0 := 1) (a0 := (n, .inl (fun _ => 0))) hd rfl (fun U cA h => h) hw hn (fun g => ?_) (fun cA => ?_) (fun g => rfl) hx0 hxn ?_ kk
  · rw [xm_E_bool hl0]
    congr 3
    congr 1
    funext j
    simp [xm_new]
  · rfl
  · show n * 1 ≤ 536870912
    omega
theorem r_newl {x : Int32} {n : Nat} (hd : M.2.2.2.2[i]? = some (pc, .newarray .long, 2)) (hw : Cond.arrayClass .long ∈ xm_tb) (hn : h.2.2.2 < 1000) (hl0 : xm_lay h.2.2.2 = (102, n)) (hx0 : ¬ x < 0) (hxn : x.toNatClampNeg = n) (hN : n ≤ 100000) (kk : xm_J d M (pc + 2) Ls (.ref h.2.2.2 :: S) (xm_new h) kc ks Q) : xm_J d M pc Ls (.int x :: S) h (kc + 1) (ks + n) Q := by
  refine xm_newarr (t0 := 2) (a0 := (n, .inr (.inl (fun _ => 0)))) hd rfl (fun U cA h => h) hw hn (fun g => ?_) (fun cA => ?_) (fun g => rfl) hx0 hxn ?_ kk
  · rw [xm_E_long hl0]
    congr 4
    congr 1
    funext j
    simp [xm_new]
  · rfl
  · show n * 8 ≤ 536870912
    omega
theorem r_newq {x : Int32} {n : Nat} (hd : M.2.2.2.2[i]? = some (pc, .anewarray index, 3)) (hw : Cond.classLink M.1.cls index RX9 ∈ xm_tb) (hw2 : Cond.arrayOver (.object RX9) ∈ xm_tb) (hn : h.2.2.2 < 1000) (hl0 : xm_lay h.2.2.2 = (103, n)) (hx0 : ¬ x < 0) (hxn : x.toNatClampNeg = n) (hN : n ≤ 100000) (kk : xm_J d M (pc + 3) Ls (.ref h.2.2.2 :: S) (xm_new h) kc ks Q) : xm_J d M pc Ls (.int x :: S) h (kc + 1) (ks + n) Q := by
  intro p l e R s m args below meth c' H locs cells slots Qm g d0 ls hC hd0 hW hS hr hl hR
  have hC' := hC
  obtain ⟨hx, hb, hml, hown, hts, -, -, -, -, -, -, htt⟩ := hC'
  have hde : decode M.2.1 pc = .ok (.anewarray index, 3) := htt (pc, .anewarray index, 3) (List.mem_of_getElem? hd)
  refine W.anew (s := s.setDrawn d0) (C := RX9) (g := F0 m pc ls (.int x :: S.map (xm_v g))) hx hb hown (dr_words hts d0 _ hw) (dr_words hts d0 _ hw2) rfl hde rfl hx0 (by omega) (by omega) (by omega) fun cA kA comp f1 f2 f3 f4 => ?_
  have hcA : cA = g.2.2.2 3 := by
    obtain ⟨_, _, -, -, -, h1⟩ := (hW.1.2 3 (g.2.2.2 3, .object RX9) rfl).2
    exact Option.some.inj (f1.symm.trans h1)
  subst hcA
  subst hxn
  have hsz : H.size = g.1.1 + h.2.2.2 := hW.2.2.1
  generalize hH1 : H.push ({ cls := g.2.2.2 3, slots := Array.replicate x.toNatClampNeg .null, vm := .none } : Cell) = H1
  have z1 : H1.size = H.size + 1 := by rw [← hH1, Array.size_push]
  have e1 : H1[H.size]? = some (arrV (g.2.2.2 3) x.toNatClampNeg (fun _ => .null)) := by rw [← hH1, Array.getElem?_push_size, ← arrV_new]
  have o1 : ∀ q : Nat, q < H.size → H1[q]? = H[q]? := fun q hq => by rw [← hH1, Array.getElem?_push, if_neg (Nat.ne_of_lt hq)]
  have hW1 : xm_W g (xm_new h) s H1 := by
    refine xm_new_W hW hn z1 o1 ?_
    rw [xm_E_ref hl0]
    show H1[g.1.1 + h.2.2.2]? = some (vp_cell _ _)
    rw [← hsz, e1, vp_cell_q]
    congr 2
    funext j
    simp [xm_new, va_rf]
  have := kk p l e R s m args below meth c' H1 locs (cells + 1) (slots + x.toNatClampNeg) Qm g d0 ls hC hd0 hW1 (xm_new_S hS z1 o1) (by omega) hl hR
  have e2 : (xm_v g (.ref h.2.2.2)) = .ref H.size := by
    show Value.ref (xm_al g h.2.2.2) = _
    rw [xm_al_in hn, hsz]
  rw [List.map_cons, e2] at this
  exact this
theorem xm_dfl (g : xm_G) (h : xm_H) (c k : Nat) (hp : xm_ty c k = .int ∨ xm_ty c k = .boolean ∨ xm_ty c k = .long ∨ (∃ n, xm_ty c k = .object n) ∨ ∃ n, xm_ty c k = .array n) : defaultValue (xm_ty c k) = xm_fv g (xm_new h) h.2.2.2 c k := by
  rcases hp with e | e | e | ⟨n, e⟩ | ⟨n, e⟩ <;> simp [xm_fv, e, xm_new, defaultValue, va_rf]
theorem r_new {C : String} {T : u_T} {N : Nat} (hd : M.2.2.2.2[i]? = some (pc, .new index, 3)) (hk : xm_Kl c C T N) (hw1 : Cond.classLink M.1.cls index C ∈ xm_tb) (hw2 : Cond.instantiable C N ∈ xm_tb) (hw3 : Cond.initialized C ∈ xm_tb) (hp : ∀ k, k < N → xm_ty c k = .int ∨ xm_ty c k = .boolean ∨ xm_ty c k = .long ∨ (∃ n, xm_ty c k = .object n) ∨ ∃ n, xm_ty c k = .array n) (hn : h.2.2.2 < 1000) (hl0 : xm_lay h.2.2.2 = (c, 0)) (kk : xm_J d M (pc + 3) Ls (.ref h.2.2.2 :: S) (xm_new h) kc ks Q) : xm_J d M pc Ls S h (kc + 1) (ks + N) Q := by
  intro p l e R s m args below meth c' H locs cells slots Qm g d0 ls hC hd0 hW hS hr hl hR
  have hC' := hC
  obtain ⟨hx, hb, hml, hown, hts, -, -, -, -, -, -, htt⟩ := hC'
  obtain ⟨hc13, hcl, hin, hN, hty0, hnm⟩ := hk
  have hde : decode M.2.1 pc = .ok (.new index, 3) := htt (pc, .new index, 3) (List.mem_of_getElem? hd)
  have hKn := hW.1.1 c _ hcl
  refine W.newcK (s := s.setDrawn d0) (g := F0 m pc ls (S.map (xm_v g))) hx hb hown (dr_words hts d0 _ hw1) (dr_words hts d0 _ hw2) (dr_words hts d0 _ hw3) rfl hde (by omega) (by omega) hKn.2.1 rfl fun H1 kC hkC e1 z1 o1 => ?_
  have hsz : H.size = g.1.1 + h.2.2.2 := hW.2.2.1
  have hW1 : xm_W g (xm_new h) s H1 := by
    refine xm_new_W hW hn z1 o1 ?_
    rw [xm_E_obj hl0 hc13]
    refine ⟨_, hcl, ?_⟩
    rw [← hsz]
    refine (u_born (xm_ty c) hts hin hKn hkC e1 hty0).to fun j hj => ?_
    subst hN
    simp only [vp_V, List.getD_eq_getElem?_getD]
    rw [xm_fs hj, xm_dfl g h c j (hp j hj)]
    rfl
  have := kk p l e R s m args below meth c' H1 locs (cells + 1) (slots + N) Qm g d0 ls hC hd0 hW1 (xm_new_S hS z1 o1) (by omega) hl hR
  have e2 : (xm_v g (.ref h.2.2.2)) = .ref H.size := by
    show Value.ref (xm_al g h.2.2.2) = _
    rw [xm_al_in hn, hsz]
  rw [List.map_cons, e2] at this
  exact this
theorem xm_sum (g : xm_G) (S : List Value) : ((S.map (xm_v g)).map fun v => v.category).sum = (S.map fun v => v.category).sum := by
  congr 1
  rw [List.map_map]
  apply List.map_congr_left
  intro v _
  exact xm_v_cat g v
theorem r_objInit (hd : M.2.2.2.2[i]? = some (pc, .invokespecial index, 3)) (hw : Cond.methodLink M.1.cls index objectInit ∈ xm_tb) (hw2 : Cond.instanceMethod objectInit ∈ xm_tb) (hw3 : Cond.code objectInit ⟨#[0xb1]⟩ 1 none ∈ xm_tb) (hd1 : 1 ≤ d) (hs : (S.map fun v => v.category).sum ≤ 8) (kk : xm_J d M (pc + 3) Ls S h kc ks Q) : xm_J d M pc Ls (.ref a :: S) h kc ks Q := by
  intro p l e R s m args below meth c' H locs cells slots Qm g d0 ls hC hd0 hW hS hr hl hR
  have hJ := kk p l e R s m args below meth c' H locs cells slots Qm g d0 ls hC hd0 hW hS hr hl hR
  obtain ⟨hx, hb, hml, hown, hts, -, -, -, hdp, -, -, htt⟩ := hC
  have hde : decode M.2.1 pc = .ok (.invokespecial index, 3) := htt (pc, .invokespecial index, 3) (List.mem_of_getElem? hd)
  refine W.objInit (s := s.setDrawn d0) (g := F0 m pc ls (.ref (xm_al g a) :: S.map (xm_v g))) (rest := S.map (xm_v g)) hx hb hown (dr_words hts d0 _ hw) (dr_words hts d0 _ hw2) (dr_words hts d0 _ hw3) rfl (by rw [hml]; exact hl.1) rfl hde (by omega) ?_ hJ
  have : 2 * (F0 m pc ls (.ref (xm_al g a) :: S.map (xm_v g))).monitorRoom + ((S.map (xm_v g)).map fun v => v.category).sum ≤ 8 := lv_room (by rw [xm_sum]; exact hs)
  omega
end XN
theorem xm_warm {w : Cond} (hw : xm_gw w = true) {args a' : Array Value} {s U : State} (h : w.before args s = true) (hW : s.WarmedH U.vm) : w.before a' U = true := by
  by_cases hm : ∃ x1 x2 x3 x4, w = .methodLinkNest x1 x2 x3 x4
  · obtain ⟨x1, x2, x3, x4, rfl⟩ := hm
    have h1 : va_Nw (.methodLinkNest x1 x2 x3 x4) s := va_tabs rfl rfl h
    exact (va_Nw.warmM hW h1).use rfl
  · by_cases ho : ∃ C, w = .arrayOver (.object C)
    · obtain ⟨C, rfl⟩ := ho
      exact ((va_AO.of h).moved hW.alike).use
    · have hg : goodWord w = true := by
        unfold xm_gw at hw
        split at hw
        · exact absurd ⟨_, _, _, _, rfl⟩ hm
        · exact absurd ⟨_, rfl⟩ ho
        · exact hw
      exact word_at hW (good_of_word hg) h
theorem xm_warmAll {args : Array Value} {s : State} (hts : ∀ w ∈ xm_tb, w.before args s = true) {M : xm_M} (hc : Cond.code M.1 M.2.1 M.2.2.1 M.2.2.2.1 ∈ xm_tb) : ∀ w ∈ xm_wd M, ∀ (a' : Array Value) (U : State), s.WarmedH U.vm → w.before a' U = true := by
  intro w hw a' U hW
  have hm : w ∈ xm_tb := by
    rcases List.mem_cons.mp hw with rfl | h
    · exact hc
    · exact h
  exact xm_warm (List.mem_filter.mp hm).2 (hts w hm) hW
/-- what a callee's name must be -/
def xm_ok (M : xm_M) (np : Nat) : Prop := Cond.code M.1 M.2.1 M.2.2.1 M.2.2.2.1 ∈ xm_tb ∧ Cond.initialized M.1.cls ∈ xm_tb ∧ (M.1.cls ≠ "java/lang/invoke/MethodHandle" ∧ M.1.cls ≠ "java/lang/invoke/VarHandle") ∧ (parseMethodDescriptor M.1.desc).map (fun d => d.parameters.length) = some np ∧ M.2.2.1 ≤ 45
section XC
variable {d : Nat} {M : xm_M} {pc : Nat} {Ls : List (Nat × Value)} {h : xm_H} {kc ks : Nat} {Q : Option Value → xm_H → Prop} {i index a c k : Nat} {M' : xm_M} {np d' mc ms kc' ks' : Nat} {As rest : List Value} {Q' : Option Value → xm_H → Prop}
theorem xm_blind (g : xm_G) (av : List Value) : FrameBlind (va_Pc av (fun U => xm_W g h U U.heap ∧ xm_Ro g U U.heap)) := by
  intro a U f mk q
  obtain ⟨q0, q1, q2⟩ := q
  exact ⟨q0, xm_W.moved (u := U) (U := U.calling f mk a) q1 (Vm.Alike.refl U.vm), xm_Ro.moved (u := U) (U := U.calling f mk a) (locs := []) q2 (Vm.Alike.refl U.vm) (by rw [q1.2.2.1]; exact Nat.le_add_right _ _) va_S.rf⟩
theorem xm_pre {g : xm_G} {s U : State} {H : Heap} {locs : List Loc} (hW : xm_W g h s H) (hS : va_S (fun q => g.1.1 ≤ q) s.heap H locs) (hRo : xm_Ro g s s.heap) (hb : g.1.1 ≤ s.heap.size) (hU : U.heap = H) (hv : s.WarmedH U.vm) : xm_W g h U U.heap ∧ xm_Ro g U U.heap := by
  rw [hU]
  exact ⟨hW.moved hv.alike, hRo.moved hv.alike hb hS⟩
theorem xm_after {p : Program} {l : Launch} {e : Env} {R : Room} {s : State} {m : MethodId} {args : Array Value} {below : List Frame} {meth : Method} {c' : Code} {H : Heap} {locs : List Loc} {cells slots : Nat} {Qm : State → Prop} {g : xm_G} {d0 : Drawn} {ls : Array Slot} {st0 : List Value} (hd0 : s.drawn.sameBut d0 lw_cs) (hS : va_S (fun q => g.1.1 ≤ q) s.heap H locs)
    (hr : va_RunD lw_cs p l e R (s.setDrawn d0) m args below meth c' H locs cells slots mc ms (F0 m pc ls st0) (rest.map (xm_v g)) (fun st oc t => (∃ (v : Option Value) (h' : xm_H), oc = .returned (v.map (xm_v g)) ∧ Q' v h' ∧ xm_W g h' t t.heap) ∧ va_F (fun q => g.1.1 ≤ q) st t) (fun q => g.1.1 ≤ q))
    (kk : ∀ (v : Option Value) (h' : xm_H) (H1 : Heap) (locs1 : List Loc) (d1 : Drawn), Q' v h' → xm_W g h' s H1 → va_S (fun q => g.1.1 ≤ q) s.heap H1 locs1 → s.drawn.sameBut d1 lw_cs → W p l e R (s.setDrawn d1) m args below meth c' H1 locs1 (cells + mc) (slots + ms) Qm (F0 m (pc + 3) ls ((v.toList ++ rest).map (xm_v g)))) :
    W p l e R (s.setDrawn d0) m args below meth c' H locs cells slots Qm (F0 m pc ls st0) := by
  intro T hT X
  obtain ⟨v, st₀, t, T', L, d1, hd1, h0, X', hL, e1, e2, ⟨⟨v', h', hv, hQ, hW⟩, hz, hk⟩, st⟩ := hr T hT X
  cases hv
  rw [h0] at hz hk
  obtain ⟨t2, a1, b1⟩ := kk v' h' T'.heap (locs ++ L) d1 hQ (by
      have hal : t.vm.Alike s.vm := by rw [← e2]; exact X'.warmed.alike.symm
      rw [e1]; exact hW.moved hal)
    ⟨Nat.le_trans hS.1 (by rw [e1]; exact hz), fun q h1 h2 => by rw [e1, hk q (Nat.lt_of_lt_of_le h1 hS.1) h2]; exact hS.2.1 q h1 h2, fun q hq => by
      rcases List.mem_append.mp hq with h | h
      · exact hS.2.2 q h
      · exact hL q h⟩ (hd0.trans hd1) T' rfl X'
  refine ⟨t2, st t2 ?_, b1⟩
  have e3 : (Option.map (xm_v g) v').toList ++ rest.map (xm_v g) = (v'.toList ++ rest).map (xm_v g) := by cases v' <;> simp
  rw [e3]
  exact a1
theorem xm_len {np : Nat} {sig : MethodDescriptor} {de : String} (h1 : (parseMethodDescriptor de).map (fun d => d.parameters.length) = some np) (h2 : parseMethodDescriptor de = some sig) : np = sig.parameters.length := by
  rw [h2] at h1
  exact (Option.some.inj h1).symm
theorem xm_CB {p : Program} {R : Room} {s : State} {m : MethodId} {args : Array Value} {meth : Method} {c' : Code} {g : xm_G} {d0 : Drawn} (hC : xm_Cx d M p R s m args meth c' g) (hk : xm_ok M' np) (hdd : d' + 1 ≤ d) (hl : Cond.methodLink M.1.cls index M'.1 ∈ xm_tb) : CallB R (s.setDrawn d0) args M.1.cls index M'.1 M'.2.1 M'.2.2.1 M'.2.2.2.1 (xm_wd M') (xm_rm d' mc ms) mc ms np := by
  obtain ⟨hx, hb, hml, hown, hts, -, -, -, hdp, -, -, htt⟩ := hC
  obtain ⟨h1, h2, h3, h4, h5⟩ := hk
  exact ⟨rfl, rfl, by show d' + 1 ≤ R.frames; omega, by show 8 + (M'.2.2.1 + 11) + 64 * d' ≤ R.locals; omega, xm_warmAll (dr_words hts d0) h1, List.mem_cons_self, dr_words hts d0 _ h1, dr_words hts d0 _ h2, h3, fun sig hsig => xm_len h4 hsig, dr_words hts d0 _ hl⟩
theorem xm_CNs {p : Program} {R : Room} {s : State} {m : MethodId} {args : Array Value} {meth : Method} {c' : Code} {g : xm_G} {d0 : Drawn} {host : String} (hC : xm_Cx d M p R s m args meth c' g) (hk : xm_ok M' np) (hdd : d' + 1 ≤ d) (hl : Cond.methodLinkNest M.1.cls index M'.1 host ∈ xm_tb) : va_CN R (s.setDrawn d0) args M.1.cls index M'.1 host M'.2.1 M'.2.2.1 M'.2.2.2.1 (xm_wd M') (xm_rm d' mc ms) mc ms np := by
  obtain ⟨hx, hb, hml, hown, hts, -, -, -, hdp, -, -, htt⟩ := hC
  obtain ⟨h1, h2, h3, h4, h5⟩ := hk
  exact ⟨⟨rfl, rfl, by show d' + 1 ≤ R.frames; omega, by show 8 + (M'.2.2.1 + 11) + 64 * d' ≤ R.locals; omega, xm_warmAll (dr_words hts d0) h1, List.mem_cons_self⟩, dr_words hts d0 _ h1, dr_words hts d0 _ h2, h3, fun sig hsig => xm_len h4 hsig, dr_words hts d0 _ hl⟩
/-- a method of an object of ours -/
theorem r_callV {q : vw_C} (hd : M.2.2.2.2[i]? = some (pc, .invokevirtual index, 3)) (hk : xm_ok M' np) (hw : Cond.methodLink M.1.cls index M'.1 ∈ xm_tb) (hw2 : Cond.instanceMethod M'.1 ∈ xm_tb) (hw3 : Cond.selects q.1 M'.1 M'.1 ∈ xm_tb) (hcl : vwCl[c]? = some q) (hC : xm_C d' M' (.ref a :: As) h mc ms Q') (hdd : d' + 1 ≤ d) (ha : a < h.2.2.2) (hla : xm_lay a = (c, 0)) (hc13 : c < 13) (hn : As.length = np) (hsum : (rest.map fun v => v.category).sum ≤ 8) (hk1 : kc' + mc = kc) (hk2 : ks' + ms = ks)
    (kk : ∀ (v : Option Value) (h' : xm_H), Q' v h' → xm_J d M (pc + 3) Ls (v.toList ++ rest) h' kc' ks' Q) : xm_J d M pc Ls (As.reverse ++ .ref a :: rest) h kc ks Q := by
  intro p l e R s m args below meth c' H locs cells slots Qm g d0 ls hX hd0 hW hS hr hl hR
  have hX' := hX
  obtain ⟨hx, hb, hml, hown, hts, -, -, -, hdp, hbs, hRo, htt⟩ := hX'
  have hde : decode M.2.1 pc = .ok (.invokevirtual index, 3) := htt (pc, .invokevirtual index, 3) (List.mem_of_getElem? hd)
  have hst : (As.reverse ++ .ref a :: rest).map (xm_v g) = (As.map (xm_v g)).reverse ++ .ref (g.1.1 + a) :: rest.map (xm_v g) := by
    rw [List.map_append, List.map_reverse, List.map_cons]
    congr 2
    show Value.ref (xm_al g a) = _
    rw [xm_al_in (by have := hW.2.2.2.1; omega)]
  rw [hst]
  have hrec := va_recv (s := s.setDrawn d0) hW.1 hW.2.1 hcl (by rw [xm_ws_at ha, xm_E_obj hla hc13])
  have hargs : (Value.ref a :: As).map (xm_v g) = .ref (g.1.1 + a) :: As.map (xm_v g) := by
    rw [List.map_cons]
    congr 1
    show Value.ref (xm_al g a) = _
    rw [xm_al_in (by have := hW.2.2.2.1; omega)]
  have hM := hC l g
  rw [hargs] at hM
  refine xm_after (Q' := Q') (rest := rest) hd0 hS (va_runV_D (s := s.setDrawn d0) (As := As.map (xm_v g)) (rest := rest.map (xm_v g)) (Ts := xm_tb) (n := np) (bytes := M'.2.1) (maxL := M'.2.2.1) (ret := M'.2.2.2.1) ⟨hx, hb, hml, hown, dr_words hts d0⟩ hM ⟨xm_CB hX hk hdd hw, dr_words hts d0 _ hw2, dr_words hts d0 _ hw3⟩ ⟨xm_blind g _, hrec, fun U hU hv => ⟨rfl, xm_pre hW hS hRo hbs hU hv⟩⟩ rfl (by rw [List.length_map]; exact hn) hl.1 rfl (lv_room (by rw [xm_sum]; exact hsum)) hde (by omega)) fun v h' H1 locs1 d1 hQ hW1 hS1 hd1 => ?_
  exact kk v h' hQ p l e R s m args below meth c' H1 locs1 (cells + mc) (slots + ms) Qm g d1 ls hX hd1 hW1 hS1 (by omega) hl hR
/-- a static method -/
theorem r_callS (hd : M.2.2.2.2[i]? = some (pc, .invokestatic index, 3)) (hk : xm_ok M' np) (hw : Cond.methodLink M.1.cls index M'.1 ∈ xm_tb) (hw2 : Cond.static M'.1 ∈ xm_tb) (hC : xm_C d' M' As h mc ms Q') (hdd : d' + 1 ≤ d) (hn : As.length = np) (hsum : (rest.map fun v => v.category).sum ≤ 8) (hk1 : kc' + mc = kc) (hk2 : ks' + ms = ks)
    (kk : ∀ (v : Option Value) (h' : xm_H), Q' v h' → xm_J d M (pc + 3) Ls (v.toList ++ rest) h' kc' ks' Q) : xm_J d M pc Ls (As.reverse ++ rest) h kc ks Q := by
  intro p l e R s m args below meth c' H locs cells slots Qm g d0 ls hX hd0 hW hS hr hl hR
  have hX' := hX
  obtain ⟨hx, hb, hml, hown, hts, -, -, -, hdp, hbs, hRo, htt⟩ := hX'
  have hde : decode M.2.1 pc = .ok (.invokestatic index, 3) := htt (pc, .invokestatic index, 3) (List.mem_of_getElem? hd)
  have hst : (As.reverse ++ rest).map (xm_v g) = (As.map (xm_v g)).reverse ++ rest.map (xm_v g) := by
    rw [List.map_append, List.map_reverse]
  rw [hst]
  refine xm_after (Q' := Q') (rest := rest) hd0 hS (va_runS_D (s := s.setDrawn d0) (As := As.map (xm_v g)) (rest := rest.map (xm_v g)) (Ts := xm_tb) (bytes := M'.2.1) (maxL := M'.2.2.1) (ret := M'.2.2.2.1) ⟨hx, hb, hml, hown, dr_words hts d0⟩ (hC l g) ⟨xm_CB hX hk hdd hw, dr_words hts d0 _ hw2⟩ ⟨xm_blind g _, fun U hU hv => ⟨rfl, xm_pre hW hS hRo hbs hU hv⟩⟩ rfl (by rw [List.length_map]; exact hn) hl.1 rfl (lv_room (by rw [xm_sum]; exact hsum)) hde (by omega)) fun v h' H1 locs1 d1 hQ hW1 hS1 hd1 => ?_
  exact kk v h' hQ p l e R s m args below meth c' H1 locs1 (cells + mc) (slots + ms) Qm g d1 ls hX hd1 hW1 hS1 (by omega) hl hR
/-- a static method of a nest mate -/
theorem r_callSN {host : String} (hd : M.2.2.2.2[i]? = some (pc, .invokestatic index, 3)) (hk : xm_ok M' np) (hw : Cond.methodLinkNest M.1.cls index M'.1 host ∈ xm_tb) (hw2 : Cond.static M'.1 ∈ xm_tb) (hC : xm_C d' M' As h mc ms Q') (hdd : d' + 1 ≤ d) (hn : As.length = np) (hsum : (rest.map fun v => v.category).sum ≤ 8) (hk1 : kc' + mc = kc) (hk2 : ks' + ms = ks)
    (kk : ∀ (v : Option Value) (h' : xm_H), Q' v h' → xm_J d M (pc + 3) Ls (v.toList ++ rest) h' kc' ks' Q) : xm_J d M pc Ls (As.reverse ++ rest) h kc ks Q := by
  intro p l e R s m args below meth c' H locs cells slots Qm g d0 ls hX hd0 hW hS hr hl hR
  have hX' := hX
  obtain ⟨hx, hb, hml, hown, hts, -, -, -, hdp, hbs, hRo, htt⟩ := hX'
  have hde : decode M.2.1 pc = .ok (.invokestatic index, 3) := htt (pc, .invokestatic index, 3) (List.mem_of_getElem? hd)
  have hst : (As.reverse ++ rest).map (xm_v g) = (As.map (xm_v g)).reverse ++ rest.map (xm_v g) := by
    rw [List.map_append, List.map_reverse]
  rw [hst]
  refine xm_after (Q' := Q') (rest := rest) hd0 hS (va_runSN_D (s := s.setDrawn d0) (host := host) (As := As.map (xm_v g)) (rest := rest.map (xm_v g)) (Ts := xm_tb) (bytes := M'.2.1) (maxL := M'.2.2.1) (ret := M'.2.2.2.1) ⟨hx, hb, hml, hown, dr_words hts d0⟩ (hC l g) ⟨xm_CNs hX hk hdd hw, dr_words hts d0 _ hw2, trivial⟩ ⟨xm_blind g _, fun U hU hv => ⟨rfl, xm_pre hW hS hRo hbs hU hv⟩⟩ rfl (by rw [List.length_map]; exact hn) hl.1 rfl (lv_room (by rw [xm_sum]; exact hsum)) hde (by omega)) fun v h' H1 locs1 d1 hQ hW1 hS1 hd1 => ?_
  exact kk v h' hQ p l e R s m args below meth c' H1 locs1 (cells + mc) (slots + ms) Qm g d1 ls hX hd1 hW1 hS1 (by omega) hl hR
/-- a constructor -/
theorem r_callI (hd : M.2.2.2.2[i]? = some (pc, .invokespecial index, 3)) (hk : xm_ok M' np) (hrt : M'.2.2.2.1 = none) (hnm : M'.1.name = "<init>") (hw : Cond.methodLink M.1.cls index M'.1 ∈ xm_tb) (hw2 : Cond.instanceMethod M'.1 ∈ xm_tb) (hC : xm_C d' M' (.ref a :: As) h mc ms Q') (hdd : d' + 1 ≤ d) (ha : a < 1000) (hn : As.length = np) (hsum : (rest.map fun v => v.category).sum ≤ 8) (hk1 : kc' + mc = kc) (hk2 : ks' + ms = ks)
    (kk : ∀ (v : Option Value) (h' : xm_H), Q' v h' → xm_J d M (pc + 3) Ls (v.toList ++ rest) h' kc' ks' Q) : xm_J d M pc Ls (As.reverse ++ .ref a :: rest) h kc ks Q := by
  intro p l e R s m args below meth c' H locs cells slots Qm g d0 ls hX hd0 hW hS hr hl hR
  have hX' := hX
  obtain ⟨hx, hb, hml, hown, hts, -, -, -, hdp, hbs, hRo, htt⟩ := hX'
  have hde : decode M.2.1 pc = .ok (.invokespecial index, 3) := htt (pc, .invokespecial index, 3) (List.mem_of_getElem? hd)
  have hst : (As.reverse ++ .ref a :: rest).map (xm_v g) = (As.map (xm_v g)).reverse ++ .ref (g.1.1 + a) :: rest.map (xm_v g) := by
    rw [List.map_append, List.map_reverse, List.map_cons]
    congr 2
    show Value.ref (xm_al g a) = _
    rw [xm_al_in ha]
  rw [hst]
  have hargs : (Value.ref a :: As).map (xm_v g) = .ref (g.1.1 + a) :: As.map (xm_v g) := by
    rw [List.map_cons]
    congr 1
    show Value.ref (xm_al g a) = _
    rw [xm_al_in ha]
  have hM := hC l g
  rw [hargs] at hM
  have hcb := xm_CB (d0 := d0) (mc := mc) (ms := ms) hX hk hdd hw
  rw [hrt] at hcb
  refine xm_after (Q' := Q') (rest := rest) hd0 hS (va_runI_D (s := s.setDrawn d0) (As := As.map (xm_v g)) (rest := rest.map (xm_v g)) (Ts := xm_tb) (bytes := M'.2.1) (maxL := M'.2.2.1) ⟨hx, hb, hml, hown, dr_words hts d0⟩ hM ⟨hcb, hnm, dr_words hts d0 _ hw2⟩ ⟨xm_blind g _, fun U hU hv => ⟨rfl, xm_pre hW hS hRo hbs hU hv⟩⟩ rfl (by rw [List.length_map]; exact hn) hl.1 rfl (lv_room (by rw [xm_sum]; exact hsum)) hde (by omega)) fun v h' H1 locs1 d1 hQ hW1 hS1 hd1 => ?_
  exact kk v h' hQ p l e R s m args below meth c' H1 locs1 (cells + mc) (slots + ms) Qm g d1 ls hX hd1 hW1 hS1 (by omega) hl hR
/-- a constructor of a nest mate -/
theorem r_callIN {host : String} (hd : M.2.2.2.2[i]? = some (pc, .invokespecial index, 3)) (hk : xm_ok M' np) (hrt : M'.2.2.2.1 = none) (hnm : M'.1.name = "<init>") (hw : Cond.methodLinkNest M.1.cls index M'.1 host ∈ xm_tb) (hw2 : Cond.instanceMethod M'.1 ∈ xm_tb) (hC : xm_C d' M' (.ref a :: As) h mc ms Q') (hdd : d' + 1 ≤ d) (ha : a < 1000) (hn : As.length = np) (hsum : (rest.map fun v => v.category).sum ≤ 8) (hk1 : kc' + mc = kc) (hk2 : ks' + ms = ks)
    (kk : ∀ (v : Option Value) (h' : xm_H), Q' v h' → xm_J d M (pc + 3) Ls (v.toList ++ rest) h' kc' ks' Q) : xm_J d M pc Ls (As.reverse ++ .ref a :: rest) h kc ks Q := by
  intro p l e R s m args below meth c' H locs cells slots Qm g d0 ls hX hd0 hW hS hr hl hR
  have hX' := hX
  obtain ⟨hx, hb, hml, hown, hts, -, -, -, hdp, hbs, hRo, htt⟩ := hX'
  have hde : decode M.2.1 pc = .ok (.invokespecial index, 3) := htt (pc, .invokespecial index, 3) (List.mem_of_getElem? hd)
  have hst : (As.reverse ++ .ref a :: rest).map (xm_v g) = (As.map (xm_v g)).reverse ++ .ref (g.1.1 + a) :: rest.map (xm_v g) := by
    rw [List.map_append, List.map_reverse, List.map_cons]
    congr 2
    show Value.ref (xm_al g a) = _
    rw [xm_al_in ha]
  rw [hst]
  have hargs : (Value.ref a :: As).map (xm_v g) = .ref (g.1.1 + a) :: As.map (xm_v g) := by
    rw [List.map_cons]
    congr 1
    show Value.ref (xm_al g a) = _
    rw [xm_al_in ha]
  have hM := hC l g
  rw [hargs] at hM
  have hcb := xm_CNs (d0 := d0) (mc := mc) (ms := ms) hX hk hdd hw
  rw [hrt] at hcb
  refine xm_after (Q' := Q') (rest := rest) hd0 hS (va_runIN_D (s := s.setDrawn d0) (host := host) (As := As.map (xm_v g)) (rest := rest.map (xm_v g)) (Ts := xm_tb) (bytes := M'.2.1) (maxL := M'.2.2.1) ⟨hx, hb, hml, hown, dr_words hts d0⟩ hM ⟨hcb, hnm, dr_words hts d0 _ hw2⟩ ⟨xm_blind g _, fun U hU hv => ⟨rfl, xm_pre hW hS hRo hbs hU hv⟩⟩ rfl (by rw [List.length_map]; exact hn) hl.1 rfl (lv_room (by rw [xm_sum]; exact hsum)) hde (by omega)) fun v h' H1 locs1 d1 hQ hW1 hS1 hd1 => ?_
  exact kk v h' hQ p l e R s m args below meth c' H1 locs1 (cells + mc) (slots + ms) Qm g d1 ls hX hd1 hW1 hS1 (by omega) hl hR
end XC
