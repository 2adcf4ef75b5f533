/-! ===== the judgement ===== -/
/-- words that hold on when the tables get warmer -/
def xm_gw : Cond → Bool
  | .methodLinkNest _ _ _ _ => true
  | .arrayOver (.object _) => true
  | w => goodWord w
/-- the tables' words of that kind -/
def xm_tb : List Cond := lw_tbl.filter xm_gw
theorem xm_tb_in {w : Cond} (h : w ∈ lw_tbl) (hg : xm_gw w = true) : w ∈ xm_tb := List.mem_filter.mpr ⟨h, hg⟩
/-- a method: its name, bytes, locals, answer's type, its instructions (place, instruction, length) -/
abbrev xm_M : Type := MethodName × ByteArray × Nat × Option FieldType × List (Nat × Instr × Nat)
/-- the room of a method at depth d that makes mc cells of ms slots -/
abbrev xm_rm (d mc ms : Nat) : Room := { frames := d, cells := mc, slots := ms, locals := 64 * d }
/-- the words of every method: its own code, then the tables' -/
abbrev xm_wd (M : xm_M) : List Cond := Cond.code M.1 M.2.1 M.2.2.1 M.2.2.2.1 :: xm_tb
/-- what stands all through a method's body -/
def xm_Cx (d : Nat) (M : xm_M) (p : Program) (R : Room) (s : State) (m : MethodId) (args : Array Value) (meth : Method) (c : Code) (g : xm_G) : Prop :=
  p.tables.exec = Jvm.exec ∧ c.code = M.2.1 ∧ c.maxLocals = M.2.2.1 ∧ s.vm.findClass M.1.cls = some m.cls ∧ (∀ w ∈ xm_tb, w.before args s = true) ∧ meth.sig.returnType = M.2.2.2.1 ∧ meth.locks = false ∧ meth.name = M.1.name ∧ (d ≤ R.frames ∧ 64 * d ≤ R.locals) ∧ g.1.1 ≤ s.heap.size ∧ xm_Ro g s s.heap ∧ ∀ q ∈ M.2.2.2.2, decode M.2.1 q.1 = .ok (q.2.1, q.2.2)
/-- a return instruction that hands v over -/
def xm_rk (M : xm_M) (v : Option Value) (pc : Nat) : Prop :=
  (v = none ∧ M.2.2.2.1 = none ∧ decode M.2.1 pc = .ok (.return_, 1)) ∨
  (∃ (x : Int32) (ty : FieldType), v = some (.int x) ∧ M.2.2.2.1 = some ty ∧ narrow ty (.int x) = .int x ∧ decode M.2.1 pc = .ok (.ireturn, 1)) ∨
  (∃ x : Int64, v = some (.long x) ∧ M.2.2.2.1 = some .long ∧ decode M.2.1 pc = .ok (.lreturn, 1)) ∨
  (∃ x : UInt32, v = some (.float x) ∧ M.2.2.2.1 = some .float ∧ decode M.2.1 pc = .ok (.freturn, 1)) ∨
  (∃ (x : Option Nat) (n : String), v = some (va_rf x) ∧ M.2.2.2.1 = some (.object n) ∧ decode M.2.1 pc = .ok (.areturn, 1))
/-- the end of the body: whatever Q allows may be handed over -/
def xm_Rt (M : xm_M) (p : Program) (l : Launch) (e : Env) (R : Room) (s : State) (m : MethodId) (args : Array Value) (below : List Frame) (meth : Method) (c : Code) (Qm : State → Prop) (g : xm_G) (Q : Option Value → xm_H → Prop) : Prop :=
  ∀ (v : Option Value) (h : xm_H) (H : Heap) (locs : List Loc) (cells slots : Nat) (d0 : Drawn) (pc : Nat) (ls : Array Slot), Q v h → xm_W g h s H → va_S (fun q => g.1.1 ≤ q) s.heap H locs → cells ≤ R.cells → slots ≤ R.slots → s.drawn.sameBut d0 lw_cs → xm_rk M v pc →
    W p l e R (s.setDrawn d0) m args below meth c H locs cells slots Qm (F0 m pc ls (v.toList.map (xm_v g)))
/-- from here (place, locals, stack, memory; room for kc cells of ks slots) the body comes to its end with Q -/
def xm_J (d : Nat) (M : xm_M) (pc : Nat) (Ls : List (Nat × Value)) (S : List Value) (h : xm_H) (kc ks : Nat) (Q : Option Value → xm_H → Prop) : Prop :=
  ∀ (p : Program) (l : Launch) (e : Env) (R : Room) (s : State) (m : MethodId) (args : Array Value) (below : List Frame) (meth : Method) (c : Code) (H : Heap) (locs : List Loc) (cells slots : Nat) (Qm : State → Prop) (g : xm_G) (d0 : Drawn) (ls : Array Slot),
    xm_Cx d M p R s m args meth c g → s.drawn.sameBut d0 lw_cs → xm_W g h s H → va_S (fun q => g.1.1 ≤ q) s.heap H locs → (cells + kc ≤ R.cells ∧ slots + ks ≤ R.slots) → lv_has ls M.2.2.1 (Ls.map (fun q => (q.1, xm_v g q.2))) → xm_Rt M p l e R s m args below meth c Qm g Q →
    W p l e R (s.setDrawn d0) m args below meth c H locs cells slots Qm (F0 m pc ls (S.map (xm_v g)))
/-- the contract: called with args over memory h, the method ends with Q, making at most mc cells of ms slots -/
def xm_C (d : Nat) (M : xm_M) (args : List Value) (h : xm_H) (mc ms : Nat) (Q : Option Value → xm_H → Prop) : Prop :=
  ∀ (l : Launch) (g : xm_G), MetD lw_cs l M.1 (xm_wd M) (xm_rm d mc ms) (va_Pc (args.map (xm_v g)) (fun U => xm_W g h U U.heap ∧ xm_Ro g U U.heap))
    (fun _ st oc t => (∃ (v : Option Value) (h' : xm_H), oc = .returned (v.map (xm_v g)) ∧ Q v h' ∧ xm_W g h' t t.heap) ∧ va_F (fun q => g.1.1 ≤ q) st t) mc ms (fun q => g.1.1 ≤ q)
theorem xm_v_rf (g : xm_G) (x : Option Nat) : xm_v g (va_rf x) = va_rf (x.map (xm_al g)) := by cases x <;> rfl
theorem xm_v_null (g : xm_G) {v : Value} (h : v = .null ∨ ∃ a, v = .ref a) : xm_v g v = .null ∨ ∃ a, xm_v g v = .ref a := by
  rcases h with rfl | ⟨a, rfl⟩
  · exact Or.inl rfl
  · exact Or.inr ⟨_, rfl⟩
theorem xm_W.moved {g : xm_G} {h : xm_H} {u U : State} {H : Heap} (hw : xm_W g h u H) (hvm : u.vm.Alike U.vm) : xm_W g h U H := ⟨va_K.moved hvm hw.1, hw.2⟩
theorem xm_rt_of {d mc ms : Nat} {M : xm_M} {p : Program} {l : Launch} {e : Env} {R : Room} {s : State} {m : MethodId} {args : Array Value} {below : List Frame} {meth : Method} {c : Code} {g : xm_G} {Q : Option Value → xm_H → Prop}
    (hC : xm_Cx d M p R s m args meth c g) (h1 : R.cells = mc) (h2 : R.slots = ms) :
    xm_Rt M p l e R s m args below meth c (MQD lw_cs below (fun _ st oc t => (∃ (v : Option Value) (h' : xm_H), oc = .returned (v.map (xm_v g)) ∧ Q v h' ∧ xm_W g h' t t.heap) ∧ va_F (fun q => g.1.1 ≤ q) st t) args s mc ms (fun q => g.1.1 ≤ q)) g Q := by
  obtain ⟨hx, hb, hml, hown, hts, hr, hlocks, -⟩ := hC
  intro v h H locs cells slots d0 pc ls hQ hW hS hc hs hd hk
  refine W.endD hd ?_
  refine W.widen (k := mc) (n := ms) (by omega) (by omega) ?_
  have fin : ∀ (t : State), t.heap = H → (s.setDrawn d0).WarmedH t.vm → (∃ (v' : Option Value) (h' : xm_H), Outcome.returned (v.map (xm_v g)) = .returned (v'.map (xm_v g)) ∧ Q v' h' ∧ xm_W g h' t t.heap) ∧ va_F (fun q => g.1.1 ≤ q) (s.setDrawn d0) t := by
    intro t ht hWt
    refine ⟨⟨v, h, rfl, hQ, ?_⟩, hS.F ht⟩
    rw [ht]
    exact hW.moved hWt.alike
  rcases hk with ⟨rfl, hret, hd⟩ | ⟨x, ty, rfl, hret, hn, hd⟩ | ⟨x, rfl, hret, hd⟩ | ⟨x, rfl, hret, hd⟩ | ⟨x, n, rfl, hret, hd⟩
  · exact W.vret hx hb (hr.trans hret) (fun t ht hWt => fin t ht hWt) hS.2.2 hd
  · exact W.zret hx hb (hr.trans hret) hn (fun t ht hWt => fin t ht hWt) hS.2.2 hd
  · exact W.lret hx hb (hr.trans hret) (fun t ht hWt => fin t ht hWt) hS.2.2 hd
  · exact W.fret hx hb (hr.trans hret) (fun t ht hWt => fin t ht hWt) hS.2.2 hd
  · exact W.aret (v := xm_v g (va_rf x)) hx hb (hr.trans hret) (Or.inl ⟨n, rfl⟩) (xm_v_null g (by cases x with | none => exact Or.inl rfl | some a => exact Or.inr ⟨a, rfl⟩)) (fun t ht hWt => fin t ht hWt) hS.2.2 hd
theorem xm_args_map (g : xm_G) : ∀ (i : Nat) (vs : List Value), lv_args i (vs.map (xm_v g)) = (lv_args i vs).map (fun q => (q.1, xm_v g q.2))
  | _, [] => rfl
  | i, v :: vs => by
    simp only [List.map_cons, lv_args, xm_v_cat]
    rw [xm_args_map]
theorem xm_sl_len (g : xm_G) : ∀ vs : List Value, (lg_sl (vs.map (xm_v g))).length = (lg_sl vs).length
  | [] => rfl
  | v :: vs => by
    have := xm_sl_len g vs
    cases v <;> simp_all [lg_sl, xm_v, Value.category]
/-- a body that is walked is a contract that is met, of the JDK's methods too -/
theorem xm_ofW {l : Launch} {y : MethodName} {ws ws' : List Cond} {rm : Room} {Pc : Array Value → State → Prop} {Qc : Array Value → State → Outcome → State → Prop} {mc ms : Nat} {free : Addr → Prop} {cc : ByteArray} {maxL : Nat} {ret : Option FieldType}
    (hy : plainFor y = true) (hw : ws = Cond.code y cc maxL ret :: ws')
    (body : ∀ p e s m args below meth c s₁, BodyLoose p l y (headSpec ws rm) cc maxL ret e s m args below meth c s₁ → c.maxLocals = maxL → Pc args s →
      W p l e (headSpec ws rm).room (s.setDrawn s.drawn) m args below meth c s.heap [] 0 0 (MQD lw_cs below Qc args s mc ms free) (entryFrame m args maxL)) : MetD lw_cs l y ws rm Pc Qc mc ms free := by
  refine MetFree.of_bodySF (code := cc) (maxLocals := maxL) (ret := ret) hy ?_ ?_
  · intro args s m h hn
    obtain ⟨meth, c, h1, h2, h3, h4, h5, h6, -, -⟩ := Cond.code_spec hn (atoms_spec (ws := ws) h _ (by rw [hw]; exact List.mem_cons_self))
    exact ⟨meth, c, h1, h2, h3, h4, h5, h6⟩
  · intro p e s m args below meth c s₁ B hml hP _
    have hh0 : s₁.heap = s.heap := by rw [B.state]; rfl
    have X0 : Stand p l e (headSpec ws rm).room (s.setDrawn s.drawn) m args below meth c s₁ [] 0 0 := Stand.of_body B
    obtain ⟨t, a1, d, hd, o, b1, b2, b3, b4⟩ := body p e s m args below meth c s₁ B hml hP s₁ hh0 X0
    exact ⟨t, o, a1, b1, b2, d, hd, b3, b4⟩
/-- from the body to the contract -/
theorem xm_enter {d : Nat} {M : xm_M} {args : List Value} {h : xm_H} {mc ms : Nat} {Q : Option Value → xm_H → Prop} (hp : plainFor M.1 = true) (ht : ∀ q ∈ M.2.2.2.2, decode M.2.1 q.1 = .ok (q.2.1, q.2.2)) (hn : (lg_sl args).length ≤ M.2.2.1)
    (hJ : xm_J d M 0 (lv_args 0 args) [] h mc ms Q) : xm_C d M args h mc ms Q := by
  intro l g
  refine xm_ofW (cc := M.2.1) (maxL := M.2.2.1) (ret := M.2.2.2.1) hp rfl ?_
  intro p e s m av below meth c s₁ B hml hv
  have hd0 := Drawn.sameBut.refl s.drawn lw_cs
  obtain ⟨rfl, hW, hRo⟩ := hv
  have hts := atoms_spec (ws := xm_wd M) B.pre
  have hl := lv_entry (args.map (xm_v g)) (n := M.2.2.1) (by rw [xm_sl_len]; exact hn)
  rw [lg_entry_eq]
  rw [xm_args_map] at hl
  have hC : xm_Cx d M p (headSpec (xm_wd M) (xm_rm d mc ms)).room s m (args.map (xm_v g)).toArray meth c g :=
    ⟨B.exec, B.bytes, hml, findClass_of_methodNamed B.named, fun w h => hts w (List.mem_cons_of_mem _ h), B.returns, B.notSynchronized, (name_of_methodNamed B.named B.method).1, ⟨Nat.le_refl _, Nat.le_refl _⟩, by rw [hW.2.2.1]; exact Nat.le_add_right _ _, hRo, ht⟩
  exact hJ p l e _ s m _ below meth c s.heap [] 0 0 _ g s.drawn _ hC hd0 hW va_S.rf ⟨by rw [Nat.zero_add]; exact Nat.le_refl _, by rw [Nat.zero_add]; exact Nat.le_refl _⟩ hl (xm_rt_of hC rfl rfl)
section XJ
variable {d : Nat} {M : xm_M} {pc : Nat} {Ls : List (Nat × Value)} {S : List Value} {h : xm_H} {kc ks : Nat} {Q : Option Value → xm_H → Prop}
/-- an instruction that touches the stack alone -/
theorem xm_st {pc' : Nat} {S' : List Value} {i : Nat} {q : Nat × Instr × Nat} (hd : M.2.2.2.2[i]? = some q)
    (hs : ∀ (p : Program) (l : Launch) (e : Env) (R : Room) (s : State) (m : MethodId) (args : Array Value) (below : List Frame) (meth : Method) (c : Code) (H : Heap) (locs : List Loc) (cells slots : Nat) (Qm : State → Prop) (g : xm_G) (ls : Array Slot),
      p.tables.exec = Jvm.exec → c.code = M.2.1 → decode M.2.1 q.1 = .ok (q.2.1, q.2.2) → lv_has ls M.2.2.1 (Ls.map (fun q => (q.1, xm_v g q.2))) → s.vm.findClass M.1.cls = some m.cls → (∀ w ∈ xm_tb, w.before args s = true) →
      W p l e R s m args below meth c H locs cells slots Qm (F0 m pc' ls (S'.map (xm_v g))) → W p l e R s m args below meth c H locs cells slots Qm (F0 m pc ls (S.map (xm_v g))))
    (k : xm_J d M pc' Ls S' h kc ks Q) : xm_J d M pc Ls S h kc ks Q := by
  intro p l e R s m args below meth c H locs cells slots Qm g d0 ls hC hd0 hW hS hr hl hR
  have hC' := hC
  obtain ⟨hx, hb, hml, hown, hts, -, -, -, -, -, -, ht⟩ := hC'
  exact hs p l e R _ m args below meth c H locs cells slots Qm g ls hx hb (ht _ (List.mem_of_getElem? hd)) hl hown (dr_words hts d0) (k p l e R s m args below meth c H locs cells slots Qm g d0 ls hC hd0 hW hS hr hl hR)
/-- two ways on -/
theorem xm_st2 {pc1 pc2 : Nat} {S1 S2 : List Value} {i : Nat} {q : Nat × Instr × Nat} {P : Prop} (hd : M.2.2.2.2[i]? = some q)
    (hs : ∀ (p : Program) (l : Launch) (e : Env) (R : Room) (s : State) (m : MethodId) (args : Array Value) (below : List Frame) (meth : Method) (c : Code) (H : Heap) (locs : List Loc) (cells slots : Nat) (Qm : State → Prop) (g : xm_G) (ls : Array Slot),
      p.tables.exec = Jvm.exec → c.code = M.2.1 → decode M.2.1 q.1 = .ok (q.2.1, q.2.2) →
      (P → W p l e R s m args below meth c H locs cells slots Qm (F0 m pc1 ls (S1.map (xm_v g)))) → (¬ P → W p l e R s m args below meth c H locs cells slots Qm (F0 m pc2 ls (S2.map (xm_v g)))) → W p l e R s m args below meth c H locs cells slots Qm (F0 m pc ls (S.map (xm_v g))))
    (k1 : P → xm_J d M pc1 Ls S1 h kc ks Q) (k2 : ¬ P → xm_J d M pc2 Ls S2 h kc ks Q) : xm_J d M pc Ls S h kc ks Q := by
  intro p l e R s m args below meth c H locs cells slots Qm g d0 ls hC hd0 hW hS hr hl hR
  have hC' := hC
  obtain ⟨hx, hb, hml, hown, hts, -, -, -, -, -, -, ht⟩ := hC'
  exact hs p l e R _ m args below meth c H locs cells slots Qm g ls hx hb (ht _ (List.mem_of_getElem? hd)) (fun hp => k1 hp p l e R s m args below meth c H locs cells slots Qm g d0 ls hC hd0 hW hS hr hl hR) (fun hp => k2 hp p l e R s m args below meth c H locs cells slots Qm g d0 ls hC hd0 hW hS hr hl hR)
theorem xm_lat {g : xm_G} {ls : Array Slot} {nL : Nat} (hl : lv_has ls nL (Ls.map (fun q => (q.1, xm_v g q.2)))) {k j : Nat} {v : Value} (hk : Ls[k]? = some (j, v)) : ls[j]? = some (.val (xm_v g v)) :=
  lv_at hl k (by rw [List.getElem?_map, hk]; rfl)
/-- fewer locals -/
theorem xm_sub {Ls' : List (Nat × Value)} (is : List Nat) (hs : lv_pick Ls is = Ls') (k : xm_J d M pc Ls' S h kc ks Q) : xm_J d M pc Ls S h kc ks Q := by
  intro p l e R s m args below meth c H locs cells slots Qm g d0 ls hC hd0 hW hS hr hl hR
  refine k p l e R s m args below meth c H locs cells slots Qm g d0 ls hC hd0 hW hS hr (lv_sub hl is ?_) hR
  subst hs
  simp only [lv_pick, List.map_filterMap, List.getElem?_map]
/-- more room than is wanted -/
theorem xm_less {kc' ks' : Nat} (h1 : kc' ≤ kc) (h2 : ks' ≤ ks) (k : xm_J d M pc Ls S h kc' ks' Q) : xm_J d M pc Ls S h kc ks Q := by
  intro p l e R s m args below meth c H locs cells slots Qm g d0 ls hC hd0 hW hS hr hl hR
  exact k p l e R s m args below meth c H locs cells slots Qm g d0 ls hC hd0 hW hS ⟨by omega, by omega⟩ hl hR
def xm_s1 (Ls : List (Nat × Value)) (i : Nat) (v : Value) : List (Nat × Value) := (i, v) :: Ls.filter (fun q => !(q.1 == i) && !(q.1 + 1 == i && q.2.category == 2))
def xm_s2 (Ls : List (Nat × Value)) (i : Nat) (v : Value) : List (Nat × Value) := (i, v) :: Ls.filter (fun q => !(q.1 == i) && (!(q.1 == i + 1) && !(q.1 + 1 == i && q.2.category == 2)))
theorem xm_s1_map (g : xm_G) (Ls : List (Nat × Value)) (i : Nat) (v : Value) : (i, xm_v g v) :: (Ls.map (fun q => (q.1, xm_v g q.2))).filter (fun q => !(q.1 == i) && !(q.1 + 1 == i && q.2.category == 2)) = (xm_s1 Ls i v).map (fun q => (q.1, xm_v g q.2)) := by
  simp only [xm_s1, List.map_cons, List.filter_map]
  congr 2
  apply List.filter_congr
  intro q _
  simp [xm_v_cat]
theorem xm_s2_map (g : xm_G) (Ls : List (Nat × Value)) (i : Nat) (v : Value) : (i, xm_v g v) :: (Ls.map (fun q => (q.1, xm_v g q.2))).filter (fun q => !(q.1 == i) && (!(q.1 == i + 1) && !(q.1 + 1 == i && q.2.category == 2))) = (xm_s2 Ls i v).map (fun q => (q.1, xm_v g q.2)) := by
  simp only [xm_s2, List.map_cons, List.filter_map]
  congr 2
  apply List.filter_congr
  intro q _
  simp [xm_v_cat]
/-- an instruction that writes a local -/
theorem xm_stL {pc' : Nat} {S' : List Value} {Ls' : List (Nat × Value)} {i : Nat} {q : Nat × Instr × Nat} (hd : M.2.2.2.2[i]? = some q)
    (hs : ∀ (p : Program) (l : Launch) (e : Env) (R : Room) (s : State) (m : MethodId) (args : Array Value) (below : List Frame) (meth : Method) (c : Code) (H : Heap) (locs : List Loc) (cells slots : Nat) (Qm : State → Prop) (g : xm_G) (ls : Array Slot),
      p.tables.exec = Jvm.exec → c.code = M.2.1 → decode M.2.1 q.1 = .ok (q.2.1, q.2.2) → lv_has ls M.2.2.1 (Ls.map (fun q => (q.1, xm_v g q.2))) →
      (∀ ls' : Array Slot, lv_has ls' M.2.2.1 (Ls'.map (fun q => (q.1, xm_v g q.2))) → W p l e R s m args below meth c H locs cells slots Qm (F0 m pc' ls' (S'.map (xm_v g)))) → W p l e R s m args below meth c H locs cells slots Qm (F0 m pc ls (S.map (xm_v g))))
    (k : xm_J d M pc' Ls' S' h kc ks Q) : xm_J d M pc Ls S h kc ks Q := by
  intro p l e R s m args below meth c H locs cells slots Qm g d0 ls hC hd0 hW hS hr hl hR
  have hC' := hC
  obtain ⟨hx, hb, hml, hown, hts, -, -, -, -, -, -, ht⟩ := hC'
  exact hs p l e R _ m args below meth c H locs cells slots Qm g ls hx hb (ht _ (List.mem_of_getElem? hd)) hl (fun ls' hl' => k p l e R s m args below meth c H locs cells slots Qm g d0 ls' hC hd0 hW hS hr hl' hR)
end XJ
