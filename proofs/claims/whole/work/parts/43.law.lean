/-! ===== the law's loop ===== -/
/-- the locals at the loop's head -/
abbrev xl_L (i : Int32) : List (Nat × Value) := [(3, .int i), (2, .ref 49), (1, .ref 0), (0, .ref 1000000)]
/-- the five ints of a turn are in the script -/
def xl_in (I : xm_I) (i : Int32) : Prop := ∀ j : Int32, 0 ≤ j.toInt → j.toInt ≤ 4 → 0 ≤ (i + j).toInt ∧ (i + j).toInt < (I 1000001 0).toInt
/-- the script stays -/
def xl_sc (I I' : xm_I) : Prop := I' 1000000 = I 1000000 ∧ I' 1000001 = I 1000001
theorem xl_in.kept {I I' : xm_I} {i : Int32} (h : xl_in I i) (hs : xl_sc I I') : xl_in I' i := by
  intro j h1 h2
  rw [hs.2]
  exact h j h1 h2
/-- an int of the script, from a turn's own place on -/
abbrev xl_a (I : xm_I) (i j : Int32) : Int32 := I 1000000 (i + j).toNatClampNeg
def xl_b (x : Int32) : Int32 := if x = 0 then 0 else 1
section XW
variable {d : Nat} {M : xm_M} {pc : Nat} {Ls : List (Nat × Value)} {S : List Value} {h : xm_H} {kc ks : Nat} {Q : Option Value → xm_H → Prop} {i index a c : Nat}
theorem r_bz {x : Int32} {i1 i2 i3 : Nat} {o1 o2 : Int} (h1 : M.2.2.2.2[i]? = some (pc, .ifCond .eq o1, 3)) (t1 : (pc : Int) + o1 = ((pc + 7 : Nat) : Int)) (h2 : M.2.2.2.2[i1]? = some (pc + 3, .iconst 1, 1)) (h3 : M.2.2.2.2[i2]? = some (pc + 4, .goto o2, 3)) (t2 : ((pc + 4 : Nat) : Int) + o2 = ((pc + 8 : Nat) : Int)) (h4 : M.2.2.2.2[i3]? = some (pc + 7, .iconst 0, 1)) (kk : xm_J d M (pc + 8) Ls (.int (xl_b x) :: S) h kc ks Q) : xm_J d M pc Ls (.int x :: S) h kc ks Q := by
  refine r_ifeq (i := i) (tgt := pc + 7) h1 t1 (fun hc => ?_) (fun hc => ?_)
  · refine r_iconst (v := 0) (i := i3) h4 (by decide) ?_
    rw [xl_b, if_pos hc] at kk
    exact kk
  · refine r_iconst (v := 1) (i := i1) h2 (by decide) ?_
    refine r_goto (i := i2) (tgt := pc + 8) h3 t2 ?_
    rw [xl_b, if_neg hc] at kk
    exact kk
theorem c_V2F {M' : xm_M} {np d' : Nat} {rest : List Value} {α : Type} {g : α → xm_H} {K : α → Prop} {v1 v2 : Value} {f : α → UInt32} (hd : M.2.2.2.2[i]? = some (pc, .invokevirtual index, 3)) (hk : xm_Vm M' np c) (hw : Cond.methodLink M.1.cls index M'.1 ∈ xm_tb) (hC : xm_C d' M' [.ref a, v1, v2] h 0 0 (pF f g K)) (hdd : d' + 1 ≤ d) (ha : a < h.2.2.2) (hla : xm_lay a = (c, 0)) (hn : 2 = np) (hsum : (rest.map fun v => v.category).sum ≤ 8) (kk : ∀ (p : α) (r : UInt32), alike32 r (f p) = true → K p → xm_J d M (pc + 3) Ls (.float r :: rest) (g p) kc ks Q) : xm_J d M pc Ls (v2 :: v1 :: .ref a :: rest) h kc ks Q := by
  obtain ⟨hk1, hk2, q, hk3, hk4, hk5⟩ := hk
  exact r_callV (As := [v1, v2]) (rest := rest) hd hk1 hw hk4 hk5 hk3 hC hdd ha hla hk2 hn hsum rfl rfl (fun v h2 hq => by obtain ⟨p, r, rfl, hr, rfl, hp⟩ := hq; exact kk p r hr hp)
end XW
/-! floats that are alike -/
theorem xl_nan64 {p : UInt64} (h : isNaN64 p = true) : FP.Core.decode FP.Core.b64 p.toNat = .nan := by
  have h1 := isNaN64_iff.mp h
  have e : (0x7fffffffffffffff : Nat) = 2 ^ 63 - 1 := by decide
  rw [e, Nat.and_two_pow_sub_one_eq_mod] at h1
  have hE : FP.Core.fieldE FP.Core.b64 p.toNat = FP.Core.b64.exps - 1 := by
    show p.toNat / 2 ^ 52 % 2 ^ 11 = 2 ^ 11 - 1
    omega
  have hT : FP.Core.fieldT FP.Core.b64 p.toNat ≠ 0 := by
    show p.toNat % 2 ^ 52 ≠ 0
    omega
  unfold FP.Core.decode
  rw [if_pos hE, if_neg hT]
theorem xl_nan32 {p : UInt32} (h : isNaN32 p = true) : FP.Core.decode FP.Core.b32 p.toNat = .nan := by
  have h1 := isNaN32_iff.mp h
  have e : (0x7fffffff : Nat) = 2 ^ 31 - 1 := by decide
  rw [e, Nat.and_two_pow_sub_one_eq_mod] at h1
  have hE : FP.Core.fieldE FP.Core.b32 p.toNat = FP.Core.b32.exps - 1 := by
    show p.toNat / 2 ^ 23 % 2 ^ 8 = 2 ^ 8 - 1
    omega
  have hT : FP.Core.fieldT FP.Core.b32 p.toNat ≠ 0 := by
    show p.toNat % 2 ^ 23 ≠ 0
    omega
  unfold FP.Core.decode
  rw [if_pos hE, if_neg hT]
theorem xl_f2n {x : UInt32} (h : isNaN32 x = true) : isNaN64 (FP.f2d x) = true := by
  have e : FP.Core.fIsNaN x = true := by
    show decide (FP.Core.decode FP.Core.b32 x.toNat = .nan) = true
    rw [xl_nan32 h]
    rfl
  unfold FP.f2d
  rw [if_pos e]
  exact isNaN64_or_left (isNaN64_or_right (by decide))
theorem xl_f2d {x y v : UInt32} (hx : alike32 x v = true) (hy : alike32 y v = true) : alike64 (FP.f2d x) (FP.f2d y) = true := by
  by_cases he : x = y
  · rw [he]
    exact alike64_refl _
  · have hn : isNaN32 x = true ∧ isNaN32 y = true := by
      simp only [alike32, Bool.or_eq_true, decide_eq_true_eq, Bool.and_eq_true] at hx hy
      rcases hx with rfl | ⟨hx, hv⟩ <;> rcases hy with rfl | ⟨hy, hv'⟩
      · exact absurd rfl he
      · exact ⟨hv', hy⟩
      · exact ⟨hx, hv⟩
      · exact ⟨hx, hy⟩
    simp only [alike64, Bool.or_eq_true, Bool.and_eq_true]
    exact Or.inr ⟨xl_f2n hn.1, xl_f2n hn.2⟩
theorem xl_dcmp {p q : UInt64} (h : isNaN64 p = true) : FP.dcmp p q = none := by
  show FP.Core.order (FP.Core.decode FP.Core.b64 p.toNat) (FP.Core.decode FP.Core.b64 q.toNat) = none
  rw [xl_nan64 h]
  rfl
/-- both numbers are equal, or neither is one -/
theorem xl_alike {p q : UInt64} (h : alike64 p q = true) : p = q ∨ ∀ z w, FP.dcmp p z = none ∧ FP.dcmp q w = none := by
  simp only [alike64, Bool.or_eq_true, decide_eq_true_eq, Bool.and_eq_true] at h
  rcases h with h | ⟨h1, h2⟩
  · exact Or.inl h
  · exact Or.inr fun z w => ⟨xl_dcmp h1, xl_dcmp h2⟩
theorem xl_al3 {p q a b : UInt64} (hp : alike64 p a = true) (hq : alike64 q b = true) (hab : alike64 a b = true) : alike64 p q = true := by
  simp only [alike64, Bool.or_eq_true, decide_eq_true_eq, Bool.and_eq_true] at hp hq hab ⊢
  rcases hp with rfl | ⟨h1, h2⟩ <;> rcases hq with rfl | ⟨h3, h4⟩ <;> rcases hab with rfl | ⟨h5, h6⟩ <;> simp_all

def sp_0 (I : xm_I) (L : xm_L) (n : Nat) (i : Int32) (G : xm_I → xm_L → Nat → Prop) : Prop := ok (f_D_point (xl_a I i 1) (xl_a I i 2) I) (fun p => xl_sc I p.2 ∧ ok (f_M_point (xl_a I i 1) (xl_a I i 2) p.2) (fun q => p.1 = q.1 ∧ G q.2 L n))
set_option maxHeartbeats 4000000 in
set_option maxRecDepth 100000 in
theorem law_0 {d kc ks n : Nat} {I : xm_I} {L : xm_L} {i : Int32} {Q : Option Value → xm_H → Prop} {G : xm_I → xm_L → Nat → Prop} (hd : 14 ≤ d) (hn : 86 ≤ n) (hin : xl_in I i) (H : sp_0 I L n i G) (kk : ∀ I' L' n', G I' L' n' → xm_J d mt_W_law 1371 (xl_L i) [] (I', L', RC n', n') kc ks Q) : xm_J d mt_W_law 196 (xl_L i) [] (I, L, RC n, n) kc ks Q := by
  unfold sp_0 at H
  refine r_aload_n (i := 22) (k0 := 2) rfl rfl rfl ?_
  refine r_aload_n (i := 23) (k0 := 3) rfl rfl rfl ?_
  refine r_iload_n (i := 24) (k0 := 0) rfl rfl rfl ?_
  refine r_iconst (v := 1) (i := 25) rfl ki_1 ?_
  refine r_iadd (i := 26) rfl ?_
  refine r_ialoadS (i := 27) rfl (hin 1 (by decide) (by decide)) ?_
  refine r_aload_n (i := 28) (k0 := 3) rfl rfl rfl ?_
  refine r_iload_n (i := 29) (k0 := 0) rfl rfl rfl ?_
  refine r_iconst (v := 2) (i := 30) rfl ki_2 ?_
  refine r_iadd (i := 31) rfl ?_
  refine r_ialoadS (i := 32) rfl (hin 2 (by decide) (by decide)) ?_
  refine c_V2I (i := 33) rfl vm_D_point lk_W_13 (t_D_point hn H) (by omega) (xm_in rfl hn) rfl rfl (Nat.le_of_ble_eq_true rfl) (fun p hp => ?_)
  obtain ⟨hsc, hM⟩ := hp
  have hin := hin.kept hsc
  refine r_aload_n (i := 34) (k0 := 1) rfl rfl rfl ?_
  refine r_aload_n (i := 35) (k0 := 3) rfl rfl rfl ?_
  refine r_iload_n (i := 36) (k0 := 0) rfl rfl rfl ?_
  refine r_iconst (v := 1) (i := 37) rfl ki_1 ?_
  refine r_iadd (i := 38) rfl ?_
  refine r_ialoadS (i := 39) rfl (hin 1 (by decide) (by decide)) ?_
  refine r_aload_n (i := 40) (k0 := 3) rfl rfl rfl ?_
  refine r_iload_n (i := 41) (k0 := 0) rfl rfl rfl ?_
  refine r_iconst (v := 2) (i := 42) rfl ki_2 ?_
  refine r_iadd (i := 43) rfl ?_
  refine r_ialoadS (i := 44) rfl (hin 2 (by decide) (by decide)) ?_
  simp only [hsc.1]
  refine c_V2I (i := 45) rfl vm_M_point lk_W_17 (t_M_point hn hM) (by omega) (xm_in rfl hn) rfl rfl (Nat.le_of_ble_eq_true rfl) (fun q hq => ?_)
  obtain ⟨he, hG⟩ := hq
  refine r_icmpeq (i := 46) (tgt := 1371) rfl (by decide) (fun _ => kk _ _ _ hG) (fun hc => absurd he hc)
def sp_1 (I : xm_I) (L : xm_L) (n : Nat) (i : Int32) (G : xm_I → xm_L → Nat → Prop) : Prop := ok (f_D_move (xl_a I i 1) (xl_a I i 2) (xl_a I i 3) I) (fun p => xl_sc I p.2 ∧ ok (f_M_move (xl_a I i 1) (xl_a I i 2) (xl_a I i 3) p.2) (fun q => p.1 = q.1 ∧ G q.2 L n))
set_option maxHeartbeats 4000000 in
set_option maxRecDepth 100000 in
theorem law_1 {d kc ks n : Nat} {I : xm_I} {L : xm_L} {i : Int32} {Q : Option Value → xm_H → Prop} {G : xm_I → xm_L → Nat → Prop} (hd : 14 ≤ d) (hn : 86 ≤ n) (hin : xl_in I i) (H : sp_1 I L n i G) (kk : ∀ I' L' n', G I' L' n' → xm_J d mt_W_law 1371 (xl_L i) [] (I', L', RC n', n') kc ks Q) : xm_J d mt_W_law 229 (xl_L i) [] (I, L, RC n, n) kc ks Q := by
  unfold sp_1 at H
  refine r_aload_n (i := 49) (k0 := 2) rfl rfl rfl ?_
  refine r_aload_n (i := 50) (k0 := 3) rfl rfl rfl ?_
  refine r_iload_n (i := 51) (k0 := 0) rfl rfl rfl ?_
  refine r_iconst (v := 1) (i := 52) rfl ki_1 ?_
  refine r_iadd (i := 53) rfl ?_
  refine r_ialoadS (i := 54) rfl (hin 1 (by decide) (by decide)) ?_
  refine r_aload_n (i := 55) (k0 := 3) rfl rfl rfl ?_
  refine r_iload_n (i := 56) (k0 := 0) rfl rfl rfl ?_
  refine r_iconst (v := 2) (i := 57) rfl ki_2 ?_
  refine r_iadd (i := 58) rfl ?_
  refine r_ialoadS (i := 59) rfl (hin 2 (by decide) (by decide)) ?_
  refine r_aload_n (i := 60) (k0 := 3) rfl rfl rfl ?_
  refine r_iload_n (i := 61) (k0 := 0) rfl rfl rfl ?_
  refine r_iconst (v := 3) (i := 62) rfl ki_3 ?_
  refine r_iadd (i := 63) rfl ?_
  refine r_ialoadS (i := 64) rfl (hin 3 (by decide) (by decide)) ?_
  refine c_V3I (i := 65) rfl vm_D_move lk_W_18 (t_D_move hn H) (by omega) (xm_in rfl hn) rfl rfl (Nat.le_of_ble_eq_true rfl) (fun p hp => ?_)
  obtain ⟨hsc, hM⟩ := hp
  have hin := hin.kept hsc
  refine r_aload_n (i := 66) (k0 := 1) rfl rfl rfl ?_
  refine r_aload_n (i := 67) (k0 := 3) rfl rfl rfl ?_
  refine r_iload_n (i := 68) (k0 := 0) rfl rfl rfl ?_
  refine r_iconst (v := 1) (i := 69) rfl ki_1 ?_
  refine r_iadd (i := 70) rfl ?_
  refine r_ialoadS (i := 71) rfl (hin 1 (by decide) (by decide)) ?_
  refine r_aload_n (i := 72) (k0 := 3) rfl rfl rfl ?_
  refine r_iload_n (i := 73) (k0 := 0) rfl rfl rfl ?_
  refine r_iconst (v := 2) (i := 74) rfl ki_2 ?_
  refine r_iadd (i := 75) rfl ?_
  refine r_ialoadS (i := 76) rfl (hin 2 (by decide) (by decide)) ?_
  refine r_aload_n (i := 77) (k0 := 3) rfl rfl rfl ?_
  refine r_iload_n (i := 78) (k0 := 0) rfl rfl rfl ?_
  refine r_iconst (v := 3) (i := 79) rfl ki_3 ?_
  refine r_iadd (i := 80) rfl ?_
  refine r_ialoadS (i := 81) rfl (hin 3 (by decide) (by decide)) ?_
  simp only [hsc.1]
  refine c_V3I (i := 82) rfl vm_M_move lk_W_22 (t_M_move hn hM) (by omega) (xm_in rfl hn) rfl rfl (Nat.le_of_ble_eq_true rfl) (fun q hq => ?_)
  obtain ⟨he, hG⟩ := hq
  refine r_icmpeq (i := 83) (tgt := 1371) rfl (by decide) (fun _ => kk _ _ _ hG) (fun hc => absurd he hc)
def sp_2 (I : xm_I) (L : xm_L) (n : Nat) (i : Int32) (G : xm_I → xm_L → Nat → Prop) : Prop := ok (f_D_tick (xl_a I i 1) I) (fun p => xl_sc I p.2 ∧ ok (f_M_tick (xl_a I i 1) p.2) (fun q => p.1 = q.1 ∧ G q.2 L n))
set_option maxHeartbeats 4000000 in
set_option maxRecDepth 100000 in
theorem law_2 {d kc ks n : Nat} {I : xm_I} {L : xm_L} {i : Int32} {Q : Option Value → xm_H → Prop} {G : xm_I → xm_L → Nat → Prop} (hd : 14 ≤ d) (hn : 86 ≤ n) (hin : xl_in I i) (H : sp_2 I L n i G) (kk : ∀ I' L' n', G I' L' n' → xm_J d mt_W_law 1371 (xl_L i) [] (I', L', RC n', n') kc ks Q) : xm_J d mt_W_law 272 (xl_L i) [] (I, L, RC n, n) kc ks Q := by
  unfold sp_2 at H
  refine r_aload_n (i := 86) (k0 := 2) rfl rfl rfl ?_
  refine r_aload_n (i := 87) (k0 := 3) rfl rfl rfl ?_
  refine r_iload_n (i := 88) (k0 := 0) rfl rfl rfl ?_
  refine r_iconst (v := 1) (i := 89) rfl ki_1 ?_
  refine r_iadd (i := 90) rfl ?_
  refine r_ialoadS (i := 91) rfl (hin 1 (by decide) (by decide)) ?_
  refine c_V1I (i := 92) rfl vm_D_tick lk_W_23 (t_D_tick hn H) (by omega) (xm_in rfl hn) rfl rfl (Nat.le_of_ble_eq_true rfl) (fun p hp => ?_)
  obtain ⟨hsc, hM⟩ := hp
  have hin := hin.kept hsc
  refine r_aload_n (i := 93) (k0 := 1) rfl rfl rfl ?_
  refine r_aload_n (i := 94) (k0 := 3) rfl rfl rfl ?_
  refine r_iload_n (i := 95) (k0 := 0) rfl rfl rfl ?_
  refine r_iconst (v := 1) (i := 96) rfl ki_1 ?_
  refine r_iadd (i := 97) rfl ?_
  refine r_ialoadS (i := 98) rfl (hin 1 (by decide) (by decide)) ?_
  simp only [hsc.1]
  refine c_V1I (i := 99) rfl vm_M_tick lk_W_27 (t_M_tick hn hM) (by omega) (xm_in rfl hn) rfl rfl (Nat.le_of_ble_eq_true rfl) (fun q hq => ?_)
  obtain ⟨he, hG⟩ := hq
  refine r_icmpeq (i := 100) (tgt := 1371) rfl (by decide) (fun _ => kk _ _ _ hG) (fun hc => absurd he hc)
def sp_3 (I : xm_I) (L : xm_L) (n : Nat) (i : Int32) (G : xm_I → xm_L → Nat → Prop) : Prop := ok (f_D_at (xl_a I i 1) (xl_a I i 2) I) (fun p => ok (f_M_at (xl_a I i 1) (xl_a I i 2) I) (fun q => p = q ∧ G I L n))
set_option maxHeartbeats 4000000 in
set_option maxRecDepth 100000 in
theorem law_3 {d kc ks n : Nat} {I : xm_I} {L : xm_L} {i : Int32} {Q : Option Value → xm_H → Prop} {G : xm_I → xm_L → Nat → Prop} (hd : 14 ≤ d) (hn : 86 ≤ n) (hin : xl_in I i) (H : sp_3 I L n i G) (kk : ∀ I' L' n', G I' L' n' → xm_J d mt_W_law 1371 (xl_L i) [] (I', L', RC n', n') kc ks Q) : xm_J d mt_W_law 295 (xl_L i) [] (I, L, RC n, n) kc ks Q := by
  unfold sp_3 at H
  refine r_aload_n (i := 103) (k0 := 2) rfl rfl rfl ?_
  refine r_aload_n (i := 104) (k0 := 3) rfl rfl rfl ?_
  refine r_iload_n (i := 105) (k0 := 0) rfl rfl rfl ?_
  refine r_iconst (v := 1) (i := 106) rfl ki_1 ?_
  refine r_iadd (i := 107) rfl ?_
  refine r_ialoadS (i := 108) rfl (hin 1 (by decide) (by decide)) ?_
  refine r_aload_n (i := 109) (k0 := 3) rfl rfl rfl ?_
  refine r_iload_n (i := 110) (k0 := 0) rfl rfl rfl ?_
  refine r_iconst (v := 2) (i := 111) rfl ki_2 ?_
  refine r_iadd (i := 112) rfl ?_
  refine r_ialoadS (i := 113) rfl (hin 2 (by decide) (by decide)) ?_
  refine c_V2I (i := 114) rfl vm_D_at lk_W_28 (t_D_at hn H) (by omega) (xm_in rfl hn) rfl rfl (Nat.le_of_ble_eq_true rfl) (fun p hp => ?_)
  have hM := hp
  refine r_aload_n (i := 115) (k0 := 1) rfl rfl rfl ?_
  refine r_aload_n (i := 116) (k0 := 3) rfl rfl rfl ?_
  refine r_iload_n (i := 117) (k0 := 0) rfl rfl rfl ?_
  refine r_iconst (v := 1) (i := 118) rfl ki_1 ?_
  refine r_iadd (i := 119) rfl ?_
  refine r_ialoadS (i := 120) rfl (hin 1 (by decide) (by decide)) ?_
  refine r_aload_n (i := 121) (k0 := 3) rfl rfl rfl ?_
  refine r_iload_n (i := 122) (k0 := 0) rfl rfl rfl ?_
  refine r_iconst (v := 2) (i := 123) rfl ki_2 ?_
  refine r_iadd (i := 124) rfl ?_
  refine r_ialoadS (i := 125) rfl (hin 2 (by decide) (by decide)) ?_
  refine c_V2I (i := 126) rfl vm_M_at lk_W_31 (t_M_at hn hM) (by omega) (xm_in rfl hn) rfl rfl (Nat.le_of_ble_eq_true rfl) (fun q hq => ?_)
  obtain ⟨he, hG⟩ := hq
  refine r_icmpeq (i := 127) (tgt := 1371) rfl (by decide) (fun _ => kk _ _ _ hG) (fun hc => absurd he hc)
def sp_4 (I : xm_I) (L : xm_L) (n : Nat) (i : Int32) (G : xm_I → xm_L → Nat → Prop) : Prop := ok (f_D_object (xl_a I i 1) (xl_a I i 2) (xl_a I i 3) (xl_a I i 4) I) (fun p => xl_sc I p.2 ∧ ok (f_M_object (xl_a I i 1) (xl_a I i 2) (xl_a I i 3) (xl_a I i 4) p.2) (fun q => p.1 = q.1 ∧ G q.2 L n))
set_option maxHeartbeats 4000000 in
set_option maxRecDepth 100000 in
theorem law_4 {d kc ks n : Nat} {I : xm_I} {L : xm_L} {i : Int32} {Q : Option Value → xm_H → Prop} {G : xm_I → xm_L → Nat → Prop} (hd : 14 ≤ d) (hn : 86 ≤ n) (hin : xl_in I i) (H : sp_4 I L n i G) (kk : ∀ I' L' n', G I' L' n' → xm_J d mt_W_law 1371 (xl_L i) [] (I', L', RC n', n') kc ks Q) : xm_J d mt_W_law 328 (xl_L i) [] (I, L, RC n, n) kc ks Q := by
  unfold sp_4 at H
  refine r_aload_n (i := 130) (k0 := 2) rfl rfl rfl ?_
  refine r_aload_n (i := 131) (k0 := 3) rfl rfl rfl ?_
  refine r_iload_n (i := 132) (k0 := 0) rfl rfl rfl ?_
  refine r_iconst (v := 1) (i := 133) rfl ki_1 ?_
  refine r_iadd (i := 134) rfl ?_
  refine r_ialoadS (i := 135) rfl (hin 1 (by decide) (by decide)) ?_
  refine r_aload_n (i := 136) (k0 := 3) rfl rfl rfl ?_
  refine r_iload_n (i := 137) (k0 := 0) rfl rfl rfl ?_
  refine r_iconst (v := 2) (i := 138) rfl ki_2 ?_
  refine r_iadd (i := 139) rfl ?_
  refine r_ialoadS (i := 140) rfl (hin 2 (by decide) (by decide)) ?_
  refine r_aload_n (i := 141) (k0 := 3) rfl rfl rfl ?_
  refine r_iload_n (i := 142) (k0 := 0) rfl rfl rfl ?_
  refine r_iconst (v := 3) (i := 143) rfl ki_3 ?_
  refine r_iadd (i := 144) rfl ?_
  refine r_ialoadS (i := 145) rfl (hin 3 (by decide) (by decide)) ?_
  refine r_aload_n (i := 146) (k0 := 3) rfl rfl rfl ?_
  refine r_iload_n (i := 147) (k0 := 0) rfl rfl rfl ?_
  refine r_iconst (v := 4) (i := 148) rfl ki_4 ?_
  refine r_iadd (i := 149) rfl ?_
  refine r_ialoadS (i := 150) rfl (hin 4 (by decide) (by decide)) ?_
  refine c_V4I (i := 151) rfl vm_D_object lk_W_32 (t_D_object hn H) (by omega) (xm_in rfl hn) rfl rfl (Nat.le_of_ble_eq_true rfl) (fun p hp => ?_)
  obtain ⟨hsc, hM⟩ := hp
  have hin := hin.kept hsc
  refine r_aload_n (i := 152) (k0 := 1) rfl rfl rfl ?_
  refine r_aload_n (i := 153) (k0 := 3) rfl rfl rfl ?_
  refine r_iload_n (i := 154) (k0 := 0) rfl rfl rfl ?_
  refine r_iconst (v := 1) (i := 155) rfl ki_1 ?_
  refine r_iadd (i := 156) rfl ?_
  refine r_ialoadS (i := 157) rfl (hin 1 (by decide) (by decide)) ?_
  refine r_aload_n (i := 158) (k0 := 3) rfl rfl rfl ?_
  refine r_iload_n (i := 159) (k0 := 0) rfl rfl rfl ?_
  refine r_iconst (v := 2) (i := 160) rfl ki_2 ?_
  refine r_iadd (i := 161) rfl ?_
  refine r_ialoadS (i := 162) rfl (hin 2 (by decide) (by decide)) ?_
  refine r_aload_n (i := 163) (k0 := 3) rfl rfl rfl ?_
  refine r_iload_n (i := 164) (k0 := 0) rfl rfl rfl ?_
  refine r_iconst (v := 3) (i := 165) rfl ki_3 ?_
  refine r_iadd (i := 166) rfl ?_
  refine r_ialoadS (i := 167) rfl (hin 3 (by decide) (by decide)) ?_
  refine r_aload_n (i := 168) (k0 := 3) rfl rfl rfl ?_
  refine r_iload_n (i := 169) (k0 := 0) rfl rfl rfl ?_
  refine r_iconst (v := 4) (i := 170) rfl ki_4 ?_
  refine r_iadd (i := 171) rfl ?_
  refine r_ialoadS (i := 172) rfl (hin 4 (by decide) (by decide)) ?_
  simp only [hsc.1]
  refine c_V4I (i := 173) rfl vm_M_object lk_W_36 (t_M_object hn hM) (by omega) (xm_in rfl hn) rfl rfl (Nat.le_of_ble_eq_true rfl) (fun q hq => ?_)
  obtain ⟨he, hG⟩ := hq
  refine r_icmpeq (i := 174) (tgt := 1371) rfl (by decide) (fun _ => kk _ _ _ hG) (fun hc => absurd he hc)
def sp_5 (I : xm_I) (L : xm_L) (n : Nat) (i : Int32) (G : xm_I → xm_L → Nat → Prop) : Prop := ok (f_D_corner (xl_a I i 1) I) (fun p => xl_sc I p.2 ∧ ok (f_M_corner (xl_a I i 1) p.2) (fun q => p.1 = q.1 ∧ G q.2 L n))
set_option maxHeartbeats 4000000 in
set_option maxRecDepth 100000 in
theorem law_5 {d kc ks n : Nat} {I : xm_I} {L : xm_L} {i : Int32} {Q : Option Value → xm_H → Prop} {G : xm_I → xm_L → Nat → Prop} (hd : 14 ≤ d) (hn : 86 ≤ n) (hin : xl_in I i) (H : sp_5 I L n i G) (kk : ∀ I' L' n', G I' L' n' → xm_J d mt_W_law 1371 (xl_L i) [] (I', L', RC n', n') kc ks Q) : xm_J d mt_W_law 381 (xl_L i) [] (I, L, RC n, n) kc ks Q := by
  unfold sp_5 at H
  refine r_aload_n (i := 177) (k0 := 2) rfl rfl rfl ?_
  refine r_aload_n (i := 178) (k0 := 3) rfl rfl rfl ?_
  refine r_iload_n (i := 179) (k0 := 0) rfl rfl rfl ?_
  refine r_iconst (v := 1) (i := 180) rfl ki_1 ?_
  refine r_iadd (i := 181) rfl ?_
  refine r_ialoadS (i := 182) rfl (hin 1 (by decide) (by decide)) ?_
  refine c_V1I (i := 183) rfl vm_D_corner lk_W_37 (t_D_corner hn H) (by omega) (xm_in rfl hn) rfl rfl (Nat.le_of_ble_eq_true rfl) (fun p hp => ?_)
  obtain ⟨hsc, hM⟩ := hp
  have hin := hin.kept hsc
  refine r_aload_n (i := 184) (k0 := 1) rfl rfl rfl ?_
  refine r_aload_n (i := 185) (k0 := 3) rfl rfl rfl ?_
  refine r_iload_n (i := 186) (k0 := 0) rfl rfl rfl ?_
  refine r_iconst (v := 1) (i := 187) rfl ki_1 ?_
  refine r_iadd (i := 188) rfl ?_
  refine r_ialoadS (i := 189) rfl (hin 1 (by decide) (by decide)) ?_
  simp only [hsc.1]
  refine c_V1I (i := 190) rfl vm_M_corner lk_W_40 (t_M_corner hn hM) (by omega) (xm_in rfl hn) rfl rfl (Nat.le_of_ble_eq_true rfl) (fun q hq => ?_)
  obtain ⟨he, hG⟩ := hq
  refine r_icmpeq (i := 191) (tgt := 1371) rfl (by decide) (fun _ => kk _ _ _ hG) (fun hc => absurd he hc)
def sp_6 (I : xm_I) (L : xm_L) (n : Nat) (i : Int32) (G : xm_I → xm_L → Nat → Prop) : Prop := ok (f_D_area I) (fun p => xl_sc I p.2 ∧ ok (f_M_area p.2) (fun q => p.1 = q.1 ∧ G q.2 L n))
set_option maxHeartbeats 4000000 in
set_option maxRecDepth 100000 in
theorem law_6 {d kc ks n : Nat} {I : xm_I} {L : xm_L} {i : Int32} {Q : Option Value → xm_H → Prop} {G : xm_I → xm_L → Nat → Prop} (hd : 14 ≤ d) (hn : 86 ≤ n) (hin : xl_in I i) (H : sp_6 I L n i G) (kk : ∀ I' L' n', G I' L' n' → xm_J d mt_W_law 1371 (xl_L i) [] (I', L', RC n', n') kc ks Q) : xm_J d mt_W_law 404 (xl_L i) [] (I, L, RC n, n) kc ks Q := by
  unfold sp_6 at H
  refine r_aload_n (i := 194) (k0 := 2) rfl rfl rfl ?_
  refine c_V0I (i := 195) rfl vm_D_area lk_W_41 (t_D_area hn H) (by omega) (xm_in rfl hn) rfl rfl (Nat.le_of_ble_eq_true rfl) (fun p hp => ?_)
  obtain ⟨hsc, hM⟩ := hp
  have hin := hin.kept hsc
  refine r_aload_n (i := 196) (k0 := 1) rfl rfl rfl ?_
  skip
  refine c_V0I (i := 197) rfl vm_M_area lk_W_45 (t_M_area hn hM) (by omega) (xm_in rfl hn) rfl rfl (Nat.le_of_ble_eq_true rfl) (fun q hq => ?_)
  obtain ⟨he, hG⟩ := hq
  refine r_icmpeq (i := 198) (tgt := 1371) rfl (by decide) (fun _ => kk _ _ _ hG) (fun hc => absurd he hc)
def sp_7 (I : xm_I) (L : xm_L) (n : Nat) (i : Int32) (G : xm_I → xm_L → Nat → Prop) : Prop := ok (f_D_style (xl_a I i 1) (xl_a I i 2) I) (fun p => xl_sc I p.2 ∧ ok (f_M_style (xl_a I i 1) (xl_a I i 2) p.2) (fun q => p.1 = q.1 ∧ G q.2 L n))
set_option maxHeartbeats 4000000 in
set_option maxRecDepth 100000 in
theorem law_7 {d kc ks n : Nat} {I : xm_I} {L : xm_L} {i : Int32} {Q : Option Value → xm_H → Prop} {G : xm_I → xm_L → Nat → Prop} (hd : 14 ≤ d) (hn : 86 ≤ n) (hin : xl_in I i) (H : sp_7 I L n i G) (kk : ∀ I' L' n', G I' L' n' → xm_J d mt_W_law 1371 (xl_L i) [] (I', L', RC n', n') kc ks Q) : xm_J d mt_W_law 417 (xl_L i) [] (I, L, RC n, n) kc ks Q := by
  unfold sp_7 at H
  refine r_aload_n (i := 201) (k0 := 2) rfl rfl rfl ?_
  refine r_aload_n (i := 202) (k0 := 3) rfl rfl rfl ?_
  refine r_iload_n (i := 203) (k0 := 0) rfl rfl rfl ?_
  refine r_iconst (v := 1) (i := 204) rfl ki_1 ?_
  refine r_iadd (i := 205) rfl ?_
  refine r_ialoadS (i := 206) rfl (hin 1 (by decide) (by decide)) ?_
  refine r_aload_n (i := 207) (k0 := 3) rfl rfl rfl ?_
  refine r_iload_n (i := 208) (k0 := 0) rfl rfl rfl ?_
  refine r_iconst (v := 2) (i := 209) rfl ki_2 ?_
  refine r_iadd (i := 210) rfl ?_
  refine r_ialoadS (i := 211) rfl (hin 2 (by decide) (by decide)) ?_
  refine c_V2I (i := 212) rfl vm_D_style lk_W_46 (t_D_style hn H) (by omega) (xm_in rfl hn) rfl rfl (Nat.le_of_ble_eq_true rfl) (fun p hp => ?_)
  obtain ⟨hsc, hM⟩ := hp
  have hin := hin.kept hsc
  refine r_aload_n (i := 213) (k0 := 1) rfl rfl rfl ?_
  refine r_aload_n (i := 214) (k0 := 3) rfl rfl rfl ?_
  refine r_iload_n (i := 215) (k0 := 0) rfl rfl rfl ?_
  refine r_iconst (v := 1) (i := 216) rfl ki_1 ?_
  refine r_iadd (i := 217) rfl ?_
  refine r_ialoadS (i := 218) rfl (hin 1 (by decide) (by decide)) ?_
  refine r_aload_n (i := 219) (k0 := 3) rfl rfl rfl ?_
  refine r_iload_n (i := 220) (k0 := 0) rfl rfl rfl ?_
  refine r_iconst (v := 2) (i := 221) rfl ki_2 ?_
  refine r_iadd (i := 222) rfl ?_
  refine r_ialoadS (i := 223) rfl (hin 2 (by decide) (by decide)) ?_
  simp only [hsc.1]
  refine c_V2I (i := 224) rfl vm_M_style lk_W_49 (t_M_style hn hM) (by omega) (xm_in rfl hn) rfl rfl (Nat.le_of_ble_eq_true rfl) (fun q hq => ?_)
  obtain ⟨he, hG⟩ := hq
  refine r_icmpeq (i := 225) (tgt := 1371) rfl (by decide) (fun _ => kk _ _ _ hG) (fun hc => absurd he hc)
def sp_8 (I : xm_I) (L : xm_L) (n : Nat) (i : Int32) (G : xm_I → xm_L → Nat → Prop) : Prop := ok (f_D_hide (xl_a I i 1) (xl_b (xl_a I i 2)) I) (fun p => xl_sc I p.2 ∧ ok (f_M_hide (xl_a I i 1) (xl_b (xl_a I i 2)) p.2) (fun q => p.1 = q.1 ∧ G q.2 L n))
set_option maxHeartbeats 4000000 in
set_option maxRecDepth 100000 in
theorem law_8 {d kc ks n : Nat} {I : xm_I} {L : xm_L} {i : Int32} {Q : Option Value → xm_H → Prop} {G : xm_I → xm_L → Nat → Prop} (hd : 14 ≤ d) (hn : 86 ≤ n) (hin : xl_in I i) (H : sp_8 I L n i G) (kk : ∀ I' L' n', G I' L' n' → xm_J d mt_W_law 1371 (xl_L i) [] (I', L', RC n', n') kc ks Q) : xm_J d mt_W_law 450 (xl_L i) [] (I, L, RC n, n) kc ks Q := by
  unfold sp_8 at H
  refine r_aload_n (i := 228) (k0 := 2) rfl rfl rfl ?_
  refine r_aload_n (i := 229) (k0 := 3) rfl rfl rfl ?_
  refine r_iload_n (i := 230) (k0 := 0) rfl rfl rfl ?_
  refine r_iconst (v := 1) (i := 231) rfl ki_1 ?_
  refine r_iadd (i := 232) rfl ?_
  refine r_ialoadS (i := 233) rfl (hin 1 (by decide) (by decide)) ?_
  refine r_aload_n (i := 234) (k0 := 3) rfl rfl rfl ?_
  refine r_iload_n (i := 235) (k0 := 0) rfl rfl rfl ?_
  refine r_iconst (v := 2) (i := 236) rfl ki_2 ?_
  refine r_iadd (i := 237) rfl ?_
  refine r_ialoadS (i := 238) rfl (hin 2 (by decide) (by decide)) ?_
  refine r_bz (i := 239) (i1 := 240) (i2 := 241) (i3 := 242) rfl (by decide) rfl rfl (by decide) rfl ?_
  refine c_V2I (i := 243) rfl vm_D_hide lk_W_50 (t_D_hide hn H) (by omega) (xm_in rfl hn) rfl rfl (Nat.le_of_ble_eq_true rfl) (fun p hp => ?_)
  obtain ⟨hsc, hM⟩ := hp
  have hin := hin.kept hsc
  refine r_aload_n (i := 244) (k0 := 1) rfl rfl rfl ?_
  refine r_aload_n (i := 245) (k0 := 3) rfl rfl rfl ?_
  refine r_iload_n (i := 246) (k0 := 0) rfl rfl rfl ?_
  refine r_iconst (v := 1) (i := 247) rfl ki_1 ?_
  refine r_iadd (i := 248) rfl ?_
  refine r_ialoadS (i := 249) rfl (hin 1 (by decide) (by decide)) ?_
  refine r_aload_n (i := 250) (k0 := 3) rfl rfl rfl ?_
  refine r_iload_n (i := 251) (k0 := 0) rfl rfl rfl ?_
  refine r_iconst (v := 2) (i := 252) rfl ki_2 ?_
  refine r_iadd (i := 253) rfl ?_
  refine r_ialoadS (i := 254) rfl (hin 2 (by decide) (by decide)) ?_
  refine r_bz (i := 255) (i1 := 256) (i2 := 257) (i3 := 258) rfl (by decide) rfl rfl (by decide) rfl ?_
  simp only [hsc.1]
  refine c_V2I (i := 259) rfl vm_M_hide lk_W_54 (t_M_hide hn hM) (by omega) (xm_in rfl hn) rfl rfl (Nat.le_of_ble_eq_true rfl) (fun q hq => ?_)
  obtain ⟨he, hG⟩ := hq
  refine r_icmpeq (i := 260) (tgt := 1371) rfl (by decide) (fun _ => kk _ _ _ hG) (fun hc => absurd he hc)
def sp_9 (I : xm_I) (L : xm_L) (n : Nat) (i : Int32) (G : xm_I → xm_L → Nat → Prop) : Prop := ok (f_D_fallen (xl_a I i 1) I) (fun p => ok (f_M_fallen (xl_a I i 1) I) (fun q => p = q ∧ G I L n))
set_option maxHeartbeats 4000000 in
set_option maxRecDepth 100000 in
theorem law_9 {d kc ks n : Nat} {I : xm_I} {L : xm_L} {i : Int32} {Q : Option Value → xm_H → Prop} {G : xm_I → xm_L → Nat → Prop} (hd : 14 ≤ d) (hn : 86 ≤ n) (hin : xl_in I i) (H : sp_9 I L n i G) (kk : ∀ I' L' n', G I' L' n' → xm_J d mt_W_law 1371 (xl_L i) [] (I', L', RC n', n') kc ks Q) : xm_J d mt_W_law 499 (xl_L i) [] (I, L, RC n, n) kc ks Q := by
  unfold sp_9 at H
  refine r_aload_n (i := 263) (k0 := 2) rfl rfl rfl ?_
  refine r_aload_n (i := 264) (k0 := 3) rfl rfl rfl ?_
  refine r_iload_n (i := 265) (k0 := 0) rfl rfl rfl ?_
  refine r_iconst (v := 1) (i := 266) rfl ki_1 ?_
  refine r_iadd (i := 267) rfl ?_
  refine r_ialoadS (i := 268) rfl (hin 1 (by decide) (by decide)) ?_
  refine c_V1I (i := 269) rfl vm_D_fallen lk_W_55 (t_D_fallen hn H) (by omega) (xm_in rfl hn) rfl rfl (Nat.le_of_ble_eq_true rfl) (fun p hp => ?_)
  have hM := hp
  refine r_aload_n (i := 270) (k0 := 1) rfl rfl rfl ?_
  refine r_aload_n (i := 271) (k0 := 3) rfl rfl rfl ?_
  refine r_iload_n (i := 272) (k0 := 0) rfl rfl rfl ?_
  refine r_iconst (v := 1) (i := 273) rfl ki_1 ?_
  refine r_iadd (i := 274) rfl ?_
  refine r_ialoadS (i := 275) rfl (hin 1 (by decide) (by decide)) ?_
  refine c_V1I (i := 276) rfl vm_M_fallen lk_W_58 (t_M_fallen hn hM) (by omega) (xm_in rfl hn) rfl rfl (Nat.le_of_ble_eq_true rfl) (fun q hq => ?_)
  obtain ⟨he, hG⟩ := hq
  refine r_icmpeq (i := 277) (tgt := 1371) rfl (by decide) (fun _ => kk _ _ _ hG) (fun hc => absurd he hc)
def sp_10 (I : xm_I) (L : xm_L) (n : Nat) (i : Int32) (G : xm_I → xm_L → Nat → Prop) : Prop := ok (f_D_measure (xl_a I i 1) I) (fun p => ok (f_M_measure (xl_a I i 1) I) (fun q => p = q ∧ G I L n))
set_option maxHeartbeats 4000000 in
set_option maxRecDepth 100000 in
theorem law_10 {d kc ks n : Nat} {I : xm_I} {L : xm_L} {i : Int32} {Q : Option Value → xm_H → Prop} {G : xm_I → xm_L → Nat → Prop} (hd : 14 ≤ d) (hn : 86 ≤ n) (hin : xl_in I i) (H : sp_10 I L n i G) (kk : ∀ I' L' n', G I' L' n' → xm_J d mt_W_law 1371 (xl_L i) [] (I', L', RC n', n') kc ks Q) : xm_J d mt_W_law 522 (xl_L i) [] (I, L, RC n, n) kc ks Q := by
  unfold sp_10 at H
  refine r_aload_n (i := 280) (k0 := 2) rfl rfl rfl ?_
  refine r_aload_n (i := 281) (k0 := 3) rfl rfl rfl ?_
  refine r_iload_n (i := 282) (k0 := 0) rfl rfl rfl ?_
  refine r_iconst (v := 1) (i := 283) rfl ki_1 ?_
  refine r_iadd (i := 284) rfl ?_
  refine r_ialoadS (i := 285) rfl (hin 1 (by decide) (by decide)) ?_
  refine c_V1L (i := 286) rfl vm_D_measure lk_W_59 (t_D_measure hn H) (by omega) (xm_in rfl hn) rfl rfl (Nat.le_of_ble_eq_true rfl) (fun p hp => ?_)
  have hM := hp
  refine r_aload_n (i := 287) (k0 := 1) rfl rfl rfl ?_
  refine r_aload_n (i := 288) (k0 := 3) rfl rfl rfl ?_
  refine r_iload_n (i := 289) (k0 := 0) rfl rfl rfl ?_
  refine r_iconst (v := 1) (i := 290) rfl ki_1 ?_
  refine r_iadd (i := 291) rfl ?_
  refine r_ialoadS (i := 292) rfl (hin 1 (by decide) (by decide)) ?_
  refine c_V1L (i := 293) rfl vm_M_measure lk_W_63 (t_M_measure hn hM) (by omega) (xm_in rfl hn) rfl rfl (Nat.le_of_ble_eq_true rfl) (fun q hq => ?_)
  obtain ⟨he, hG⟩ := hq
  refine r_lcmpeq (i := 294) (j := 295) (tgt := 1371) rfl rfl (by decide) (fun _ => kk _ _ _ hG) (fun hc => absurd he hc)
def sp_11 (I : xm_I) (L : xm_L) (n : Nat) (i : Int32) (G : xm_I → xm_L → Nat → Prop) : Prop := ok (f_D_window (xl_a I i 1) (xl_a I i 2) (xl_a I i 3) (xl_a I i 4) I) (fun p => xl_sc I p.2 ∧ ok (f_M_window (xl_a I i 1) (xl_a I i 2) (xl_a I i 3) (xl_a I i 4) p.2) (fun q => p.1 = q.1 ∧ G q.2 L n))
set_option maxHeartbeats 4000000 in
set_option maxRecDepth 100000 in
theorem law_11 {d kc ks n : Nat} {I : xm_I} {L : xm_L} {i : Int32} {Q : Option Value → xm_H → Prop} {G : xm_I → xm_L → Nat → Prop} (hd : 14 ≤ d) (hn : 86 ≤ n) (hin : xl_in I i) (H : sp_11 I L n i G) (kk : ∀ I' L' n', G I' L' n' → xm_J d mt_W_law 1371 (xl_L i) [] (I', L', RC n', n') kc ks Q) : xm_J d mt_W_law 546 (xl_L i) [] (I, L, RC n, n) kc ks Q := by
  unfold sp_11 at H
  refine r_aload_n (i := 298) (k0 := 2) rfl rfl rfl ?_
  refine r_aload_n (i := 299) (k0 := 3) rfl rfl rfl ?_
  refine r_iload_n (i := 300) (k0 := 0) rfl rfl rfl ?_
  refine r_iconst (v := 1) (i := 301) rfl ki_1 ?_
  refine r_iadd (i := 302) rfl ?_
  refine r_ialoadS (i := 303) rfl (hin 1 (by decide) (by decide)) ?_
  refine r_aload_n (i := 304) (k0 := 3) rfl rfl rfl ?_
  refine r_iload_n (i := 305) (k0 := 0) rfl rfl rfl ?_
  refine r_iconst (v := 2) (i := 306) rfl ki_2 ?_
  refine r_iadd (i := 307) rfl ?_
  refine r_ialoadS (i := 308) rfl (hin 2 (by decide) (by decide)) ?_
  refine r_aload_n (i := 309) (k0 := 3) rfl rfl rfl ?_
  refine r_iload_n (i := 310) (k0 := 0) rfl rfl rfl ?_
  refine r_iconst (v := 3) (i := 311) rfl ki_3 ?_
  refine r_iadd (i := 312) rfl ?_
  refine r_ialoadS (i := 313) rfl (hin 3 (by decide) (by decide)) ?_
  refine r_aload_n (i := 314) (k0 := 3) rfl rfl rfl ?_
  refine r_iload_n (i := 315) (k0 := 0) rfl rfl rfl ?_
  refine r_iconst (v := 4) (i := 316) rfl ki_4 ?_
  refine r_iadd (i := 317) rfl ?_
  refine r_ialoadS (i := 318) rfl (hin 4 (by decide) (by decide)) ?_
  refine c_V4I (i := 319) rfl vm_D_window lk_W_64 (t_D_window hn H) (by omega) (xm_in rfl hn) rfl rfl (Nat.le_of_ble_eq_true rfl) (fun p hp => ?_)
  obtain ⟨hsc, hM⟩ := hp
  have hin := hin.kept hsc
  refine r_aload_n (i := 320) (k0 := 1) rfl rfl rfl ?_
  refine r_aload_n (i := 321) (k0 := 3) rfl rfl rfl ?_
  refine r_iload_n (i := 322) (k0 := 0) rfl rfl rfl ?_
  refine r_iconst (v := 1) (i := 323) rfl ki_1 ?_
  refine r_iadd (i := 324) rfl ?_
  refine r_ialoadS (i := 325) rfl (hin 1 (by decide) (by decide)) ?_
  refine r_aload_n (i := 326) (k0 := 3) rfl rfl rfl ?_
  refine r_iload_n (i := 327) (k0 := 0) rfl rfl rfl ?_
  refine r_iconst (v := 2) (i := 328) rfl ki_2 ?_
  refine r_iadd (i := 329) rfl ?_
  refine r_ialoadS (i := 330) rfl (hin 2 (by decide) (by decide)) ?_
  refine r_aload_n (i := 331) (k0 := 3) rfl rfl rfl ?_
  refine r_iload_n (i := 332) (k0 := 0) rfl rfl rfl ?_
  refine r_iconst (v := 3) (i := 333) rfl ki_3 ?_
  refine r_iadd (i := 334) rfl ?_
  refine r_ialoadS (i := 335) rfl (hin 3 (by decide) (by decide)) ?_
  refine r_aload_n (i := 336) (k0 := 3) rfl rfl rfl ?_
  refine r_iload_n (i := 337) (k0 := 0) rfl rfl rfl ?_
  refine r_iconst (v := 4) (i := 338) rfl ki_4 ?_
  refine r_iadd (i := 339) rfl ?_
  refine r_ialoadS (i := 340) rfl (hin 4 (by decide) (by decide)) ?_
  simp only [hsc.1]
  refine c_V4I (i := 341) rfl vm_M_window lk_W_67 (t_M_window hn hM) (by omega) (xm_in rfl hn) rfl rfl (Nat.le_of_ble_eq_true rfl) (fun q hq => ?_)
  obtain ⟨he, hG⟩ := hq
  refine r_icmpeq (i := 342) (tgt := 1371) rfl (by decide) (fun _ => kk _ _ _ hG) (fun hc => absurd he hc)
def sp_12 (I : xm_I) (L : xm_L) (n : Nat) (i : Int32) (G : xm_I → xm_L → Nat → Prop) : Prop := ok (f_D_fit I) (fun p => xl_sc I p.2 ∧ ok (f_M_fit p.2) (fun q => p.1 = q.1 ∧ G q.2 L n))
set_option maxHeartbeats 4000000 in
set_option maxRecDepth 100000 in
theorem law_12 {d kc ks n : Nat} {I : xm_I} {L : xm_L} {i : Int32} {Q : Option Value → xm_H → Prop} {G : xm_I → xm_L → Nat → Prop} (hd : 14 ≤ d) (hn : 86 ≤ n) (hin : xl_in I i) (H : sp_12 I L n i G) (kk : ∀ I' L' n', G I' L' n' → xm_J d mt_W_law 1371 (xl_L i) [] (I', L', RC n', n') kc ks Q) : xm_J d mt_W_law 599 (xl_L i) [] (I, L, RC n, n) kc ks Q := by
  unfold sp_12 at H
  refine r_aload_n (i := 345) (k0 := 2) rfl rfl rfl ?_
  refine c_V0I (i := 346) rfl vm_D_fit lk_W_68 (t_D_fit hn H) (by omega) (xm_in rfl hn) rfl rfl (Nat.le_of_ble_eq_true rfl) (fun p hp => ?_)
  obtain ⟨hsc, hM⟩ := hp
  have hin := hin.kept hsc
  refine r_aload_n (i := 347) (k0 := 1) rfl rfl rfl ?_
  skip
  refine c_V0I (i := 348) rfl vm_M_fit lk_W_71 (t_M_fit hn hM) (by omega) (xm_in rfl hn) rfl rfl (Nat.le_of_ble_eq_true rfl) (fun q hq => ?_)
  obtain ⟨he, hG⟩ := hq
  refine r_icmpeq (i := 349) (tgt := 1371) rfl (by decide) (fun _ => kk _ _ _ hG) (fun hc => absurd he hc)
def sp_13 (I : xm_I) (L : xm_L) (n : Nat) (i : Int32) (G : xm_I → xm_L → Nat → Prop) : Prop := ok (f_D_side (xl_a I i 1) I) (fun p => ok (f_M_side (xl_a I i 1) I) (fun q => p = q ∧ G I L n))
set_option maxHeartbeats 4000000 in
set_option maxRecDepth 100000 in
theorem law_13 {d kc ks n : Nat} {I : xm_I} {L : xm_L} {i : Int32} {Q : Option Value → xm_H → Prop} {G : xm_I → xm_L → Nat → Prop} (hd : 14 ≤ d) (hn : 86 ≤ n) (hin : xl_in I i) (H : sp_13 I L n i G) (kk : ∀ I' L' n', G I' L' n' → xm_J d mt_W_law 1371 (xl_L i) [] (I', L', RC n', n') kc ks Q) : xm_J d mt_W_law 612 (xl_L i) [] (I, L, RC n, n) kc ks Q := by
  unfold sp_13 at H
  refine r_aload_n (i := 352) (k0 := 2) rfl rfl rfl ?_
  refine r_aload_n (i := 353) (k0 := 3) rfl rfl rfl ?_
  refine r_iload_n (i := 354) (k0 := 0) rfl rfl rfl ?_
  refine r_iconst (v := 1) (i := 355) rfl ki_1 ?_
  refine r_iadd (i := 356) rfl ?_
  refine r_ialoadS (i := 357) rfl (hin 1 (by decide) (by decide)) ?_
  refine c_V1I (i := 358) rfl vm_D_side lk_W_72 (t_D_side hn H) (by omega) (xm_in rfl hn) rfl rfl (Nat.le_of_ble_eq_true rfl) (fun p hp => ?_)
  have hM := hp
  refine r_aload_n (i := 359) (k0 := 1) rfl rfl rfl ?_
  refine r_aload_n (i := 360) (k0 := 3) rfl rfl rfl ?_
  refine r_iload_n (i := 361) (k0 := 0) rfl rfl rfl ?_
  refine r_iconst (v := 1) (i := 362) rfl ki_1 ?_
  refine r_iadd (i := 363) rfl ?_
  refine r_ialoadS (i := 364) rfl (hin 1 (by decide) (by decide)) ?_
  refine c_V1I (i := 365) rfl vm_M_side lk_W_75 (t_M_side hn hM) (by omega) (xm_in rfl hn) rfl rfl (Nat.le_of_ble_eq_true rfl) (fun q hq => ?_)
  obtain ⟨he, hG⟩ := hq
  refine r_icmpeq (i := 366) (tgt := 1371) rfl (by decide) (fun _ => kk _ _ _ hG) (fun hc => absurd he hc)
def sp_14 (I : xm_I) (L : xm_L) (n : Nat) (i : Int32) (G : xm_I → xm_L → Nat → Prop) : Prop := ok (f_D_sheet (xl_a I i 1) (xl_a I i 2) (xl_a I i 3) I) (fun p => xl_sc I p.2 ∧ ok (f_M_sheet (xl_a I i 1) (xl_a I i 2) (xl_a I i 3) p.2) (fun q => p.1 = q.1 ∧ G q.2 L n))
set_option maxHeartbeats 4000000 in
set_option maxRecDepth 100000 in
theorem law_14 {d kc ks n : Nat} {I : xm_I} {L : xm_L} {i : Int32} {Q : Option Value → xm_H → Prop} {G : xm_I → xm_L → Nat → Prop} (hd : 14 ≤ d) (hn : 86 ≤ n) (hin : xl_in I i) (H : sp_14 I L n i G) (kk : ∀ I' L' n', G I' L' n' → xm_J d mt_W_law 1371 (xl_L i) [] (I', L', RC n', n') kc ks Q) : xm_J d mt_W_law 635 (xl_L i) [] (I, L, RC n, n) kc ks Q := by
  unfold sp_14 at H
  refine r_aload_n (i := 369) (k0 := 2) rfl rfl rfl ?_
  refine r_aload_n (i := 370) (k0 := 3) rfl rfl rfl ?_
  refine r_iload_n (i := 371) (k0 := 0) rfl rfl rfl ?_
  refine r_iconst (v := 1) (i := 372) rfl ki_1 ?_
  refine r_iadd (i := 373) rfl ?_
  refine r_ialoadS (i := 374) rfl (hin 1 (by decide) (by decide)) ?_
  refine r_aload_n (i := 375) (k0 := 3) rfl rfl rfl ?_
  refine r_iload_n (i := 376) (k0 := 0) rfl rfl rfl ?_
  refine r_iconst (v := 2) (i := 377) rfl ki_2 ?_
  refine r_iadd (i := 378) rfl ?_
  refine r_ialoadS (i := 379) rfl (hin 2 (by decide) (by decide)) ?_
  refine r_aload_n (i := 380) (k0 := 3) rfl rfl rfl ?_
  refine r_iload_n (i := 381) (k0 := 0) rfl rfl rfl ?_
  refine r_iconst (v := 3) (i := 382) rfl ki_3 ?_
  refine r_iadd (i := 383) rfl ?_
  refine r_ialoadS (i := 384) rfl (hin 3 (by decide) (by decide)) ?_
  refine c_V3I (i := 385) rfl vm_D_sheet lk_W_76 (t_D_sheet hn H) (by omega) (xm_in rfl hn) rfl rfl (Nat.le_of_ble_eq_true rfl) (fun p hp => ?_)
  obtain ⟨hsc, hM⟩ := hp
  have hin := hin.kept hsc
  refine r_aload_n (i := 386) (k0 := 1) rfl rfl rfl ?_
  refine r_aload_n (i := 387) (k0 := 3) rfl rfl rfl ?_
  refine r_iload_n (i := 388) (k0 := 0) rfl rfl rfl ?_
  refine r_iconst (v := 1) (i := 389) rfl ki_1 ?_
  refine r_iadd (i := 390) rfl ?_
  refine r_ialoadS (i := 391) rfl (hin 1 (by decide) (by decide)) ?_
  refine r_aload_n (i := 392) (k0 := 3) rfl rfl rfl ?_
  refine r_iload_n (i := 393) (k0 := 0) rfl rfl rfl ?_
  refine r_iconst (v := 2) (i := 394) rfl ki_2 ?_
  refine r_iadd (i := 395) rfl ?_
  refine r_ialoadS (i := 396) rfl (hin 2 (by decide) (by decide)) ?_
  refine r_aload_n (i := 397) (k0 := 3) rfl rfl rfl ?_
  refine r_iload_n (i := 398) (k0 := 0) rfl rfl rfl ?_
  refine r_iconst (v := 3) (i := 399) rfl ki_3 ?_
  refine r_iadd (i := 400) rfl ?_
  refine r_ialoadS (i := 401) rfl (hin 3 (by decide) (by decide)) ?_
  simp only [hsc.1]
  refine c_V3I (i := 402) rfl vm_M_sheet lk_W_79 (t_M_sheet hn hM) (by omega) (xm_in rfl hn) rfl rfl (Nat.le_of_ble_eq_true rfl) (fun q hq => ?_)
  obtain ⟨he, hG⟩ := hq
  refine r_icmpeq (i := 403) (tgt := 1371) rfl (by decide) (fun _ => kk _ _ _ hG) (fun hc => absurd he hc)
def sp_15 (I : xm_I) (L : xm_L) (n : Nat) (i : Int32) (G : xm_I → xm_L → Nat → Prop) : Prop := ok (f_D_grid (xl_a I i 1) I) (fun p => xl_sc I p.2 ∧ ok (f_M_grid (xl_a I i 1) p.2) (fun q => p.1 = q.1 ∧ G q.2 L n))
set_option maxHeartbeats 4000000 in
set_option maxRecDepth 100000 in
theorem law_15 {d kc ks n : Nat} {I : xm_I} {L : xm_L} {i : Int32} {Q : Option Value → xm_H → Prop} {G : xm_I → xm_L → Nat → Prop} (hd : 14 ≤ d) (hn : 86 ≤ n) (hin : xl_in I i) (H : sp_15 I L n i G) (kk : ∀ I' L' n', G I' L' n' → xm_J d mt_W_law 1371 (xl_L i) [] (I', L', RC n', n') kc ks Q) : xm_J d mt_W_law 678 (xl_L i) [] (I, L, RC n, n) kc ks Q := by
  unfold sp_15 at H
  refine r_aload_n (i := 406) (k0 := 2) rfl rfl rfl ?_
  refine r_aload_n (i := 407) (k0 := 3) rfl rfl rfl ?_
  refine r_iload_n (i := 408) (k0 := 0) rfl rfl rfl ?_
  refine r_iconst (v := 1) (i := 409) rfl ki_1 ?_
  refine r_iadd (i := 410) rfl ?_
  refine r_ialoadS (i := 411) rfl (hin 1 (by decide) (by decide)) ?_
  refine c_V1I (i := 412) rfl vm_D_grid lk_W_80 (t_D_grid hn H) (by omega) (xm_in rfl hn) rfl rfl (Nat.le_of_ble_eq_true rfl) (fun p hp => ?_)
  obtain ⟨hsc, hM⟩ := hp
  have hin := hin.kept hsc
  refine r_aload_n (i := 413) (k0 := 1) rfl rfl rfl ?_
  refine r_aload_n (i := 414) (k0 := 3) rfl rfl rfl ?_
  refine r_iload_n (i := 415) (k0 := 0) rfl rfl rfl ?_
  refine r_iconst (v := 1) (i := 416) rfl ki_1 ?_
  refine r_iadd (i := 417) rfl ?_
  refine r_ialoadS (i := 418) rfl (hin 1 (by decide) (by decide)) ?_
  simp only [hsc.1]
  refine c_V1I (i := 419) rfl vm_M_grid lk_W_83 (t_M_grid hn hM) (by omega) (xm_in rfl hn) rfl rfl (Nat.le_of_ble_eq_true rfl) (fun q hq => ?_)
  obtain ⟨he, hG⟩ := hq
  refine r_icmpeq (i := 420) (tgt := 1371) rfl (by decide) (fun _ => kk _ _ _ hG) (fun hc => absurd he hc)
def sp_16 (I : xm_I) (L : xm_L) (n : Nat) (i : Int32) (G : xm_I → xm_L → Nat → Prop) : Prop := ok (f_D_hatch (xl_a I i 1) I) (fun p => xl_sc I p.2 ∧ ok (f_M_hatch (xl_a I i 1) p.2) (fun q => p.1 = q.1 ∧ G q.2 L n))
set_option maxHeartbeats 4000000 in
set_option maxRecDepth 100000 in
theorem law_16 {d kc ks n : Nat} {I : xm_I} {L : xm_L} {i : Int32} {Q : Option Value → xm_H → Prop} {G : xm_I → xm_L → Nat → Prop} (hd : 14 ≤ d) (hn : 86 ≤ n) (hin : xl_in I i) (H : sp_16 I L n i G) (kk : ∀ I' L' n', G I' L' n' → xm_J d mt_W_law 1371 (xl_L i) [] (I', L', RC n', n') kc ks Q) : xm_J d mt_W_law 701 (xl_L i) [] (I, L, RC n, n) kc ks Q := by
  unfold sp_16 at H
  refine r_aload_n (i := 423) (k0 := 2) rfl rfl rfl ?_
  refine r_aload_n (i := 424) (k0 := 3) rfl rfl rfl ?_
  refine r_iload_n (i := 425) (k0 := 0) rfl rfl rfl ?_
  refine r_iconst (v := 1) (i := 426) rfl ki_1 ?_
  refine r_iadd (i := 427) rfl ?_
  refine r_ialoadS (i := 428) rfl (hin 1 (by decide) (by decide)) ?_
  refine c_V1I (i := 429) rfl vm_D_hatch lk_W_84 (t_D_hatch hn H) (by omega) (xm_in rfl hn) rfl rfl (Nat.le_of_ble_eq_true rfl) (fun p hp => ?_)
  obtain ⟨hsc, hM⟩ := hp
  have hin := hin.kept hsc
  refine r_aload_n (i := 430) (k0 := 1) rfl rfl rfl ?_
  refine r_aload_n (i := 431) (k0 := 3) rfl rfl rfl ?_
  refine r_iload_n (i := 432) (k0 := 0) rfl rfl rfl ?_
  refine r_iconst (v := 1) (i := 433) rfl ki_1 ?_
  refine r_iadd (i := 434) rfl ?_
  refine r_ialoadS (i := 435) rfl (hin 1 (by decide) (by decide)) ?_
  simp only [hsc.1]
  refine c_V1I (i := 436) rfl vm_M_hatch lk_W_87 (t_M_hatch hn hM) (by omega) (xm_in rfl hn) rfl rfl (Nat.le_of_ble_eq_true rfl) (fun q hq => ?_)
  obtain ⟨he, hG⟩ := hq
  refine r_icmpeq (i := 437) (tgt := 1371) rfl (by decide) (fun _ => kk _ _ _ hG) (fun hc => absurd he hc)
def sp_17 (I : xm_I) (L : xm_L) (n : Nat) (i : Int32) (G : xm_I → xm_L → Nat → Prop) : Prop := ok (f_D_scale (xl_b (xl_a I i 1)) I) (fun p => xl_sc I p.2 ∧ ok (f_M_scale (xl_b (xl_a I i 1)) p.2 L) (fun q => p.1 = q.1 ∧ G q.2.1 q.2.2 n))
set_option maxHeartbeats 4000000 in
set_option maxRecDepth 100000 in
theorem law_17 {d kc ks n : Nat} {I : xm_I} {L : xm_L} {i : Int32} {Q : Option Value → xm_H → Prop} {G : xm_I → xm_L → Nat → Prop} (hd : 14 ≤ d) (hn : 86 ≤ n) (hin : xl_in I i) (H : sp_17 I L n i G) (kk : ∀ I' L' n', G I' L' n' → xm_J d mt_W_law 1371 (xl_L i) [] (I', L', RC n', n') kc ks Q) : xm_J d mt_W_law 724 (xl_L i) [] (I, L, RC n, n) kc ks Q := by
  unfold sp_17 at H
  refine r_aload_n (i := 440) (k0 := 2) rfl rfl rfl ?_
  refine r_aload_n (i := 441) (k0 := 3) rfl rfl rfl ?_
  refine r_iload_n (i := 442) (k0 := 0) rfl rfl rfl ?_
  refine r_iconst (v := 1) (i := 443) rfl ki_1 ?_
  refine r_iadd (i := 444) rfl ?_
  refine r_ialoadS (i := 445) rfl (hin 1 (by decide) (by decide)) ?_
  refine r_bz (i := 446) (i1 := 447) (i2 := 448) (i3 := 449) rfl (by decide) rfl rfl (by decide) rfl ?_
  refine c_V1I (i := 450) rfl vm_D_scale lk_W_88 (t_D_scale hn H) (by omega) (xm_in rfl hn) rfl rfl (Nat.le_of_ble_eq_true rfl) (fun p hp => ?_)
  obtain ⟨hsc, hM⟩ := hp
  have hin := hin.kept hsc
  refine r_aload_n (i := 451) (k0 := 1) rfl rfl rfl ?_
  refine r_aload_n (i := 452) (k0 := 3) rfl rfl rfl ?_
  refine r_iload_n (i := 453) (k0 := 0) rfl rfl rfl ?_
  refine r_iconst (v := 1) (i := 454) rfl ki_1 ?_
  refine r_iadd (i := 455) rfl ?_
  refine r_ialoadS (i := 456) rfl (hin 1 (by decide) (by decide)) ?_
  refine r_bz (i := 457) (i1 := 458) (i2 := 459) (i3 := 460) rfl (by decide) rfl rfl (by decide) rfl ?_
  simp only [hsc.1]
  refine c_V1I (i := 461) rfl vm_M_scale lk_W_92 (t_M_scale hn hM) (by omega) (xm_in rfl hn) rfl rfl (Nat.le_of_ble_eq_true rfl) (fun q hq => ?_)
  obtain ⟨he, hG⟩ := hq
  refine r_icmpeq (i := 462) (tgt := 1371) rfl (by decide) (fun _ => kk _ _ _ hG) (fun hc => absurd he hc)
def sp_18 (I : xm_I) (L : xm_L) (n : Nat) (i : Int32) (G : xm_I → xm_L → Nat → Prop) : Prop := ok (f_D_single (xl_a I i 1) (xl_a I i 2) I) (fun p => xl_sc I p.2 ∧ ok (f_M_single (xl_a I i 1) (xl_a I i 2) p.2 L) (fun q => p.1 = q.1 ∧ G q.2.1 q.2.2 n))
set_option maxHeartbeats 4000000 in
set_option maxRecDepth 100000 in
theorem law_18 {d kc ks n : Nat} {I : xm_I} {L : xm_L} {i : Int32} {Q : Option Value → xm_H → Prop} {G : xm_I → xm_L → Nat → Prop} (hd : 14 ≤ d) (hn : 86 ≤ n) (hin : xl_in I i) (H : sp_18 I L n i G) (kk : ∀ I' L' n', G I' L' n' → xm_J d mt_W_law 1371 (xl_L i) [] (I', L', RC n', n') kc ks Q) : xm_J d mt_W_law 763 (xl_L i) [] (I, L, RC n, n) kc ks Q := by
  unfold sp_18 at H
  refine r_aload_n (i := 465) (k0 := 2) rfl rfl rfl ?_
  refine r_aload_n (i := 466) (k0 := 3) rfl rfl rfl ?_
  refine r_iload_n (i := 467) (k0 := 0) rfl rfl rfl ?_
  refine r_iconst (v := 1) (i := 468) rfl ki_1 ?_
  refine r_iadd (i := 469) rfl ?_
  refine r_ialoadS (i := 470) rfl (hin 1 (by decide) (by decide)) ?_
  refine r_aload_n (i := 471) (k0 := 3) rfl rfl rfl ?_
  refine r_iload_n (i := 472) (k0 := 0) rfl rfl rfl ?_
  refine r_iconst (v := 2) (i := 473) rfl ki_2 ?_
  refine r_iadd (i := 474) rfl ?_
  refine r_ialoadS (i := 475) rfl (hin 2 (by decide) (by decide)) ?_
  refine c_V2F (i := 476) rfl vm_D_single lk_W_93 (t_D_single hn H) (by omega) (xm_in rfl hn) rfl rfl (Nat.le_of_ble_eq_true rfl) (fun p rp hrp hp => ?_)
  obtain ⟨hsc, hM⟩ := hp
  have hin := hin.kept hsc
  refine r_f2d (i := 477) rfl (fun d1 hd1 => ?_)
  refine r_dstore (i := 478) (Ls' := [(4, _), (3, _), (2, _), (1, _), (0, _)]) rfl (Nat.le_of_ble_eq_true rfl) rfl ?_
  refine r_aload_n (i := 479) (k0 := 2) rfl rfl rfl ?_
  refine r_aload_n (i := 480) (k0 := 4) rfl rfl rfl ?_
  refine r_iload_n (i := 481) (k0 := 1) rfl rfl rfl ?_
  refine r_iconst (v := 1) (i := 482) rfl ki_1 ?_
  refine r_iadd (i := 483) rfl ?_
  refine r_ialoadS (i := 484) rfl (hin 1 (by decide) (by decide)) ?_
  refine r_aload_n (i := 485) (k0 := 4) rfl rfl rfl ?_
  refine r_iload_n (i := 486) (k0 := 1) rfl rfl rfl ?_
  refine r_iconst (v := 2) (i := 487) rfl ki_2 ?_
  refine r_iadd (i := 488) rfl ?_
  refine r_ialoadS (i := 489) rfl (hin 2 (by decide) (by decide)) ?_
  simp only [hsc.1]
  refine c_V2F (i := 490) rfl vm_M_single lk_W_97 (t_M_single hn hM) (by omega) (xm_in rfl hn) rfl rfl (Nat.le_of_ble_eq_true rfl) (fun q rq hrq hq => ?_)
  refine r_f2d (i := 491) rfl (fun d2 hd2 => ?_)
  refine r_dstore (i := 492) (Ls' := [(6, _), (4, _), (3, _), (2, _), (1, _), (0, _)]) rfl (Nat.le_of_ble_eq_true rfl) rfl ?_
  obtain ⟨he, hG⟩ := hq
  rw [← he] at hrq
  have hal := xl_alike (xl_al3 hd1 hd2 (xl_f2d hrp hrq))
  have fin : xm_J d mt_W_law 823 [(6, .double d2), (4, .double d1), (3, .int i), (2, .ref 49), (1, .ref 0), (0, .ref 1000000)] [] (q.2.1, q.2.2, RC n, n) kc ks Q := by
    refine r_goto (i := 507) (tgt := 1371) rfl (by decide) ?_
    exact xm_sub (Ls' := xl_L i) [2, 3, 4, 5] rfl (kk _ _ _ hG)
  refine r_dload (i := 493) (k0 := 1) rfl rfl ?_
  refine r_dload (i := 494) (k0 := 0) rfl rfl ?_
  refine r_dcmp (i := 495) rfl ?_
  refine r_ifeq (i := 496) (tgt := 823) rfl (by decide) (fun _ => fin) (fun hc => ?_)
  refine r_dload (i := 497) (k0 := 1) rfl rfl ?_
  refine r_dload (i := 498) (k0 := 1) rfl rfl ?_
  refine r_dcmp (i := 499) rfl ?_
  refine r_ifeq (i := 500) (tgt := 821) rfl (by decide) (fun hc2 => ?_) (fun _ => ?_)
  · exfalso
    rcases hal with h1 | h1
    · rw [← h1] at hc
      exact hc hc2
    · rw [(h1 d1 d1).1] at hc2
      exact absurd hc2 (by decide)
  refine r_dload (i := 501) (k0 := 0) rfl rfl ?_
  refine r_dload (i := 502) (k0 := 0) rfl rfl ?_
  refine r_dcmp (i := 503) rfl ?_
  refine r_ifne (i := 504) (tgt := 823) rfl (by decide) (fun _ => fin) (fun hc2 => ?_)
  exfalso
  rcases hal with h1 | h1
  · rw [← h1] at hc hc2
    exact hc hc2
  · rw [(h1 d1 d2).2] at hc2
    exact absurd hc2 (by decide)
def sp_19 (I : xm_I) (L : xm_L) (n : Nat) (i : Int32) (G : xm_I → xm_L → Nat → Prop) : Prop := ok (f_D_solid (xl_a I i 1) (xl_a I i 2) n I) (fun p => xl_sc I p.2.1 ∧ 86 ≤ p.2.2 ∧ ok (f_M_solid (xl_a I i 1) (xl_a I i 2) p.2.1) (fun q => p.1 = q.1 ∧ G q.2 L p.2.2))
set_option maxHeartbeats 4000000 in
set_option maxRecDepth 100000 in
theorem law_19 {d kc ks n : Nat} {I : xm_I} {L : xm_L} {i : Int32} {Q : Option Value → xm_H → Prop} {G : xm_I → xm_L → Nat → Prop} (hd : 14 ≤ d) (hn : 86 ≤ n) (hn9 : n ≤ 900) (hz : Fz I L (RC n) n) (hin : xl_in I i) (H : sp_19 I L n i G) (kk : ∀ I' L' n', G I' L' n' → xm_J d mt_W_law 1371 (xl_L i) [] (I', L', RC n', n') kc ks Q) : xm_J d mt_W_law 826 (xl_L i) [] (I, L, RC n, n) (kc + 8) (ks + 221) Q := by
  unfold sp_19 at H
  refine r_aload_n (i := 508) (k0 := 2) rfl rfl rfl ?_
  refine r_aload_n (i := 509) (k0 := 3) rfl rfl rfl ?_
  refine r_iload_n (i := 510) (k0 := 0) rfl rfl rfl ?_
  refine r_iconst (v := 1) (i := 511) rfl ki_1 ?_
  refine r_iadd (i := 512) rfl ?_
  refine r_ialoadS (i := 513) rfl (hin 1 (by decide) (by decide)) ?_
  refine r_aload_n (i := 514) (k0 := 3) rfl rfl rfl ?_
  refine r_iload_n (i := 515) (k0 := 0) rfl rfl rfl ?_
  refine r_iconst (v := 2) (i := 516) rfl ki_2 ?_
  refine r_iadd (i := 517) rfl ?_
  refine r_ialoadS (i := 518) rfl (hin 2 (by decide) (by decide)) ?_
  refine r_callV (i := 519) (c := 11) (As := [.int _, .int _]) (rest := []) (mc := 8) (ms := 221) rfl ok_D_solid lk_W_98 vm_D_solid.2.2.choose_spec.2.1 vm_D_solid.2.2.choose_spec.2.2 vm_D_solid.2.2.choose_spec.1 (t_D_solid hn hn9 hz H) (by omega) (xm_in rfl hn) rfl (by decide) rfl (Nat.le_of_ble_eq_true rfl) rfl rfl (fun v h2 hq => ?_)
  obtain ⟨p, rfl, rfl, hp⟩ := hq
  obtain ⟨hsc, hn, hM⟩ := hp
  have hin := hin.kept hsc
  refine r_aload_n (i := 520) (k0 := 1) rfl rfl rfl ?_
  refine r_aload_n (i := 521) (k0 := 3) rfl rfl rfl ?_
  refine r_iload_n (i := 522) (k0 := 0) rfl rfl rfl ?_
  refine r_iconst (v := 1) (i := 523) rfl ki_1 ?_
  refine r_iadd (i := 524) rfl ?_
  refine r_ialoadS (i := 525) rfl (hin 1 (by decide) (by decide)) ?_
  refine r_aload_n (i := 526) (k0 := 3) rfl rfl rfl ?_
  refine r_iload_n (i := 527) (k0 := 0) rfl rfl rfl ?_
  refine r_iconst (v := 2) (i := 528) rfl ki_2 ?_
  refine r_iadd (i := 529) rfl ?_
  refine r_ialoadS (i := 530) rfl (hin 2 (by decide) (by decide)) ?_
  simp only [hsc.1]
  refine c_V2I (i := 531) rfl vm_M_solid lk_W_101 (t_M_solid hn hM) (by omega) (xm_in rfl hn) rfl rfl (Nat.le_of_ble_eq_true rfl) (fun q hq => ?_)
  obtain ⟨he, hG⟩ := hq
  refine r_icmpeq (i := 532) (tgt := 1371) rfl (by decide) (fun _ => kk _ _ _ hG) (fun hc => absurd he hc)
def sp_20 (I : xm_I) (L : xm_L) (n : Nat) (i : Int32) (G : xm_I → xm_L → Nat → Prop) : Prop := ok (f_D_vertex (xl_a I i 1) (xl_a I i 2) (xl_a I i 3) (xl_a I i 4) n I) (fun p => xl_sc I p.2 ∧ ok (f_M_vertex (xl_a I i 1) (xl_a I i 2) (xl_a I i 3) (xl_a I i 4) p.2) (fun q => p.1 = q.1 ∧ G q.2 L n))
set_option maxHeartbeats 4000000 in
set_option maxRecDepth 100000 in
theorem law_20 {d kc ks n : Nat} {I : xm_I} {L : xm_L} {i : Int32} {Q : Option Value → xm_H → Prop} {G : xm_I → xm_L → Nat → Prop} (hd : 14 ≤ d) (hn : 86 ≤ n) (hin : xl_in I i) (H : sp_20 I L n i G) (kk : ∀ I' L' n', G I' L' n' → xm_J d mt_W_law 1371 (xl_L i) [] (I', L', RC n', n') kc ks Q) : xm_J d mt_W_law 859 (xl_L i) [] (I, L, RC n, n) kc ks Q := by
  unfold sp_20 at H
  refine r_aload_n (i := 535) (k0 := 2) rfl rfl rfl ?_
  refine r_aload_n (i := 536) (k0 := 3) rfl rfl rfl ?_
  refine r_iload_n (i := 537) (k0 := 0) rfl rfl rfl ?_
  refine r_iconst (v := 1) (i := 538) rfl ki_1 ?_
  refine r_iadd (i := 539) rfl ?_
  refine r_ialoadS (i := 540) rfl (hin 1 (by decide) (by decide)) ?_
  refine r_aload_n (i := 541) (k0 := 3) rfl rfl rfl ?_
  refine r_iload_n (i := 542) (k0 := 0) rfl rfl rfl ?_
  refine r_iconst (v := 2) (i := 543) rfl ki_2 ?_
  refine r_iadd (i := 544) rfl ?_
  refine r_ialoadS (i := 545) rfl (hin 2 (by decide) (by decide)) ?_
  refine r_aload_n (i := 546) (k0 := 3) rfl rfl rfl ?_
  refine r_iload_n (i := 547) (k0 := 0) rfl rfl rfl ?_
  refine r_iconst (v := 3) (i := 548) rfl ki_3 ?_
  refine r_iadd (i := 549) rfl ?_
  refine r_ialoadS (i := 550) rfl (hin 3 (by decide) (by decide)) ?_
  refine r_aload_n (i := 551) (k0 := 3) rfl rfl rfl ?_
  refine r_iload_n (i := 552) (k0 := 0) rfl rfl rfl ?_
  refine r_iconst (v := 4) (i := 553) rfl ki_4 ?_
  refine r_iadd (i := 554) rfl ?_
  refine r_ialoadS (i := 555) rfl (hin 4 (by decide) (by decide)) ?_
  refine c_V4I (i := 556) rfl vm_D_vertex lk_W_102 (t_D_vertex hn H) (by omega) (xm_in rfl hn) rfl rfl (Nat.le_of_ble_eq_true rfl) (fun p hp => ?_)
  obtain ⟨hsc, hM⟩ := hp
  have hin := hin.kept hsc
  refine r_aload_n (i := 557) (k0 := 1) rfl rfl rfl ?_
  refine r_aload_n (i := 558) (k0 := 3) rfl rfl rfl ?_
  refine r_iload_n (i := 559) (k0 := 0) rfl rfl rfl ?_
  refine r_iconst (v := 1) (i := 560) rfl ki_1 ?_
  refine r_iadd (i := 561) rfl ?_
  refine r_ialoadS (i := 562) rfl (hin 1 (by decide) (by decide)) ?_
  refine r_aload_n (i := 563) (k0 := 3) rfl rfl rfl ?_
  refine r_iload_n (i := 564) (k0 := 0) rfl rfl rfl ?_
  refine r_iconst (v := 2) (i := 565) rfl ki_2 ?_
  refine r_iadd (i := 566) rfl ?_
  refine r_ialoadS (i := 567) rfl (hin 2 (by decide) (by decide)) ?_
  refine r_aload_n (i := 568) (k0 := 3) rfl rfl rfl ?_
  refine r_iload_n (i := 569) (k0 := 0) rfl rfl rfl ?_
  refine r_iconst (v := 3) (i := 570) rfl ki_3 ?_
  refine r_iadd (i := 571) rfl ?_
  refine r_ialoadS (i := 572) rfl (hin 3 (by decide) (by decide)) ?_
  refine r_aload_n (i := 573) (k0 := 3) rfl rfl rfl ?_
  refine r_iload_n (i := 574) (k0 := 0) rfl rfl rfl ?_
  refine r_iconst (v := 4) (i := 575) rfl ki_4 ?_
  refine r_iadd (i := 576) rfl ?_
  refine r_ialoadS (i := 577) rfl (hin 4 (by decide) (by decide)) ?_
  simp only [hsc.1]
  refine c_V4I (i := 578) rfl vm_M_vertex lk_W_105 (t_M_vertex hn hM) (by omega) (xm_in rfl hn) rfl rfl (Nat.le_of_ble_eq_true rfl) (fun q hq => ?_)
  obtain ⟨he, hG⟩ := hq
  refine r_icmpeq (i := 579) (tgt := 1371) rfl (by decide) (fun _ => kk _ _ _ hG) (fun hc => absurd he hc)
def sp_21 (I : xm_I) (L : xm_L) (n : Nat) (i : Int32) (G : xm_I → xm_L → Nat → Prop) : Prop := ok (f_D_face (xl_a I i 1) (xl_a I i 2) (xl_a I i 3) n I) (fun p => xl_sc I p.2 ∧ ok (f_M_face (xl_a I i 1) (xl_a I i 2) (xl_a I i 3) p.2) (fun q => p.1 = q.1 ∧ G q.2 L n))
set_option maxHeartbeats 4000000 in
set_option maxRecDepth 100000 in
theorem law_21 {d kc ks n : Nat} {I : xm_I} {L : xm_L} {i : Int32} {Q : Option Value → xm_H → Prop} {G : xm_I → xm_L → Nat → Prop} (hd : 14 ≤ d) (hn : 86 ≤ n) (hin : xl_in I i) (H : sp_21 I L n i G) (kk : ∀ I' L' n', G I' L' n' → xm_J d mt_W_law 1371 (xl_L i) [] (I', L', RC n', n') kc ks Q) : xm_J d mt_W_law 912 (xl_L i) [] (I, L, RC n, n) kc ks Q := by
  unfold sp_21 at H
  refine r_aload_n (i := 582) (k0 := 2) rfl rfl rfl ?_
  refine r_aload_n (i := 583) (k0 := 3) rfl rfl rfl ?_
  refine r_iload_n (i := 584) (k0 := 0) rfl rfl rfl ?_
  refine r_iconst (v := 1) (i := 585) rfl ki_1 ?_
  refine r_iadd (i := 586) rfl ?_
  refine r_ialoadS (i := 587) rfl (hin 1 (by decide) (by decide)) ?_
  refine r_aload_n (i := 588) (k0 := 3) rfl rfl rfl ?_
  refine r_iload_n (i := 589) (k0 := 0) rfl rfl rfl ?_
  refine r_iconst (v := 2) (i := 590) rfl ki_2 ?_
  refine r_iadd (i := 591) rfl ?_
  refine r_ialoadS (i := 592) rfl (hin 2 (by decide) (by decide)) ?_
  refine r_aload_n (i := 593) (k0 := 3) rfl rfl rfl ?_
  refine r_iload_n (i := 594) (k0 := 0) rfl rfl rfl ?_
  refine r_iconst (v := 3) (i := 595) rfl ki_3 ?_
  refine r_iadd (i := 596) rfl ?_
  refine r_ialoadS (i := 597) rfl (hin 3 (by decide) (by decide)) ?_
  refine c_V3I (i := 598) rfl vm_D_face lk_W_106 (t_D_face hn H) (by omega) (xm_in rfl hn) rfl rfl (Nat.le_of_ble_eq_true rfl) (fun p hp => ?_)
  obtain ⟨hsc, hM⟩ := hp
  have hin := hin.kept hsc
  refine r_aload_n (i := 599) (k0 := 1) rfl rfl rfl ?_
  refine r_aload_n (i := 600) (k0 := 3) rfl rfl rfl ?_
  refine r_iload_n (i := 601) (k0 := 0) rfl rfl rfl ?_
  refine r_iconst (v := 1) (i := 602) rfl ki_1 ?_
  refine r_iadd (i := 603) rfl ?_
  refine r_ialoadS (i := 604) rfl (hin 1 (by decide) (by decide)) ?_
  refine r_aload_n (i := 605) (k0 := 3) rfl rfl rfl ?_
  refine r_iload_n (i := 606) (k0 := 0) rfl rfl rfl ?_
  refine r_iconst (v := 2) (i := 607) rfl ki_2 ?_
  refine r_iadd (i := 608) rfl ?_
  refine r_ialoadS (i := 609) rfl (hin 2 (by decide) (by decide)) ?_
  refine r_aload_n (i := 610) (k0 := 3) rfl rfl rfl ?_
  refine r_iload_n (i := 611) (k0 := 0) rfl rfl rfl ?_
  refine r_iconst (v := 3) (i := 612) rfl ki_3 ?_
  refine r_iadd (i := 613) rfl ?_
  refine r_ialoadS (i := 614) rfl (hin 3 (by decide) (by decide)) ?_
  simp only [hsc.1]
  refine c_V3I (i := 615) rfl vm_M_face lk_W_109 (t_M_face hn hM) (by omega) (xm_in rfl hn) rfl rfl (Nat.le_of_ble_eq_true rfl) (fun q hq => ?_)
  obtain ⟨he, hG⟩ := hq
  refine r_icmpeq (i := 616) (tgt := 1371) rfl (by decide) (fun _ => kk _ _ _ hG) (fun hc => absurd he hc)
def sp_22 (I : xm_I) (L : xm_L) (n : Nat) (i : Int32) (G : xm_I → xm_L → Nat → Prop) : Prop := ok (f_D_view (xl_a I i 1) I) (fun p => xl_sc I p.2 ∧ ok (f_M_view (xl_a I i 1) p.2) (fun q => p.1 = q.1 ∧ G q.2 L n))
set_option maxHeartbeats 4000000 in
set_option maxRecDepth 100000 in
theorem law_22 {d kc ks n : Nat} {I : xm_I} {L : xm_L} {i : Int32} {Q : Option Value → xm_H → Prop} {G : xm_I → xm_L → Nat → Prop} (hd : 14 ≤ d) (hn : 86 ≤ n) (hin : xl_in I i) (H : sp_22 I L n i G) (kk : ∀ I' L' n', G I' L' n' → xm_J d mt_W_law 1371 (xl_L i) [] (I', L', RC n', n') kc ks Q) : xm_J d mt_W_law 955 (xl_L i) [] (I, L, RC n, n) kc ks Q := by
  unfold sp_22 at H
  refine r_aload_n (i := 619) (k0 := 2) rfl rfl rfl ?_
  refine r_aload_n (i := 620) (k0 := 3) rfl rfl rfl ?_
  refine r_iload_n (i := 621) (k0 := 0) rfl rfl rfl ?_
  refine r_iconst (v := 1) (i := 622) rfl ki_1 ?_
  refine r_iadd (i := 623) rfl ?_
  refine r_ialoadS (i := 624) rfl (hin 1 (by decide) (by decide)) ?_
  refine c_V1I (i := 625) rfl vm_D_view lk_W_110 (t_D_view hn H) (by omega) (xm_in rfl hn) rfl rfl (Nat.le_of_ble_eq_true rfl) (fun p hp => ?_)
  obtain ⟨hsc, hM⟩ := hp
  have hin := hin.kept hsc
  refine r_aload_n (i := 626) (k0 := 1) rfl rfl rfl ?_
  refine r_aload_n (i := 627) (k0 := 3) rfl rfl rfl ?_
  refine r_iload_n (i := 628) (k0 := 0) rfl rfl rfl ?_
  refine r_iconst (v := 1) (i := 629) rfl ki_1 ?_
  refine r_iadd (i := 630) rfl ?_
  refine r_ialoadS (i := 631) rfl (hin 1 (by decide) (by decide)) ?_
  simp only [hsc.1]
  refine c_V1I (i := 632) rfl vm_M_view lk_W_113 (t_M_view hn hM) (by omega) (xm_in rfl hn) rfl rfl (Nat.le_of_ble_eq_true rfl) (fun q hq => ?_)
  obtain ⟨he, hG⟩ := hq
  refine r_icmpeq (i := 633) (tgt := 1371) rfl (by decide) (fun _ => kk _ _ _ hG) (fun hc => absurd he hc)
def sp_23 (I : xm_I) (L : xm_L) (n : Nat) (i : Int32) (G : xm_I → xm_L → Nat → Prop) : Prop := ok (f_D_edge (xl_a I i 1) (xl_a I i 2) (xl_a I i 3) n I) (fun p => ok (f_M_edge (xl_a I i 1) (xl_a I i 2) (xl_a I i 3) I) (fun q => p = q.1 ∧ G q.2 L n))
set_option maxHeartbeats 4000000 in
set_option maxRecDepth 100000 in
theorem law_23 {d kc ks n : Nat} {I : xm_I} {L : xm_L} {i : Int32} {Q : Option Value → xm_H → Prop} {G : xm_I → xm_L → Nat → Prop} (hd : 14 ≤ d) (hn : 86 ≤ n) (hin : xl_in I i) (H : sp_23 I L n i G) (kk : ∀ I' L' n', G I' L' n' → xm_J d mt_W_law 1371 (xl_L i) [] (I', L', RC n', n') kc ks Q) : xm_J d mt_W_law 978 (xl_L i) [] (I, L, RC n, n) kc ks Q := by
  unfold sp_23 at H
  refine r_aload_n (i := 636) (k0 := 2) rfl rfl rfl ?_
  refine r_aload_n (i := 637) (k0 := 3) rfl rfl rfl ?_
  refine r_iload_n (i := 638) (k0 := 0) rfl rfl rfl ?_
  refine r_iconst (v := 1) (i := 639) rfl ki_1 ?_
  refine r_iadd (i := 640) rfl ?_
  refine r_ialoadS (i := 641) rfl (hin 1 (by decide) (by decide)) ?_
  refine r_aload_n (i := 642) (k0 := 3) rfl rfl rfl ?_
  refine r_iload_n (i := 643) (k0 := 0) rfl rfl rfl ?_
  refine r_iconst (v := 2) (i := 644) rfl ki_2 ?_
  refine r_iadd (i := 645) rfl ?_
  refine r_ialoadS (i := 646) rfl (hin 2 (by decide) (by decide)) ?_
  refine r_aload_n (i := 647) (k0 := 3) rfl rfl rfl ?_
  refine r_iload_n (i := 648) (k0 := 0) rfl rfl rfl ?_
  refine r_iconst (v := 3) (i := 649) rfl ki_3 ?_
  refine r_iadd (i := 650) rfl ?_
  refine r_ialoadS (i := 651) rfl (hin 3 (by decide) (by decide)) ?_
  refine c_V3I (i := 652) rfl vm_D_edge lk_W_114 (t_D_edge hn H) (by omega) (xm_in rfl hn) rfl rfl (Nat.le_of_ble_eq_true rfl) (fun p hp => ?_)
  have hM := hp
  refine r_aload_n (i := 653) (k0 := 1) rfl rfl rfl ?_
  refine r_aload_n (i := 654) (k0 := 3) rfl rfl rfl ?_
  refine r_iload_n (i := 655) (k0 := 0) rfl rfl rfl ?_
  refine r_iconst (v := 1) (i := 656) rfl ki_1 ?_
  refine r_iadd (i := 657) rfl ?_
  refine r_ialoadS (i := 658) rfl (hin 1 (by decide) (by decide)) ?_
  refine r_aload_n (i := 659) (k0 := 3) rfl rfl rfl ?_
  refine r_iload_n (i := 660) (k0 := 0) rfl rfl rfl ?_
  refine r_iconst (v := 2) (i := 661) rfl ki_2 ?_
  refine r_iadd (i := 662) rfl ?_
  refine r_ialoadS (i := 663) rfl (hin 2 (by decide) (by decide)) ?_
  refine r_aload_n (i := 664) (k0 := 3) rfl rfl rfl ?_
  refine r_iload_n (i := 665) (k0 := 0) rfl rfl rfl ?_
  refine r_iconst (v := 3) (i := 666) rfl ki_3 ?_
  refine r_iadd (i := 667) rfl ?_
  refine r_ialoadS (i := 668) rfl (hin 3 (by decide) (by decide)) ?_
  refine c_V3I (i := 669) rfl vm_M_edge lk_W_117 (t_M_edge hn hM) (by omega) (xm_in rfl hn) rfl rfl (Nat.le_of_ble_eq_true rfl) (fun q hq => ?_)
  obtain ⟨he, hG⟩ := hq
  refine r_icmpeq (i := 670) (tgt := 1371) rfl (by decide) (fun _ => kk _ _ _ hG) (fun hc => absurd he hc)
def sp_24 (I : xm_I) (L : xm_L) (n : Nat) (i : Int32) (G : xm_I → xm_L → Nat → Prop) : Prop := ok (f_D_label (xl_a I i 1) (xl_a I i 2) I) (fun p => xl_sc I p.2 ∧ ok (f_M_label (xl_a I i 1) (xl_a I i 2) p.2) (fun q => p.1 = q.1 ∧ G q.2 L n))
set_option maxHeartbeats 4000000 in
set_option maxRecDepth 100000 in
theorem law_24 {d kc ks n : Nat} {I : xm_I} {L : xm_L} {i : Int32} {Q : Option Value → xm_H → Prop} {G : xm_I → xm_L → Nat → Prop} (hd : 14 ≤ d) (hn : 86 ≤ n) (hin : xl_in I i) (H : sp_24 I L n i G) (kk : ∀ I' L' n', G I' L' n' → xm_J d mt_W_law 1371 (xl_L i) [] (I', L', RC n', n') kc ks Q) : xm_J d mt_W_law 1021 (xl_L i) [] (I, L, RC n, n) kc ks Q := by
  unfold sp_24 at H
  refine r_aload_n (i := 673) (k0 := 2) rfl rfl rfl ?_
  refine r_aload_n (i := 674) (k0 := 3) rfl rfl rfl ?_
  refine r_iload_n (i := 675) (k0 := 0) rfl rfl rfl ?_
  refine r_iconst (v := 1) (i := 676) rfl ki_1 ?_
  refine r_iadd (i := 677) rfl ?_
  refine r_ialoadS (i := 678) rfl (hin 1 (by decide) (by decide)) ?_
  refine r_aload_n (i := 679) (k0 := 3) rfl rfl rfl ?_
  refine r_iload_n (i := 680) (k0 := 0) rfl rfl rfl ?_
  refine r_iconst (v := 2) (i := 681) rfl ki_2 ?_
  refine r_iadd (i := 682) rfl ?_
  refine r_ialoadS (i := 683) rfl (hin 2 (by decide) (by decide)) ?_
  refine c_V2I (i := 684) rfl vm_D_label lk_W_118 (t_D_label hn H) (by omega) (xm_in rfl hn) rfl rfl (Nat.le_of_ble_eq_true rfl) (fun p hp => ?_)
  obtain ⟨hsc, hM⟩ := hp
  have hin := hin.kept hsc
  refine r_aload_n (i := 685) (k0 := 1) rfl rfl rfl ?_
  refine r_aload_n (i := 686) (k0 := 3) rfl rfl rfl ?_
  refine r_iload_n (i := 687) (k0 := 0) rfl rfl rfl ?_
  refine r_iconst (v := 1) (i := 688) rfl ki_1 ?_
  refine r_iadd (i := 689) rfl ?_
  refine r_ialoadS (i := 690) rfl (hin 1 (by decide) (by decide)) ?_
  refine r_aload_n (i := 691) (k0 := 3) rfl rfl rfl ?_
  refine r_iload_n (i := 692) (k0 := 0) rfl rfl rfl ?_
  refine r_iconst (v := 2) (i := 693) rfl ki_2 ?_
  refine r_iadd (i := 694) rfl ?_
  refine r_ialoadS (i := 695) rfl (hin 2 (by decide) (by decide)) ?_
  simp only [hsc.1]
  refine c_V2I (i := 696) rfl vm_M_label lk_W_121 (t_M_label hn hM) (by omega) (xm_in rfl hn) rfl rfl (Nat.le_of_ble_eq_true rfl) (fun q hq => ?_)
  obtain ⟨he, hG⟩ := hq
  refine r_icmpeq (i := 697) (tgt := 1371) rfl (by decide) (fun _ => kk _ _ _ hG) (fun hc => absurd he hc)
def sp_25 (I : xm_I) (L : xm_L) (n : Nat) (i : Int32) (G : xm_I → xm_L → Nat → Prop) : Prop := ok (f_D_draw n I L) (fun p => xl_sc I p.2.1 ∧ ok (f_M_draw p.2.1 p.2.2) (fun q => p.1 = q.1 ∧ G q.2.1 q.2.2 n))
set_option maxHeartbeats 4000000 in
set_option maxRecDepth 100000 in
theorem law_25 {d kc ks n : Nat} {I : xm_I} {L : xm_L} {i : Int32} {Q : Option Value → xm_H → Prop} {G : xm_I → xm_L → Nat → Prop} (hd : 14 ≤ d) (hn : 86 ≤ n) (hin : xl_in I i) (H : sp_25 I L n i G) (kk : ∀ I' L' n', G I' L' n' → xm_J d mt_W_law 1371 (xl_L i) [] (I', L', RC n', n') kc ks Q) : xm_J d mt_W_law 1054 (xl_L i) [] (I, L, RC n, n) kc ks Q := by
  unfold sp_25 at H
  refine r_aload_n (i := 700) (k0 := 2) rfl rfl rfl ?_
  refine c_V0I (i := 701) rfl vm_D_draw lk_W_122 (t_D_draw hn H) (by omega) (xm_in rfl hn) rfl rfl (Nat.le_of_ble_eq_true rfl) (fun p hp => ?_)
  obtain ⟨hsc, hM⟩ := hp
  have hin := hin.kept hsc
  refine r_aload_n (i := 702) (k0 := 1) rfl rfl rfl ?_
  skip
  refine c_V0I (i := 703) rfl vm_M_draw lk_W_125 (t_M_draw hn hM) (by omega) (xm_in rfl hn) rfl rfl (Nat.le_of_ble_eq_true rfl) (fun q hq => ?_)
  obtain ⟨he, hG⟩ := hq
  refine r_icmpeq (i := 704) (tgt := 1371) rfl (by decide) (fun _ => kk _ _ _ hG) (fun hc => absurd he hc)
def sp_26 (I : xm_I) (L : xm_L) (n : Nat) (i : Int32) (G : xm_I → xm_L → Nat → Prop) : Prop := ok (f_D_mark (xl_a I i 1) (xl_a I i 2) I) (fun p => ok (f_M_mark (xl_a I i 1) (xl_a I i 2) I) (fun q => p = q ∧ G I L n))
set_option maxHeartbeats 4000000 in
set_option maxRecDepth 100000 in
theorem law_26 {d kc ks n : Nat} {I : xm_I} {L : xm_L} {i : Int32} {Q : Option Value → xm_H → Prop} {G : xm_I → xm_L → Nat → Prop} (hd : 14 ≤ d) (hn : 86 ≤ n) (hin : xl_in I i) (H : sp_26 I L n i G) (kk : ∀ I' L' n', G I' L' n' → xm_J d mt_W_law 1371 (xl_L i) [] (I', L', RC n', n') kc ks Q) : xm_J d mt_W_law 1067 (xl_L i) [] (I, L, RC n, n) kc ks Q := by
  unfold sp_26 at H
  refine r_aload_n (i := 707) (k0 := 2) rfl rfl rfl ?_
  refine r_aload_n (i := 708) (k0 := 3) rfl rfl rfl ?_
  refine r_iload_n (i := 709) (k0 := 0) rfl rfl rfl ?_
  refine r_iconst (v := 1) (i := 710) rfl ki_1 ?_
  refine r_iadd (i := 711) rfl ?_
  refine r_ialoadS (i := 712) rfl (hin 1 (by decide) (by decide)) ?_
  refine r_aload_n (i := 713) (k0 := 3) rfl rfl rfl ?_
  refine r_iload_n (i := 714) (k0 := 0) rfl rfl rfl ?_
  refine r_iconst (v := 2) (i := 715) rfl ki_2 ?_
  refine r_iadd (i := 716) rfl ?_
  refine r_ialoadS (i := 717) rfl (hin 2 (by decide) (by decide)) ?_
  refine c_V2I (i := 718) rfl vm_D_mark lk_W_126 (t_D_mark hn H) (by omega) (xm_in rfl hn) rfl rfl (Nat.le_of_ble_eq_true rfl) (fun p hp => ?_)
  have hM := hp
  refine r_aload_n (i := 719) (k0 := 1) rfl rfl rfl ?_
  refine r_aload_n (i := 720) (k0 := 3) rfl rfl rfl ?_
  refine r_iload_n (i := 721) (k0 := 0) rfl rfl rfl ?_
  refine r_iconst (v := 1) (i := 722) rfl ki_1 ?_
  refine r_iadd (i := 723) rfl ?_
  refine r_ialoadS (i := 724) rfl (hin 1 (by decide) (by decide)) ?_
  refine r_aload_n (i := 725) (k0 := 3) rfl rfl rfl ?_
  refine r_iload_n (i := 726) (k0 := 0) rfl rfl rfl ?_
  refine r_iconst (v := 2) (i := 727) rfl ki_2 ?_
  refine r_iadd (i := 728) rfl ?_
  refine r_ialoadS (i := 729) rfl (hin 2 (by decide) (by decide)) ?_
  refine c_V2I (i := 730) rfl vm_M_mark lk_W_129 (t_M_mark hn hM) (by omega) (xm_in rfl hn) rfl rfl (Nat.le_of_ble_eq_true rfl) (fun q hq => ?_)
  obtain ⟨he, hG⟩ := hq
  refine r_icmpeq (i := 731) (tgt := 1371) rfl (by decide) (fun _ => kk _ _ _ hG) (fun hc => absurd he hc)
def sp_27 (I : xm_I) (L : xm_L) (n : Nat) (i : Int32) (G : xm_I → xm_L → Nat → Prop) : Prop := ok (f_D_placed (xl_a I i 1) I) (fun p => ok (f_M_placed (xl_a I i 1) I) (fun q => p = q ∧ G I L n))
set_option maxHeartbeats 4000000 in
set_option maxRecDepth 100000 in
theorem law_27 {d kc ks n : Nat} {I : xm_I} {L : xm_L} {i : Int32} {Q : Option Value → xm_H → Prop} {G : xm_I → xm_L → Nat → Prop} (hd : 14 ≤ d) (hn : 86 ≤ n) (hin : xl_in I i) (H : sp_27 I L n i G) (kk : ∀ I' L' n', G I' L' n' → xm_J d mt_W_law 1371 (xl_L i) [] (I', L', RC n', n') kc ks Q) : xm_J d mt_W_law 1100 (xl_L i) [] (I, L, RC n, n) kc ks Q := by
  unfold sp_27 at H
  refine r_aload_n (i := 734) (k0 := 2) rfl rfl rfl ?_
  refine r_aload_n (i := 735) (k0 := 3) rfl rfl rfl ?_
  refine r_iload_n (i := 736) (k0 := 0) rfl rfl rfl ?_
  refine r_iconst (v := 1) (i := 737) rfl ki_1 ?_
  refine r_iadd (i := 738) rfl ?_
  refine r_ialoadS (i := 739) rfl (hin 1 (by decide) (by decide)) ?_
  refine c_V1I (i := 740) rfl vm_D_placed lk_W_130 (t_D_placed hn H) (by omega) (xm_in rfl hn) rfl rfl (Nat.le_of_ble_eq_true rfl) (fun p hp => ?_)
  have hM := hp
  refine r_aload_n (i := 741) (k0 := 1) rfl rfl rfl ?_
  refine r_aload_n (i := 742) (k0 := 3) rfl rfl rfl ?_
  refine r_iload_n (i := 743) (k0 := 0) rfl rfl rfl ?_
  refine r_iconst (v := 1) (i := 744) rfl ki_1 ?_
  refine r_iadd (i := 745) rfl ?_
  refine r_ialoadS (i := 746) rfl (hin 1 (by decide) (by decide)) ?_
  refine c_V1I (i := 747) rfl vm_M_placed lk_W_133 (t_M_placed hn hM) (by omega) (xm_in rfl hn) rfl rfl (Nat.le_of_ble_eq_true rfl) (fun q hq => ?_)
  obtain ⟨he, hG⟩ := hq
  refine r_icmpeq (i := 748) (tgt := 1371) rfl (by decide) (fun _ => kk _ _ _ hG) (fun hc => absurd he hc)
def sp_28 (I : xm_I) (L : xm_L) (n : Nat) (i : Int32) (G : xm_I → xm_L → Nat → Prop) : Prop := ok (f_D_octet (xl_a I i 1) I) (fun p => xl_sc I p.2 ∧ ok (f_M_octet (xl_a I i 1) p.2) (fun q => p.1 = q ∧ G p.2 L n))
set_option maxHeartbeats 4000000 in
set_option maxRecDepth 100000 in
theorem law_28 {d kc ks n : Nat} {I : xm_I} {L : xm_L} {i : Int32} {Q : Option Value → xm_H → Prop} {G : xm_I → xm_L → Nat → Prop} (hd : 14 ≤ d) (hn : 86 ≤ n) (hin : xl_in I i) (H : sp_28 I L n i G) (kk : ∀ I' L' n', G I' L' n' → xm_J d mt_W_law 1371 (xl_L i) [] (I', L', RC n', n') kc ks Q) : xm_J d mt_W_law 1123 (xl_L i) [] (I, L, RC n, n) kc ks Q := by
  unfold sp_28 at H
  refine r_aload_n (i := 751) (k0 := 2) rfl rfl rfl ?_
  refine r_aload_n (i := 752) (k0 := 3) rfl rfl rfl ?_
  refine r_iload_n (i := 753) (k0 := 0) rfl rfl rfl ?_
  refine r_iconst (v := 1) (i := 754) rfl ki_1 ?_
  refine r_iadd (i := 755) rfl ?_
  refine r_ialoadS (i := 756) rfl (hin 1 (by decide) (by decide)) ?_
  refine c_V1I (i := 757) rfl vm_D_octet lk_W_134 (t_D_octet hn H) (by omega) (xm_in rfl hn) rfl rfl (Nat.le_of_ble_eq_true rfl) (fun p hp => ?_)
  obtain ⟨hsc, hM⟩ := hp
  have hin := hin.kept hsc
  refine r_aload_n (i := 758) (k0 := 1) rfl rfl rfl ?_
  refine r_aload_n (i := 759) (k0 := 3) rfl rfl rfl ?_
  refine r_iload_n (i := 760) (k0 := 0) rfl rfl rfl ?_
  refine r_iconst (v := 1) (i := 761) rfl ki_1 ?_
  refine r_iadd (i := 762) rfl ?_
  refine r_ialoadS (i := 763) rfl (hin 1 (by decide) (by decide)) ?_
  simp only [hsc.1]
  refine c_V1I (i := 764) rfl vm_M_octet lk_W_137 (t_M_octet hn hM) (by omega) (xm_in rfl hn) rfl rfl (Nat.le_of_ble_eq_true rfl) (fun q hq => ?_)
  obtain ⟨he, hG⟩ := hq
  refine r_icmpeq (i := 765) (tgt := 1371) rfl (by decide) (fun _ => kk _ _ _ hG) (fun hc => absurd he hc)
def sp_29 (I : xm_I) (L : xm_L) (n : Nat) (i : Int32) (G : xm_I → xm_L → Nat → Prop) : Prop := ok (f_D_digest I) (fun p => ok (f_M_digest I) (fun q => p = q ∧ G I L n))
set_option maxHeartbeats 4000000 in
set_option maxRecDepth 100000 in
theorem law_29 {d kc ks n : Nat} {I : xm_I} {L : xm_L} {i : Int32} {Q : Option Value → xm_H → Prop} {G : xm_I → xm_L → Nat → Prop} (hd : 14 ≤ d) (hn : 86 ≤ n) (hin : xl_in I i) (H : sp_29 I L n i G) (kk : ∀ I' L' n', G I' L' n' → xm_J d mt_W_law 1371 (xl_L i) [] (I', L', RC n', n') kc ks Q) : xm_J d mt_W_law 1146 (xl_L i) [] (I, L, RC n, n) kc ks Q := by
  unfold sp_29 at H
  refine r_aload_n (i := 768) (k0 := 2) rfl rfl rfl ?_
  refine c_V0I (i := 769) rfl vm_D_digest lk_W_138 (t_D_digest hn H) (by omega) (xm_in rfl hn) rfl rfl (Nat.le_of_ble_eq_true rfl) (fun p hp => ?_)
  have hM := hp
  refine r_aload_n (i := 770) (k0 := 1) rfl rfl rfl ?_
  refine c_V0I (i := 771) rfl vm_M_digest lk_W_141 (t_M_digest hn hM) (by omega) (xm_in rfl hn) rfl rfl (Nat.le_of_ble_eq_true rfl) (fun q hq => ?_)
  obtain ⟨he, hG⟩ := hq
  refine r_icmpeq (i := 772) (tgt := 1371) rfl (by decide) (fun _ => kk _ _ _ hG) (fun hc => absurd he hc)
def sp_30 (I : xm_I) (L : xm_L) (n : Nat) (i : Int32) (G : xm_I → xm_L → Nat → Prop) : Prop := ok (f_D_count (xl_a I i 1) I) (fun p => ok (f_M_count (xl_a I i 1) I) (fun q => p = q ∧ G I L n))
set_option maxHeartbeats 4000000 in
set_option maxRecDepth 100000 in
theorem law_30 {d kc ks n : Nat} {I : xm_I} {L : xm_L} {i : Int32} {Q : Option Value → xm_H → Prop} {G : xm_I → xm_L → Nat → Prop} (hd : 14 ≤ d) (hn : 86 ≤ n) (hin : xl_in I i) (H : sp_30 I L n i G) (kk : ∀ I' L' n', G I' L' n' → xm_J d mt_W_law 1371 (xl_L i) [] (I', L', RC n', n') kc ks Q) : xm_J d mt_W_law 1159 (xl_L i) [] (I, L, RC n, n) kc ks Q := by
  unfold sp_30 at H
  refine r_aload_n (i := 775) (k0 := 2) rfl rfl rfl ?_
  refine r_aload_n (i := 776) (k0 := 3) rfl rfl rfl ?_
  refine r_iload_n (i := 777) (k0 := 0) rfl rfl rfl ?_
  refine r_iconst (v := 1) (i := 778) rfl ki_1 ?_
  refine r_iadd (i := 779) rfl ?_
  refine r_ialoadS (i := 780) rfl (hin 1 (by decide) (by decide)) ?_
  refine c_V1I (i := 781) rfl vm_D_count lk_W_142 (t_D_count hn H) (by omega) (xm_in rfl hn) rfl rfl (Nat.le_of_ble_eq_true rfl) (fun p hp => ?_)
  have hM := hp
  refine r_aload_n (i := 782) (k0 := 1) rfl rfl rfl ?_
  refine r_aload_n (i := 783) (k0 := 3) rfl rfl rfl ?_
  refine r_iload_n (i := 784) (k0 := 0) rfl rfl rfl ?_
  refine r_iconst (v := 1) (i := 785) rfl ki_1 ?_
  refine r_iadd (i := 786) rfl ?_
  refine r_ialoadS (i := 787) rfl (hin 1 (by decide) (by decide)) ?_
  refine c_V1I (i := 788) rfl vm_M_count lk_W_145 (t_M_count hn hM) (by omega) (xm_in rfl hn) rfl rfl (Nat.le_of_ble_eq_true rfl) (fun q hq => ?_)
  obtain ⟨he, hG⟩ := hq
  refine r_icmpeq (i := 789) (tgt := 1371) rfl (by decide) (fun _ => kk _ _ _ hG) (fun hc => absurd he hc)
def sp_31 (I : xm_I) (L : xm_L) (n : Nat) (i : Int32) (G : xm_I → xm_L → Nat → Prop) : Prop := ok (f_D_code I) (fun p => ok (f_M_code I) (fun q => p = q ∧ G I L n))
set_option maxHeartbeats 4000000 in
set_option maxRecDepth 100000 in
theorem law_31 {d kc ks n : Nat} {I : xm_I} {L : xm_L} {i : Int32} {Q : Option Value → xm_H → Prop} {G : xm_I → xm_L → Nat → Prop} (hd : 14 ≤ d) (hn : 86 ≤ n) (hin : xl_in I i) (H : sp_31 I L n i G) (kk : ∀ I' L' n', G I' L' n' → xm_J d mt_W_law 1371 (xl_L i) [] (I', L', RC n', n') kc ks Q) : xm_J d mt_W_law 1182 (xl_L i) [] (I, L, RC n, n) kc ks Q := by
  unfold sp_31 at H
  refine r_aload_n (i := 792) (k0 := 2) rfl rfl rfl ?_
  refine c_V0I (i := 793) rfl vm_D_code lk_W_146 (t_D_code hn H) (by omega) (xm_in rfl hn) rfl rfl (Nat.le_of_ble_eq_true rfl) (fun p hp => ?_)
  have hM := hp
  refine r_aload_n (i := 794) (k0 := 1) rfl rfl rfl ?_
  refine c_V0I (i := 795) rfl vm_M_code lk_W_149 (t_M_code hn hM) (by omega) (xm_in rfl hn) rfl rfl (Nat.le_of_ble_eq_true rfl) (fun q hq => ?_)
  obtain ⟨he, hG⟩ := hq
  refine r_icmpeq (i := 796) (tgt := 1371) rfl (by decide) (fun _ => kk _ _ _ hG) (fun hc => absurd he hc)
def sp_32 (I : xm_I) (L : xm_L) (n : Nat) (i : Int32) (G : xm_I → xm_L → Nat → Prop) : Prop := ok (f_D_group (xl_a I i 1) (xl_a I i 2) (xl_a I i 3) I) (fun p => xl_sc I p.2 ∧ ok (f_M_group (xl_a I i 1) (xl_a I i 2) (xl_a I i 3) p.2) (fun q => p.1 = q.1 ∧ G q.2 L n))
set_option maxHeartbeats 4000000 in
set_option maxRecDepth 100000 in
theorem law_32 {d kc ks n : Nat} {I : xm_I} {L : xm_L} {i : Int32} {Q : Option Value → xm_H → Prop} {G : xm_I → xm_L → Nat → Prop} (hd : 14 ≤ d) (hn : 86 ≤ n) (hin : xl_in I i) (H : sp_32 I L n i G) (kk : ∀ I' L' n', G I' L' n' → xm_J d mt_W_law 1371 (xl_L i) [] (I', L', RC n', n') kc ks Q) : xm_J d mt_W_law 1195 (xl_L i) [] (I, L, RC n, n) kc ks Q := by
  unfold sp_32 at H
  refine r_aload_n (i := 799) (k0 := 2) rfl rfl rfl ?_
  refine r_aload_n (i := 800) (k0 := 3) rfl rfl rfl ?_
  refine r_iload_n (i := 801) (k0 := 0) rfl rfl rfl ?_
  refine r_iconst (v := 1) (i := 802) rfl ki_1 ?_
  refine r_iadd (i := 803) rfl ?_
  refine r_ialoadS (i := 804) rfl (hin 1 (by decide) (by decide)) ?_
  refine r_aload_n (i := 805) (k0 := 3) rfl rfl rfl ?_
  refine r_iload_n (i := 806) (k0 := 0) rfl rfl rfl ?_
  refine r_iconst (v := 2) (i := 807) rfl ki_2 ?_
  refine r_iadd (i := 808) rfl ?_
  refine r_ialoadS (i := 809) rfl (hin 2 (by decide) (by decide)) ?_
  refine r_aload_n (i := 810) (k0 := 3) rfl rfl rfl ?_
  refine r_iload_n (i := 811) (k0 := 0) rfl rfl rfl ?_
  refine r_iconst (v := 3) (i := 812) rfl ki_3 ?_
  refine r_iadd (i := 813) rfl ?_
  refine r_ialoadS (i := 814) rfl (hin 3 (by decide) (by decide)) ?_
  refine c_V3I (i := 815) rfl vm_D_group lk_W_150 (t_D_group hn H) (by omega) (xm_in rfl hn) rfl rfl (Nat.le_of_ble_eq_true rfl) (fun p hp => ?_)
  obtain ⟨hsc, hM⟩ := hp
  have hin := hin.kept hsc
  refine r_aload_n (i := 816) (k0 := 1) rfl rfl rfl ?_
  refine r_aload_n (i := 817) (k0 := 3) rfl rfl rfl ?_
  refine r_iload_n (i := 818) (k0 := 0) rfl rfl rfl ?_
  refine r_iconst (v := 1) (i := 819) rfl ki_1 ?_
  refine r_iadd (i := 820) rfl ?_
  refine r_ialoadS (i := 821) rfl (hin 1 (by decide) (by decide)) ?_
  refine r_aload_n (i := 822) (k0 := 3) rfl rfl rfl ?_
  refine r_iload_n (i := 823) (k0 := 0) rfl rfl rfl ?_
  refine r_iconst (v := 2) (i := 824) rfl ki_2 ?_
  refine r_iadd (i := 825) rfl ?_
  refine r_ialoadS (i := 826) rfl (hin 2 (by decide) (by decide)) ?_
  refine r_aload_n (i := 827) (k0 := 3) rfl rfl rfl ?_
  refine r_iload_n (i := 828) (k0 := 0) rfl rfl rfl ?_
  refine r_iconst (v := 3) (i := 829) rfl ki_3 ?_
  refine r_iadd (i := 830) rfl ?_
  refine r_ialoadS (i := 831) rfl (hin 3 (by decide) (by decide)) ?_
  simp only [hsc.1]
  refine c_V3I (i := 832) rfl vm_M_group lk_W_153 (t_M_group hn hM) (by omega) (xm_in rfl hn) rfl rfl (Nat.le_of_ble_eq_true rfl) (fun q hq => ?_)
  obtain ⟨he, hG⟩ := hq
  refine r_icmpeq (i := 833) (tgt := 1371) rfl (by decide) (fun _ => kk _ _ _ hG) (fun hc => absurd he hc)
def sp_33 (I : xm_I) (L : xm_L) (n : Nat) (i : Int32) (G : xm_I → xm_L → Nat → Prop) : Prop := ok (f_D_put (xl_a I i 1) (xl_a I i 2) (xl_a I i 3) I) (fun p => xl_sc I p.2 ∧ ok (f_M_put (xl_a I i 1) (xl_a I i 2) (xl_a I i 3) p.2) (fun q => p.1 = q.1 ∧ G q.2 L n))
set_option maxHeartbeats 4000000 in
set_option maxRecDepth 100000 in
theorem law_33 {d kc ks n : Nat} {I : xm_I} {L : xm_L} {i : Int32} {Q : Option Value → xm_H → Prop} {G : xm_I → xm_L → Nat → Prop} (hd : 14 ≤ d) (hn : 86 ≤ n) (hin : xl_in I i) (H : sp_33 I L n i G) (kk : ∀ I' L' n', G I' L' n' → xm_J d mt_W_law 1371 (xl_L i) [] (I', L', RC n', n') kc ks Q) : xm_J d mt_W_law 1238 (xl_L i) [] (I, L, RC n, n) kc ks Q := by
  unfold sp_33 at H
  refine r_aload_n (i := 836) (k0 := 2) rfl rfl rfl ?_
  refine r_aload_n (i := 837) (k0 := 3) rfl rfl rfl ?_
  refine r_iload_n (i := 838) (k0 := 0) rfl rfl rfl ?_
  refine r_iconst (v := 1) (i := 839) rfl ki_1 ?_
  refine r_iadd (i := 840) rfl ?_
  refine r_ialoadS (i := 841) rfl (hin 1 (by decide) (by decide)) ?_
  refine r_aload_n (i := 842) (k0 := 3) rfl rfl rfl ?_
  refine r_iload_n (i := 843) (k0 := 0) rfl rfl rfl ?_
  refine r_iconst (v := 2) (i := 844) rfl ki_2 ?_
  refine r_iadd (i := 845) rfl ?_
  refine r_ialoadS (i := 846) rfl (hin 2 (by decide) (by decide)) ?_
  refine r_aload_n (i := 847) (k0 := 3) rfl rfl rfl ?_
  refine r_iload_n (i := 848) (k0 := 0) rfl rfl rfl ?_
  refine r_iconst (v := 3) (i := 849) rfl ki_3 ?_
  refine r_iadd (i := 850) rfl ?_
  refine r_ialoadS (i := 851) rfl (hin 3 (by decide) (by decide)) ?_
  refine c_V3I (i := 852) rfl vm_D_put lk_W_154 (t_D_put hn H) (by omega) (xm_in rfl hn) rfl rfl (Nat.le_of_ble_eq_true rfl) (fun p hp => ?_)
  obtain ⟨hsc, hM⟩ := hp
  have hin := hin.kept hsc
  refine r_aload_n (i := 853) (k0 := 1) rfl rfl rfl ?_
  refine r_aload_n (i := 854) (k0 := 3) rfl rfl rfl ?_
  refine r_iload_n (i := 855) (k0 := 0) rfl rfl rfl ?_
  refine r_iconst (v := 1) (i := 856) rfl ki_1 ?_
  refine r_iadd (i := 857) rfl ?_
  refine r_ialoadS (i := 858) rfl (hin 1 (by decide) (by decide)) ?_
  refine r_aload_n (i := 859) (k0 := 3) rfl rfl rfl ?_
  refine r_iload_n (i := 860) (k0 := 0) rfl rfl rfl ?_
  refine r_iconst (v := 2) (i := 861) rfl ki_2 ?_
  refine r_iadd (i := 862) rfl ?_
  refine r_ialoadS (i := 863) rfl (hin 2 (by decide) (by decide)) ?_
  refine r_aload_n (i := 864) (k0 := 3) rfl rfl rfl ?_
  refine r_iload_n (i := 865) (k0 := 0) rfl rfl rfl ?_
  refine r_iconst (v := 3) (i := 866) rfl ki_3 ?_
  refine r_iadd (i := 867) rfl ?_
  refine r_ialoadS (i := 868) rfl (hin 3 (by decide) (by decide)) ?_
  simp only [hsc.1]
  refine c_V3I (i := 869) rfl vm_M_put lk_W_157 (t_M_put hn hM) (by omega) (xm_in rfl hn) rfl rfl (Nat.le_of_ble_eq_true rfl) (fun q hq => ?_)
  obtain ⟨he, hG⟩ := hq
  refine r_icmpeq (i := 870) (tgt := 1371) rfl (by decide) (fun _ => kk _ _ _ hG) (fun hc => absurd he hc)
def sp_34 (I : xm_I) (L : xm_L) (n : Nat) (i : Int32) (G : xm_I → xm_L → Nat → Prop) : Prop := ok (f_D_member (xl_a I i 1) (xl_a I i 2) I) (fun p => xl_sc I p.2 ∧ ok (f_M_member (xl_a I i 1) (xl_a I i 2) p.2) (fun q => p.1 = q.1 ∧ G q.2 L n))
set_option maxHeartbeats 4000000 in
set_option maxRecDepth 100000 in
theorem law_34 {d kc ks n : Nat} {I : xm_I} {L : xm_L} {i : Int32} {Q : Option Value → xm_H → Prop} {G : xm_I → xm_L → Nat → Prop} (hd : 14 ≤ d) (hn : 86 ≤ n) (hin : xl_in I i) (H : sp_34 I L n i G) (kk : ∀ I' L' n', G I' L' n' → xm_J d mt_W_law 1371 (xl_L i) [] (I', L', RC n', n') kc ks Q) : xm_J d mt_W_law 1281 (xl_L i) [] (I, L, RC n, n) kc ks Q := by
  unfold sp_34 at H
  refine r_aload_n (i := 873) (k0 := 2) rfl rfl rfl ?_
  refine r_aload_n (i := 874) (k0 := 3) rfl rfl rfl ?_
  refine r_iload_n (i := 875) (k0 := 0) rfl rfl rfl ?_
  refine r_iconst (v := 1) (i := 876) rfl ki_1 ?_
  refine r_iadd (i := 877) rfl ?_
  refine r_ialoadS (i := 878) rfl (hin 1 (by decide) (by decide)) ?_
  refine r_aload_n (i := 879) (k0 := 3) rfl rfl rfl ?_
  refine r_iload_n (i := 880) (k0 := 0) rfl rfl rfl ?_
  refine r_iconst (v := 2) (i := 881) rfl ki_2 ?_
  refine r_iadd (i := 882) rfl ?_
  refine r_ialoadS (i := 883) rfl (hin 2 (by decide) (by decide)) ?_
  refine c_V2I (i := 884) rfl vm_D_member lk_W_158 (t_D_member hn H) (by omega) (xm_in rfl hn) rfl rfl (Nat.le_of_ble_eq_true rfl) (fun p hp => ?_)
  obtain ⟨hsc, hM⟩ := hp
  have hin := hin.kept hsc
  refine r_aload_n (i := 885) (k0 := 1) rfl rfl rfl ?_
  refine r_aload_n (i := 886) (k0 := 3) rfl rfl rfl ?_
  refine r_iload_n (i := 887) (k0 := 0) rfl rfl rfl ?_
  refine r_iconst (v := 1) (i := 888) rfl ki_1 ?_
  refine r_iadd (i := 889) rfl ?_
  refine r_ialoadS (i := 890) rfl (hin 1 (by decide) (by decide)) ?_
  refine r_aload_n (i := 891) (k0 := 3) rfl rfl rfl ?_
  refine r_iload_n (i := 892) (k0 := 0) rfl rfl rfl ?_
  refine r_iconst (v := 2) (i := 893) rfl ki_2 ?_
  refine r_iadd (i := 894) rfl ?_
  refine r_ialoadS (i := 895) rfl (hin 2 (by decide) (by decide)) ?_
  simp only [hsc.1]
  refine c_V2I (i := 896) rfl vm_M_member lk_W_161 (t_M_member hn hM) (by omega) (xm_in rfl hn) rfl rfl (Nat.le_of_ble_eq_true rfl) (fun q hq => ?_)
  obtain ⟨he, hG⟩ := hq
  refine r_icmpeq (i := 897) (tgt := 1371) rfl (by decide) (fun _ => kk _ _ _ hG) (fun hc => absurd he hc)
def sp_35 (I : xm_I) (L : xm_L) (n : Nat) (i : Int32) (G : xm_I → xm_L → Nat → Prop) : Prop := ok (f_D_paint (xl_a I i 1) (xl_a I i 2) I) (fun p => xl_sc I p.2 ∧ ok (f_M_paint (xl_a I i 1) (xl_a I i 2) p.2) (fun q => p.1 = q.1 ∧ G q.2 L n))
set_option maxHeartbeats 4000000 in
set_option maxRecDepth 100000 in
theorem law_35 {d kc ks n : Nat} {I : xm_I} {L : xm_L} {i : Int32} {Q : Option Value → xm_H → Prop} {G : xm_I → xm_L → Nat → Prop} (hd : 14 ≤ d) (hn : 86 ≤ n) (hin : xl_in I i) (H : sp_35 I L n i G) (kk : ∀ I' L' n', G I' L' n' → xm_J d mt_W_law 1371 (xl_L i) [] (I', L', RC n', n') kc ks Q) : xm_J d mt_W_law 1314 (xl_L i) [] (I, L, RC n, n) kc ks Q := by
  unfold sp_35 at H
  refine r_aload_n (i := 900) (k0 := 2) rfl rfl rfl ?_
  refine r_aload_n (i := 901) (k0 := 3) rfl rfl rfl ?_
  refine r_iload_n (i := 902) (k0 := 0) rfl rfl rfl ?_
  refine r_iconst (v := 1) (i := 903) rfl ki_1 ?_
  refine r_iadd (i := 904) rfl ?_
  refine r_ialoadS (i := 905) rfl (hin 1 (by decide) (by decide)) ?_
  refine r_aload_n (i := 906) (k0 := 3) rfl rfl rfl ?_
  refine r_iload_n (i := 907) (k0 := 0) rfl rfl rfl ?_
  refine r_iconst (v := 2) (i := 908) rfl ki_2 ?_
  refine r_iadd (i := 909) rfl ?_
  refine r_ialoadS (i := 910) rfl (hin 2 (by decide) (by decide)) ?_
  refine c_V2I (i := 911) rfl vm_D_paint lk_W_162 (t_D_paint hn H) (by omega) (xm_in rfl hn) rfl rfl (Nat.le_of_ble_eq_true rfl) (fun p hp => ?_)
  obtain ⟨hsc, hM⟩ := hp
  have hin := hin.kept hsc
  refine r_aload_n (i := 912) (k0 := 1) rfl rfl rfl ?_
  refine r_aload_n (i := 913) (k0 := 3) rfl rfl rfl ?_
  refine r_iload_n (i := 914) (k0 := 0) rfl rfl rfl ?_
  refine r_iconst (v := 1) (i := 915) rfl ki_1 ?_
  refine r_iadd (i := 916) rfl ?_
  refine r_ialoadS (i := 917) rfl (hin 1 (by decide) (by decide)) ?_
  refine r_aload_n (i := 918) (k0 := 3) rfl rfl rfl ?_
  refine r_iload_n (i := 919) (k0 := 0) rfl rfl rfl ?_
  refine r_iconst (v := 2) (i := 920) rfl ki_2 ?_
  refine r_iadd (i := 921) rfl ?_
  refine r_ialoadS (i := 922) rfl (hin 2 (by decide) (by decide)) ?_
  simp only [hsc.1]
  refine c_V2I (i := 923) rfl vm_M_paint lk_W_165 (t_M_paint hn hM) (by omega) (xm_in rfl hn) rfl rfl (Nat.le_of_ble_eq_true rfl) (fun q hq => ?_)
  obtain ⟨he, hG⟩ := hq
  refine r_icmpeq (i := 924) (tgt := 1371) rfl (by decide) (fun _ => kk _ _ _ hG) (fun hc => absurd he hc)
def sp_36 (I : xm_I) (L : xm_L) (n : Nat) (i : Int32) (G : xm_I → xm_L → Nat → Prop) : Prop := ok (f_D_reach (xl_a I i 1) I) (fun p => xl_sc I p.2 ∧ ok (f_M_reach (xl_a I i 1) p.2) (fun q => p.1 = q.1 ∧ G q.2 L n))
set_option maxHeartbeats 4000000 in
set_option maxRecDepth 100000 in
theorem law_36 {d kc ks n : Nat} {I : xm_I} {L : xm_L} {i : Int32} {Q : Option Value → xm_H → Prop} {G : xm_I → xm_L → Nat → Prop} (hd : 14 ≤ d) (hn : 86 ≤ n) (hin : xl_in I i) (H : sp_36 I L n i G) (kk : ∀ I' L' n', G I' L' n' → xm_J d mt_W_law 1371 (xl_L i) [] (I', L', RC n', n') kc ks Q) : xm_J d mt_W_law 1347 (xl_L i) [] (I, L, RC n, n) kc ks Q := by
  unfold sp_36 at H
  refine r_aload_n (i := 927) (k0 := 2) rfl rfl rfl ?_
  refine r_aload_n (i := 928) (k0 := 3) rfl rfl rfl ?_
  refine r_iload_n (i := 929) (k0 := 0) rfl rfl rfl ?_
  refine r_iconst (v := 1) (i := 930) rfl ki_1 ?_
  refine r_iadd (i := 931) rfl ?_
  refine r_ialoadS (i := 932) rfl (hin 1 (by decide) (by decide)) ?_
  refine c_V1L (i := 933) rfl vm_D_reach lk_W_166 (t_D_reach hn H) (by omega) (xm_in rfl hn) rfl rfl (Nat.le_of_ble_eq_true rfl) (fun p hp => ?_)
  obtain ⟨hsc, hM⟩ := hp
  have hin := hin.kept hsc
  refine r_aload_n (i := 934) (k0 := 1) rfl rfl rfl ?_
  refine r_aload_n (i := 935) (k0 := 3) rfl rfl rfl ?_
  refine r_iload_n (i := 936) (k0 := 0) rfl rfl rfl ?_
  refine r_iconst (v := 1) (i := 937) rfl ki_1 ?_
  refine r_iadd (i := 938) rfl ?_
  refine r_ialoadS (i := 939) rfl (hin 1 (by decide) (by decide)) ?_
  simp only [hsc.1]
  refine c_V1L (i := 940) rfl vm_M_reach lk_W_169 (t_M_reach hn hM) (by omega) (xm_in rfl hn) rfl rfl (Nat.le_of_ble_eq_true rfl) (fun q hq => ?_)
  obtain ⟨he, hG⟩ := hq
  refine r_lcmpeq (i := 941) (j := 942) (tgt := 1371) rfl rfl (by decide) (fun _ => kk _ _ _ hG) (fun hc => absurd he hc)
