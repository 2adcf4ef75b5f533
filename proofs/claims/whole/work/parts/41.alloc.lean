/-! ===== cells that are made: rows beyond the last cell are empty ===== -/
def Fz (I : xm_I) (L : xm_L) (R : xm_R) (n : Nat) : Prop := ∀ a, n ≤ a → a < 1000 → (∀ k, I a k = 0) ∧ (∀ k, L a k = 0) ∧ (∀ k, R a k = none)
theorem Fz.new {I : xm_I} {L : xm_L} {R : xm_R} {n : Nat} (hz : Fz I L R n) (hn : n < 1000) : xm_new (I, L, R, n) = (I, L, R, n + 1) := by
  obtain ⟨h1, h2, h3⟩ := hz n (Nat.le_refl n) hn
  have e1 : (fun a k => if a = n then 0 else I a k) = I := by
    funext a k
    by_cases h : a = n
    · subst h; simp [h1]
    · simp [h]
  have e2 : (fun a k => if a = n then 0 else L a k) = L := by
    funext a k
    by_cases h : a = n
    · subst h; simp [h2]
    · simp [h]
  have e3 : (fun a k => if a = n then none else R a k) = R := by
    funext a k
    by_cases h : a = n
    · subst h; simp [h3]
    · simp [h]
  show ((fun a k => if a = n then 0 else I a k), (fun a k => if a = n then 0 else L a k), (fun a k => if a = n then none else R a k), n + 1) = _
  rw [e1, e2, e3]
theorem Fz.up {I : xm_I} {L : xm_L} {R : xm_R} {n m : Nat} (hz : Fz I L R n) (h : n ≤ m) : Fz I L R m := fun a ha h9 => hz a (Nat.le_trans h ha) h9
theorem Fz.puti {I : xm_I} {L : xm_L} {R : xm_R} {n a k : Nat} {v : Int32} (hz : Fz I L R n) (ha : a < n) : Fz (up2 I a k v) L R n := fun b hb h9 => ⟨fun j => by
    have : ¬ (b = a ∧ j = k) := fun q => by omega
    simp only [up2, if_neg this]
    exact (hz b hb h9).1 j, (hz b hb h9).2⟩
theorem Fz.putr {I : xm_I} {L : xm_L} {R : xm_R} {n a k : Nat} {v : Option Nat} (hz : Fz I L R n) (ha : a < n) : Fz I L (up2 R a k v) n := fun b hb h9 => ⟨(hz b hb h9).1, (hz b hb h9).2.1, fun j => by
    have : ¬ (b = a ∧ j = k) := fun q => by omega
    simp only [up2, if_neg this]
    exact (hz b hb h9).2.2 j⟩
section XZ
variable {d : Nat} {M : xm_M} {pc : Nat} {Ls : List (Nat × Value)} {S : List Value} {I : xm_I} {L : xm_L} {R : xm_R} {n kc ks : Nat} {Q : Option Value → xm_H → Prop} {i index a c k : Nat}
theorem q_newi {x : Int32} {N : Nat} (hd : M.2.2.2.2[i]? = some (pc, .newarray .int, 2)) (hz : Fz I L R n) (hn : n < 1000) (hl0 : xm_lay n = (100, N)) (hx0 : ¬ x < 0) (hxn : x.toNatClampNeg = N) (hN : N ≤ 100000) (hw : Cond.arrayClass .int ∈ xm_tb) (kk : xm_J d M (pc + 2) Ls (.ref n :: S) (I, L, R, n + 1) kc ks Q) : xm_J d M pc Ls (.int x :: S) (I, L, R, n) (kc + 1) (ks + N) Q := r_newi (h := (I, L, R, n)) hd hw hn hl0 hx0 hxn hN (by rw [hz.new hn]; exact kk)
theorem q_newz {x : Int32} {N : Nat} (hd : M.2.2.2.2[i]? = some (pc, .newarray .boolean, 2)) (hz : Fz I L R n) (hn : n < 1000) (hl0 : xm_lay n = (101, N)) (hx0 : ¬ x < 0) (hxn : x.toNatClampNeg = N) (hN : N ≤ 100000) (hw : Cond.arrayClass .boolean ∈ xm_tb) (kk : xm_J d M (pc + 2) Ls (.ref n :: S) (I, L, R, n + 1) kc ks Q) : xm_J d M pc Ls (.int x :: S) (I, L, R, n) (kc + 1) (ks + N) Q := r_newz (h := (I, L, R, n)) hd hw hn hl0 hx0 hxn hN (by rw [hz.new hn]; exact kk)
theorem q_newl {x : Int32} {N : Nat} (hd : M.2.2.2.2[i]? = some (pc, .newarray .long, 2)) (hz : Fz I L R n) (hn : n < 1000) (hl0 : xm_lay n = (102, N)) (hx0 : ¬ x < 0) (hxn : x.toNatClampNeg = N) (hN : N ≤ 100000) (hw : Cond.arrayClass .long ∈ xm_tb) (kk : xm_J d M (pc + 2) Ls (.ref n :: S) (I, L, R, n + 1) kc ks Q) : xm_J d M pc Ls (.int x :: S) (I, L, R, n) (kc + 1) (ks + N) Q := r_newl (h := (I, L, R, n)) hd hw hn hl0 hx0 hxn hN (by rw [hz.new hn]; exact kk)
theorem q_newq {x : Int32} {N : Nat} (hd : M.2.2.2.2[i]? = some (pc, .anewarray index, 3)) (hz : Fz I L R n) (hn : n < 1000) (hl0 : xm_lay n = (103, N)) (hx0 : ¬ x < 0) (hxn : x.toNatClampNeg = N) (hN : N ≤ 100000) (hw : Cond.classLink M.1.cls index RX9 ∈ xm_tb) (hw2 : Cond.arrayOver (.object RX9) ∈ xm_tb) (kk : xm_J d M (pc + 3) Ls (.ref n :: S) (I, L, R, n + 1) kc ks Q) : xm_J d M pc Ls (.int x :: S) (I, L, R, n) (kc + 1) (ks + N) Q := r_newq (h := (I, L, R, n)) hd hw hw2 hn hl0 hx0 hxn hN (by rw [hz.new hn]; exact kk)
theorem q_new {C : String} {T : u_T} {N : Nat} (hd : M.2.2.2.2[i]? = some (pc, .new index, 3)) (hz : Fz I L R n) (hn : n < 1000) (hl0 : xm_lay n = (c, 0)) (hk : xm_Kl c C T N) (hw1 : Cond.classLink M.1.cls index C ∈ xm_tb) (hw2 : Cond.instantiable C N ∈ xm_tb) (hw3 : Cond.initialized C ∈ xm_tb) (hp : ∀ k, k < N → xm_ty c k = .int ∨ xm_ty c k = .boolean ∨ xm_ty c k = .long ∨ (∃ n, xm_ty c k = .object n) ∨ ∃ n, xm_ty c k = .array n) (kk : xm_J d M (pc + 3) Ls (.ref n :: S) (I, L, R, n + 1) kc ks Q) : xm_J d M pc Ls S (I, L, R, n) (kc + 1) (ks + N) Q := r_new (h := (I, L, R, n)) hd hk hw1 hw2 hw3 hp hn hl0 (by rw [hz.new hn]; exact kk)
theorem q_putr {x : Nat} {ty : FieldType} {fin : Bool} (hd : M.2.2.2.2[i]? = some (pc, .putfield index, 3)) (hf : xm_Fl M.1.cls index c k ty fin) (hty : ty.isReference = true) (hfin : fin = true → M.1.name = "<init>" ∧ (vwCl[c]?).map (fun q => q.1) = some M.1.cls) (ha : a < n) (hl0 : xm_lay a = (c, 0)) (kk : xm_J d M (pc + 3) Ls S (I, L, up2 R a k (some x), n) kc ks Q) : xm_J d M pc Ls (.ref x :: .ref a :: S) (I, L, R, n) kc ks Q := r_putr (h := (I, L, R, n)) hd hf (by cases ty <;> first | exact Or.inl ⟨_, rfl⟩ | exact Or.inr ⟨_, rfl⟩ | cases hty) hfin ha hl0 kk
theorem q_aastore {x : Int32} {b N : Nat} (hd : M.2.2.2.2[i]? = some (pc, .aastore, 1)) (ha : a < n) (hl0 : xm_lay a = (103, N)) (hb0 : b < n) (hlb : xm_lay b = (9, 0)) (hin : 0 ≤ x.toInt ∧ x.toInt < (N : Int)) (kk : xm_J d M (pc + 1) Ls S (I, L, up2 R a x.toNatClampNeg (some b), n) kc ks Q) : xm_J d M pc Ls (.ref b :: .int x :: .ref a :: S) (I, L, R, n) kc ks Q := r_aastore (h := (I, L, R, n)) hd ha hl0 hb0 hlb (vp_in_iff.mpr hin) kk
end XZ
theorem ct_arr_int : Cond.arrayClass .int ∈ xm_tb := xm_tb_in (in_t1 _ (List.mem_of_getElem? (i := 52) rfl)) rfl
theorem ct_arr_boolean : Cond.arrayClass .boolean ∈ xm_tb := xm_tb_in (in_t1 _ (List.mem_of_getElem? (i := 93) rfl)) rfl
theorem ct_arr_long : Cond.arrayClass .long ∈ xm_tb := xm_tb_in (in_t2 _ (List.mem_of_getElem? (i := 68) rfl)) rfl
theorem ct_arr_q : Cond.arrayOver (.object RX9) ∈ xm_tb := xm_tb_in (in_t1 _ (List.mem_of_getElem? (i := 163) rfl)) rfl
theorem ct_oi2 : Cond.instanceMethod objectInit ∈ xm_tb := xm_tb_in (in_t1 _ (List.mem_of_getElem? (i := 23) rfl)) rfl
theorem ct_oi3 : Cond.code objectInit ⟨#[0xb1]⟩ 1 none ∈ xm_tb := xm_tb_in (in_t1 _ (List.mem_of_getElem? (i := 24) rfl)) rfl
theorem ct_oi_D : Cond.methodLink RX11 1 objectInit ∈ xm_tb := xm_tb_in (in_t1 _ (List.mem_of_getElem? (i := 22) rfl)) rfl
theorem ct_oi_Cu : Cond.methodLink RX0 1 objectInit ∈ xm_tb := xm_tb_in (in_t2 _ (List.mem_of_getElem? (i := 37) rfl)) rfl
theorem ct_oi_Fg : Cond.methodLink RX1 3 objectInit ∈ xm_tb := xm_tb_in (in_t1 _ (List.mem_of_getElem? (i := 58) rfl)) rfl
theorem ct_oi_Fr : Cond.methodLink RX2 1 objectInit ∈ xm_tb := xm_tb_in (in_t1 _ (List.mem_of_getElem? (i := 99) rfl)) rfl
theorem ct_oi_Gr : Cond.methodLink RX3 3 objectInit ∈ xm_tb := xm_tb_in (in_t2 _ (List.mem_of_getElem? (i := 12) rfl)) rfl
theorem ct_oi_Lb : Cond.methodLink RX4 3 objectInit ∈ xm_tb := xm_tb_in (in_t1 _ (List.mem_of_getElem? (i := 215) rfl)) rfl
theorem ct_oi_Mk : Cond.methodLink RX5 3 objectInit ∈ xm_tb := xm_tb_in (in_t1 _ (List.mem_of_getElem? (i := 182) rfl)) rfl
theorem ct_oi_Pn : Cond.methodLink RX6 1 objectInit ∈ xm_tb := xm_tb_in (in_t2 _ (List.mem_of_getElem? (i := 31) rfl)) rfl
theorem ct_oi_Pl : Cond.methodLink RX7 5 objectInit ∈ xm_tb := xm_tb_in (in_t2 _ (List.mem_of_getElem? (i := 117) rfl)) rfl
theorem ct_oi_Pt : Cond.methodLink RX8 3 objectInit ∈ xm_tb := xm_tb_in (in_t1 _ (List.mem_of_getElem? (i := 30) rfl)) rfl
theorem ct_oi_So : Cond.methodLink RX9 5 objectInit ∈ xm_tb := xm_tb_in (in_t3 _ (List.mem_of_getElem? (i := 225) rfl)) rfl
theorem ct_oi_Ss : Cond.methodLink RX10 3 objectInit ∈ xm_tb := xm_tb_in (in_t1 _ (List.mem_of_getElem? (i := 161) rfl)) rfl
theorem ct_oi_M : Cond.methodLink RX12 1 objectInit ∈ xm_tb := xm_tb_in (in_t6 _ (List.mem_of_getElem? (i := 147) rfl)) rfl
theorem ct_cl_D_7 : Cond.classLink RX11 7 RX8 ∈ xm_tb := xm_tb_in (in_t1 _ (List.mem_of_getElem? (i := 25) rfl)) rfl
theorem ct_cl_D_16 : Cond.classLink RX11 16 RX1 ∈ xm_tb := xm_tb_in (in_t1 _ (List.mem_of_getElem? (i := 53) rfl)) rfl
theorem ct_cl_D_25 : Cond.classLink RX11 25 RX2 ∈ xm_tb := xm_tb_in (in_t1 _ (List.mem_of_getElem? (i := 94) rfl)) rfl
theorem ct_cl_D_32 : Cond.classLink RX11 32 RX10 ∈ xm_tb := xm_tb_in (in_t1 _ (List.mem_of_getElem? (i := 156) rfl)) rfl
theorem ct_cl_D_39 : Cond.classLink RX11 39 RX5 ∈ xm_tb := xm_tb_in (in_t1 _ (List.mem_of_getElem? (i := 177) rfl)) rfl
theorem ct_cl_D_46 : Cond.classLink RX11 46 RX4 ∈ xm_tb := xm_tb_in (in_t1 _ (List.mem_of_getElem? (i := 210) rfl)) rfl
theorem ct_cl_D_53 : Cond.classLink RX11 53 RX3 ∈ xm_tb := xm_tb_in (in_t2 _ (List.mem_of_getElem? (i := 7) rfl)) rfl
theorem ct_cl_D_60 : Cond.classLink RX11 60 RX6 ∈ xm_tb := xm_tb_in (in_t2 _ (List.mem_of_getElem? (i := 26) rfl)) rfl
theorem ct_cl_D_69 : Cond.classLink RX11 69 RX7 ∈ xm_tb := xm_tb_in (in_t2 _ (List.mem_of_getElem? (i := 112) rfl)) rfl
theorem ct_cl_Pn_51 : Cond.classLink RX6 51 RX0 ∈ xm_tb := xm_tb_in (in_t2 _ (List.mem_of_getElem? (i := 32) rfl)) rfl
theorem ct_cl_Ss_11 : Cond.classLink RX10 11 RX9 ∈ xm_tb := xm_tb_in (in_t1 _ (List.mem_of_getElem? (i := 162) rfl)) rfl
theorem ct_cl_W_7 : Cond.classLink RL 7 RX11 ∈ xm_tb := xm_tb_in (in_t1 _ (List.mem_of_getElem? (i := 17) rfl)) rfl
theorem ct_cl_W_10 : Cond.classLink RL 10 RX12 ∈ xm_tb := xm_tb_in (in_t6 _ (List.mem_of_getElem? (i := 142) rfl)) rfl
theorem ct_in_0 : Cond.instantiable RX0 9 ∈ xm_tb := xm_tb_in (in_t2 _ (List.mem_of_getElem? (i := 33) rfl)) rfl
theorem ct_ini_0 : Cond.initialized RX0 ∈ xm_tb := xm_tb_in (in_t1 _ (List.mem_of_getElem? (i := 10) rfl)) rfl
theorem ct_ty_0 : ∀ k, k < 9 → xm_ty 0 k = .int ∨ xm_ty 0 k = .boolean ∨ xm_ty 0 k = .long ∨ (∃ n, xm_ty 0 k = .object n) ∨ ∃ n, xm_ty 0 k = .array n := by
  intro k hk
  have key : ∀ t : FieldType, (match t with | .int => true | .boolean => true | .long => true | .object _ => true | .array _ => true | _ => false) = true → t = .int ∨ t = .boolean ∨ t = .long ∨ (∃ n, t = .object n) ∨ ∃ n, t = .array n := by
    intro t ht
    cases t <;> simp_all
  have hall : ∀ k, k < 9 → (match xm_ty 0 k with | .int => true | .boolean => true | .long => true | .object _ => true | .array _ => true | _ => false) = true := by decide +kernel
  exact key _ (hall k hk)
theorem ct_in_1 : Cond.instantiable RX1 10 ∈ xm_tb := xm_tb_in (in_t1 _ (List.mem_of_getElem? (i := 54) rfl)) rfl
theorem ct_ini_1 : Cond.initialized RX1 ∈ xm_tb := xm_tb_in (in_t1 _ (List.mem_of_getElem? (i := 3) rfl)) rfl
theorem ct_ty_1 : ∀ k, k < 10 → xm_ty 1 k = .int ∨ xm_ty 1 k = .boolean ∨ xm_ty 1 k = .long ∨ (∃ n, xm_ty 1 k = .object n) ∨ ∃ n, xm_ty 1 k = .array n := by
  intro k hk
  have key : ∀ t : FieldType, (match t with | .int => true | .boolean => true | .long => true | .object _ => true | .array _ => true | _ => false) = true → t = .int ∨ t = .boolean ∨ t = .long ∨ (∃ n, t = .object n) ∨ ∃ n, t = .array n := by
    intro t ht
    cases t <;> simp_all
  have hall : ∀ k, k < 10 → (match xm_ty 1 k with | .int => true | .boolean => true | .long => true | .object _ => true | .array _ => true | _ => false) = true := by decide +kernel
  exact key _ (hall k hk)
theorem ct_in_2 : Cond.instantiable RX2 11 ∈ xm_tb := xm_tb_in (in_t1 _ (List.mem_of_getElem? (i := 95) rfl)) rfl
theorem ct_ini_2 : Cond.initialized RX2 ∈ xm_tb := xm_tb_in (in_t1 _ (List.mem_of_getElem? (i := 4) rfl)) rfl
theorem ct_ty_2 : ∀ k, k < 11 → xm_ty 2 k = .int ∨ xm_ty 2 k = .boolean ∨ xm_ty 2 k = .long ∨ (∃ n, xm_ty 2 k = .object n) ∨ ∃ n, xm_ty 2 k = .array n := by
  intro k hk
  have key : ∀ t : FieldType, (match t with | .int => true | .boolean => true | .long => true | .object _ => true | .array _ => true | _ => false) = true → t = .int ∨ t = .boolean ∨ t = .long ∨ (∃ n, t = .object n) ∨ ∃ n, t = .array n := by
    intro t ht
    cases t <;> simp_all
  have hall : ∀ k, k < 11 → (match xm_ty 2 k with | .int => true | .boolean => true | .long => true | .object _ => true | .array _ => true | _ => false) = true := by decide +kernel
  exact key _ (hall k hk)
theorem ct_in_3 : Cond.instantiable RX3 4 ∈ xm_tb := xm_tb_in (in_t2 _ (List.mem_of_getElem? (i := 8) rfl)) rfl
theorem ct_ini_3 : Cond.initialized RX3 ∈ xm_tb := xm_tb_in (in_t1 _ (List.mem_of_getElem? (i := 8) rfl)) rfl
theorem ct_ty_3 : ∀ k, k < 4 → xm_ty 3 k = .int ∨ xm_ty 3 k = .boolean ∨ xm_ty 3 k = .long ∨ (∃ n, xm_ty 3 k = .object n) ∨ ∃ n, xm_ty 3 k = .array n := by
  intro k hk
  have key : ∀ t : FieldType, (match t with | .int => true | .boolean => true | .long => true | .object _ => true | .array _ => true | _ => false) = true → t = .int ∨ t = .boolean ∨ t = .long ∨ (∃ n, t = .object n) ∨ ∃ n, t = .array n := by
    intro t ht
    cases t <;> simp_all
  have hall : ∀ k, k < 4 → (match xm_ty 3 k with | .int => true | .boolean => true | .long => true | .object _ => true | .array _ => true | _ => false) = true := by decide +kernel
  exact key _ (hall k hk)
theorem ct_in_4 : Cond.instantiable RX4 8 ∈ xm_tb := xm_tb_in (in_t1 _ (List.mem_of_getElem? (i := 211) rfl)) rfl
theorem ct_ini_4 : Cond.initialized RX4 ∈ xm_tb := xm_tb_in (in_t1 _ (List.mem_of_getElem? (i := 7) rfl)) rfl
theorem ct_ty_4 : ∀ k, k < 8 → xm_ty 4 k = .int ∨ xm_ty 4 k = .boolean ∨ xm_ty 4 k = .long ∨ (∃ n, xm_ty 4 k = .object n) ∨ ∃ n, xm_ty 4 k = .array n := by
  intro k hk
  have key : ∀ t : FieldType, (match t with | .int => true | .boolean => true | .long => true | .object _ => true | .array _ => true | _ => false) = true → t = .int ∨ t = .boolean ∨ t = .long ∨ (∃ n, t = .object n) ∨ ∃ n, t = .array n := by
    intro t ht
    cases t <;> simp_all
  have hall : ∀ k, k < 8 → (match xm_ty 4 k with | .int => true | .boolean => true | .long => true | .object _ => true | .array _ => true | _ => false) = true := by decide +kernel
  exact key _ (hall k hk)
theorem ct_in_5 : Cond.instantiable RX5 7 ∈ xm_tb := xm_tb_in (in_t1 _ (List.mem_of_getElem? (i := 178) rfl)) rfl
theorem ct_ini_5 : Cond.initialized RX5 ∈ xm_tb := xm_tb_in (in_t1 _ (List.mem_of_getElem? (i := 6) rfl)) rfl
theorem ct_ty_5 : ∀ k, k < 7 → xm_ty 5 k = .int ∨ xm_ty 5 k = .boolean ∨ xm_ty 5 k = .long ∨ (∃ n, xm_ty 5 k = .object n) ∨ ∃ n, xm_ty 5 k = .array n := by
  intro k hk
  have key : ∀ t : FieldType, (match t with | .int => true | .boolean => true | .long => true | .object _ => true | .array _ => true | _ => false) = true → t = .int ∨ t = .boolean ∨ t = .long ∨ (∃ n, t = .object n) ∨ ∃ n, t = .array n := by
    intro t ht
    cases t <;> simp_all
  have hall : ∀ k, k < 7 → (match xm_ty 5 k with | .int => true | .boolean => true | .long => true | .object _ => true | .array _ => true | _ => false) = true := by decide +kernel
  exact key _ (hall k hk)
theorem ct_in_6 : Cond.instantiable RX6 14 ∈ xm_tb := xm_tb_in (in_t2 _ (List.mem_of_getElem? (i := 27) rfl)) rfl
theorem ct_ini_6 : Cond.initialized RX6 ∈ xm_tb := xm_tb_in (in_t1 _ (List.mem_of_getElem? (i := 9) rfl)) rfl
theorem ct_ty_6 : ∀ k, k < 14 → xm_ty 6 k = .int ∨ xm_ty 6 k = .boolean ∨ xm_ty 6 k = .long ∨ (∃ n, xm_ty 6 k = .object n) ∨ ∃ n, xm_ty 6 k = .array n := by
  intro k hk
  have key : ∀ t : FieldType, (match t with | .int => true | .boolean => true | .long => true | .object _ => true | .array _ => true | _ => false) = true → t = .int ∨ t = .boolean ∨ t = .long ∨ (∃ n, t = .object n) ∨ ∃ n, t = .array n := by
    intro t ht
    cases t <;> simp_all
  have hall : ∀ k, k < 14 → (match xm_ty 6 k with | .int => true | .boolean => true | .long => true | .object _ => true | .array _ => true | _ => false) = true := by decide +kernel
  exact key _ (hall k hk)
theorem ct_in_7 : Cond.instantiable RX7 16 ∈ xm_tb := xm_tb_in (in_t2 _ (List.mem_of_getElem? (i := 113) rfl)) rfl
theorem ct_ini_7 : Cond.initialized RX7 ∈ xm_tb := xm_tb_in (in_t1 _ (List.mem_of_getElem? (i := 11) rfl)) rfl
theorem ct_ty_7 : ∀ k, k < 16 → xm_ty 7 k = .int ∨ xm_ty 7 k = .boolean ∨ xm_ty 7 k = .long ∨ (∃ n, xm_ty 7 k = .object n) ∨ ∃ n, xm_ty 7 k = .array n := by
  intro k hk
  have key : ∀ t : FieldType, (match t with | .int => true | .boolean => true | .long => true | .object _ => true | .array _ => true | _ => false) = true → t = .int ∨ t = .boolean ∨ t = .long ∨ (∃ n, t = .object n) ∨ ∃ n, t = .array n := by
    intro t ht
    cases t <;> simp_all
  have hall : ∀ k, k < 16 → (match xm_ty 7 k with | .int => true | .boolean => true | .long => true | .object _ => true | .array _ => true | _ => false) = true := by decide +kernel
  exact key _ (hall k hk)
theorem ct_in_8 : Cond.instantiable RX8 6 ∈ xm_tb := xm_tb_in (in_t1 _ (List.mem_of_getElem? (i := 26) rfl)) rfl
theorem ct_ini_8 : Cond.initialized RX8 ∈ xm_tb := xm_tb_in (in_t1 _ (List.mem_of_getElem? (i := 2) rfl)) rfl
theorem ct_ty_8 : ∀ k, k < 6 → xm_ty 8 k = .int ∨ xm_ty 8 k = .boolean ∨ xm_ty 8 k = .long ∨ (∃ n, xm_ty 8 k = .object n) ∨ ∃ n, xm_ty 8 k = .array n := by
  intro k hk
  have key : ∀ t : FieldType, (match t with | .int => true | .boolean => true | .long => true | .object _ => true | .array _ => true | _ => false) = true → t = .int ∨ t = .boolean ∨ t = .long ∨ (∃ n, t = .object n) ∨ ∃ n, t = .array n := by
    intro t ht
    cases t <;> simp_all
  have hall : ∀ k, k < 6 → (match xm_ty 8 k with | .int => true | .boolean => true | .long => true | .object _ => true | .array _ => true | _ => false) = true := by decide +kernel
  exact key _ (hall k hk)
theorem ct_in_9 : Cond.instantiable RX9 11 ∈ xm_tb := xm_tb_in (in_t3 _ (List.mem_of_getElem? (i := 221) rfl)) rfl
theorem ct_ini_9 : Cond.initialized RX9 ∈ xm_tb := xm_tb_in (in_t1 _ (List.mem_of_getElem? (i := 15) rfl)) rfl
theorem ct_ty_9 : ∀ k, k < 11 → xm_ty 9 k = .int ∨ xm_ty 9 k = .boolean ∨ xm_ty 9 k = .long ∨ (∃ n, xm_ty 9 k = .object n) ∨ ∃ n, xm_ty 9 k = .array n := by
  intro k hk
  have key : ∀ t : FieldType, (match t with | .int => true | .boolean => true | .long => true | .object _ => true | .array _ => true | _ => false) = true → t = .int ∨ t = .boolean ∨ t = .long ∨ (∃ n, t = .object n) ∨ ∃ n, t = .array n := by
    intro t ht
    cases t <;> simp_all
  have hall : ∀ k, k < 11 → (match xm_ty 9 k with | .int => true | .boolean => true | .long => true | .object _ => true | .array _ => true | _ => false) = true := by decide +kernel
  exact key _ (hall k hk)
theorem ct_in_10 : Cond.instantiable RX10 3 ∈ xm_tb := xm_tb_in (in_t1 _ (List.mem_of_getElem? (i := 157) rfl)) rfl
theorem ct_ini_10 : Cond.initialized RX10 ∈ xm_tb := xm_tb_in (in_t1 _ (List.mem_of_getElem? (i := 5) rfl)) rfl
theorem ct_ty_10 : ∀ k, k < 3 → xm_ty 10 k = .int ∨ xm_ty 10 k = .boolean ∨ xm_ty 10 k = .long ∨ (∃ n, xm_ty 10 k = .object n) ∨ ∃ n, xm_ty 10 k = .array n := by
  intro k hk
  have key : ∀ t : FieldType, (match t with | .int => true | .boolean => true | .long => true | .object _ => true | .array _ => true | _ => false) = true → t = .int ∨ t = .boolean ∨ t = .long ∨ (∃ n, t = .object n) ∨ ∃ n, t = .array n := by
    intro t ht
    cases t <;> simp_all
  have hall : ∀ k, k < 3 → (match xm_ty 10 k with | .int => true | .boolean => true | .long => true | .object _ => true | .array _ => true | _ => false) = true := by decide +kernel
  exact key _ (hall k hk)
theorem ct_in_11 : Cond.instantiable RX11 10 ∈ xm_tb := xm_tb_in (in_t1 _ (List.mem_of_getElem? (i := 18) rfl)) rfl
theorem ct_ini_11 : Cond.initialized RX11 ∈ xm_tb := xm_tb_in (in_t1 _ (List.mem_of_getElem? (i := 1) rfl)) rfl
theorem ct_ty_11 : ∀ k, k < 10 → xm_ty 11 k = .int ∨ xm_ty 11 k = .boolean ∨ xm_ty 11 k = .long ∨ (∃ n, xm_ty 11 k = .object n) ∨ ∃ n, xm_ty 11 k = .array n := by
  intro k hk
  have key : ∀ t : FieldType, (match t with | .int => true | .boolean => true | .long => true | .object _ => true | .array _ => true | _ => false) = true → t = .int ∨ t = .boolean ∨ t = .long ∨ (∃ n, t = .object n) ∨ ∃ n, t = .array n := by
    intro t ht
    cases t <;> simp_all
  have hall : ∀ k, k < 10 → (match xm_ty 11 k with | .int => true | .boolean => true | .long => true | .object _ => true | .array _ => true | _ => false) = true := by decide +kernel
  exact key _ (hall k hk)
theorem ct_in_12 : Cond.instantiable RX12 78 ∈ xm_tb := xm_tb_in (in_t6 _ (List.mem_of_getElem? (i := 143) rfl)) rfl
theorem ct_ini_12 : Cond.initialized RX12 ∈ xm_tb := xm_tb_in (in_t1 _ (List.mem_of_getElem? (i := 12) rfl)) rfl
theorem ct_ty_12 : ∀ k, k < 78 → xm_ty 12 k = .int ∨ xm_ty 12 k = .boolean ∨ xm_ty 12 k = .long ∨ (∃ n, xm_ty 12 k = .object n) ∨ ∃ n, xm_ty 12 k = .array n := by
  intro k hk
  have key : ∀ t : FieldType, (match t with | .int => true | .boolean => true | .long => true | .object _ => true | .array _ => true | _ => false) = true → t = .int ∨ t = .boolean ∨ t = .long ∨ (∃ n, t = .object n) ∨ ∃ n, t = .array n := by
    intro t ht
    cases t <;> simp_all
  have hall : ∀ k, k < 78 → (match xm_ty 12 k with | .int => true | .boolean => true | .long => true | .object _ => true | .array _ => true | _ => false) = true := by decide +kernel
  exact key _ (hall k hk)
/-! ===== the making of a solid ===== -/
def So_R (R : xm_R) (n : Nat) : xm_R := up2 (up2 (up2 (up2 (up2 (up2 (up2 R n 2 (some (n + 1))) n 3 (some (n + 2))) n 4 (some (n + 3))) n 5 (some (n + 4))) n 6 (some (n + 5))) n 7 (some (n + 6))) n 8 (some (n + 7))
set_option maxHeartbeats 4000000 in
set_option maxRecDepth 100000 in
theorem t_So_init {x1 x2 : Int32} {n : Nat} {I : xm_I} {L : xm_L} {R : xm_R} (hn9 : n ≤ 900) (hs : xm_sd (n + 8) n) (hz : Fz I L R (n + 1)) : xm_C 1 mt_So_init [.ref n, .int x1, .int x2] (I, L, R, n + 1) 7 210 (fun v h => v = none ∧ h = (up2 (up2 I n 0 x1) n 1 x2, L, So_R R n, n + 8)) := by
  refine xm_enter (by decide +kernel) dv_So_init (Nat.le_of_ble_eq_true rfl) ?_
  have hl0 : xm_lay n = (9, 0) := xm_sdL hs 0 (by decide) rfl
  show xm_J 1 mt_So_init 0 [(0, .ref n), (1, .int x1), (2, .int x2)] [] (I, L, R, n + 1) 7 210 _
  refine r_aload_n (i := 0) (k0 := 0) rfl rfl rfl ?_
  refine r_objInit (i := 1) rfl ct_oi_So ct_oi2 ct_oi3 (by decide) (Nat.le_of_ble_eq_true rfl) ?_
  refine r_aload_n (i := 2) (k0 := 0) rfl rfl rfl ?_
  refine r_bipush (v := 12) (i := 3) rfl (by decide) ?_
  refine q_newi (i := 4) (N := 12) rfl hz (by omega) (xm_sdL hs 1 (by decide) rfl) (by decide) (by decide) (by decide) ct_arr_int ?_
  have hz := hz.up (Nat.le_succ _)
  refine q_putr (i := 5) (a := n) rfl fl_So_11 rfl (fun _ => ⟨rfl, rfl⟩) (by omega) hl0 ?_
  have hz := hz.putr (a := n) (k := 2) (v := some (n + 1)) (by omega)
  refine r_aload_n (i := 6) (k0 := 0) rfl rfl rfl ?_
  refine r_bipush (v := 12) (i := 7) rfl (by decide) ?_
  refine q_newi (i := 8) (N := 12) rfl hz (by omega) (xm_sdL hs 2 (by decide) rfl) (by decide) (by decide) (by decide) ct_arr_int ?_
  have hz := hz.up (Nat.le_succ _)
  refine q_putr (i := 9) (a := n) rfl fl_So_15 rfl (fun _ => ⟨rfl, rfl⟩) (by omega) hl0 ?_
  have hz := hz.putr (a := n) (k := 3) (v := some (n + 2)) (by omega)
  refine r_aload_n (i := 10) (k0 := 0) rfl rfl rfl ?_
  refine r_bipush (v := 12) (i := 11) rfl (by decide) ?_
  refine q_newi (i := 12) (N := 12) rfl hz (by omega) (xm_sdL hs 3 (by decide) rfl) (by decide) (by decide) (by decide) ct_arr_int ?_
  have hz := hz.up (Nat.le_succ _)
  refine q_putr (i := 13) (a := n) rfl fl_So_18 rfl (fun _ => ⟨rfl, rfl⟩) (by omega) hl0 ?_
  have hz := hz.putr (a := n) (k := 4) (v := some (n + 3)) (by omega)
  refine r_aload_n (i := 14) (k0 := 0) rfl rfl rfl ?_
  refine r_bipush (v := 10) (i := 15) rfl (by decide) ?_
  refine q_newi (i := 16) (N := 10) rfl hz (by omega) (xm_sdL hs 4 (by decide) rfl) (by decide) (by decide) (by decide) ct_arr_int ?_
  have hz := hz.up (Nat.le_succ _)
  refine q_putr (i := 17) (a := n) rfl fl_So_21 rfl (fun _ => ⟨rfl, rfl⟩) (by omega) hl0 ?_
  have hz := hz.putr (a := n) (k := 5) (v := some (n + 4)) (by omega)
  refine r_aload_n (i := 18) (k0 := 0) rfl rfl rfl ?_
  refine r_bipush (v := 10) (i := 19) rfl (by decide) ?_
  refine q_newi (i := 20) (N := 10) rfl hz (by omega) (xm_sdL hs 5 (by decide) rfl) (by decide) (by decide) (by decide) ct_arr_int ?_
  have hz := hz.up (Nat.le_succ _)
  refine q_putr (i := 21) (a := n) rfl fl_So_24 rfl (fun _ => ⟨rfl, rfl⟩) (by omega) hl0 ?_
  have hz := hz.putr (a := n) (k := 6) (v := some (n + 5)) (by omega)
  refine r_aload_n (i := 22) (k0 := 0) rfl rfl rfl ?_
  refine r_bipush (v := 10) (i := 23) rfl (by decide) ?_
  refine q_newi (i := 24) (N := 10) rfl hz (by omega) (xm_sdL hs 6 (by decide) rfl) (by decide) (by decide) (by decide) ct_arr_int ?_
  have hz := hz.up (Nat.le_succ _)
  refine q_putr (i := 25) (a := n) rfl fl_So_27 rfl (fun _ => ⟨rfl, rfl⟩) (by omega) hl0 ?_
  have hz := hz.putr (a := n) (k := 7) (v := some (n + 6)) (by omega)
  refine r_aload_n (i := 26) (k0 := 0) rfl rfl rfl ?_
  refine r_sipush (v := 144) (i := 27) rfl (by decide) ?_
  refine q_newi (i := 28) (N := 144) rfl hz (by omega) (xm_sdL hs 7 (by decide) rfl) (by decide) (by decide) (by decide) ct_arr_int ?_
  have hz := hz.up (Nat.le_succ _)
  refine q_putr (i := 29) (a := n) rfl fl_So_30 rfl (fun _ => ⟨rfl, rfl⟩) (by omega) hl0 ?_
  have hz := hz.putr (a := n) (k := 8) (v := some (n + 7)) (by omega)
  refine r_aload_n (i := 30) (k0 := 0) rfl rfl rfl ?_
  refine r_iload_n (i := 31) (k0 := 1) rfl rfl rfl ?_
  refine q_puti (i := 32) rfl fl_So_33 (fun _ => ⟨rfl, rfl⟩) (by omega) hl0 ?_
  refine r_aload_n (i := 33) (k0 := 0) rfl rfl rfl ?_
  refine r_iload_n (i := 34) (k0 := 2) rfl rfl rfl ?_
  refine q_puti (i := 35) rfl fl_So_37 (fun _ => ⟨rfl, rfl⟩) (by omega) hl0 ?_
  exact r_return (i := 36) rfl rfl ⟨rfl, rfl⟩
theorem RC_next {n s : Nat} (hs : s < 4) (hn : n = 86 + 8 * s) : up2 (So_R (RC n) n) 16 s (some n) = RC (n + 8) := by
  subst hn
  funext a k
  unfold So_R RC up2
  by_cases ha : a < 86
  · have h1 : ¬ a = 86 + 8 * s := by omega
    simp only [if_pos ha, h1, false_and, if_false]
    by_cases h16 : a = 16
    · subst h16
      by_cases hk : k = s
      · subst hk
        simp [hs]
      · have e1 : (86 + 8 * k + 8 ≤ 86 + 8 * s) = (86 + 8 * k + 8 ≤ 86 + 8 * s + 8) := propext ⟨fun h => by omega, fun h => by omega⟩
        simp only [hk, and_false, if_false, if_true, e1]
    · simp only [h16, false_and, if_false]
  · have h16 : ¬ a = 16 := by omega
    simp only [if_neg ha, h16, false_and, if_false]
    by_cases hn : a = 86 + 8 * s
    · subst hn
      have e0 : (86 + 8 * s - 86) % 8 = 0 := by omega
      have e1 : ¬ (86 + 8 * s + 8 ≤ 86 + 8 * s) := by omega
      simp only [true_and, e0, e1, false_and, and_false, if_false, Nat.le_refl]
      by_cases hk : 2 ≤ k ∧ k ≤ 8
      · have : k = 2 ∨ k = 3 ∨ k = 4 ∨ k = 5 ∨ k = 6 ∨ k = 7 ∨ k = 8 := by omega
        rcases this with rfl | rfl | rfl | rfl | rfl | rfl | rfl <;> simp
      · simp only [if_neg hk]
        have h2 : ¬ k = 2 := by omega
        have h3 : ¬ k = 3 := by omega
        have h4 : ¬ k = 4 := by omega
        have h5 : ¬ k = 5 := by omega
        have h6 : ¬ k = 6 := by omega
        have h7 : ¬ k = 7 := by omega
        have h8 : ¬ k = 8 := by omega
        simp only [h2, h3, h4, h5, h6, h7, h8, if_false]
    · simp only [hn, false_and, if_false]
      have e : ((a - 86) % 8 = 0 ∧ a + 8 ≤ 86 + 8 * s ∧ 2 ≤ k ∧ k ≤ 8) = ((a - 86) % 8 = 0 ∧ a + 8 ≤ 86 + 8 * s + 8 ∧ 2 ≤ k ∧ k ≤ 8) := propext ⟨fun ⟨h1, h2, h3⟩ => ⟨h1, by omega, h3⟩, fun ⟨h1, h2, h3⟩ => ⟨h1, by omega, h3⟩⟩
      simp only [e]
def f_Ss_add (x1 x2 : Int32) (n : Nat) (I : xm_I) : Option (Int32 × xm_I × Nat) :=
  if 4 ≤ I 15 1 then some (-100004, I, n)
  else gd (0 ≤ (I 15 1).toInt ∧ (I 15 1).toInt < 4 ∧ n = 86 + 8 * (I 15 1).toNatClampNeg) <| some (I 15 1, up2 (up2 (up2 I n 0 x1) n 1 x2) 15 1 (I 15 1 + 1), n + 8)
theorem f_Ss_isFull_eq (I : xm_I) : f_Ss_isFull I = some (if 4 ≤ I 15 1 then 1 else 0) := by
  unfold f_Ss_isFull f_Ss_isFull_b0
  by_cases h : 4 ≤ I 15 1
  · have : ¬ I 15 1 < 4 := Int32.not_lt.mpr h
    simp [h, this]
  · have : I 15 1 < 4 := Int32.not_le.mp h
    simp [h, this]
theorem RC_Fz {I : xm_I} {L : xm_L} {n : Nat} (hn : 86 ≤ n) (h1 : ∀ a, n ≤ a → a < 1000 → ∀ k, I a k = 0) (h2 : ∀ a, n ≤ a → a < 1000 → ∀ k, L a k = 0) : Fz I L (RC n) n := fun a ha h9 => ⟨h1 a ha h9, h2 a ha h9, fun k => by
    unfold RC
    rw [if_neg (by omega), if_neg (by omega)]⟩
set_option maxHeartbeats 4000000 in
set_option maxRecDepth 100000 in
theorem t_Ss_add {x1 x2 : Int32} {n : Nat} {I : xm_I} {L : xm_L} {K : Int32 × xm_I × Nat → Prop} (hn : 86 ≤ n) (hn9 : n ≤ 900) (hz : Fz I L (RC n) n) (hF : ok (f_Ss_add x1 x2 n I) K) : xm_C 2 mt_Ss_add [.ref 15, .int x1, .int x2] (I, L, RC n, n) 8 221 (pI (fun p : Int32 × xm_I × Nat => p.1) (fun p => (p.2.1, L, RC p.2.2, p.2.2)) K) := by
  unfold f_Ss_add at hF
  refine xm_enter (by decide +kernel) dv_Ss_add (Nat.le_of_ble_eq_true rfl) ?_
  show xm_J 2 mt_Ss_add 0 [(0, .ref 15), (1, .int x1), (2, .int x2)] [] (I, L, RC n, n) 8 221 _
  refine r_aload_n (i := 0) (k0 := 0) rfl rfl rfl ?_
  refine c_V0I (i := 1) rfl vm_Ss_isFull lk_Ss_21 (t_Ss_isFull (K := fun p => p = if 4 ≤ I 15 1 then 1 else 0) hn ⟨_, f_Ss_isFull_eq I, rfl⟩) (Nat.le_of_ble_eq_true rfl) (xm_in rfl hn) rfl rfl (Nat.le_of_ble_eq_true rfl) (fun p hp => ?_)
  refine r_ifeq (i := 2) (tgt := 10) rfl (by decide) (fun hc => ?_) (fun hc => ?_)
  · have hlt : ¬ 4 ≤ I 15 1 := by
      intro h
      rw [if_pos h] at hp
      rw [hp] at hc
      exact absurd hc (by decide)
    have hF := ok_if hlt hF
    obtain ⟨⟨h0, h4, hnn⟩, hF⟩ := ok_gd hF
    have hQ := ok_some hF
    have hsd : xm_sd (n + 8) n := ⟨hn, by omega, Nat.le_refl _⟩
    have hl9 : xm_lay n = (9, 0) := xm_sdL hsd 0 (by decide) rfl
    have hs4 : (I 15 1).toNatClampNeg < 4 := by
      show (I 15 1).toInt.toNat < 4
      omega
    refine r_aload_n (i := 5) (k0 := 0) rfl rfl rfl ?_
    refine q_getr (b := 16) (i := 6) rfl fl_Ss_13 rfl (xm_in rfl hn) rfl rfl ?_
    refine r_aload_n (i := 7) (k0 := 0) rfl rfl rfl ?_
    refine q_geti (i := 8) rfl fl_Ss_17 (xm_in rfl hn) rfl ?_
    refine q_new (i := 9) rfl hz (by omega) hl9 kl_9 ct_cl_Ss_11 ct_in_9 ct_ini_9 ct_ty_9 ?_
    refine r_dup (i := 10) rfl rfl ?_
    refine r_iload_n (i := 11) (k0 := 1) rfl rfl rfl ?_
    refine r_iload_n (i := 12) (k0 := 2) rfl rfl rfl ?_
    refine r_callI (i := 13) (kc' := 0) (ks' := 0) (As := [.int x1, .int x2]) (rest := [.ref n, .int (I 15 1), .ref 16]) rfl ok_So_init rfl rfl lk_Ss_26 im_So_init (t_So_init (by omega) hsd (hz.up (Nat.le_succ _))) (Nat.le_of_ble_eq_true rfl) (by omega) rfl (Nat.le_of_ble_eq_true rfl) rfl rfl (fun v h2 hq => ?_)
    obtain ⟨rfl, rfl⟩ := hq
    refine q_aastore (i := 14) rfl (by omega) rfl (by omega) hl9 ⟨h0, h4⟩ ?_
    rw [RC_next hs4 hnn]
    have hn8 : 86 ≤ n + 8 := by omega
    refine r_aload_n (i := 15) (k0 := 0) rfl rfl rfl ?_
    refine r_dup (i := 16) rfl rfl ?_
    refine q_geti (i := 17) rfl fl_Ss_17 (xm_in rfl hn8) rfl ?_
    refine r_iconst (v := 1) (i := 18) rfl ki_1 ?_
    refine r_iadd (i := 19) rfl ?_
    refine q_puti (i := 20) rfl fl_Ss_17 (fun h => Bool.noConfusion h) (xm_in rfl hn8) rfl ?_
    refine r_aload_n (i := 21) (k0 := 0) rfl rfl rfl ?_
    refine q_geti (i := 22) rfl fl_Ss_17 (xm_in rfl hn8) rfl ?_
    refine r_iconst (v := 1) (i := 23) rfl ki_1 ?_
    refine r_isub (i := 24) rfl ?_
    have e15 : ¬ (15 : Nat) = n := by omega
    have eI : up2 (up2 I n 0 x1) n 1 x2 15 1 = I 15 1 := by simp [up2, e15]
    rw [eI]
    have eJ : up2 (up2 (up2 I n 0 x1) n 1 x2) 15 1 (I 15 1 + 1) 15 1 - 1 = I 15 1 := by
      simp [up2]
    rw [eJ]
    exact r_ireturn (i := 25) rfl rfl rfl ⟨_, rfl, rfl, hQ⟩
  · have hge : 4 ≤ I 15 1 := by
      by_cases h : 4 ≤ I 15 1
      · exact h
      · rw [if_neg h] at hp
        exact absurd hp hc
    have hF := ok_it hge hF
    refine r_ldc (i := 3) rfl ct_Ss_25 ?_
    exact r_ireturn (i := 4) rfl rfl rfl ⟨_, rfl, rfl, ok_some hF⟩
noncomputable def f_D_solid (x1 x2 : Int32) (n : Nat) (I : xm_I) : Option (Int32 × xm_I × Nat) :=
  (f_Pt_has x1 I).bind fun p_1 =>
  if p_1 = 0 then some (-100001, I, n) else
  (f_D_isWithin x2 1 50).bind fun p_2 =>
  if p_2 = 0 then some (-100002, I, n) else
  (f_Ss_isFull I).bind fun p_3 =>
  if p_3 = 0 then (f_Ss_add x1 x2 n I).bind fun p_4 => some p_4 else some (-100004, I, n)
set_option maxHeartbeats 4000000 in
set_option maxRecDepth 100000 in
theorem t_D_solid {x1 x2 : Int32} {n : Nat} {I : xm_I} {L : xm_L} {K : Int32 × xm_I × Nat → Prop} (hn : 86 ≤ n) (hn9 : n ≤ 900) (hz : Fz I L (RC n) n) (hF : ok (f_D_solid x1 x2 n I) K) : xm_C 3 mt_D_solid [.ref 0, .int x1, .int x2] (I, L, RC n, n) 8 221 (pI (fun p : Int32 × xm_I × Nat => p.1) (fun p => (p.2.1, L, RC p.2.2, p.2.2)) K) := by
  unfold f_D_solid at hF
  refine xm_enter (by decide +kernel) dv_D_solid (Nat.le_of_ble_eq_true rfl) ?_
  show xm_J 3 mt_D_solid 0 [(0, .ref 0), (1, .int x1), (2, .int x2)] [] (I, L, RC n, n) 8 221 _
  refine r_aload_n (i := 0) (k0 := 0) rfl rfl rfl ?_
  refine q_getr (b := 1) (i := 1) rfl fl_D_10 rfl (xm_in rfl hn) rfl rfl ?_
  refine r_iload_n (i := 2) (k0 := 1) rfl rfl rfl ?_
  refine c_V1I (i := 3) rfl vm_Pt_has lk_D_96 (t_Pt_has hn (ok_bind hF)) (Nat.le_of_ble_eq_true rfl) (xm_in rfl hn) rfl rfl (Nat.le_of_ble_eq_true rfl) (fun p_1 hF => ?_)
  refine r_ifne (i := 4) (tgt := 14) rfl (by decide) (fun hc => ?_) (fun hc => ?_)
  · have hF := ok_if hc hF
    refine r_iload_n (i := 7) (k0 := 2) rfl rfl rfl ?_
    refine r_iconst (v := 1) (i := 8) rfl ki_1 ?_
    refine r_bipush (v := 50) (i := 9) rfl (by decide) ?_
    refine c_S3I (i := 10) rfl sm_D_isWithin lk_D_82 (t_D_isWithin hn (ok_bind hF)) (Nat.le_of_ble_eq_true rfl) rfl (Nat.le_of_ble_eq_true rfl) (fun p_2 hF => ?_)
    refine r_ifne (i := 11) (tgt := 27) rfl (by decide) (fun hc => ?_) (fun hc => ?_)
    · have hF := ok_if hc hF
      refine r_aload_n (i := 14) (k0 := 0) rfl rfl rfl ?_
      refine q_getr (b := 15) (i := 15) rfl fl_D_35 rfl (xm_in rfl hn) rfl rfl ?_
      refine c_V0I (i := 16) rfl vm_Ss_isFull lk_D_240 (t_Ss_isFull hn (ok_bind hF)) (Nat.le_of_ble_eq_true rfl) (xm_in rfl hn) rfl rfl (Nat.le_of_ble_eq_true rfl) (fun p_3 hF => ?_)
      refine r_ifeq (i := 17) (tgt := 42) rfl (by decide) (fun hc => ?_) (fun hc => ?_)
      · have hF := ok_it hc hF
        refine r_aload_n (i := 20) (k0 := 0) rfl rfl rfl ?_
        refine q_getr (b := 15) (i := 21) rfl fl_D_35 rfl (xm_in rfl hn) rfl rfl ?_
        refine r_iload_n (i := 22) (k0 := 1) rfl rfl rfl ?_
        refine r_iload_n (i := 23) (k0 := 2) rfl rfl rfl ?_
        obtain ⟨hk1, hk2, q, hk3, hk4, hk5⟩ := vm_Ss_add
        refine r_callV (i := 24) (kc' := 0) (ks' := 0) (As := [.int x1, .int x2]) (rest := []) rfl hk1 lk_D_241 hk4 hk5 hk3 (t_Ss_add hn hn9 hz (ok_bind hF)) (Nat.le_of_ble_eq_true rfl) (xm_in rfl hn) rfl hk2 rfl (Nat.le_of_ble_eq_true rfl) rfl rfl (fun v h2 hq => ?_)
        obtain ⟨p_4, rfl, rfl, hF⟩ := hq
        exact r_ireturn (i := 25) rfl rfl rfl ⟨p_4, rfl, rfl, ok_some hF⟩
      · have hF := ok_if hc hF
        refine r_ldc (i := 18) rfl ct_D_91 ?_
        refine r_goto (i := 19) (tgt := 51) rfl (by decide) ?_
        exact r_ireturn (i := 25) rfl rfl rfl ⟨_, rfl, rfl, ok_some hF⟩
    · have hF := ok_it hc hF
      refine r_ldc (i := 12) rfl ct_D_86 ?_
      exact r_ireturn (i := 13) rfl rfl rfl ⟨_, rfl, rfl, ok_some hF⟩
  · have hF := ok_it hc hF
    refine r_ldc (i := 5) rfl ct_D_100 ?_
    exact r_ireturn (i := 6) rfl rfl rfl ⟨_, rfl, rfl, ok_some hF⟩
