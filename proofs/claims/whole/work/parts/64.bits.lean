/-! ===== bits ===== -/
def pc16 (x : Nat) : Nat := (x &&& 1) + (x >>> 1 &&& 1) + (x >>> 2 &&& 1) + (x >>> 3 &&& 1) + (x >>> 4 &&& 1) + (x >>> 5 &&& 1) + (x >>> 6 &&& 1) + (x >>> 7 &&& 1) + (x >>> 8 &&& 1) + (x >>> 9 &&& 1) + (x >>> 10 &&& 1) + (x >>> 11 &&& 1) + (x >>> 12 &&& 1) + (x >>> 13 &&& 1) + (x >>> 14 &&& 1) + (x >>> 15 &&& 1)
def bcI (x : Int32) : Int32 :=
  let x0_1 : Int32 := x - (((x.toUInt32 >>> (Int32.toUInt32 1 &&& Int32.toUInt32 31)).toInt32) &&& 1431655765)
  let x0_2 : Int32 := (x0_1 &&& 858993459) + (((x0_1.toUInt32 >>> (Int32.toUInt32 2 &&& Int32.toUInt32 31)).toInt32) &&& 858993459)
  let x0_3 : Int32 := (x0_2 + ((x0_2.toUInt32 >>> (Int32.toUInt32 4 &&& Int32.toUInt32 31)).toInt32)) &&& 252645135
  let x0_4 : Int32 := x0_3 + ((x0_3.toUInt32 >>> (Int32.toUInt32 8 &&& Int32.toUInt32 31)).toInt32)
  let x0_5 : Int32 := x0_4 + ((x0_4.toUInt32 >>> (Int32.toUInt32 16 &&& Int32.toUInt32 31)).toInt32)
  x0_5 &&& 63
theorem e_Ji_bitCount_I (x : Int32) : f_Ji_bitCount_I x = some (bcI x) := rfl
def bcOk (h l : Nat) : Bool := (bcI (Int32.ofNat (256 * h + l))).toBitVec.toNat == pc16 (256 * h + l)
def allB (f : Nat → Bool) : Nat → Bool
  | 0 => true
  | k + 1 => f k && allB f k
theorem allB_at {f : Nat → Bool} {n : Nat} (h : allB f n = true) (k : Nat) (hk : k < n) : f k = true := by
  induction n with
  | zero => omega
  | succ n ih =>
    unfold allB at h
    rw [Bool.and_eq_true] at h
    by_cases he : k = n
    · rw [he]; exact h.1
    · exact ih h.2 (by omega)
set_option maxRecDepth 100000 in
theorem bc_0 : allB (fun h => allB (bcOk (0 + h)) 256) 8 = true := by decide +kernel
set_option maxRecDepth 100000 in
theorem bc_1 : allB (fun h => allB (bcOk (8 + h)) 256) 8 = true := by decide +kernel
set_option maxRecDepth 100000 in
theorem bc_2 : allB (fun h => allB (bcOk (16 + h)) 256) 8 = true := by decide +kernel
set_option maxRecDepth 100000 in
theorem bc_3 : allB (fun h => allB (bcOk (24 + h)) 256) 8 = true := by decide +kernel
set_option maxRecDepth 100000 in
theorem bc_4 : allB (fun h => allB (bcOk (32 + h)) 256) 8 = true := by decide +kernel
set_option maxRecDepth 100000 in
theorem bc_5 : allB (fun h => allB (bcOk (40 + h)) 256) 8 = true := by decide +kernel
set_option maxRecDepth 100000 in
theorem bc_6 : allB (fun h => allB (bcOk (48 + h)) 256) 8 = true := by decide +kernel
set_option maxRecDepth 100000 in
theorem bc_7 : allB (fun h => allB (bcOk (56 + h)) 256) 8 = true := by decide +kernel
set_option maxRecDepth 100000 in
theorem bc_8 : allB (fun h => allB (bcOk (64 + h)) 256) 8 = true := by decide +kernel
set_option maxRecDepth 100000 in
theorem bc_9 : allB (fun h => allB (bcOk (72 + h)) 256) 8 = true := by decide +kernel
set_option maxRecDepth 100000 in
theorem bc_10 : allB (fun h => allB (bcOk (80 + h)) 256) 8 = true := by decide +kernel
set_option maxRecDepth 100000 in
theorem bc_11 : allB (fun h => allB (bcOk (88 + h)) 256) 8 = true := by decide +kernel
set_option maxRecDepth 100000 in
theorem bc_12 : allB (fun h => allB (bcOk (96 + h)) 256) 8 = true := by decide +kernel
set_option maxRecDepth 100000 in
theorem bc_13 : allB (fun h => allB (bcOk (104 + h)) 256) 8 = true := by decide +kernel
set_option maxRecDepth 100000 in
theorem bc_14 : allB (fun h => allB (bcOk (112 + h)) 256) 8 = true := by decide +kernel
set_option maxRecDepth 100000 in
theorem bc_15 : allB (fun h => allB (bcOk (120 + h)) 256) 8 = true := by decide +kernel
set_option maxRecDepth 100000 in
theorem bc_16 : allB (fun h => allB (bcOk (128 + h)) 256) 8 = true := by decide +kernel
set_option maxRecDepth 100000 in
theorem bc_17 : allB (fun h => allB (bcOk (136 + h)) 256) 8 = true := by decide +kernel
set_option maxRecDepth 100000 in
theorem bc_18 : allB (fun h => allB (bcOk (144 + h)) 256) 8 = true := by decide +kernel
set_option maxRecDepth 100000 in
theorem bc_19 : allB (fun h => allB (bcOk (152 + h)) 256) 8 = true := by decide +kernel
set_option maxRecDepth 100000 in
theorem bc_20 : allB (fun h => allB (bcOk (160 + h)) 256) 8 = true := by decide +kernel
set_option maxRecDepth 100000 in
theorem bc_21 : allB (fun h => allB (bcOk (168 + h)) 256) 8 = true := by decide +kernel
set_option maxRecDepth 100000 in
theorem bc_22 : allB (fun h => allB (bcOk (176 + h)) 256) 8 = true := by decide +kernel
set_option maxRecDepth 100000 in
theorem bc_23 : allB (fun h => allB (bcOk (184 + h)) 256) 8 = true := by decide +kernel
set_option maxRecDepth 100000 in
theorem bc_24 : allB (fun h => allB (bcOk (192 + h)) 256) 8 = true := by decide +kernel
set_option maxRecDepth 100000 in
theorem bc_25 : allB (fun h => allB (bcOk (200 + h)) 256) 8 = true := by decide +kernel
set_option maxRecDepth 100000 in
theorem bc_26 : allB (fun h => allB (bcOk (208 + h)) 256) 8 = true := by decide +kernel
set_option maxRecDepth 100000 in
theorem bc_27 : allB (fun h => allB (bcOk (216 + h)) 256) 8 = true := by decide +kernel
set_option maxRecDepth 100000 in
theorem bc_28 : allB (fun h => allB (bcOk (224 + h)) 256) 8 = true := by decide +kernel
set_option maxRecDepth 100000 in
theorem bc_29 : allB (fun h => allB (bcOk (232 + h)) 256) 8 = true := by decide +kernel
set_option maxRecDepth 100000 in
theorem bc_30 : allB (fun h => allB (bcOk (240 + h)) 256) 8 = true := by decide +kernel
set_option maxRecDepth 100000 in
theorem bc_31 : allB (fun h => allB (bcOk (248 + h)) 256) 8 = true := by decide +kernel
theorem bc_at (h l : Nat) (hh : h < 256) (hl : l < 256) : bcOk h l = true := by
  have e : h = 8 * (h / 8) + h % 8 := by omega
  have hq : h / 8 < 32 := by omega
  have hr : h % 8 < 8 := by omega
  rw [e]
  generalize h / 8 = q at *
  generalize h % 8 = r at *
  have key : allB (fun h => allB (bcOk (8 * q + h)) 256) 8 = true := by
    have : q = 0 ∨ q = 1 ∨ q = 2 ∨ q = 3 ∨ q = 4 ∨ q = 5 ∨ q = 6 ∨ q = 7 ∨ q = 8 ∨ q = 9 ∨ q = 10 ∨ q = 11 ∨ q = 12 ∨ q = 13 ∨ q = 14 ∨ q = 15 ∨ q = 16 ∨ q = 17 ∨ q = 18 ∨ q = 19 ∨ q = 20 ∨ q = 21 ∨ q = 22 ∨ q = 23 ∨ q = 24 ∨ q = 25 ∨ q = 26 ∨ q = 27 ∨ q = 28 ∨ q = 29 ∨ q = 30 ∨ q = 31 := by omega
    rcases this with rfl | rfl | rfl | rfl | rfl | rfl | rfl | rfl | rfl | rfl | rfl | rfl | rfl | rfl | rfl | rfl | rfl | rfl | rfl | rfl | rfl | rfl | rfl | rfl | rfl | rfl | rfl | rfl | rfl | rfl | rfl | rfl
    · exact bc_0
    · exact bc_1
    · exact bc_2
    · exact bc_3
    · exact bc_4
    · exact bc_5
    · exact bc_6
    · exact bc_7
    · exact bc_8
    · exact bc_9
    · exact bc_10
    · exact bc_11
    · exact bc_12
    · exact bc_13
    · exact bc_14
    · exact bc_15
    · exact bc_16
    · exact bc_17
    · exact bc_18
    · exact bc_19
    · exact bc_20
    · exact bc_21
    · exact bc_22
    · exact bc_23
    · exact bc_24
    · exact bc_25
    · exact bc_26
    · exact bc_27
    · exact bc_28
    · exact bc_29
    · exact bc_30
    · exact bc_31
  exact allB_at (allB_at key r hr) l hl
