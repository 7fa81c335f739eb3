theorem z32_bits {x y : Int} : Int32.ofInt x + Int32.ofInt y = Int32.ofInt (zw (x + y)) := by rw [zi_w, Int32.ofInt_add]
theorem z32_sub {x y : Int} : Int32.ofInt x - Int32.ofInt y = Int32.ofInt (zw (x - y)) := by rw [zi_w, Int32.ofInt_sub]
theorem z32_mul {x y : Int} : Int32.ofInt x * Int32.ofInt y = Int32.ofInt (zw (x * y)) := by rw [zi_w, Int32.ofInt_mul]
theorem z64_add {x y : Int} : Int64.ofInt x + Int64.ofInt y = Int64.ofInt (zwl (x + y)) := by rw [zl_w, Int64.ofInt_add]
theorem z64_sub {x y : Int} : Int64.ofInt x - Int64.ofInt y = Int64.ofInt (zwl (x - y)) := by rw [zl_w, Int64.ofInt_sub]
theorem z64_mul {x y : Int} : Int64.ofInt x * Int64.ofInt y = Int64.ofInt (zwl (x * y)) := by rw [zl_w, Int64.ofInt_mul]
theorem z64_neg {x : Int} : - Int64.ofInt x = Int64.ofInt (zwl (-x)) := by rw [zl_w, Int64.ofInt_neg]
theorem z32_ne {y : Int} (hy : zri y) (h : ¬ y = 0) : ¬ Int32.ofInt y = 0 := fun q => h (by rw [← zi_toInt hy, q]; rfl)
theorem z64_ne {y : Int} (hy : zrl y) (h : ¬ y = 0) : ¬ Int64.ofInt y = 0 := fun q => h (by rw [← zl_toInt hy, q]; rfl)
theorem z32_div {x y : Int} (hx : zri x) (hy : zri y) : Int32.ofInt x / Int32.ofInt y = Int32.ofInt (zw (x.tdiv y)) := by
  apply Int32.toInt_inj.mp
  rw [zi_toInt (zw_ri _), Int32.toInt_div, zi_toInt hx, zi_toInt hy, zi_bmod]
  try rfl
theorem z64_div {x y : Int} (hx : zrl x) (hy : zrl y) : Int64.ofInt x / Int64.ofInt y = Int64.ofInt (zwl (x.tdiv y)) := by
  apply Int64.toInt_inj.mp
  rw [zl_toInt (zwl_rl _), Int64.toInt_div, zl_toInt hx, zl_toInt hy, zl_bmod]
  try rfl
theorem z32_rem {x y : Int} (hx : zri x) (hy : zri y) : Int32.ofInt x - Int32.ofInt x / Int32.ofInt y * Int32.ofInt y = Int32.ofInt (x.tmod y) := by
  rw [z32_div hx hy, zi_w, ← Int32.ofInt_mul, ← Int32.ofInt_sub]
  congr 1
  have := Int.mul_tdiv_add_tmod x y
  rw [Int.mul_comm] at this
  omega
theorem z64_rem {x y : Int} (hx : zrl x) (hy : zrl y) : Int64.ofInt x - Int64.ofInt x / Int64.ofInt y * Int64.ofInt y = Int64.ofInt (x.tmod y) := by
  rw [z64_div hx hy, zl_w, ← Int64.ofInt_mul, ← Int64.ofInt_sub]
  congr 1
  have := Int.mul_tdiv_add_tmod x y
  rw [Int.mul_comm] at this
  omega
theorem z_tmod_b {x y : Int} : (0 ≤ x → 0 ≤ x.tmod y ∧ x.tmod y ≤ x) ∧ (x ≤ 0 → x.tmod y ≤ 0 ∧ x ≤ x.tmod y) := by
  have h1 := Int.natAbs_tmod x y
  have h2 := Nat.mod_le x.natAbs y.natAbs
  constructor
  · intro h
    have h3 := Int.tmod_nonneg y h
    omega
  · intro h
    have h3 := Int.tmod_nonneg y (show 0 ≤ -x by omega)
    rw [Int.neg_tmod] at h3
    omega
theorem z_tmod_ri {x y : Int} (hx : zri x) (_ : ¬ y = 0) : zri (x.tmod y) := by
  have := z_tmod_b (x := x) (y := y)
  unfold zri at *
  omega
theorem z_tmod_rl {x y : Int} (hx : zrl x) (_ : ¬ y = 0) : zrl (x.tmod y) := by
  have := z_tmod_b (x := x) (y := y)
  unfold zrl at *
  omega
theorem z32_lt {x y : Int} (hx : zri x) (hy : zri y) : Int32.ofInt x < Int32.ofInt y ↔ x < y := by rw [Int32.lt_iff_toInt_lt, zi_toInt hx, zi_toInt hy]
theorem z32_le {x y : Int} (hx : zri x) (hy : zri y) : Int32.ofInt x ≤ Int32.ofInt y ↔ x ≤ y := by rw [Int32.le_iff_toInt_le, zi_toInt hx, zi_toInt hy]
theorem z32_eq {x y : Int} (hx : zri x) (hy : zri y) : Int32.ofInt x = Int32.ofInt y ↔ x = y := ⟨fun h => by rw [← zi_toInt hx, h, zi_toInt hy], fun h => by rw [h]⟩
theorem z64_lt {x y : Int} (hx : zrl x) (hy : zrl y) : Int64.ofInt x < Int64.ofInt y ↔ x < y := by rw [Int64.lt_iff_toInt_lt, zl_toInt hx, zl_toInt hy]
theorem z64_eq {x y : Int} (hx : zrl x) (hy : zrl y) : Int64.ofInt x = Int64.ofInt y ↔ x = y := ⟨fun h => by rw [← zl_toInt hx, h, zl_toInt hy], fun h => by rw [h]⟩
theorem z_0 : Int32.ofInt 0 = 0 := rfl
theorem z_ri0 : zri 0 := by unfold zri; omega
theorem z_i2l {x : Int} (hx : zri x) : (Int32.ofInt x).toInt64 = Int64.ofInt x := by
  apply Int64.toInt_inj.mp
  rw [Int32.toInt_toInt64, zi_toInt hx, zl_toInt (by unfold zri at hx; unfold zrl; omega)]
theorem z_l2i {x : Int} (hx : zrl x) : (Int64.ofInt x).toInt32 = Int32.ofInt (zw x) := by
  apply Int32.toInt_inj.mp
  rw [Int64.toInt_toInt32, zl_toInt hx, zi_toInt (zw_ri x), zi_bmod]
  try rfl
theorem z_i2b {x : Int} (hx : zri x) : (Int32.ofInt x).toInt8.toInt32 = Int32.ofInt (zi2b x) := by
  apply Int32.toInt_inj.mp
  rw [Int8.toInt_toInt32, Int32.toInt_toInt8, zi_toInt hx, zi_toInt (by unfold zri zi2b; omega)]
  unfold zi2b
  rw [Int.bmod_def]
  split <;> omega
theorem z_bi {n : Int} (h1 : -128 ≤ n) (h2 : n < 128) : (Int8.ofInt n).toInt32 = Int32.ofInt n := by
  apply Int32.toInt_inj.mp
  rw [Int8.toInt_toInt32, Int8.toInt_ofInt_of_le (by omega) (by omega), zi_toInt (by unfold zri; omega)]
theorem z_si {n : Int} (h1 : -32768 ≤ n) (h2 : n < 32768) : (Int16.ofInt n).toInt32 = Int32.ofInt n := by
  apply Int32.toInt_inj.mp
  rw [Int16.toInt_toInt32, Int16.toInt_ofInt_of_le (by omega) (by omega), zi_toInt (by unfold zri; omega)]
theorem z_cmp {x y : Int} (hx : zrl x) (hy : zrl y) : lg_cmp (Int64.ofInt x) (Int64.ofInt y) = Int32.ofInt (zcmp x y) := by
  unfold lg_cmp zcmp
  simp only [gt_iff_lt, z64_lt hx hy, z64_lt hy hx, z64_eq hx hy]
  by_cases h1 : x < y
  · rw [if_pos h1, if_neg (by omega), if_neg (by omega)]; rfl
  · by_cases h2 : x = y
    · rw [if_neg h1, if_pos h2, if_neg (by omega), if_pos h2]; rfl
    · rw [if_neg h1, if_pos (by omega), if_neg h2]; rfl
theorem z_cmp_ri (x y : Int) : zri (zcmp x y) := by
  unfold zcmp zri
  split
  · omega
  · split <;> omega
