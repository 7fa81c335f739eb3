/-! ABSTRACT VALUES: zI int, zL long, zR a reference (its kind, its cell's number), zU nothing known -/
abbrev zV : Type := Int ⊕ (Int ⊕ ((Nat × Int) ⊕ Unit))
abbrev zI (x : Int) : zV := .inl x
abbrev zL (x : Int) : zV := .inr (.inl x)
abbrev zR (t : Nat) (x : Int) : zV := .inr (.inr (.inl (t, x)))
abbrev zU : zV := .inr (.inr (.inr ()))
abbrev zM : Type := Int → Int → Int
def zw (x : Int) : Int := (x + 2147483648) % 4294967296 - 2147483648
def zwl (x : Int) : Int := (x + 9223372036854775808) % 18446744073709551616 - 9223372036854775808
def zup (f : zM) (k j v : Int) : zM := fun a b => if a = k ∧ b = j then v else f a b
def zri (x : Int) : Prop := -2147483648 ≤ x ∧ x < 2147483648
def zrl (x : Int) : Prop := -9223372036854775808 ≤ x ∧ x < 9223372036854775808
theorem zw_id {x : Int} (h : zri x) : zw x = x := by unfold zw; unfold zri at h; omega
theorem zwl_id {x : Int} (h : zrl x) : zwl x = x := by unfold zwl; unfold zrl at h; omega
theorem zw_ri (x : Int) : zri (zw x) := by unfold zw zri; omega
theorem zwl_rl (x : Int) : zrl (zwl x) := by unfold zwl zrl; omega
/-- where references stand: a0 the first cell's address, b the script's, bs the words' -/
abbrev zB : Type := Nat × Nat × Nat
def zv (B : zB) : zV → Value
  | .inl x => .int (Int32.ofInt x)
  | .inr (.inl x) => .long (Int64.ofInt x)
  | .inr (.inr (.inl (t, x))) => if t = 90 then .ref B.2.1 else if t = 91 then .ref B.2.2 else .ref (B.1 + zrho x.toNat)
  | .inr (.inr (.inr _)) => .null
theorem zi_toInt {x : Int} (h : zri x) : (Int32.ofInt x).toInt = x := by
  unfold zri at h
  exact Int32.toInt_ofInt_of_le (by omega) (by omega)
theorem zl_toInt {x : Int} (h : zrl x) : (Int64.ofInt x).toInt = x := by
  unfold zrl at h
  exact Int64.toInt_ofInt_of_le (by omega) (by omega)
theorem zi_ri (i : Int32) : zri i.toInt := by
  have h1 := Int32.le_toInt i
  have h2 := Int32.toInt_lt i
  unfold zri
  omega
theorem zl_rl (i : Int64) : zrl i.toInt := by
  have h1 := Int64.le_toInt i
  have h2 := Int64.toInt_lt i
  unfold zrl
  omega
theorem zi_bmod (x : Int) : zw x = x.bmod (2 ^ 32) := by
  unfold zw
  rw [Int.bmod_def]
  split <;> omega
theorem zl_bmod (x : Int) : zwl x = x.bmod (2 ^ 64) := by
  unfold zwl
  rw [Int.bmod_def]
  split <;> omega
theorem zi_w (x : Int) : Int32.ofInt (zw x) = Int32.ofInt x := by
  apply Int32.toInt_inj.mp
  rw [zi_toInt (zw_ri x), Int32.toInt_ofInt, zi_bmod]
  try rfl
theorem zl_w (x : Int) : Int64.ofInt (zwl x) = Int64.ofInt x := by
  apply Int64.toInt_inj.mp
  rw [zl_toInt (zwl_rl x), Int64.toInt_ofInt, zl_bmod]
  try rfl
theorem zi_of (i : Int32) : Int32.ofInt i.toInt = i := Int32.ofInt_toInt i
theorem zl_of (i : Int64) : Int64.ofInt i.toInt = i := Int64.ofInt_toInt i
