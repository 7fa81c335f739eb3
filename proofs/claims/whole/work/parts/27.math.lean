/-- Math's methods: 202 abs(long), 203 max(int), 204 max(long), 205 min(int), 206 min(long) -/
def zmath (N : Nat) (av : List zV) : Option zV := match N with
  | 202 => zp1l av fun x _ => some (zL (if 0 < x then x else zwl (-x)))
  | 203 => zp1i av fun x r => zp1i r fun y _ => some (zI (if x < y then y else x))
  | 204 => zp1l av fun x r => zp1l r fun y _ => some (zL (if y < x then x else y))
  | 205 => zp1i av fun x r => zp1i r fun y _ => some (zI (if y < x then y else x))
  | 206 => zp1l av fun x r => zp1l r fun y _ => some (zL (if y < x then y else x))
  | _ => none
theorem zmath_c : Cond.code Lib.Math.max.name Lib.Math.max.code 2 (some .int) ∈ lw_tbl ∧ Cond.code Lib.Math.min.name Lib.Math.min.code 2 (some .int) ∈ lw_tbl ∧ Cond.code Lib.MathLoose.max_long.x Lib.MathLoose.max_long.code 4 (some .long) ∈ lw_tbl ∧ Cond.code Lib.MathLoose.min_long.x Lib.MathLoose.min_long.code 4 (some .long) ∈ lw_tbl ∧ Cond.code Lib.MathLoose.abs_long.x Lib.MathLoose.abs_long.code 2 (some .long) ∈ lw_tbl := by decide +kernel
theorem zmath_n : (zmi 203).1 = Lib.Math.max.name ∧ (zmi 205).1 = Lib.Math.min.name ∧ (zmi 204).1 = Lib.MathLoose.max_long.x ∧ (zmi 206).1 = Lib.MathLoose.min_long.x ∧ (zmi 202).1 = Lib.MathLoose.abs_long.x := by decide +kernel
