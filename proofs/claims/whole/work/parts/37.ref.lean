/-! the references lead where the layout says -/
def zrfk (x : Nat) : Bool := match (zKd (zlay.getD x 99)).1 with
  | 0 => (List.range (zKd (zlay.getD x 99)).2.1).all fun j => !Nat.beq (zsk (zlay.getD x 99) j).1 2 || decide (zcC.2.1 x j = zr0 x j)
  | 5 => (List.range (zKd (zlay.getD x 99)).2.1).all fun j => decide (zcC.2.1 x j = zr0 x j)
  | _ => true
set_option maxRecDepth 100000 in
theorem zrf_ok : ((List.range 148).all fun x => zrfk x) = true := by decide +kernel
theorem zag_m0 : zag 148 zcC.2.1 zr0 := by
  intro x hx j hj h2
  have q := List.all_eq_true.mp zrf_ok x (List.mem_range.mpr hx)
  unfold zrfk at q
  split at q
  · have q := List.all_eq_true.mp q j (List.mem_range.mpr hj)
    rw [h2] at q
    exact of_decide_eq_true (by simpa using q)
  · exact of_decide_eq_true (List.all_eq_true.mp q j (List.mem_range.mpr hj))
  · rename_i z0 z5
    exfalso
    unfold zsk at h2
    split at h2
    · rename_i z; exact z0 z
    · cases h2
    · cases h2
    · cases h2
    · cases h2
    · rename_i z; exact z5 z
    · cases h2
