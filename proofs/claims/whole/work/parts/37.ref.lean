/-! the references lead where the layout says -/
def zrfk (x : Nat) : Bool := match (zKd (zlay.getD x 99)).1 with
  | 0 => (List.range (zKd (zlay.getD x 99)).2.1).all fun j => !(Nat.beq (zsk (zlay.getD x 99) j).1 2 || Nat.beq (zsk (zlay.getD x 99) j).1 6) || decide (zcC.2.1 x j = zr0 x j)
  | 5 => (List.range (zKd (zlay.getD x 99)).2.1).all fun j => decide (zcC.2.1 x j = zr0 x j)
  | _ => true
set_option maxRecDepth 100000 in
theorem zrf_ok : ((List.range 148).all fun x => Nat.beq x 74 || zrfk x) = true := by decide +kernel
theorem zag_m0 : zag 147 zcC.2.1 zr0 := by
  intro x hx j hj h2
  have hx8 : x < 148 := zrho_lt (Nat.lt_of_lt_of_le hx (by decide))
  have q := List.all_eq_true.mp zrf_ok x (List.mem_range.mpr hx8)
  have hx7 : Nat.beq x 74 = false := by
    cases hc : Nat.beq x 74
    · rfl
    · have := zb_len hc
      subst this
      exact absurd hx (by decide +kernel)
  rw [hx7, Bool.false_or] at q
  unfold zrfk at q
  split at q
  · have q := List.all_eq_true.mp q j (List.mem_range.mpr hj)
    have h3 : (Nat.beq (zsk (zlay.getD x 99) j).1 2 || Nat.beq (zsk (zlay.getD x 99) j).1 6) = true := by
      rcases h2 with z | z
      · rw [z]; rfl
      · rw [z]; rfl
    rw [h3] at q
    exact of_decide_eq_true (by simpa using q)
  · exact of_decide_eq_true (List.all_eq_true.mp q j (List.mem_range.mpr hj))
  · rename_i z0 z5
    exfalso
    unfold zsk at h2
    split at h2
    · rename_i z; exact z0 z
    · rcases h2 with z | z <;> cases z
    · rcases h2 with z | z <;> cases z
    · rcases h2 with z | z <;> cases z
    · rcases h2 with z | z <;> cases z
    · rename_i z; exact z5 z
    · rcases h2 with z | z <;> cases z
    · rcases h2 with z | z <;> cases z
