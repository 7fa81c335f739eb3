/-! an expression's start -/
theorem EC_0 {a u : zM} {E K O : Int} (a7 : a 72 7 = 0) (a5 : a E 5 = K) (a11 : a E 11 = O + 7) (hO : 0 ≤ O) (p46 : u 88 46 = 0) (p42 : u 88 42 = K) (p43 : u 88 43 = O) (p48 : u 88 48 = 0) (cd : cdR a E u K O) : EC a E u O K O [] [] [] := by
  unfold EC
  refine ⟨trivial, a7, p46, trivial, trivial, p48, by omega, a5.trans p42.symm, p43, a11, cd, ⟨hO, Int.le_refl _⟩, ?_, trivial, fun y hy => absurd hy (List.not_mem_nil)⟩
  rw [Int.sub_self]; rfl
