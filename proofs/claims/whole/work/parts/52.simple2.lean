theorem zup_c {f : zM} {k j v a b : Int} (h : ¬ a = k) : zup f k j v a b = f a b := by unfold zup; rw [if_neg (fun q => h q.1)]
theorem zup_j {f : zM} {k j v a b : Int} (h : ¬ b = j) : zup f k j v a b = f a b := by unfold zup; rw [if_neg (fun q => h q.2)]
section L2
variable {Ω : zΩ} {m : zM} {Q : List zV → zM → Prop}
theorem s_set {l d : Int} (h9 : m 0 9 ≤ 6) (f : (0 ≤ l ∧ l < m 0 9) ∧ (-1 ≤ d ∧ d ≤ 60) → Q [zI 1] (zup (zup m (29 + 6 * l) 13 d) 0 14 1)) (n : ¬ ((0 ≤ l ∧ l < m 0 9) ∧ (-1 ≤ d ∧ d ≤ 60)) → Q [zI 0] m) : zG Ω 108 0 [zR 9 0, zI l, zI d] [] m Q :=
  w_X9_set_0 (b_hasLord (fun h1 => b_within (fun h2 => zin_of (by omega) (by omega) (f ⟨h1, h2⟩)) fun h2 => n (by omega)) fun h1 => n (by omega))
theorem s_setM {l d : Int} (h9 : m 88 12 ≤ 6) (f : (0 ≤ l ∧ l < m 88 12) ∧ (-1 ≤ d ∧ d ≤ 60) → Q [zI 1] (zup (zup m 88 2 0) 108 l d)) (n : ¬ ((0 ≤ l ∧ l < m 88 12) ∧ (-1 ≤ d ∧ d ≤ 60)) → Q [zI 0] (zup m 88 2 0)) : zG Ω 189 0 [zR 10 88, zI l, zI d] [] m Q := by
  have e : zup m 88 2 0 88 12 = m 88 12 := rfl
  refine w_X10_set_0 (b_isLord (fun h1 => b_isIn (fun h2 => ?_) fun h2 => n (by omega)) fun h1 => n (by omega))
  rw [e] at h1
  exact zin_of (by omega) (by omega) (f ⟨h1, h2⟩)
theorem s_window {l a b d : Int} (h9 : m 0 9 ≤ 6) (f : (0 ≤ l ∧ l < m 0 9) ∧ (0 ≤ a ∧ a ≤ 60) ∧ (a ≤ b ∧ b ≤ 60) ∧ (0 ≤ d ∧ d ≤ 99) → Q [zI 1] (zup (zup (zup (zup m (29 + 6 * l) 10 a) (29 + 6 * l) 11 b) (29 + 6 * l) 12 d) 0 14 1)) (n : ¬ ((0 ≤ l ∧ l < m 0 9) ∧ (0 ≤ a ∧ a ≤ 60) ∧ (a ≤ b ∧ b ≤ 60) ∧ (0 ≤ d ∧ d ≤ 99)) → Q [zI 0] m) : zG Ω 105 0 [zR 9 0, zI l, zI a, zI b, zI d] [] m Q :=
  w_X9_window_0 (b_hasLord (fun h1 => b_within (fun h2 => b_within (fun h3 => b_within (fun h4 => zin_of (by omega) (by omega) (zin_of (by omega) (by omega) (zin_of (by omega) (by omega) (f ⟨h1, h2, h3, h4⟩)))) fun h4 => n (by omega)) fun h3 => n (by omega)) fun h2 => n (by omega)) fun h1 => n (by omega))
theorem s_windowM {l a b d : Int} (h9 : m 88 12 ≤ 6) (f : (0 ≤ l ∧ l < m 88 12) ∧ (0 ≤ a ∧ a ≤ 60) ∧ (a ≤ b ∧ b ≤ 60) ∧ (0 ≤ d ∧ d ≤ 99) → Q [zI 1] (zup (zup (zup (zup m 88 2 0) 105 l a) 106 l b) 107 l d)) (n : ¬ ((0 ≤ l ∧ l < m 88 12) ∧ (0 ≤ a ∧ a ≤ 60) ∧ (a ≤ b ∧ b ≤ 60) ∧ (0 ≤ d ∧ d ≤ 99)) → Q [zI 0] (zup m 88 2 0)) : zG Ω 136 0 [zR 10 88, zI l, zI a, zI b, zI d] [] m Q := by
  have e : zup m 88 2 0 88 12 = m 88 12 := rfl
  refine w_X10_window_0 (b_isLord (fun h1 => b_isIn (fun h2 => b_isIn (fun h3 => b_isIn (fun h4 => ?_) fun h4 => n (by omega)) fun h3 => n (by omega)) fun h2 => n (by omega)) fun h1 => n (by omega))
  rw [e] at h1
  exact zin_of (by omega) (by omega) (zin_of (by omega) (by omega) (zin_of (by omega) (by omega) (f ⟨h1, h2, h3, h4⟩)))
/-- fault, count, row -/
theorem s_fault {w : Int} (h : Q [zI (if w = 0 then m 0 12 else if w = 1 then m 0 13 else -1)] m) : zG Ω 98 0 [zR 9 0, zI w] [] m Q := by
  refine w_X9_fault_0 (zif (fun h1 => ?_) fun h1 => zif (fun h2 => ?_) fun h2 => ?_)
  · rwa [if_pos h1] at h
  · rwa [if_neg h1, if_pos h2] at h
  · rwa [if_neg h1, if_neg h2] at h
theorem s_faultM {w : Int} (h : Q [zI (if w = 0 then m 88 26 else if w = 1 then m 88 27 else -1)] (zup m 88 2 0)) : zG Ω 162 0 [zR 10 88, zI w] [] m Q := by
  refine w_X10_fault_0 (zif (fun h1 => ?_) fun h1 => zif (fun h2 => ?_) fun h2 => ?_)
  · rwa [if_pos h1] at h
  · rwa [if_neg h1, if_pos h2] at h
  · rwa [if_neg h1, if_neg h2] at h
theorem s_row {w : Int} (hw : zri w) (h9 : m 0 9 ≤ 6) (h : Q [zI (if w = 0 then m 67 11 else if 1 ≤ w ∧ w ≤ m 0 9 then m (29 + 6 * (w - 1)) 13 else -1)] m) : zG Ω 115 0 [zR 9 0, zI w] [] m Q := by
  unfold zri at hw
  refine w_X9_row_0 (zif (fun h1 => ?_) fun h1 => zif (fun h2 => ?_) fun h2 => ?_)
  · rwa [if_pos h1] at h
  · rwa [if_neg h1, if_neg (by omega)] at h
  · rw [zw_id (by unfold zri; omega)]
    rw [if_neg h1] at h
    refine b_hasLord (fun h3 => zin_of (by omega) (by omega) ?_) fun h3 => ?_
    · rwa [if_pos (by omega)] at h
    · rwa [if_neg (by omega)] at h
theorem s_rowM {w : Int} (hw : zri w) (h9 : m 88 12 ≤ 6) (h : Q [zI (if w = 0 then m 88 78 else if 1 ≤ w ∧ w ≤ m 88 12 then m 108 (w - 1) else -1)] (zup m 88 2 0)) : zG Ω 197 0 [zR 10 88, zI w] [] m Q := by
  have e : zup m 88 2 0 88 12 = m 88 12 := rfl
  unfold zri at hw
  refine w_X10_row_0 (zif (fun h1 => ?_) fun h1 => ?_)
  · rwa [if_pos h1] at h
  · rw [if_neg h1] at h
    refine b_isLord (fun h3 => ?_) fun h3 => ?_
    · rw [e] at h3
      by_cases h4 : w = -2147483648
      · subst h4
        exact absurd h3 (by show ¬ (0 ≤ zw (-2147483649) ∧ zw (-2147483649) < _); unfold zw; omega)
      · rw [zw_id (by unfold zri; omega)] at h3 ⊢
        rw [if_pos (by omega)] at h
        exact zin_of (by omega) (by omega) h
    · rw [e] at h3
      by_cases h4 : w = -2147483648
      · subst h4
        rwa [if_neg (by omega)] at h
      · rw [zw_id (by unfold zri; omega)] at h3
        rwa [if_neg (by omega)] at h
end L2
