/-! the core of an expression: frames -/
theorem ndW_g {u u' : zM} {K K' O O' : Int} {H H' : List Int} (hK : K ≤ K') : ∀ (W N : List Int), (∀ y, y ∈ N → 96 ≤ y → y < 96 + K → u' 111 y = u 111 y ∧ u' 114 y = u 114 y ∧ (¬ y ∈ H → ¬ y ∈ H') ∧ ((∀ i, 96 ≤ i → i < 96 + O → ¬ u 115 i = y) → ∀ i, 96 ≤ i → i < 96 + O' → ¬ u' 115 i = y)) → ndW u K O H W N → ndW u' K' O' H' W N := by
  intro W
  induction W with
  | nil => intro N _ h; cases N with
    | nil => trivial
    | cons x N => exact h
  | cons s W ih =>
    intro N e h
    cases N with
    | nil => exact h
    | cons x N =>
      refine ⟨⟨h.1.1, by have := h.1.2; omega⟩, fun h36 => ?_, ih N (fun y hy => e y (List.mem_cons_of_mem _ hy)) h.2.2⟩
      obtain ⟨hx, h111, h114, hH, hN, hO⟩ := h.2.1 h36
      obtain ⟨e1, e2, e3, e4⟩ := e x (List.mem_cons_self ..) hx.1 hx.2
      exact ⟨⟨hx.1, by omega⟩, e1.trans h111, e2.trans h114, e3 hH, hN, e4 hO⟩
theorem cdR_g {a a' u u' : zM} {E K K' O : Int} (hK : K ≤ K') (ea : ∀ i, 0 ≤ i → i < O → a' (E + 1) (7 + i) = a (E + 1) (7 + i) ∧ a' (E + 2) (7 + i) = a (E + 2) (7 + i)) (eu : ∀ i, 0 ≤ i → i < O → u' 115 (96 + i) = u 115 (96 + i) ∧ u' 111 (u 115 (96 + i)) = u 111 (u 115 (96 + i)) ∧ u' 114 (u 115 (96 + i)) = u 114 (u 115 (96 + i))) (h : cdR a E u K O) : cdR a' E u' K' O := by
  intro i h0 h1
  obtain ⟨b, c, d⟩ := h i h0 h1
  obtain ⟨a1, a2⟩ := ea i h0 h1
  obtain ⟨u1, u2, u3⟩ := eu i h0 h1
  rw [u1, u2, u3, a1, a2]
  exact ⟨⟨b.1, by omega⟩, c, d⟩
theorem cdR_s {a u : zM} {E K O : Int} (h : cdR a E u K O) (hx : 96 ≤ u 115 (96 + O) ∧ u 115 (96 + O) < 96 + K) (h1 : a (E + 1) (7 + O) = sgK (u 111 (u 115 (96 + O))) (u 114 (u 115 (96 + O)))) (h2 : a (E + 1) (7 + O) = 2 → a (E + 2) (7 + O) = u 114 (u 115 (96 + O))) : cdR a E u K (O + 1) := by
  intro i h0 hi
  by_cases hO : i = O
  · subst hO; exact ⟨hx, h1, h2⟩
  · exact h i h0 (by omega)
