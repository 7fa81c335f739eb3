/-! one turn of bind, as cells -/
theorem un1_c {u : zM} {x L : Int} (h48 : u 88 48 = L + 1) : un1F u x 88 43 = u 88 43 + 1 ∧ un1F u x 88 48 = L + 1 ∧ un1F u x 120 L = x ∧ (∀ j, ¬ j = L → un1F u x 120 j = u 120 j) ∧ un1F u x 115 (96 + u 88 43) = x ∧ (∀ j, ¬ j = 96 + u 88 43 → un1F u x 115 j = u 115 j) ∧ un1F u x 112 x = u 120 L ∧ (∀ j, ¬ j = x → un1F u x 112 j = u 112 j) ∧ (∀ j, un1F u x 113 j = u 113 j) ∧ (∀ c j, ¬ c = 112 → ¬ c = 115 → ¬ c = 120 → (c = 88 → ¬ j = 43 ∧ ¬ j = 48) → un1F u x c j = u c j) := by
  have e0 : L + 1 - 1 = L := by omega
  refine ⟨?_, ?_, ?_, ?_, ?_, ?_, ?_, ?_, ?_, ?_⟩
  · simp [un1F, donF, droF, zup]
  · simp [un1F, donF, droF, zup, h48]
  · simp [un1F, donF, droF, zup, h48, e0]
  · intro j hj; simp [un1F, donF, droF, zup, h48, e0, hj]
  · simp [un1F, donF, droF, zup]
  · intro j hj; simp [un1F, donF, droF, zup, hj]
  · simp [un1F, donF, droF, zup, h48, e0]
  · intro j hj; simp [un1F, donF, droF, zup, hj]
  · intro j; simp [un1F, donF, droF, zup]
  · intro c j h1 h2 h3 h4
    by_cases h88 : c = 88
    · obtain ⟨h5, h6⟩ := h4 h88; simp [un1F, donF, droF, zup, h88, h5, h6]
    · simp [un1F, donF, droF, zup, h1, h2, h3, h88]
theorem bi1_c {u : zM} {x L : Int} (h48 : u 88 48 = L + 2) : bi1F u x 88 43 = u 88 43 + 1 ∧ bi1F u x 88 48 = L + 1 ∧ bi1F u x 120 L = x ∧ (∀ j, ¬ j = L → bi1F u x 120 j = u 120 j) ∧ bi1F u x 115 (96 + u 88 43) = x ∧ (∀ j, ¬ j = 96 + u 88 43 → bi1F u x 115 j = u 115 j) ∧ bi1F u x 112 x = u 120 L ∧ (∀ j, ¬ j = x → bi1F u x 112 j = u 112 j) ∧ bi1F u x 113 x = u 120 (L + 1) ∧ (∀ j, ¬ j = x → bi1F u x 113 j = u 113 j) ∧ (∀ c j, ¬ c = 112 → ¬ c = 113 → ¬ c = 115 → ¬ c = 120 → (c = 88 → ¬ j = 43 ∧ ¬ j = 48) → bi1F u x c j = u c j) := by
  have e0 : L + 2 - 1 = L + 1 := by omega
  have e1 : L + 2 - 2 = L := by omega
  have e2 : L + 1 - 1 = L := by omega
  refine ⟨?_, ?_, ?_, ?_, ?_, ?_, ?_, ?_, ?_, ?_, ?_⟩
  · simp [bi1F, donF, droF, zup]
  · simp [bi1F, donF, droF, zup, h48]; try omega
  · simp [bi1F, donF, droF, zup, h48, e0, e1, e2]
  · intro j hj; simp [bi1F, donF, droF, zup, h48, e0, e1, e2, hj]
  · simp [bi1F, donF, droF, zup]
  · intro j hj; simp [bi1F, donF, droF, zup, hj]
  · simp [bi1F, donF, droF, zup, h48, e0, e1, e2]
  · intro j hj; simp [bi1F, donF, droF, zup, hj]
  · simp [bi1F, donF, droF, zup, h48, e0, e1, e2]
  · intro j hj; simp [bi1F, donF, droF, zup, hj]
  · intro c j h1 h1' h2 h3 h4
    by_cases h88 : c = 88
    · obtain ⟨h5, h6⟩ := h4 h88; simp [bi1F, donF, droF, zup, h88, h5, h6]
    · simp [bi1F, donF, droF, zup, h1, h1', h2, h3, h88]
