/-! where the loop begins -/
theorem zf_at {m : zM} (h : ∀ t ∈ zfx, m t.1 t.2.1 = t.2.2) {x j v : Int} (e : decide ((x, j, v) ∈ zfx) = true) : m x j = v := h (x, j, v) (of_decide_eq_true e)
theorem enc_0 {m : zM} (h : ∀ t ∈ zfx, m t.1 t.2.1 = t.2.2) : encA m 0 wdsM := by
  unfold wdsM
  simp only [encA, spells]
  repeat' apply And.intro
  all_goals first | exact zf_at h (by decide +kernel) | decide
theorem ER_0 {m : zM} (h : ∀ t ∈ zfx, m t.1 t.2.1 = t.2.2) : ER m 76 m := by
  have a0 : m 79 0 = 0 := zf_at h (by decide +kernel)
  have a1 : m 79 1 = 1 := zf_at h (by decide +kernel)
  have a2 : m 79 2 = 4 := zf_at h (by decide +kernel)
  have a3 : m 79 3 = 5 := zf_at h (by decide +kernel)
  have a4 : m 79 4 = 6 := zf_at h (by decide +kernel)
  have b0 : m 80 0 = 1 := zf_at h (by decide +kernel)
  have b1 : m 80 1 = 4 := zf_at h (by decide +kernel)
  have b2 : m 80 2 = 5 := zf_at h (by decide +kernel)
  have b3 : m 80 3 = 6 := zf_at h (by decide +kernel)
  have b4 : m 80 4 = 7 := zf_at h (by decide +kernel)
  have s0 : m 77 0 = 2 := zf_at h (by decide +kernel)
  have s1 : m 77 1 = 15 := zf_at h (by decide +kernel)
  have s2 : m 77 2 = 2 := zf_at h (by decide +kernel)
  have s3 : m 77 3 = 33 := zf_at h (by decide +kernel)
  have s4 : m 77 4 = 2 := zf_at h (by decide +kernel)
  have s5 : m 77 5 = 2 := zf_at h (by decide +kernel)
  have s6 : m 77 6 = 13 := zf_at h (by decide +kernel)
  have n0 : m 78 0 = 1 := zf_at h (by decide +kernel)
  have n2 : m 78 2 = 10 := zf_at h (by decide +kernel)
  have n4 : m 78 4 = 10 := zf_at h (by decide +kernel)
  have n5 : m 78 5 = 0 := zf_at h (by decide +kernel)
  have g4 : m 123 4 = 0 := zf_at h (by decide +kernel)
  have g5 : m 123 5 = 0 := zf_at h (by decide +kernel)
  have g6 : m 123 6 = 0 := zf_at h (by decide +kernel)
  have g7 : m 123 7 = 0 := zf_at h (by decide +kernel)
  have g8 : m 123 8 = 0 := zf_at h (by decide +kernel)
  have y : yc m = 1 := by unfold yc; rw [if_pos g8]
  have cd : ∀ q, 0 ≤ q → q < 7 → (sdA (m 77 q) ∨ (21 ≤ m 77 q ∧ m 77 q ≤ 35)) ∧ (m 77 q = 2 → bdA (m 78 q)) := by
    intro q q0 q1
    have : q = 0 ∨ q = 1 ∨ q = 2 ∨ q = 3 ∨ q = 4 ∨ q = 5 ∨ q = 6 := by omega
    rcases this with rfl | rfl | rfl | rfl | rfl | rfl | rfl <;> omega
  have cc : ∀ w a b, m 79 (w - 7) = a → m 80 (w - 7) = b → 0 ≤ a → a ≤ b → b ≤ 7 → cdC m 76 w := by
    intro w a b ha hb h0 h1 h2
    refine ⟨⟨?_, ?_, ?_⟩, fun q q0 q1 => cd q ?_ ?_⟩
    · show 0 ≤ m 79 (w - 7); omega
    · show m 79 (w - 7) ≤ m 80 (w - 7); omega
    · show m 80 (w - 7) ≤ 112; omega
    · have : m 79 (w - 7) ≤ q := q0
      omega
    · have : q < m 80 (w - 7) := q1
      omega
  refine ⟨⟨?_, ?_, ?_, ?_⟩, fun e e0 e1 => ?_, ?_, fun k k0 k1 => ?_⟩
  · exact (zf_at h (v := 8) (by decide +kernel)).trans (zf_at h (by decide +kernel)).symm
  · exact (zf_at h (v := 24) (by decide +kernel)).trans (zf_at h (by decide +kernel)).symm
  · exact (zf_at h (v := 3) (by decide +kernel)).trans (zf_at h (by decide +kernel)).symm
  · exact (zf_at h (v := 2) (by decide +kernel)).trans (zf_at h (by decide +kernel)).symm
  · have : e = 0 ∨ e = 1 ∨ e = 2 ∨ e = 3 := by omega
    rcases this with rfl | rfl | rfl | rfl
    · exact ⟨cc _ 0 1 a0 b0 (by decide) (by decide) (by decide), fun f => by simp [vC, evA, vl, a0, b0, s0, n0, g4]⟩
    · exact ⟨cc _ 1 4 a1 b1 (by decide) (by decide) (by decide), fun f => by simp [vC, evA, vl, a1, b1, s1, s2, s3, n2, g5, jnA]; rw [if_pos (by decide), if_pos (by decide), if_neg (by decide), if_neg (by rintro (⟨q, _⟩ | ⟨q, _⟩ | ⟨q, _⟩ | ⟨_, q⟩) <;> exact absurd q (by decide))]⟩
    · exact ⟨cc _ 4 5 a2 b2 (by decide) (by decide) (by decide), fun f => by simp [vC, evA, vl, a2, b2, s4, n4, g6]⟩
    · exact ⟨cc _ 5 6 a3 b3 (by decide) (by decide) (by decide), fun f => by simp [vC, evA, vl, a3, b3, s5, n5, g7]⟩
  · rw [y]
    exact zf_at h (by decide +kernel)
  · rw [y] at k1
    have : k = 0 := by omega
    subst this
    exact ⟨cc _ 6 7 a4 b4 (by decide) (by decide) (by decide), fun f => by simp [vC, evA, vl, a4, b4, s6, g8]⟩
theorem VI_0 {m : zM} {S : Int → Int} (h : ∀ t ∈ zfx, m t.1 t.2.1 = t.2.2) (hh : ∀ k, 0 ≤ k → k < 12 → ∀ d, 0 ≤ d → d < 100 → m (3 + 2 * k + 1) d = 0 ∧ m 96 (100 * k + d) = 0) (hs : ∀ j, m (-2) j = S j) : VI S m := by
  have e7 : m 0 7 = 76 := zf_at h (by decide +kernel)
  have e8 : m 0 8 = 82 := zf_at h (by decide +kernel)
  have e9 : m 0 9 = 0 := zf_at h (by decide +kernel)
  have e10 : m 0 10 = 0 := zf_at h (by decide +kernel)
  have e11 : m 0 11 = 0 := zf_at h (by decide +kernel)
  have e14 : m 0 14 = 1 := zf_at h (by decide +kernel)
  have f1 : m 1 1 = 1 := zf_at h (by decide +kernel)
  have r1 : m 88 1 = 0 := zf_at h (by decide +kernel)
  have r3 : m 88 3 = 0 := zf_at h (by decide +kernel)
  have r4 : m 88 4 = 1 := zf_at h (by decide +kernel)
  have r12 : m 88 12 = 0 := zf_at h (by decide +kernel)
  have d0 : m 93 0 = 0 := zf_at h (by decide +kernel)
  have t0 : m 110 0 = 8 := zf_at h (by decide +kernel)
  have t1 : m 110 1 = 24 := zf_at h (by decide +kernel)
  have t2 : m 110 2 = 3 := zf_at h (by decide +kernel)
  have t3 : m 110 3 = 2 := zf_at h (by decide +kernel)
  have g8 : m 123 8 = 0 := zf_at h (by decide +kernel)
  have six : ∀ l : Int, 0 ≤ l → l < 6 → l = 0 ∨ l = 1 ∨ l = 2 ∨ l = 3 ∨ l = 4 ∨ l = 5 := fun l a b => by omega
  refine ⟨m, fun _ _ _ => rfl, ⟨⟨by omega, fun k a b => absurd b (by omega)⟩, by omega, by omega, by omega, fun l a b => absurd b (by omega)⟩, ⟨fun k a b => ?_, zf_at h (by decide +kernel), by omega, fun l a b => absurd b (by omega)⟩, fun l a b => absurd b (by omega), ⟨fun e a b z => ?_, fun z => absurd g8 z⟩, ⟨⟨⟨by omega, by omega, by omega⟩, Or.inl e7, ?_, fun l a b => absurd b (by omega), fun k a b => ?_, fun l a b => absurd b (by omega)⟩, fun z => absurd z (by omega)⟩, ?_⟩
  · have : k = 0 := by omega
    subst this
    omega
  · exfalso
    have : e = 0 ∨ e = 1 ∨ e = 2 ∨ e = 3 := by omega
    rcases this with rfl | rfl | rfl | rfl <;> exact z (zf_at h (by decide +kernel))
  · rw [e7]
    exact ER_0 h
  · have : k = 0 := by omega
    subst this
    refine ⟨⟨?_, ?_, ?_, ?_, ?_, ?_⟩, fun d d0 d1 => ((hh 0 (by decide) (by decide) d d0 d1).1).trans ((hh 0 (by decide) (by decide) d d0 d1).2).symm⟩ <;> exact (zf_at h (v := 0) (by decide +kernel)).trans (zf_at h (by decide +kernel)).symm
  · refine ⟨⟨?_, ?_⟩, ⟨by omega, by omega, fun i a b => absurd b (by omega)⟩, ?_, ?_, enc_0 h, Or.inl ⟨e7, e8⟩, fun l a b => ?_, fun l a b => ?_, fun k a b d d0 d1 => ((hh k a b d d0 d1).1).trans ((hh k a b d d0 d1).2).symm, fun k a b => ?_, hs⟩
    · exact (zf_at h (v := 0) (by decide +kernel)).trans (zf_at h (by decide +kernel)).symm
    · exact (zf_at h (v := -1) (by decide +kernel)).trans (zf_at h (by decide +kernel)).symm
    · exact (zf_at h (v := 0) (by decide +kernel)).trans (zf_at h (by decide +kernel)).symm
    · rw [e7]
      exact (zf_at h (v := 0) (by decide +kernel)).trans (zf_at h (by decide +kernel)).symm
    · rcases six l (by omega) b with rfl | rfl | rfl | rfl | rfl | rfl <;> exact ⟨⟨zf_at h (by decide +kernel), zf_at h (by decide +kernel), zf_at h (by decide +kernel), zf_at h (by decide +kernel), zf_at h (by decide +kernel), zf_at h (by decide +kernel)⟩, zf_at h (by decide +kernel)⟩
    · rcases six l a b with rfl | rfl | rfl | rfl | rfl | rfl <;> exact zf_at h (by decide +kernel)
    · have : k = 0 := by omega
      subst this
      exact ⟨(zf_at h (v := 0) (by decide +kernel)).trans (by unfold farF; rfl), Int.le_of_eq (zf_at h (x := 90) (j := 0) (v := 0) (by decide +kernel)).symm⟩
