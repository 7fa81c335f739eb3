/-! a knot is made; the core stays -/
theorem gro_c {u : zM} {k v : Int} : groF u k v 88 42 = u 88 42 + 1 ∧ groF u k v 111 (96 + u 88 42) = k ∧ groF u k v 114 (96 + u 88 42) = v ∧ (∀ c j, 111 ≤ c → c ≤ 114 → ¬ j = 96 + u 88 42 → groF u k v c j = u c j) ∧ (∀ c j, (c < 111 ∨ 114 < c) → (c = 88 → ¬ j = 42) → groF u k v c j = u c j) := by
  refine ⟨?_, ?_, ?_, ?_, ?_⟩
  · simp [groF, zup]
  · simp [groF, zup]
  · simp [groF, zup]
  · intro c j h1 h2 h3
    have : ¬ c = 88 := by omega
    simp [groF, zup, h3, this]
  · intro c j h1 h2
    have n1 : ¬ c = 111 := by omega
    have n2 : ¬ c = 112 := by omega
    have n3 : ¬ c = 113 := by omega
    have n4 : ¬ c = 114 := by omega
    by_cases z : c = 88
    · have := h2 z
      simp [groF, zup, n1, n2, n3, n4, this]
    · simp [groF, zup, n1, n2, n3, n4, z]
theorem EC_gr {a a' u : zM} {E F K O k v : Int} {W N H : List Int} (h : EC a E u F K O W N H)
    (a73 : ∀ j, a' 73 j = a 73 j) (a7 : a' 72 7 = a 72 7) (a5 : a' E 5 = a E 5 + 1) (a11 : a' E 11 = a E 11)
    (ac : ∀ j, a' (E + 1) j = a (E + 1) j ∧ a' (E + 2) j = a (E + 2) j) :
    EC a' E (groF u k v) F K O W N H := by
  obtain ⟨g1, g2, g3, g4, g5⟩ := gro_c (u := u) (k := k) (v := v)
  have hk := h.k
  have hka := h.ka
  have hcd := h.cd
  have hfo := h.fo
  have c88 : ∀ j, ¬ j = 42 → groF u k v 88 j = u 88 j := fun j hj => g5 88 j (by omega) (fun _ => hj)
  have cx : ∀ c j, 114 < c → groF u k v c j = u c j := fun c j hc => g5 c j (by omega) (fun y => absurd y (by omega))
  unfold EC
  refine ⟨stk_f a73 W h.w, a7.trans h.wl, (c88 46 (by decide)).trans h.wu, rW_f (fun c j h1 h2 => cx c j (by omega)) W N h.r, stk_f (fun j => cx _ _ (by decide)) H h.hs, (c88 48 (by decide)).trans h.hl, by omega, by omega, (c88 43 (by decide)).trans h.o, a11.trans h.oa, ?_, h.fo, ?_, ?_, h.hr⟩
  · refine cdR_g (Int.le_refl _) (fun i _ _ => ac _) (fun i i0 i1 => ?_) hcd
    have hi := (hcd i i0 i1).1
    exact ⟨cx _ _ (by decide), g4 _ _ (by decide) (by decide) (by omega), g4 _ _ (by decide) (by decide) (by omega)⟩
  · refine rnB_f _ _ _ _ (fun i i0 i1 => ⟨cx _ _ (by decide), fun c c1 c2 => g4 c _ c1 c2 ?_⟩) h.rn
    have hi := (hcd (i - 96) (by omega) (by omega)).1
    have e : 96 + (i - 96) = i := by omega
    rw [e] at hi; omega
  · refine ndW_g (Int.le_refl _) W N (fun y _ y1 y2 => ⟨g4 _ _ (by decide) (by decide) (by omega), g4 _ _ (by decide) (by decide) (by omega), fun hn => hn, fun hn i i1 i2 => ?_⟩) h.nd
    rw [cx 115 i (by decide)]; exact hn i i1 i2
