theorem zup_n {f : zM} {k j v a b : Int} (h : ¬ (a = k ∧ b = j)) : zup f k j v a b = f a b := if_neg h
theorem fdC_o {m : zM} {t a b c d e x j : Int} (h1 : ¬ (x = 71 ∧ t ≤ j ∧ j < t + 20)) (h2 : ¬ (x = 0 ∧ j = 10)) : fdC m t a b c d e x j = m x j := by
  unfold fdC pnF
  rw [if_neg (by omega), if_neg h2, if_neg (by omega), if_neg h2, if_neg (by omega), if_neg h2, if_neg (by omega), if_neg h2, if_neg (by omega), if_neg h2]
theorem fdC_10 {m : zM} {t a b c d e : Int} : fdC m t a b c d e 0 10 = t + 20 := by
  unfold fdC
  rw [pnF_10]; omega
section L2
variable {Ω : zΩ} {S : Int → Int} {m : zM} {N : Int → Int → zM → Prop}
theorem VI_feed {a b c d e : Int} (h : VI S m) (K : ∀ v m', VI S m' → N v v m') : zG Ω 96 0 [zR 9 0, zI a, zI b, zI c, zI d, zI e] [] m (fun r1 m1 => zk1 r1 fun v1 => zG Ω 125 0 [zR 10 88, zI a, zI b, zI c, zI d, zI e, zU, zU] [] m1 (fun r2 m2 => zk1 r2 fun v2 => N v1 v2 m2)) := by
  obtain ⟨g, hp, hg, hr, hw, he, hc, hx⟩ := h
  have e9 := hc.1.1.2.1
  have e11 := hc.1.1.1
  have hN := hg.2.2.1
  have hS := hg.1.1
  have hx' := hx
  obtain ⟨x1, ⟨t1, t2, t3⟩, x3, x4, x5, x6, x7, x8, x10, x11, x13⟩ := hx'
  refine s_feed t2 (zk1_i ?_)
  by_cases z : 580 < m 0 10
  · rw [if_pos z, if_pos z]
    refine s_feedM (by omega) (zk1_i ?_)
    rw [if_pos (by omega), if_pos (by omega)]
    exact K _ _ (VI_yq hp hg hr hw he hc hx FY_r hc FQ_z)
  · rw [if_neg z, if_neg z]
    have f1 : fdC m (m 0 10) a b c d e 88 1 = m 0 10 := (fdC_o (by omega) (by omega)).trans t1.symm
    refine s_feedM (by omega) (zk1_i ?_)
    rw [f1, if_neg (by omega), if_neg (by omega)]
    refine K _ _ ?_
    have ax : ∀ x j, ¬ (x = 71 ∧ m 0 10 ≤ j ∧ j < m 0 10 + 20) → ¬ (x = 0 ∧ j = 10) → ¬ (x = 88 ∧ (j = 1 ∨ j = 2)) → ¬ (x = 89 ∧ m 0 10 ≤ j ∧ j < m 0 10 + 20) → zup (fdM (zup (fdC m (m 0 10) a b c d e) 88 2 0) (m 0 10) a b c d e 20) 88 1 (m 0 10 + 20) x j = m x j := fun x j h1 h2 h3 h4 => by
      rw [zup_n (by omega)]
      unfold fdM
      rw [if_neg h4, zup_n (by omega)]
      exact fdC_o h1 h2
    have a10 : zup (fdM (zup (fdC m (m 0 10) a b c d e) 88 2 0) (m 0 10) a b c d e 20) 88 1 (m 0 10 + 20) 0 10 = m 0 10 + 20 := by
      rw [zup_c (by decide)]
      unfold fdM
      rw [if_neg (by omega), zup_c (by decide)]
      exact fdC_10
    have a71 : ∀ i, 0 ≤ i → i < 20 → zup (fdM (zup (fdC m (m 0 10) a b c d e) 88 2 0) (m 0 10) a b c d e 20) 88 1 (m 0 10 + 20) 71 (m 0 10 + i) = zi2b (fdw a b c d e i) := fun i i0 i1 => by
      rw [zup_c (by decide)]
      unfold fdM
      rw [if_neg (by omega), zup_c (by decide)]
      exact fdC_at i0 i1
    have a89 : ∀ i, 0 ≤ i → i < 20 → zup (fdM (zup (fdC m (m 0 10) a b c d e) 88 2 0) (m 0 10) a b c d e 20) 88 1 (m 0 10 + 20) 89 (m 0 10 + i) = fdw a b c d e i % 256 := fun i i0 i1 => by
      rw [zup_c (by decide)]
      unfold fdM
      rw [if_pos ⟨rfl, by omega, by omega⟩]
      congr 2
      omega
    have a1 : zup (fdM (zup (fdC m (m 0 10) a b c d e) 88 2 0) (m 0 10) a b c d e 20) 88 1 (m 0 10 + 20) 88 1 = m 0 10 + 20 := zup_s _ _ _ _
    generalize zup (fdM (zup (fdC m (m 0 10) a b c d e) 88 2 0) (m 0 10) a b c d e 20) 88 1 (m 0 10 + 20) = m2 at *
    have ar : ∀ x j, ¬ x = 71 → ¬ (x = 0 ∧ j = 10) → ¬ (x = 88 ∧ (j = 1 ∨ j = 2)) → ¬ x = 89 → m2 x j = m x j := fun x j h1 h2 h3 h4 => ax x j (by omega) h2 h3 (by omega)
    refine ⟨g, fun x j p => (ar x j (by unfold prA at p; omega) (by unfold prA at p; omega) (by unfold prA at p; omega) (by unfold prA at p; omega)).trans (hp x j p), hg, hr, hw, he, ⟨CS_f hg hc.1 fun x j c => ar x j (by unfold csY at c; omega) (by unfold csY at c; omega) (by unfold csY at c; omega) (by unfold csY at c; omega), fun q => REC_g hg (hc.2 (by rw [← ar 0 14 (by omega) (by omega) (by omega) (by omega)]; exact q)) fun x j q0 q1 => ar x j (by omega) (by omega) (by omega) (by omega)⟩, ?_⟩
    have m0 : ∀ j, ¬ j = 10 → m2 0 j = m 0 j := fun j hj => ar 0 j (by decide) (by omega) (by omega) (by decide)
    have m88 : ∀ j, ¬ j = 1 → ¬ j = 2 → m2 88 j = m 88 j := fun j h1 h2 => ar 88 j (by decide) (by omega) (by omega) (by decide)
    have e90 : m2 90 = m 90 := funext fun j => ar _ _ (by decide) (by omega) (by omega) (by decide)
    have e91 : m2 91 = m 91 := funext fun j => ar _ _ (by decide) (by omega) (by omega) (by decide)
    have e108 : ∀ j, m2 108 j = m 108 j := fun j => ar _ _ (by decide) (by omega) (by omega) (by decide)
    have e96 : ∀ j, m2 96 j = m 96 j := fun j => ar _ _ (by decide) (by omega) (by omega) (by decide)
    have e2 : ∀ j, m2 (-2) j = m (-2) j := fun j => ar _ _ (by decide) (by omega) (by omega) (by decide)
    have e67 : m2 67 11 = m 67 11 := ar _ _ (by decide) (by omega) (by omega) (by decide)
    have e1 : m2 1 1 = m 1 1 := ar _ _ (by decide) (by omega) (by omega) (by decide)
    unfold XT
    rw [m0 12 (by decide), m0 13 (by decide), m0 7 (by decide), m0 8 (by decide), m0 9 (by decide), a10, a1, m88 26 (by decide) (by decide), m88 27 (by decide) (by decide), m88 41 (by decide) (by decide), m88 78 (by decide) (by decide), e67, e90, e91, e1]
    simp only [e108, e96, e2]
    refine ⟨x1, ⟨trivial, by omega, fun i i0 i1 => ?_⟩, x3, ?_, encA_f (fun j => ar _ _ (by decide) (by omega) (by omega) (by decide)) _ _ x5, x6, fun l l0 l1 => ?_, fun l l0 l1 => ?_, fun k k0 k1 d d0 d1 => ?_, fun k k0 k1 => ?_, x13⟩
    · by_cases y : i < m 0 10
      · rw [ax 89 i (by omega) (by omega) (by omega) (by omega), ax 71 i (by omega) (by omega) (by omega) (by omega)]
        exact t3 i i0 y
      · have s71 := a71 (i - m 0 10) (by omega) (by omega)
        have s89 := a89 (i - m 0 10) (by omega) (by omega)
        rw [show m 0 10 + (i - m 0 10) = i by omega] at s71 s89
        rw [s71, s89]
        unfold zi2b
        refine ⟨by omega, ?_⟩
        split <;> omega
    · rw [← x4]
      exact ar _ _ (by omega) (by omega) (by omega) (by omega)
    · have := x7 l l0 l1
      have al : ∀ j, m2 (29 + 6 * l) j = m (29 + 6 * l) j := fun j => ar _ _ (by omega) (by omega) (by omega) (by omega)
      rw [al, al, al, al, al, al]
      exact this
    · rw [ar _ _ (by omega) (by omega) (by omega) (by omega)]; exact x8 l l0 l1
    · rw [ar _ _ (by omega) (by omega) (by omega) (by omega)]; exact x10 k k0 k1 d d0 d1
    · rw [ar _ _ (by omega) (by omega) (by omega) (by omega)]; exact x11 k k0 k1
end L2
