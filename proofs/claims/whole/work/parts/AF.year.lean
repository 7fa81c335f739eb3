/-- the year; a height: what the class holds behind it -/
theorem CS_3 {g g' m m' : zM} (hg : LG g) (h : CS g m) (a : ∀ x j, csY x j → ¬ (x = 0 ∧ j = 11) → m' x j = m x j) (h11 : m' 0 11 = g' 88 3) (e : ∀ x, ¬ x = 88 → g' x = g x) (e4 : g' 88 4 = g 88 4) (e12 : g' 88 12 = g 88 12) : CS g' m' := by
  have hN := hg.2.2.1
  have hS := hg.1.1
  obtain ⟨⟨h1, h2, h3⟩, h4, h5, h6, h7, h8⟩ := h
  have e7 : m' 0 7 = m 0 7 := a 0 7 (by unfold csY; omega) (by omega)
  refine ⟨⟨?_, ?_, h11⟩, by rw [e7]; exact h4, ?_, fun k k0 k1 => ?_, fun k k0 k1 => ?_, fun k k0 k1 => ?_⟩
  · rw [e4, a 1 1 (by unfold csY; omega) (by omega)]; exact h1
  · rw [e12, a 0 9 (by unfold csY; omega) (by omega)]; exact h2
  · rw [e7]
    exact ER_c (fun x x0 x1 => e x (by omega)) (ER_f h5 fun x j x0 x1 => a x j (by unfold csY; omega) (by omega))
  · rw [e12] at k1
    have := h6 k k0 k1
    rw [e 97 (by decide), e 90 (by decide), e 91 (by decide), e 98 (by decide), e 99 (by decide), e 100 (by decide), e 101 (by decide), e 102 (by decide)]
    rw [a _ 0 (by unfold csY; omega) (by omega), a _ 1 (by unfold csY; omega) (by omega), a _ 2 (by unfold csY; omega) (by omega), a _ 3 (by unfold csY; omega) (by omega), a _ 4 (by unfold csY; omega) (by omega), a _ 5 (by unfold csY; omega) (by omega), a _ 6 (by unfold csY; omega) (by omega), a _ 7 (by unfold csY; omega) (by omega)]
    exact this
  · rw [e4] at k1
    have := h7 k k0 k1
    refine ⟨?_, fun d d0 d1 => ?_⟩
    · rw [e 90 (by decide), e 91 (by decide), e 92 (by decide), e 93 (by decide), e 94 (by decide), e 95 (by decide), a _ 1 (by unfold csY; omega) (by omega), a _ 2 (by unfold csY; omega) (by omega), a _ 3 (by unfold csY; omega) (by omega), a _ 4 (by unfold csY; omega) (by omega), a _ 5 (by unfold csY; omega) (by omega), a _ 6 (by unfold csY; omega) (by omega)]
      exact this.1
    · rw [e 96 (by decide), a _ _ (by unfold csY; omega) (by omega)]
      exact this.2 d d0 d1
  · rw [e12] at k1
    have := h8 k k0 k1
    rw [e 103 (by decide), e 104 (by decide), e 105 (by decide), e 106 (by decide), e 107 (by decide), e 108 (by decide), a _ 8 (by unfold csY; omega) (by omega), a _ 9 (by unfold csY; omega) (by omega), a _ 10 (by unfold csY; omega) (by omega), a _ 11 (by unfold csY; omega) (by omega), a _ 12 (by unfold csY; omega) (by omega), a _ 13 (by unfold csY; omega) (by omega)]
    exact this
theorem CS_h {g g' m m' : zM} (hg : LG g) (h : CS g m) (a : ∀ x j, csY x j → ¬ (4 ≤ x ∧ x ≤ 26 ∧ x % 2 = 0) → m' x j = m x j) (hh : ∀ k, 0 ≤ k → k < g 88 4 → ∀ d, 0 ≤ d → d < 100 → m' (3 + 2 * k + 1) d = g' 96 (100 * k + d)) (e : ∀ x, ¬ x = 96 → g' x = g x) : CS g' m' := by
  have hN := hg.2.2.1
  have hS := hg.1.1
  obtain ⟨⟨h1, h2, h3⟩, h4, h5, h6, h7, h8⟩ := h
  have e7 : m' 0 7 = m 0 7 := a 0 7 (by unfold csY; omega) (by omega)
  have e88 : g' 88 = g 88 := e 88 (by decide)
  refine ⟨⟨?_, ?_, ?_⟩, by rw [e7]; exact h4, ?_, fun k k0 k1 => ?_, fun k k0 k1 => ?_, fun k k0 k1 => ?_⟩
  · rw [e88, a 1 1 (by unfold csY; omega) (by omega)]; exact h1
  · rw [e88, a 0 9 (by unfold csY; omega) (by omega)]; exact h2
  · rw [e88, a 0 11 (by unfold csY; omega) (by omega)]; exact h3
  · rw [e7]
    exact ER_c (fun x x0 x1 => e x (by omega)) (ER_f h5 fun x j x0 x1 => a x j (by unfold csY; omega) (by omega))
  · rw [e88] at k1
    have := h6 k k0 k1
    rw [e 97 (by decide), e 90 (by decide), e 91 (by decide), e 98 (by decide), e 99 (by decide), e 100 (by decide), e 101 (by decide), e 102 (by decide)]
    rw [a _ 0 (by unfold csY; omega) (by omega), a _ 1 (by unfold csY; omega) (by omega), a _ 2 (by unfold csY; omega) (by omega), a _ 3 (by unfold csY; omega) (by omega), a _ 4 (by unfold csY; omega) (by omega), a _ 5 (by unfold csY; omega) (by omega), a _ 6 (by unfold csY; omega) (by omega), a _ 7 (by unfold csY; omega) (by omega)]
    exact this
  · rw [e88] at k1
    have := h7 k k0 k1
    refine ⟨?_, hh k k0 k1⟩
    rw [e 90 (by decide), e 91 (by decide), e 92 (by decide), e 93 (by decide), e 94 (by decide), e 95 (by decide), a _ 1 (by unfold csY; omega) (by omega), a _ 2 (by unfold csY; omega) (by omega), a _ 3 (by unfold csY; omega) (by omega), a _ 4 (by unfold csY; omega) (by omega), a _ 5 (by unfold csY; omega) (by omega), a _ 6 (by unfold csY; omega) (by omega)]
    exact this.1
  · rw [e88] at k1
    have := h8 k k0 k1
    rw [e 103 (by decide), e 104 (by decide), e 105 (by decide), e 106 (by decide), e 107 (by decide), e 108 (by decide), a _ 8 (by unfold csY; omega) (by omega), a _ 9 (by unfold csY; omega) (by omega), a _ 10 (by unfold csY; omega) (by omega), a _ 11 (by unfold csY; omega) (by omega), a _ 12 (by unfold csY; omega) (by omega), a _ 13 (by unfold csY; omega) (by omega)]
    exact this
theorem XT_h {S : Int → Int} {m m' : zM} (h9 : 0 ≤ m 0 9) (h12 : m 1 1 ≤ 12) (h : XT S m) (e : ∀ x j, xtY x j → ¬ (4 ≤ x ∧ x ≤ 26 ∧ x % 2 = 0) → ¬ x = 96 → m' x j = m x j) (hh : ∀ k, 0 ≤ k → k < 12 → ∀ d, 0 ≤ d → d < 100 → m' (3 + 2 * k + 1) d = m' 96 (100 * k + d)) : XT S m' := by
  obtain ⟨h1, h2, h3, h4, h5, h6, h7, h8, h10, h11, h13⟩ := h
  have e0 : ∀ j, (j = 7 ∨ j = 8 ∨ j = 9 ∨ j = 10 ∨ j = 12 ∨ j = 13) → m' 0 j = m 0 j := fun j hj => e _ _ (xt_0 hj) (by omega) (by omega)
  have e88 : ∀ j, (j = 1 ∨ j = 26 ∨ j = 27 ∨ j = 41 ∨ j = 78) → m' 88 j = m 88 j := fun j hj => e _ _ (xt_88 hj) (by omega) (by omega)
  have e89 : ∀ j, m' 89 j = m 89 j := fun j => e _ _ (by simp [xtY]) (by omega) (by omega)
  have e71 : ∀ j, m' 71 j = m 71 j := fun j => e _ _ (by simp [xtY]) (by omega) (by omega)
  have e108 : ∀ j, m' 108 j = m 108 j := fun j => e _ _ (by simp [xtY]) (by omega) (by omega)
  have e2 : ∀ j, m' (-2) j = m (-2) j := fun j => e _ _ (by simp [xtY]) (by omega) (by omega)
  have e90 : m' 90 = m 90 := funext fun j => e _ _ (by simp [xtY]) (by omega) (by omega)
  have e91 : m' 91 = m 91 := funext fun j => e _ _ (by simp [xtY]) (by omega) (by omega)
  have e67 : m' 67 11 = m 67 11 := e _ _ (by simp [xtY]) (by omega) (by omega)
  have e11 : m' 1 1 = m 1 1 := e _ _ (by simp [xtY]) (by omega) (by omega)
  unfold XT
  rw [e0 12 (by omega), e0 13 (by omega), e0 10 (by omega), e0 7 (by omega), e0 8 (by omega), e0 9 (by omega), e88 26 (by omega), e88 27 (by omega), e88 1 (by omega), e88 41 (by omega), e88 78 (by omega), e67, e11, e90, e91]
  simp only [e89, e71, e108, e2]
  refine ⟨h1, h2, h3, ?_, encA_f (fun j => e _ _ (by simp [xtY]) (by omega) (by omega)) _ _ h5, h6, fun k k0 k1 => ?_, fun k k0 k1 => ?_, hh, fun k k0 k1 => ?_, h13⟩
  · rw [← h4]
    rcases h6 with z | z <;> rw [z.1]
    · exact e _ _ (by simp [xtY]) (by omega) (by omega)
    · exact e _ _ (by simp [xtY]) (by omega) (by omega)
  · have el : ∀ j, (8 ≤ j ∧ j ≤ 13) → m' (29 + 6 * k) j = m (29 + 6 * k) j := fun j hj => e _ _ (xt_l (by omega) k1 (Or.inr hj)) (by omega) (by omega)
    rw [el 8 (by omega), el 9 (by omega), el 10 (by omega), el 11 (by omega), el 12 (by omega), el 13 (by omega)]
    exact h7 k k0 k1
  · rw [e _ _ (xt_l k0 k1 (Or.inl rfl)) (by omega) (by omega)]; exact h8 k k0 k1
  · rw [e _ _ (xt_7 k0 (by omega)) (by omega) (by omega)]; exact h11 k k0 k1
theorem zfill_n {m : zM} {c a b v x j : Int} (h : ¬ (x = c ∧ a ≤ j ∧ j ≤ b)) : zfill m c a b v x j = m x j := if_neg h
theorem zfill_p {m : zM} {c a b v x j : Int} (h : x = c ∧ a ≤ j ∧ j ≤ b) : zfill m c a b v x j = v := if_pos h
theorem xt_no {x j : Int} (c : xtY x j) : ¬ (x = 0 ∧ (j = 11 ∨ j = 14)) ∧ ¬ (x = 88 ∧ (j = 2 ∨ j = 3)) := by
  rcases c with c | c | c | c | c | c | c | c | c | c | c | c | c | c | c | c <;> omega
section L2
variable {Ω : zΩ} {S : Int → Int} {m : zM} {N : Int → Int → zM → Prop}
theorem VI_year {y : Int} (h : VI S m) (K : ∀ v m', VI S m' → N v v m') : zG Ω 99 0 [zR 9 0, zI y] [] m (fun r1 m1 => zk1 r1 fun v1 => zG Ω 126 0 [zR 10 88, zI y] [] m1 (fun r2 m2 => zk1 r2 fun v2 => N v1 v2 m2)) := by
  obtain ⟨g, hp, hg, hr, hw, he, hc, hx⟩ := h
  have e9 := hc.1.1.2.1
  have e11 := hc.1.1.1
  have hN := hg.2.2.1
  have hS := hg.1.1
  refine s_year (zk1_i (s_yearM (zk1_i (K _ _ ?_))))
  by_cases ok : 0 ≤ y ∧ y ≤ 9999
  · rw [if_pos ok, if_pos ok]
    have a : ∀ x j, ¬ (x = 0 ∧ (j = 11 ∨ j = 14)) → ¬ (x = 88 ∧ (j = 2 ∨ j = 3)) → zup (zup (zup (zup m 0 11 y) 0 14 1) 88 2 0) 88 3 y x j = m x j := fun x j h1 h2 => by
      unfold zup
      rw [if_neg (by omega), if_neg (by omega), if_neg (by omega), if_neg (by omega)]
    refine ⟨zup g 88 3 y, PG_u (PG_2 (PG_c (PG_c hp (by omega)) (by omega))), LG_c (fun x x0 x1 _ => zup_row (by omega)) ⟨zup_j (by decide), zup_j (by decide)⟩ (by rw [zup_s]; exact ok) hg, RGd_c ⟨zup_row (by decide), zup_row (by decide), zup_row (by decide)⟩ ⟨zup_j (by decide), zup_j (by decide)⟩ (fun l l0 l1 => by rw [zup_c (by decide)]; exact hr.2.2.2 l l0 l1) hr, fun l l0 l1 => ?_, EW_c (fun x x0 x1 => zup_row (by omega)) he, ⟨CS_3 hg hc.1 (fun x j c q => a x j ?_ ?_) ?_ (fun x hx => zup_row hx) (zup_j (by decide)) (zup_j (by decide)), fun q => absurd q ?_⟩, XT_f (by omega) (by omega) hx fun x j c => a x j (xt_no c).1 (xt_no c).2⟩
    · rw [zup_j (by decide)] at l1
      rw [zup_c (by decide), zup_c (by decide), zup_c (by decide), zup_c (by decide)]
      exact hw l l0 l1
    · unfold csY at c; omega
    · unfold csY at c; omega
    · rw [zup_c (by decide), zup_c (by decide), zup_j (by decide), zup_s, zup_s]
    · rw [zup_c (by decide), zup_c (by decide), zup_s]; decide
  · rw [if_neg ok, if_neg ok]
    exact VI_yq hp hg hr hw he hc hx FY_r hc FQ_z
theorem VI_height {k a b v : Int} (h : VI S m) (K : ∀ v m', VI S m' → N v v m') : zG Ω 101 0 [zR 9 0, zI k, zI a, zI b, zI v, zU, zU] [] m (fun r1 m1 => zk1 r1 fun v1 => zG Ω 130 0 [zR 10 88, zI k, zI a, zI b, zI v, zU] [] m1 (fun r2 m2 => zk1 r2 fun v2 => N v1 v2 m2)) := by
  obtain ⟨g, hp, hg, hr, hw, he, hc, hx⟩ := h
  have e9 := hc.1.1.2.1
  have e11 := hc.1.1.1
  have hN := hg.2.2.1
  have hS := hg.1.1
  have e4 : m 88 4 = g 88 4 := hp _ _ (by unfold prA; omega)
  refine s_height (by omega) (fun ok => ?_) fun no => zk1_i (s_heightM (by omega) (fun q => absurd (by rw [e11, ← e4]; exact q) no) fun _ => zk1_i (K _ _ (VI_yq hp hg hr hw he hc hx FY_r hc FQ_z)))
  unfold okHt at ok
  have c4 : zup (zfill m (3 + 2 * k + 1) a b v) 0 14 1 88 4 = m 88 4 := by
    rw [zup_c (by decide)]; unfold zfill; rw [if_neg (by omega)]
  refine zk1_i (s_heightM (by rw [c4]; omega) (fun _ => zk1_i (K _ _ ?_)) fun q => absurd (by rw [c4, e4, ← e11]; exact ok) q)
  have ax : ∀ x j, ¬ (x = 3 + 2 * k + 1 ∧ a ≤ j ∧ j ≤ b) → ¬ (x = 0 ∧ j = 14) → ¬ (x = 88 ∧ j = 2) → ¬ (x = 96 ∧ 100 * k + a ≤ j ∧ j ≤ 100 * k + b) → zfill (zup (zup (zfill m (3 + 2 * k + 1) a b v) 0 14 1) 88 2 0) 96 (100 * k + a) (100 * k + b) v x j = m x j := fun x j h1 h2 h3 h4 => by
    rw [zfill_n (by omega)]
    unfold zup
    rw [if_neg (by omega), if_neg (by omega)]
    exact zfill_n (by omega)
  have ah : ∀ j, a ≤ j → j ≤ b → zfill (zup (zup (zfill m (3 + 2 * k + 1) a b v) 0 14 1) 88 2 0) 96 (100 * k + a) (100 * k + b) v (3 + 2 * k + 1) j = v := fun j h1 h2 => by
    rw [zfill_n (by omega)]
    unfold zup
    rw [if_neg (by omega), if_neg (by omega)]
    exact zfill_p ⟨rfl, h1, h2⟩
  have a6 : ∀ j, 100 * k + a ≤ j → j ≤ 100 * k + b → zfill (zup (zup (zfill m (3 + 2 * k + 1) a b v) 0 14 1) 88 2 0) 96 (100 * k + a) (100 * k + b) v 96 j = v := fun j h1 h2 => by
    unfold zfill
    rw [if_pos ⟨rfl, h1, h2⟩]
  have a14 : zfill (zup (zup (zfill m (3 + 2 * k + 1) a b v) 0 14 1) 88 2 0) 96 (100 * k + a) (100 * k + b) v 0 14 = 1 := by
    unfold zfill
    rw [if_neg (by omega), zup_c (by decide), zup_s]
  generalize zfill (zup (zup (zfill m (3 + 2 * k + 1) a b v) 0 14 1) 88 2 0) 96 (100 * k + a) (100 * k + b) v = m2 at *
  have hh : ∀ k', 0 ≤ k' → k' < 12 → ∀ d, 0 ≤ d → d < 100 → m2 (3 + 2 * k' + 1) d = m2 96 (100 * k' + d) := fun k' q0 q1 d d0 d1 => by
    by_cases z : k' = k ∧ a ≤ d ∧ d ≤ b
    · obtain ⟨rfl, z1, z2⟩ := z
      rw [ah d z1 z2, a6 _ (by omega) (by omega)]
    · rw [ax _ _ (by omega) (by omega) (by omega) (by omega), ax _ _ (by omega) (by omega) (by omega) (by omega)]
      exact hx.2.2.2.2.2.2.2.2.1 k' q0 q1 d d0 d1
  have gx : ∀ x, ¬ x = 96 → (fun x j => if x = 96 then m2 96 j else g x j) x = g x := fun x hx => by
    funext j
    show (if x = 96 then m2 96 j else g x j) = g x j
    rw [if_neg hx]
  refine ⟨fun x j => if x = 96 then m2 96 j else g x j, fun x j p => ?_, LG_c (fun x x0 x1 x2 => gx x (by omega)) ⟨rfl, rfl⟩ hg.2.2.2.1 hg, RGd_c ⟨gx 93 (by decide), gx 95 (by decide), gx 110 (by decide)⟩ ⟨rfl, rfl⟩ (fun l l0 l1 => hr.2.2.2 l l0 l1) hr, fun l l0 l1 => hw l l0 l1, EW_c (fun x x0 x1 => gx x (by omega)) he, ⟨CS_h hg hc.1 (fun x j c q => ax x j (by omega) (by unfold csY at c; omega) (by unfold csY at c; omega) (by unfold csY at c; omega)) (fun k' q0 q1 d d0 d1 => hh k' q0 (by omega) d d0 d1) gx, fun q => absurd q (by omega)⟩, XT_h (by omega) (by omega) hx (fun x j c q1 q2 => ax x j (by omega) ?_ ?_ (by omega)) hh⟩
  · show m2 x j = if x = 96 then m2 96 j else g x j
    by_cases z : x = 96
    · rw [if_pos z, z]
    · rw [if_neg z, ax x j (by unfold prA at p; omega) (by unfold prA at p; omega) (by unfold prA at p; omega) (by omega)]
      exact hp x j p
  · exact fun y => (xt_no c).1 (by omega)
  · exact fun y => (xt_no c).2 (by omega)
end L2
