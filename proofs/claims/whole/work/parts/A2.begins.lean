theorem exu_c {u : zM} {w v : Int} : ∀ u1, u1 = zup (zup (zup (zup (zup (zup (zup u 88 46 0) 88 48 0) 88 50 0) 88 51 0) 88 52 1) 88 53 1) 116 w v → (u1 88 46 = 0 ∧ u1 88 48 = 0 ∧ u1 88 50 = 0 ∧ u1 88 51 = 0 ∧ u1 88 52 = 1 ∧ u1 88 53 = 1) ∧ (∀ j, ¬ j = 46 → ¬ j = 48 → ¬ (50 ≤ j ∧ j ≤ 53) → u1 88 j = u 88 j) ∧ u1 116 w = v ∧ (∀ j, ¬ j = w → u1 116 j = u 116 j) ∧ (∀ x j, ¬ x = 88 → ¬ x = 116 → u1 x j = u x j) := by
  intro u1 h
  subst h
  refine ⟨?_, fun j h1 h2 h3 => ?_, ?_, fun j h1 => ?_, fun x j h1 h2 => ?_⟩
  · simp [zup]
  · have n1 : ¬ j = 50 := by omega
    have n2 : ¬ j = 51 := by omega
    have n3 : ¬ j = 52 := by omega
    have n4 : ¬ j = 53 := by omega
    simp [zup, h1, h2, n1, n2, n3, n4]
  · simp [zup]
  · simp [zup, h1]
  · simp [zup, h1, h2]
theorem RE_b {a u u0 : zM} {E w : Int} (hE : E = 76 ∨ E = 82) (hw : 7 ≤ w ∧ w ≤ 13) (h6 : a 72 6 = w) (h11 : a E 11 = 7 + a E 5) (k0 : 0 ≤ a E 5) (k42 : u 88 42 = a E 5) (k43 : u 88 43 = a E 11 - 7) (cd : cdR a E u (a E 5) (a E 11 - 7)) {u1 : zM} (hu : u1 = zup (zup (zup (zup (zup (zup (zup u 88 46 0) 88 48 0) 88 50 0) 88 51 0) 88 52 1) 88 53 1) 116 w (u 88 43)) (hX : RBd (beF a E) E u1 u0 (w - 7) (a E 11 - 7)) : RE 0 (beF a E) E u0 u1 := by
  obtain ⟨⟨q1, q2, q3, q4, q5, q6⟩, q7, q8, q9, q10⟩ := exu_c (u := u) (w := w) u1 hu
  obtain ⟨p4, p7, p8, p9, p74, p72, pE, pE12, pc, p3⟩ := be_c hE h6
  have e6 : beF a E 72 6 = w := (p72 6 (by decide) (by decide) (by decide) (by decide)).trans h6
  refine ⟨a E 11 - 7, a E 5, a E 11 - 7, [], [], [], EC_0 p7 (pE 5 (by decide)) (by rw [pE 11 (by decide)]; omega) (by omega) q1 ((q7 42 (by decide) (by decide) (by omega)).trans k42) ((q7 43 (by decide) (by decide) (by omega)).trans k43) q2 (cdR_g (Int.le_refl _) (fun i _ _ => pc _) (fun i _ _ => ⟨q10 _ _ (by decide) (by decide), q10 _ _ (by decide) (by decide), q10 _ _ (by decide) (by decide)⟩) cd), (q7 42 (by decide) (by decide) (by omega)).trans k42, ?_⟩
  rw [e6, p8, p9, q3, q4, q5, q6, q8, p74, (p3 (w - 7)).1, if_pos ⟨hw.2, rfl⟩]
  refine ⟨?_, rfl, rfl, rfl, rfl, fun j j0 j1 => absurd j1 (by omega), fun j j0 j1 => ?_, ⟨rfl, Or.inr rfl⟩, rfl, k43, by omega, hX⟩
  · have : (cnW [] : Nat) = 0 := rfl
    rw [this]; omega
  · have : j = 0 := by omega
    rw [this, p74]; exact Or.inl rfl
theorem ycF_c {w : Int} (h : 11 ≤ w ∧ w ≤ 13) : ycF w = w - 10 := by unfold ycF; split <;> omega
/-- behind a comma -/
theorem RE_n {a u u0 : zM} {E w : Int} (hE : E = 76 ∨ E = 82) (hw : 12 ≤ w ∧ w ≤ 13) (h6 : a 72 6 = w) (h11 : a E 11 = 7 + a E 5) (k0 : 0 ≤ a E 5) (h : R1 a E u0 u) (h12 : a E 12 = w - 11) (h8 : ¬ u 122 8 = 0) {u1 : zM} (hu : u1 = zup (zup (zup (zup (zup (zup (zup u 88 46 0) 88 48 0) 88 50 0) 88 51 0) 88 52 1) 88 53 1) 116 w (u 88 43)) : RE 0 (beF a E) E u0 u1 := by
  obtain ⟨r1, r2, r3, r4⟩ := h
  obtain ⟨qq, q7, q8, q9, q10⟩ := exu_c (u := u) (w := w) u1 hu
  obtain ⟨p4, p7, p8, p9, p74, p72, pE, pE12, pc, p3⟩ := be_c hE h6
  refine RE_b hE (by omega) h6 h11 k0 r1 r2 r3 hu (RBd_x r4 (fun x j hx => ?_) ⟨q7 26 (by decide) (by decide) (by omega), q7 27 (by decide) (by decide) (by omega)⟩ (fun j hj => pE j (by omega)) (fun j => q10 110 j (by decide) (by decide)) (fun w0 w1 w2 => ?_) (fun j _ => pc j) (XB_b (a := a) (u := u) (by omega) r4.2.2.2.2.2 (fun q => absurd q (by omega)) (fun _ => ⟨by omega, h8⟩) ?_ (fun j hj => ?_) (fun j hj => q9 j (by omega)) (fun j => q10 117 j (by decide) (by decide)) (fun j _ => q10 122 j (by decide) (by decide)) (fun i _ _ => ⟨q10 _ _ (by decide) (by decide), fun c c1 c2 => q10 _ _ (by omega) (by omega)⟩)))
  · unfold rdY at hx
    by_cases z : x = 88
    · subst z; exact q7 j (by omega) (by omega) (by omega)
    by_cases y : x = 116
    · subst y; exact q9 j (by omega)
    · exact q10 x j z y
  · rw [q10 122 _ (by decide) (by decide), p72 5 (by decide) (by decide) (by decide) (by decide)]
    exact r4.2.2.2.1 w0 w1 w2
  · rw [pE12, if_neg (by omega), if_neg (by omega), ycF_c (by omega)]; omega
  · rw [(p3 j).1, (p3 j).2, if_neg (by omega), if_neg (by omega)]
    exact ⟨rfl, rfl⟩
theorem TB_w {a a1 u u1 : zM} {k : Int} (h : TB a u) (hk : 3 ≤ k ∧ k ≤ 11) (e5 : a1 72 5 = zor (a 72 5) (zshl 1 k)) (e1 : u1 122 (k - 3) = 1) (eo : ∀ j, ¬ j = k - 3 → u1 122 j = u 122 j) : TB a1 u1 := by
  intro w w0 w1
  have := h w w0 w1
  rw [e5, zmask_or (by omega) (by omega) (by omega) (by omega)]
  by_cases z : w = k
  · subst z
    rw [e1]
    exact ⟨Or.inr rfl, fun q => absurd q (by decide), fun q => absurd rfl q.1⟩
  · rw [eo _ (by omega)]
    exact ⟨this.1, fun q => ⟨z, this.2.1 q⟩, fun q => this.2.2 q.2⟩
/-- behind a word -/
theorem RE_w {a u u0 u2 : zM} {E w : Int} (hE : E = 76 ∨ E = 82) (hw : 7 ≤ w ∧ w ≤ 11) (h11 : a E 11 = 7 + a E 5) (k0 : 0 ≤ a E 5) (h : R1 a E u0 u) (ht : u 122 (w - 3) = 0) (f : FU (zup u 122 (w - 3) 1) u2) {a1 u1 : zM} (ha : a1 = zup (zup (zup a 72 5 (zor (a 72 5) (zshl 1 w))) E 4 (a E 4 + 1)) 72 6 w) (hu : u1 = zup (zup (zup (zup (zup (zup (zup u2 88 46 0) 88 48 0) 88 50 0) 88 51 0) 88 52 1) 88 53 1) 116 w (u2 88 43)) : RE 0 (beF a1 E) E u0 u1 := by
  obtain ⟨r1, r2, r3, r4⟩ := h
  obtain ⟨t5, t6, t72, tE4, tE, tx⟩ := tw_c (m := a) (k := w) (v := zor (a 72 5) (zshl 1 w)) hE a1 ha
  obtain ⟨qq, q7, q8, q9, q10⟩ := exu_c (u := u2) (w := w) u1 hu
  obtain ⟨p4, p7, p8, p9, p74, p72, pE, pE12, pc, p3⟩ := be_c hE t6
  clear ha
  have g88 : ∀ j, ¬ (29 ≤ j ∧ j ≤ 32) → u2 88 j = u 88 j := fun j hj => (f 88 j (by omega)).trans (zup_c (by decide))
  have gx : ∀ x j, ¬ x = 88 → ¬ x = 122 → u2 x j = u x j := fun x j h1 h2 => (f x j (by omega)).trans (zup_c h2)
  have g22 : u2 122 (w - 3) = 1 := (f _ _ (by omega)).trans (zup_s _ _ _ _)
  have g22' : ∀ j, ¬ j = w - 3 → u2 122 j = u 122 j := fun j hj => (f _ _ (by omega)).trans (zup_j hj)
  have eq4 : 4 + (w - 7) = w - 3 := by omega
  refine RE_b hE (by omega) t6 (by rw [tE 11 (by decide), tE 5 (by decide)]; exact h11) (by rw [tE 5 (by decide)]; exact k0) ((g88 42 (by omega)).trans (r1.trans (tE 5 (by decide)).symm)) ((g88 43 (by omega)).trans (r2.trans (by rw [tE 11 (by decide)]))) ?_ hu ?_
  · rw [tE 5 (by decide), tE 11 (by decide)]
    exact cdR_g (Int.le_refl _) (fun i _ _ => ⟨tx _ _ (by omega) (by omega), tx _ _ (by omega) (by omega)⟩) (fun i _ _ => ⟨gx _ _ (by decide) (by decide), gx _ _ (by decide) (by decide), gx _ _ (by decide) (by decide)⟩) r3
  · rw [tE 11 (by decide)]
    refine RBd_x r4 (fun x j hx => ?_) ⟨(q7 26 (by decide) (by decide) (by omega)).trans (g88 26 (by omega)), (q7 27 (by decide) (by decide) (by omega)).trans (g88 27 (by omega))⟩ (fun j hj => (pE j (by omega)).trans (tE j (by omega))) (fun j => (q10 110 j (by decide) (by decide)).trans (gx 110 j (by decide) (by decide))) (TB_w r4.2.2.2.1 (by omega) ((p72 5 (by decide) (by decide) (by decide) (by decide)).trans t5) ((q10 122 _ (by decide) (by decide)).trans g22) (fun j hj => (q10 122 _ (by decide) (by decide)).trans (g22' j hj))) (fun j _ => ⟨(pc j).1.trans (tx _ _ (by omega) (by omega)), (pc j).2.trans (tx _ _ (by omega) (by omega))⟩) (XB_b (a := a) (u := u) (by omega) r4.2.2.2.2.2 (fun q => ?_) (fun q => absurd q (by omega)) ?_ (fun j hj => ?_) (fun j hj => (q9 j (by omega)).trans (gx _ _ (by decide) (by decide))) (fun j => (q10 117 j (by decide) (by decide)).trans (gx _ _ (by decide) (by decide))) (fun j hj => (q10 122 j (by decide) (by decide)).trans (g22' j (by omega))) (fun i _ _ => ⟨(q10 _ _ (by decide) (by decide)).trans (gx _ _ (by decide) (by decide)), fun c c1 c2 => (q10 _ _ (by omega) (by omega)).trans (gx _ _ (by omega) (by omega))⟩))
    · unfold rdY at hx
      by_cases z : x = 88
      · subst z; exact (q7 j (by omega) (by omega) (by omega)).trans (g88 j (by omega))
      by_cases y : x = 116
      · subst y; exact (q9 j (by omega)).trans (gx _ _ (by decide) (by decide))
      · exact (q10 x j z y).trans (gx x j z (by omega))
    · rw [eq4]
      exact ⟨ht, by rw [q10 122 _ (by decide) (by decide), g22]; decide⟩
    · rw [pE12, tE 12 (by decide)]
      by_cases z : w < 11
      · rw [if_pos z, if_pos (by omega)]
      · rw [if_neg z, if_neg (by omega), ycF_c (by omega)]; omega
    · rw [(p3 j).1, (p3 j).2, if_neg (by omega), if_neg (by omega)]
      exact ⟨tx _ _ (by omega) (by omega), tx _ _ (by omega) (by omega)⟩
