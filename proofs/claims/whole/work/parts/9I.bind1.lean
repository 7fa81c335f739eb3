/-! one turn of bind keeps the core -/
def arW (s : Int) : Nat := if s = 35 ∨ s = 23 then 1 else 2
theorem EC_1 {a u : zM} {E F K O s x : Int} {W N H : List Int} (hE : E = 76 ∨ E = 82) (h : EC a E u F K O (s :: W) (x :: N) H) (h36 : ¬ s = 36) (hH : arW s ≤ H.length) : ∃ t, EC (zup (addF a E s 0) 72 7 W.length) E (bn1F u W.length) F K (O + 1) W N (x :: t) ∧ t.length + arW s = H.length := by
  obtain ⟨⟨hok, _⟩, hnd, hrest⟩ := h.nd
  obtain ⟨hx, h111, h114, hxH, hxN, hxO⟩ := hnd h36
  have r1 : u 118 W.length = wmp s := h.r.1
  have r2 : u 119 W.length = x := h.r.2.1
  have hl := h.hl
  have hs := h.hs
  have eb : bn1F u W.length = if wmp s = 12 ∨ wmp s = 13 then un1F (zup u 88 46 W.length) x else bi1F (zup u 88 46 W.length) x := by unfold bn1F; rw [r1, r2]
  have v0 : ∀ c j, (c = 88 → ¬ j = 46) → zup u 88 46 W.length c j = u c j := by
    intro c j hc
    by_cases z : c = 88
    · exact zup_j (hc z)
    · exact zup_c z
  have v43 := v0 88 43 (fun _ => by decide)
  have v48 := v0 88 48 (fun _ => by decide)
  have v42 := v0 88 42 (fun _ => by decide)
  have v46 : zup u 88 46 W.length 88 46 = W.length := zup_s _ _ _ _
  by_cases z : s = 35 ∨ s = 23
  · have ea : arW s = 1 := if_pos z
    have zw' := (wmp_un hok h36).2 z
    rw [if_pos zw'] at eb
    cases H with
    | nil => rw [ea] at hH; exact absurd hH (by decide)
    | cons c t =>
      rw [List.length_cons] at hl
      obtain ⟨q1, q2, q3, q4, q5, q6, q7, q8, q9, q10⟩ := un1_c (u := zup u 88 46 W.length) (x := x) (L := t.length) (by rw [v48, hl]; omega)
      rw [v43] at q1 q5 q6
      refine ⟨t, ?_, by rw [ea, List.length_cons]⟩
      rw [eb]
      have k111 : un1F (zup u 88 46 W.length) x 111 x = wmp s := by rw [q10 111 x (by decide) (by decide) (by decide) (fun y => absurd y (by decide)), v0 111 x (fun y => absurd y (by decide))]; exact h111
      refine EC_s hE h h36 ((q10 88 46 (by decide) (by decide) (by decide) (fun _ => ⟨by decide, by decide⟩)).trans v46) ((q10 88 42 (by decide) (by decide) (by decide) (fun _ => ⟨by decide, by decide⟩)).trans v42) q1 q2 q3 (fun j hj => (q4 j hj).trans (v0 _ _ (fun y => absurd y (by decide)))) q5 (fun j hj => (q6 j hj).trans (v0 _ _ (fun y => absurd y (by decide)))) ?_ ?_ hs.2 (fun y hy => List.mem_cons_of_mem _ hy) ⟨hxH, Or.inr (Or.inr (Or.inl ⟨by rw [k111]; exact zw', c, t, rfl, ?_, rfl⟩))⟩
      · intro c' j hc hj
        rcases hc with hc | hc
        · subst hc; exact (q8 j hj).trans (v0 _ _ (fun y => absurd y (by decide)))
        · subst hc; exact (q9 j).trans (v0 _ _ (fun y => absurd y (by decide)))
      · intro c' j hc
        exact (q10 c' j (by omega) (by omega) (by omega) (fun y => absurd y (by omega))).trans (v0 _ _ (fun y => absurd y (by omega)))
      · rw [q7, v0 120 _ (fun y => absurd y (by decide))]; exact hs.1
  · have ea : arW s = 2 := if_neg z
    have zw' := fun y => z ((wmp_un hok h36).1 y)
    rw [if_neg zw'] at eb
    cases H with
    | nil => rw [ea] at hH; exact absurd hH (by decide)
    | cons b H1 =>
      cases H1 with
      | nil => rw [ea, List.length_cons, List.length_nil] at hH; exact absurd hH (by decide)
      | cons c t =>
        rw [List.length_cons, List.length_cons] at hl
        obtain ⟨q1, q2, q3, q4, q5, q6, q7, q8, q9, q9', q10⟩ := bi1_c (u := zup u 88 46 W.length) (x := x) (L := t.length) (by rw [v48, hl]; omega)
        rw [v43] at q1 q5 q6
        refine ⟨t, ?_, by rw [ea, List.length_cons, List.length_cons]⟩
        rw [eb]
        have k111 : bi1F (zup u 88 46 W.length) x 111 x = wmp s := by rw [q10 111 x (by decide) (by decide) (by decide) (by decide) (fun y => absurd y (by decide)), v0 111 x (fun y => absurd y (by decide))]; exact h111
        refine EC_s hE h h36 ((q10 88 46 (by decide) (by decide) (by decide) (by decide) (fun _ => ⟨by decide, by decide⟩)).trans v46) ((q10 88 42 (by decide) (by decide) (by decide) (by decide) (fun _ => ⟨by decide, by decide⟩)).trans v42) q1 q2 q3 (fun j hj => (q4 j hj).trans (v0 _ _ (fun y => absurd y (by decide)))) q5 (fun j hj => (q6 j hj).trans (v0 _ _ (fun y => absurd y (by decide)))) ?_ ?_ hs.2.2 (fun y hy => List.mem_cons_of_mem _ (List.mem_cons_of_mem _ hy)) ⟨hxH, Or.inr (Or.inr (Or.inr ⟨?_, b, c, t, rfl, ?_, ?_, rfl⟩))⟩
        · intro c' j hc hj
          rcases hc with hc | hc
          · subst hc; exact (q8 j hj).trans (v0 _ _ (fun y => absurd y (by decide)))
          · subst hc; exact (q9' j hj).trans (v0 _ _ (fun y => absurd y (by decide)))
        · intro c' j hc
          exact (q10 c' j (by omega) (by omega) (by omega) (by omega) (fun y => absurd y (by omega))).trans (v0 _ _ (fun y => absurd y (by omega)))
        · rw [k111]
          unfold okW at hok
          unfold wmp at zw' ⊢
          have n35 : ¬ s = 35 := fun y => z (Or.inl y)
          have n23 : ¬ s = 23 := fun y => z (Or.inr y)
          rw [if_neg h36, if_neg n35, if_neg n23]
          by_cases y1 : s = 22
          · rw [if_pos y1]; omega
          · rw [if_neg y1]
            by_cases y2 : s = 21
            · rw [if_pos y2]; omega
            · rw [if_neg y2]; omega
        · rw [q9, v0 120 _ (fun y => absurd y (by decide))]
          have := hs.1
          rw [List.length_cons] at this
          exact this
        · rw [q7, v0 120 _ (fun y => absurd y (by decide))]; exact hs.2.1
