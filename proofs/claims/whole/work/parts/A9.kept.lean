/-! what was read says the same in both -/
theorem evA_c {sg nm sg' nm' f : Int → Int} : ∀ (n : Nat) (p p' : Int) (st : List Int), (∀ i : Int, 0 ≤ i → i < (n : Int) → sg' (p' + i) = sg (p + i) ∧ (sg (p + i) = 2 → nm' (p' + i) = nm (p + i))) → evA sg' nm' f n p' st = evA sg nm f n p st := by
  intro n
  induction n with
  | zero => intro p p' st _; cases st with
    | nil => rfl
    | cons a t => cases t <;> rfl
  | succ n ih =>
    intro p p' st h
    have h0 := h 0 (by omega) (by omega)
    rw [Int.add_zero, Int.add_zero] at h0
    have nx : ∀ st', evA sg' nm' f n (p' + 1) st' = evA sg nm f n (p + 1) st' := fun st' => ih (p + 1) (p' + 1) st' fun i i0 i1 => by
      have := h (i + 1) (by omega) (by omega)
      rw [show p' + 1 + i = p' + (i + 1) by omega, show p + 1 + i = p + (i + 1) by omega]
      exact this
    unfold evA
    rw [h0.1]
    by_cases c1 : sdA (sg p)
    · rw [if_pos c1, if_pos c1, nx]
      by_cases c2 : sg p = 2
      · rw [if_pos c2, if_pos c2, h0.2 c2]
      · rw [if_neg c2, if_neg c2]
    · rw [if_neg c1, if_neg c1]
      by_cases c2 : sg p = 23 ∨ sg p = 35
      · rw [if_pos c2, if_pos c2]
        cases st with
        | nil => rfl
        | cons a t => exact nx _
      · rw [if_neg c2, if_neg c2]
        cases st with
        | nil => rfl
        | cons b t => cases t with
          | nil => rfl
          | cons a t =>
            show (if erA (sg p) a b then 0 else _) = (if erA (sg p) a b then 0 else _)
            rw [nx]
/-- every order is of its kind -/
theorem rnB_k {u : zM} : ∀ (n : Nat) (q : Int) (ids ids' : List Int), rnB u n q ids ids' → ∀ i, q ≤ i → i < q + n → (u 111 (u 115 i) = 0 ∧ bdA (u 114 (u 115 i))) ∨ (u 111 (u 115 i) = 16 ∧ 0 ≤ u 114 (u 115 i) ∧ u 114 (u 115 i) ≤ 8) ∨ (1 ≤ u 111 (u 115 i) ∧ u 111 (u 115 i) ≤ 15) := by
  intro n
  induction n with
  | zero => intro q ids ids' _ i i0 i1; exact absurd i1 (by omega)
  | succ n ih =>
    intro q ids ids' h i i0 i1
    obtain ⟨mid, hs, hr⟩ := h
    by_cases z : i = q
    · subst z
      rcases hs.2 with ⟨k0, kb, _⟩ | ⟨k0, kb, _⟩ | ⟨k0, _⟩ | ⟨k0, _⟩
      · exact Or.inl ⟨k0, kb⟩
      · exact Or.inr (Or.inl ⟨k0, kb⟩)
      · exact Or.inr (Or.inr (by omega))
      · exact Or.inr (Or.inr (by omega))
    · exact ih (q + 1) mid ids' hr i (by omega) (by omega)
/-- what is kept is in order -/
theorem wf_kp {u g : zM} : ∀ (n : Nat) (q : Int) (ids ids' : List Int), 96 ≤ q → q + n ≤ 192 → (∀ i, q ≤ i → i < q + n → (96 ≤ u 115 i ∧ u 115 i < 192) ∧ g 115 (i - 96) = u 115 i - 96 ∧ g 111 (u 115 i - 96) = u 111 (u 115 i) ∧ g 112 (u 115 i - 96) = zw (u 112 (u 115 i) - 96) ∧ g 113 (u 115 i - 96) = zw (u 113 (u 115 i) - 96) ∧ g 114 (u 115 i - 96) = u 114 (u 115 i)) → (∀ y, y ∈ ids → 96 ≤ y ∧ y < 192) → rnB u n q ids ids' → ids'.length = 1 → wfA g n (q - 96) (ids.map fun x => x - 96) := by
  intro n
  induction n with
  | zero =>
    intro q ids ids' h0 h1 e _ h hl
    have h : ids' = ids := h
    show (ids.map fun x => x - 96).length = 1
    rw [List.length_map, ← h]
    exact hl
  | succ n ih =>
    intro q ids ids' h0 h1 e hy h hl
    obtain ⟨mid, hs, hr⟩ := h
    obtain ⟨b, e5, e1, e2, e3, e4⟩ := e q (by omega) (by omega)
    have hm : ∀ y, y ∈ mid → 96 ≤ y ∧ y < 192 := fun y ym => by
      rcases hs.2 with ⟨_, _, rfl⟩ | ⟨_, _, rfl⟩ | ⟨_, c, t, rfl, _, rfl⟩ | ⟨_, b', c, t, rfl, _, _, rfl⟩
      · rcases List.mem_cons.1 ym with z | z
        · omega
        · exact hy y z
      · rcases List.mem_cons.1 ym with z | z
        · omega
        · exact hy y z
      · rcases List.mem_cons.1 ym with z | z
        · omega
        · exact hy y (List.mem_cons_of_mem _ z)
      · rcases List.mem_cons.1 ym with z | z
        · omega
        · exact hy y (List.mem_cons_of_mem _ (List.mem_cons_of_mem _ z))
    have nx := ih (q + 1) mid ids' (by omega) (by omega) (fun i i0 i1 => e i (by omega) (by omega)) hm hr hl
    rw [show q + 1 - 96 = q - 96 + 1 by omega] at nx
    unfold wfA
    rw [e5, e1, e2, e3, e4]
    refine ⟨by omega, by omega, fun z => hs.1 ?_, ?_⟩
    · obtain ⟨x, hx, hxe⟩ := List.mem_map.mp z
      have : x = u 115 q := by omega
      rw [← this]; exact hx
    · rcases hs.2 with ⟨k0, kb, rfl⟩ | ⟨k0, kb, rfl⟩ | ⟨k0, c, t, rfl, kc, rfl⟩ | ⟨k0, b', c, t, rfl, kb, kc, rfl⟩
      · exact Or.inl ⟨k0, kb, nx⟩
      · exact Or.inr (Or.inl ⟨k0, kb, nx⟩)
      · have hc := hy c (List.mem_cons_self ..)
        exact Or.inr (Or.inr (Or.inl ⟨k0, c - 96, t.map fun x => x - 96, rfl, by rw [kc, zw_i (by omega) (by omega)], nx⟩))
      · have hb := hy b' (List.mem_cons_self ..)
        have hc := hy c (List.mem_cons_of_mem _ (List.mem_cons_self ..))
        exact Or.inr (Or.inr (Or.inr ⟨k0, b' - 96, c - 96, t.map fun x => x - 96, rfl, by rw [kb, zw_i (by omega) (by omega)], by rw [kc, zw_i (by omega) (by omega)], nx⟩))
/-- an expression that stands without a line -/
theorem df_ev {a : zM} {E : Int} (h : DC a E) (f : Int → Int) : evA (a (E + 1)) (a (E + 2)) f 1 0 [] = 1 ∧ evA (a (E + 1)) (a (E + 2)) f 3 1 [] = Int.tdiv (f 15) 10 ∧ evA (a (E + 1)) (a (E + 2)) f 1 4 [] = 10 ∧ evA (a (E + 1)) (a (E + 2)) f 1 5 [] = 0 ∧ evA (a (E + 1)) (a (E + 2)) f 1 6 [] = f 13 := by
  obtain ⟨⟨h1, h2⟩, ⟨h3, h4, h5, h6⟩, ⟨h7, h8⟩, ⟨h9, h10⟩, h11⟩ := h
  refine ⟨?_, ?_, ?_, ?_, ?_⟩
  · simp [evA, h1, h2, sdA]
  · have s3 : ¬ sdA 33 := by decide
    have e1 : ¬ erA 33 (f 15) 10 := by unfold erA; omega
    simp [evA, h3, h4, h5, h6, sdA, erA, jnA]
  · simp [evA, h7, h8, sdA]
  · simp [evA, h9, h10, sdA]
  · simp [evA, h11, sdA]
theorem df_cd {a : zM} {E e : Int} (h : DC a E) (he : 0 ≤ e ∧ e ≤ 4) (h3 : a (E + 3) e = dfS e) (h4 : a (E + 4) e = dfE e) : cdC a E (7 + e) := by
  obtain ⟨⟨h1, h2⟩, ⟨k3, k4, k5, k6⟩, ⟨h7, h8⟩, ⟨h9, h10⟩, h11⟩ := h
  have hb : 0 ≤ dfS e ∧ dfS e ≤ dfE e ∧ dfE e ≤ 7 := by
    have : e = 0 ∨ e = 1 ∨ e = 2 ∨ e = 3 ∨ e = 4 := by omega
    rcases this with z | z | z | z | z <;> subst z <;> decide
  unfold cdC
  rw [show 7 + e - 7 = e by omega, h3, h4]
  refine ⟨by omega, fun q q0 q1 => ?_⟩
  have : q = 0 ∨ q = 1 ∨ q = 2 ∨ q = 3 ∨ q = 4 ∨ q = 5 ∨ q = 6 := by omega
  rcases this with z | z | z | z | z | z | z <;> subst z
  · rw [h1, h2]; exact ⟨Or.inl (Or.inl rfl), fun _ => by unfold bdA; omega⟩
  · rw [k3]; exact ⟨Or.inl (Or.inr (by omega)), fun y => absurd y (by decide)⟩
  · rw [k4, k5]; exact ⟨Or.inl (Or.inl rfl), fun _ => by unfold bdA; omega⟩
  · rw [k6]; exact ⟨Or.inr (by omega), fun y => absurd y (by decide)⟩
  · rw [h7, h8]; exact ⟨Or.inl (Or.inl rfl), fun _ => by unfold bdA; omega⟩
  · rw [h9, h10]; exact ⟨Or.inl (Or.inl rfl), fun _ => by unfold bdA; omega⟩
  · rw [h11]; exact ⟨Or.inl (Or.inr (by omega)), fun y => absurd y (by decide)⟩
theorem sgK_k {k v : Int} (h : (k = 0 ∧ bdA v) ∨ (k = 16 ∧ 0 ≤ v ∧ v ≤ 8) ∨ (1 ≤ k ∧ k ≤ 15)) : (sdA (sgK k v) ∨ (21 ≤ sgK k v ∧ sgK k v ≤ 35)) ∧ (sgK k v = 2 → k = 0 ∧ bdA v) := by
  rcases h with h | h | h
  · rw [h.1]; exact ⟨Or.inl (Or.inl rfl), fun _ => ⟨rfl, h.2⟩⟩
  · have : sgK k v = 12 + v := by rw [h.1]; rfl
    rw [this]
    exact ⟨Or.inl (Or.inr (by omega)), fun y => absurd y (by omega)⟩
  · have : k = 1 ∨ k = 2 ∨ k = 3 ∨ k = 4 ∨ k = 5 ∨ k = 6 ∨ k = 7 ∨ k = 8 ∨ k = 9 ∨ k = 10 ∨ k = 11 ∨ k = 12 ∨ k = 13 ∨ k = 14 ∨ k = 15 := by omega
    rcases this with z | z | z | z | z | z | z | z | z | z | z | z | z | z | z <;> subst z <;> exact ⟨Or.inr (by simp [sgK]), fun y => absurd y (by simp [sgK])⟩
/-- an expression that is told: class and reference say the same -/
theorem FX_v {a u m g : zM} {E e K O : Int} (hK : 0 ≤ K ∧ K ≤ 96) (hO : O ≤ K) (he : 0 ≤ e ∧ e ≤ 6) (h42 : u 88 42 = K) (hX : FXe a E u e O) (hc : cdR a E u K O) (kp : KP u m) (hg : ∀ x j, prA x j → g x j = m x j) : cdC a E (7 + e) ∧ (∀ f, vC a E (7 + e) f = vM g e f) ∧ xwf g e ∧ ¬ g 117 e = 0 := by
  obtain ⟨x1, x2, x3, x, x4⟩ := hX
  obtain ⟨k1, k2, k3, k4, k5, k6⟩ := kp
  have g16 : g 116 e = u 116 (7 + e) := (hg _ _ (by unfold prA; omega)).trans (k3 e he.1 (by omega)).1
  have g17 : g 117 e = u 117 (7 + e) := (hg _ _ (by unfold prA; omega)).trans (k3 e he.1 (by omega)).2
  have hq : ∀ i, 0 ≤ i → i < O → (0 ≤ g 115 i ∧ g 115 i < K) ∧ g 115 i = u 115 (96 + i) - 96 ∧ g 111 (g 115 i) = u 111 (u 115 (96 + i)) ∧ g 112 (g 115 i) = zw (u 112 (u 115 (96 + i)) - 96) ∧ g 113 (g 115 i) = zw (u 113 (u 115 (96 + i)) - 96) ∧ g 114 (g 115 i) = u 114 (u 115 (96 + i)) := fun i i0 i1 => by
    have b := (hc i i0 i1).1
    have e15 : g 115 i = u 115 (96 + i) - 96 := by
      rw [hg 115 i (by unfold prA; omega), (k5 i i0 (by omega)).2.2.2.2]
      exact zw_i (by omega) (by omega)
    have kj := k5 (u 115 (96 + i) - 96) (by omega) (by omega)
    rw [show 96 + (u 115 (96 + i) - 96) = u 115 (96 + i) by omega] at kj
    rw [e15]
    refine ⟨by omega, rfl, ?_, ?_, ?_, ?_⟩
    · rw [hg 111 _ (by unfold prA; omega)]; exact kj.1
    · rw [hg 112 _ (by unfold prA; omega)]; exact kj.2.1
    · rw [hg 113 _ (by unfold prA; omega)]; exact kj.2.2.1
    · rw [hg 114 _ (by unfold prA; omega)]; exact kj.2.2.2.1
  have kd := rnB_k _ _ _ _ x4
  refine ⟨?_, fun f => ?_, ?_, by rw [g17]; omega⟩
  · unfold cdC
    rw [show 7 + e - 7 = e by omega, x1, x2]
    refine ⟨by omega, fun q q0 q1 => ?_⟩
    obtain ⟨c1, c2, c3⟩ := hc (q - 7) (by omega) (by omega)
    rw [show 7 + (q - 7) = q by omega] at c2 c3
    have s := sgK_k (kd (96 + (q - 7)) (by omega) (by omega))
    rw [← c2] at s
    exact ⟨s.1, fun y => by rw [c3 y]; exact (s.2 y).2⟩
  · unfold vC vM
    rw [show 7 + e - 7 = e by omega, x1, x2, g16, g17, show 7 + u 116 (7 + e) + u 117 (7 + e) - (7 + u 116 (7 + e)) = u 117 (7 + e) by omega]
    refine evA_c _ _ _ _ fun i i0 i1 => ?_
    obtain ⟨c1, c2, c3⟩ := hc (u 116 (7 + e) + i) (by omega) (by omega)
    obtain ⟨q1, q2, q3, q4, q5, q6⟩ := hq (u 116 (7 + e) + i) (by omega) (by omega)
    rw [show 7 + (u 116 (7 + e) + i) = 7 + u 116 (7 + e) + i by omega] at c2 c3
    show a (E + 1) (7 + u 116 (7 + e) + i) = sgK (g 111 (g 115 (u 116 (7 + e) + i))) (g 114 (g 115 (u 116 (7 + e) + i))) ∧ (sgK (g 111 (g 115 (u 116 (7 + e) + i))) (g 114 (g 115 (u 116 (7 + e) + i))) = 2 → a (E + 2) (7 + u 116 (7 + e) + i) = g 114 (g 115 (u 116 (7 + e) + i)))
    rw [q3, q6]
    exact ⟨c2, fun y => c3 (c2.trans y)⟩
  · unfold xwf
    rw [g16, g17]
    refine ⟨by omega, by omega, ?_⟩
    have := wf_kp (g := g) _ _ [] [x] (by omega) (by omega) (fun i i0 i1 => ?_) (fun y hy => absurd hy List.not_mem_nil) x4 rfl
    · rw [show 96 + u 116 (7 + e) - 96 = u 116 (7 + e) by omega] at this
      exact this
    · obtain ⟨q1, q2, q3, q4, q5, q6⟩ := hq (i - 96) (by omega) (by omega)
      rw [show 96 + (i - 96) = i by omega] at q2 q3 q4 q5 q6
      rw [q2] at q1 q3 q4 q5 q6
      exact ⟨by omega, q2, q3, q4, q5, q6⟩
/-- the edicts that were read -/
theorem K_fin {a u m g u0 : zM} {E : Int} (h5 : 0 ≤ a E 5 ∧ a E 5 ≤ 96) (h11 : a E 11 = 7 + a E 5) (h : R1 a E u0 u) (kp : KP u m) (hg : ∀ x j, prA x j → g x j = m x j) : ER a E g ∧ EW g ∧ ((1 ≤ g 110 0 ∧ g 110 0 ≤ 24) ∧ (1 ≤ g 110 1 ∧ g 110 1 ≤ 99) ∧ (1 ≤ g 110 2 ∧ g 110 2 ≤ 9) ∧ (0 ≤ g 110 3 ∧ g 110 3 ≤ 99)) := by
  obtain ⟨h42, h43, hc, hfr, hf, nb, tb, dc, xb⟩ := h
  obtain ⟨b1, b2, b3, b4, b5, b6, b7⟩ := xb
  have kp' := kp
  obtain ⟨k1, k2, k3, k4, k5, k6⟩ := kp'
  have g10 : ∀ j, 0 ≤ j → j < 4 → g 110 j = u 110 (4 + j) := fun j j0 j1 => (hg _ _ (by unfold prA; omega)).trans (k1 j j0 j1)
  have g23 : ∀ j, 0 ≤ j → j < 9 → g 123 j = u 122 j := fun j j0 j1 => (hg _ _ (by unfold prA; omega)).trans (k2 j j0 j1)
  have g17 : ∀ j, 0 ≤ j → j < 7 → g 117 j = u 117 (7 + j) := fun j j0 j1 => (hg _ _ (by unfold prA; omega)).trans (k3 j j0 j1).2
  have fx : ∀ e, 0 ≤ e → e ≤ 6 → ¬ u 117 (7 + e) = 0 → cdC a E (7 + e) ∧ (∀ f, vC a E (7 + e) f = vM g e f) ∧ xwf g e ∧ ¬ g 117 e = 0 := fun e e0 e1 hn => FX_v h5 (by omega) ⟨e0, e1⟩ h42 (b1 e e0 e1 hn) hc kp hg
  have e0 : g 110 0 = a E 0 := (g10 0 (by decide) (by decide)).trans nb.1.1
  have e1 : g 110 1 = a E 1 := (g10 1 (by decide) (by decide)).trans nb.1.2.1
  have e2 : g 110 2 = a E 2 := (g10 2 (by decide) (by decide)).trans nb.1.2.2.1
  have e3 : g 110 3 = a E 3 := (g10 3 (by decide) (by decide)).trans nb.1.2.2.2
  have n0 : ∀ e, 0 ≤ e → e ≤ 4 → u 122 (4 + e) = 0 → cdC a E (7 + e) ∧ a (E + 3) e = dfS e ∧ a (E + 4) e = dfE e := fun e q0 q1 hz => by
    have := b3 e q0 q1 hz
    exact ⟨df_cd dc ⟨q0, q1⟩ this.1 this.2, this⟩
  have dv : ∀ f, _ := fun f => df_ev dc f
  have v0 : ∀ e, 0 ≤ e → e ≤ 3 → cdC a E (7 + e) ∧ ∀ f, vC a E (7 + e) f = vl g e f := fun e q0 q1 => by
    by_cases z : u 122 (4 + e) = 0
    · obtain ⟨c1, c2, c3⟩ := n0 e q0 (by omega) z
      refine ⟨c1, fun f => ?_⟩
      have gz : g 123 (4 + e) = 0 := (g23 _ (by omega) (by omega)).trans z
      unfold vC
      rw [show 7 + e - 7 = e by omega, c2, c3]
      have he : e = 0 ∨ e = 1 ∨ e = 2 ∨ e = 3 := by omega
      rcases he with y | y | y | y <;> subst y
      · unfold vl
        rw [if_pos rfl, if_pos (show g 123 4 = 0 from gz)]
        exact (dv f).1
      · unfold vl
        rw [if_neg (by decide), if_pos rfl, if_pos (show g 123 5 = 0 from gz)]
        exact (dv f).2.1
      · unfold vl
        rw [if_neg (by decide), if_neg (by decide), if_pos rfl, if_pos (show g 123 6 = 0 from gz)]
        exact (dv f).2.2.1
      · unfold vl
        rw [if_neg (by decide), if_neg (by decide), if_neg (by decide), if_pos rfl, if_pos (show g 123 7 = 0 from gz)]
        exact (dv f).2.2.2.1
    · have hn : ¬ u 117 (7 + e) = 0 := fun q => z ((b2 e q0 (by omega) (by omega)).2 q)
      obtain ⟨c1, c2, c3, c4⟩ := fx e q0 (by omega) hn
      refine ⟨c1, fun f => ?_⟩
      have gz : ¬ g 123 (4 + e) = 0 := by rw [g23 _ (by omega) (by omega)]; exact z
      rw [c2 f]
      have he : e = 0 ∨ e = 1 ∨ e = 2 ∨ e = 3 := by omega
      rcases he with y | y | y | y <;> subst y
      · unfold vl
        rw [if_pos rfl, if_neg (show ¬ g 123 4 = 0 from gz)]
      · unfold vl
        rw [if_neg (by decide), if_pos rfl, if_neg (show ¬ g 123 5 = 0 from gz)]
      · unfold vl
        rw [if_neg (by decide), if_neg (by decide), if_pos rfl, if_neg (show ¬ g 123 6 = 0 from gz)]
      · unfold vl
        rw [if_neg (by decide), if_neg (by decide), if_neg (by decide), if_pos rfl, if_neg (show ¬ g 123 7 = 0 from gz)]
  have b65 := b6 5 (by decide) (by decide) (by decide)
  have b66 := b6 6 (by decide) (by decide) (by decide)
  rw [show (7 : Int) + 5 = 12 by decide] at b65
  rw [show (7 : Int) + 6 = 13 by decide] at b66
  have g8 : g 123 8 = u 122 8 := g23 8 (by decide) (by decide)
  have g5 : g 117 5 = u 117 12 := g17 5 (by decide) (by decide)
  have g6 : g 117 6 = u 117 13 := g17 6 (by decide) (by decide)
  have g4 : g 117 4 = u 117 11 := g17 4 (by decide) (by decide)
  have b24 := b2 4 (by decide) (by decide) (by decide)
  rw [show (4 : Int) + 4 = 8 by decide, show (7 : Int) + 4 = 11 by decide] at b24
  have yce : a E 12 = (yc g : Int) := by
    unfold yc
    rw [g8, g5, g6]
    by_cases z : u 122 8 = 0
    · rw [if_pos z]; exact b7 z
    · rw [if_neg z]
      by_cases y : u 117 12 = 0
      · rw [if_pos y]; have := b65.1 y; show a E 12 = 1; omega
      · rw [if_neg y]
        by_cases t : u 117 13 = 0
        · rw [if_pos t]; have := b66.1 t; show a E 12 = 2; omega
        · rw [if_neg t]; show a E 12 = 3; omega
  refine ⟨⟨⟨e0.symm, e1.symm, e2.symm, e3.symm⟩, v0, yce, fun k q0 q1 => ?_⟩, ⟨fun e q0 q1 hz => ?_, fun hz => ⟨?_, ?_, fun e q0 q1 hn => ?_⟩⟩, by rw [e0, e1, e2, e3]; exact nb.2⟩
  · rw [← yce] at q1
    have kk : k = 0 ∨ k = 1 ∨ k = 2 := by omega
    have vy : ∀ f, vl g (4 + k) f = if g 123 8 = 0 then f 13 else vM g (4 + k) f := fun f => by
      unfold vl
      rw [if_neg (by omega), if_neg (by omega), if_neg (by omega), if_neg (by omega)]
    by_cases z : u 122 8 = 0
    · have h1 := b7 z
      have k0 : k = 0 := by omega
      subst k0
      obtain ⟨c1, c2, c3⟩ := n0 4 (by decide) (by decide) z
      refine ⟨c1, fun f => ?_⟩
      rw [vy, if_pos (g8.trans z)]
      unfold vC
      rw [show (11 : Int) + 0 - 7 = 4 by decide, c2, c3]
      exact (dv f).2.2.2.2
    · have hn : ¬ u 117 (7 + (4 + k)) = 0 := by
        rcases kk with y | y | y <;> subst y
        · exact fun q => z (b24.2 q)
        · exact fun q => by have := b65.1 q; omega
        · exact fun q => by have := b66.1 q; omega
      obtain ⟨c1, c2, c3, c4⟩ := fx (4 + k) (by omega) (by omega) hn
      rw [show 7 + (4 + k) = 11 + k by omega] at c1 c2
      refine ⟨c1, fun f => ?_⟩
      rw [vy, if_neg (fun q => z (g8.symm.trans q))]
      exact c2 f
  · have hn : ¬ u 117 (7 + e) = 0 := fun q => hz ((g23 _ (by omega) (by omega)).trans ((b2 e q0 (by omega) (by omega)).2 q))
    exact (fx e q0 (by omega) hn).2.2.1
  · rw [g4]
    exact fun q => hz (g8.trans (b24.2 q))
  · rw [g5, g6]
    intro q
    have := b65.1 q
    exact b66.2 (by omega)
  · rw [g17 e (by omega) (by omega)] at hn
    exact (fx e (by omega) (by omega) hn).2.2.1
