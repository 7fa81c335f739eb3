/-! calls that change what is given -/
theorem REC_g {g m m' : zM} (hg : LG g) (h : REC g m) (a : ∀ x j, 3 ≤ x → x ≤ 65 → m' x j = m x j) : REC g m' := by
  have hN := hg.2.2.1
  have hS := hg.1.1
  obtain ⟨h1, h2, h3, h4⟩ := h
  refine ⟨fun l l0 l1 => ?_, fun l d l0 l1 hd => ?_, fun k k0 k1 => ?_, ?_⟩
  · have := h1 l l0 l1
    unfold EL at this ⊢
    rw [a _ 5 (by omega) (by omega), a _ 12 (by omega) (by omega), a _ 11 (by omega) (by omega), a _ 10 (by omega) (by omega), a _ 13 (by omega) (by omega), a _ 14 (by omega) (by omega), a _ 9 (by omega) (by omega)]
    exact this
  · have l1' : l < g 88 12 := l1
    have := h2 l d l0 l1 hd
    unfold NQ at this ⊢
    rw [a _ _ (by omega) (by omega), a _ _ (by omega) (by omega), a _ _ (by omega) (by omega), a _ _ (by omega) (by omega)]
    exact this
  · rw [a _ _ (by omega) (by omega), a _ _ (by omega) (by omega)]
    exact h3 k k0 k1
  · rw [a _ _ (by omega) (by omega), a _ _ (by omega) (by omega), a _ _ (by omega) (by omega), a _ _ (by omega) (by omega)]
    exact h4
/-- the rows of the edicts -/
def ERw (g g' : zM) : Prop := ∀ x, 110 ≤ x → x ≤ 123 → g' x = g x
theorem wfA_c {g g' : zM} (e : ERw g g') : ∀ (n : Nat) (q : Int) (ids : List Int), wfA g n q ids → wfA g' n q ids := by
  intro n
  induction n with
  | zero => intro q ids h; exact h
  | succ n ih =>
    intro q ids h
    unfold wfA at h ⊢
    rw [e 115 (by decide) (by decide), e 111 (by decide) (by decide), e 112 (by decide) (by decide), e 113 (by decide) (by decide), e 114 (by decide) (by decide)]
    refine ⟨h.1, h.2.1, h.2.2.1, ?_⟩
    rcases h.2.2.2 with q | q | ⟨q, a, t, q1, q2, q3⟩ | ⟨q, b, a, t, q1, q2, q3, q4⟩
    · exact Or.inl ⟨q.1, q.2.1, ih _ _ q.2.2⟩
    · exact Or.inr (Or.inl ⟨q.1, q.2.1, ih _ _ q.2.2⟩)
    · exact Or.inr (Or.inr (Or.inl ⟨q, a, t, q1, q2, ih _ _ q3⟩))
    · exact Or.inr (Or.inr (Or.inr ⟨q, b, a, t, q1, q2, q3, ih _ _ q4⟩))
theorem EW_c {g g' : zM} (e : ERw g g') (h : EW g) : EW g' := by
  have x : ∀ k, xwf g k → xwf g' k := fun k q => by
    unfold xwf at q ⊢
    rw [e 116 (by decide) (by decide), e 117 (by decide) (by decide)]
    exact ⟨q.1, q.2.1, wfA_c e _ _ _ q.2.2⟩
  unfold EW at h ⊢
  rw [e 123 (by decide) (by decide), e 117 (by decide) (by decide)]
  exact ⟨fun k k0 k1 q => x k (h.1 k k0 k1 q), fun q => ⟨(h.2 q).1, (h.2 q).2.1, fun k k0 k1 y => x k ((h.2 q).2.2 k k0 k1 y)⟩⟩
theorem ER_c {g g' m : zM} {E : Int} (e : ERw g g') (h : ER m E g) : ER m E g' := by
  have v : ∀ k f, vM g' k f = vM g k f := fun k f => by
    unfold vM sgM nmM
    rw [e 111 (by decide) (by decide), e 114 (by decide) (by decide), e 115 (by decide) (by decide), e 116 (by decide) (by decide), e 117 (by decide) (by decide)]
  have l : ∀ k f, vl g' k f = vl g k f := fun k f => by
    unfold vl
    rw [e 123 (by decide) (by decide), v, v, v, v, v]
  have y : yc g' = yc g := by
    unfold yc
    rw [e 123 (by decide) (by decide), e 117 (by decide) (by decide)]
  unfold ER at h ⊢
  rw [e 110 (by decide) (by decide), y]
  simp only [l]
  exact h
theorem LG_c {g g' : zM} (e : ∀ x, 90 ≤ x → x ≤ 102 → ¬ (92 ≤ x ∧ x ≤ 96) → g' x = g x) (e8 : g' 88 4 = g 88 4 ∧ g' 88 12 = g 88 12) (hy : 0 ≤ g' 88 3 ∧ g' 88 3 ≤ 9999) (h : LG g) : LG g' := by
  unfold LG at h ⊢
  rw [e 90 (by decide) (by decide) (by decide), e 91 (by decide) (by decide) (by decide), e 97 (by decide) (by decide) (by decide), e 98 (by decide) (by decide) (by decide), e 99 (by decide) (by decide) (by decide), e 100 (by decide) (by decide) (by decide), e 101 (by decide) (by decide) (by decide), e 102 (by decide) (by decide) (by decide), e8.1, e8.2]
  exact ⟨h.1, h.2.1, h.2.2.1, hy, h.2.2.2.2⟩
theorem RGd_c {g g' : zM} (e : g' 93 = g 93 ∧ g' 95 = g 95 ∧ g' 110 = g 110) (e8 : g' 88 4 = g 88 4 ∧ g' 88 12 = g 88 12) (h7 : ∀ l, 0 ≤ l → l < g 88 12 → 0 ≤ g' 107 l ∧ g' 107 l ≤ 99) (h : RGd g) : RGd g' := by
  unfold RGd at h ⊢
  rw [e.1, e.2.1, e.2.2, e8.1, e8.2]
  exact ⟨h.1, h.2.1, h.2.2.1, h7⟩
/-- a lord's papers, window, day -/
theorem CS_l {g g' m m' : zM} {l : Int} (hg : LG g) (hb : 0 ≤ l ∧ l < g 88 12) (h : CS g m) (a : ∀ x j, csY x j → ¬ (x = 29 + 6 * l ∧ 8 ≤ j) → m' x j = m x j) (hl : m' (29 + 6 * l) 8 = g' 103 l ∧ m' (29 + 6 * l) 9 = g' 104 l ∧ m' (29 + 6 * l) 10 = g' 105 l ∧ m' (29 + 6 * l) 11 = g' 106 l ∧ m' (29 + 6 * l) 12 = g' 107 l ∧ m' (29 + 6 * l) 13 = g' 108 l) (e : ∀ x, ¬ (103 ≤ x ∧ x ≤ 108) → g' x = g x) (eo : ∀ x j, ¬ j = l → g' x j = g x j) : CS g' m' := by
  have hN := hg.2.2.1
  have hS := hg.1.1
  obtain ⟨⟨h1, h2, h3⟩, h4, h5, h6, h7, h8⟩ := h
  have e7 : m' 0 7 = m 0 7 := a 0 7 (by unfold csY; omega) (by omega)
  have e88 : g' 88 = g 88 := e 88 (by decide)
  refine ⟨⟨?_, ?_, ?_⟩, by rw [e7]; exact h4, ?_, fun k k0 k1 => ?_, fun k k0 k1 => ?_, fun k k0 k1 => ?_⟩
  · rw [e88, a 1 1 (by unfold csY; omega) (by omega)]; exact h1
  · rw [e88, a 0 9 (by unfold csY; omega) (by omega)]; exact h2
  · rw [e88, a 0 11 (by unfold csY; omega) (by omega)]; exact h3
  · rw [e7]
    exact ER_c (fun x x0 x1 => e x (by omega)) (ER_f h5 fun x j x0 x1 => a x j (by unfold csY; omega) (by omega))
  · rw [e88] at k1
    have := h6 k k0 k1
    rw [e 97 (by decide), e 90 (by decide), e 91 (by decide), e 98 (by decide), e 99 (by decide), e 100 (by decide), e 101 (by decide), e 102 (by decide)]
    rw [a _ 0 (by unfold csY; omega) (by omega), a _ 1 (by unfold csY; omega) (by omega), a _ 2 (by unfold csY; omega) (by omega), a _ 3 (by unfold csY; omega) (by omega), a _ 4 (by unfold csY; omega) (by omega), a _ 5 (by unfold csY; omega) (by omega), a _ 6 (by unfold csY; omega) (by omega), a _ 7 (by unfold csY; omega) (by omega)]
    exact this
  · rw [e88] at k1
    have := h7 k k0 k1
    refine ⟨?_, fun d d0 d1 => ?_⟩
    · rw [e 90 (by decide), e 91 (by decide), e 92 (by decide), e 93 (by decide), e 94 (by decide), e 95 (by decide), a _ 1 (by unfold csY; omega) (by omega), a _ 2 (by unfold csY; omega) (by omega), a _ 3 (by unfold csY; omega) (by omega), a _ 4 (by unfold csY; omega) (by omega), a _ 5 (by unfold csY; omega) (by omega), a _ 6 (by unfold csY; omega) (by omega)]
      exact this.1
    · rw [e 96 (by decide), a _ _ (by unfold csY; omega) (by omega)]
      exact this.2 d d0 d1
  · rw [e88] at k1
    by_cases z : k = l
    · subst z; exact hl
    · have := h8 k k0 k1
      rw [eo _ _ z, eo _ _ z, eo _ _ z, eo _ _ z, eo _ _ z, eo _ _ z, a _ 8 (by unfold csY; omega) (by omega), a _ 9 (by unfold csY; omega) (by omega), a _ 10 (by unfold csY; omega) (by omega), a _ 11 (by unfold csY; omega) (by omega), a _ 12 (by unfold csY; omega) (by omega), a _ 13 (by unfold csY; omega) (by omega)]
      exact this
theorem XT_l {S : Int → Int} {m m' : zM} {l : Int} (h9 : m 0 9 ≤ 6) (h12 : m 1 1 ≤ 12) (hl : 0 ≤ l ∧ l < m 0 9) (h : XT S m) (e : ∀ x j, xtY x j → ¬ (x = 29 + 6 * l ∧ 8 ≤ j) → ¬ (x = 108 ∧ j = l) → m' x j = m x j) : XT S m' := by
  obtain ⟨h1, h2, h3, h4, h5, h6, h7, h8, h10, h11, h13⟩ := h
  have e0 : ∀ j, (j = 7 ∨ j = 8 ∨ j = 9 ∨ j = 10 ∨ j = 12 ∨ j = 13) → m' 0 j = m 0 j := fun j hj => e _ _ (xt_0 hj) (by omega) (by omega)
  have e88 : ∀ j, (j = 1 ∨ j = 26 ∨ j = 27 ∨ j = 41 ∨ j = 78) → m' 88 j = m 88 j := fun j hj => e _ _ (xt_88 hj) (by omega) (by omega)
  have e89 : ∀ j, m' 89 j = m 89 j := fun j => e _ _ (by simp [xtY]) (by omega) (by omega)
  have e71 : ∀ j, m' 71 j = m 71 j := fun j => e _ _ (by simp [xtY]) (by omega) (by omega)
  have e96 : ∀ j, m' 96 j = m 96 j := fun j => e _ _ (by simp [xtY]) (by omega) (by omega)
  have e2 : ∀ j, m' (-2) j = m (-2) j := fun j => e _ _ (by simp [xtY]) (by omega) (by omega)
  have e90 : m' 90 = m 90 := funext fun j => e _ _ (by simp [xtY]) (by omega) (by omega)
  have e91 : m' 91 = m 91 := funext fun j => e _ _ (by simp [xtY]) (by omega) (by omega)
  have e67 : m' 67 11 = m 67 11 := e _ _ (by simp [xtY]) (by omega) (by omega)
  have e11 : m' 1 1 = m 1 1 := e _ _ (by simp [xtY]) (by omega) (by omega)
  unfold XT
  rw [e0 12 (by omega), e0 13 (by omega), e0 10 (by omega), e0 7 (by omega), e0 8 (by omega), e0 9 (by omega), e88 26 (by omega), e88 27 (by omega), e88 1 (by omega), e88 41 (by omega), e88 78 (by omega), e67, e11, e90, e91]
  simp only [e89, e71, e96, e2]
  refine ⟨h1, h2, h3, ?_, encA_f (fun j => e _ _ (by simp [xtY]) (by omega) (by omega)) _ _ h5, h6, fun k k0 k1 => ?_, fun k k0 k1 => ?_, fun k k0 k1 d d0 d1 => ?_, fun k k0 k1 => ?_, h13⟩
  · rw [← h4]
    rcases h6 with z | z <;> rw [z.1]
    · exact e _ _ (by simp [xtY]) (by omega) (by omega)
    · exact e _ _ (by simp [xtY]) (by omega) (by omega)
  · have el : ∀ j, (8 ≤ j ∧ j ≤ 13) → m' (29 + 6 * k) j = m (29 + 6 * k) j := fun j hj => e _ _ (xt_l (by omega) k1 (Or.inr hj)) (by omega) (by omega)
    rw [el 8 (by omega), el 9 (by omega), el 10 (by omega), el 11 (by omega), el 12 (by omega), el 13 (by omega), e 108 k (by simp [xtY]) (by omega) (by omega)]
    exact h7 k k0 k1
  · rw [e _ _ (xt_l k0 k1 (Or.inl rfl)) (by omega) (by omega)]; exact h8 k k0 k1
  · rw [e _ _ (xt_h k0 k1) (by omega) (by omega)]; exact h10 k k0 k1 d d0 d1
  · rw [e _ _ (xt_7 k0 (by omega)) (by omega) (by omega)]; exact h11 k k0 k1
