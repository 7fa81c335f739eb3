/-! THE INVARIANT of the law's loop -/
/-- what class and reference keep besides -/
def XT (S : Int → Int) (m : zM) : Prop :=
  (m 0 12 = m 88 26 ∧ m 0 13 = m 88 27) ∧
  (m 0 10 = m 88 1 ∧ (0 ≤ m 0 10 ∧ m 0 10 ≤ 600) ∧ ∀ i, 0 ≤ i → i < m 0 10 → (0 ≤ m 89 i ∧ m 89 i ≤ 255) ∧ m 71 i = (if m 89 i < 128 then m 89 i else m 89 i - 256)) ∧
  m 67 11 = m 88 78 ∧ m (m 0 7) 5 = m 88 41 ∧ encA m 0 wdsM ∧ ((m 0 7 = 76 ∧ m 0 8 = 82) ∨ (m 0 7 = 82 ∧ m 0 8 = 76)) ∧
  (∀ l, m 0 9 ≤ l → l < 6 → (m (29 + 6 * l) 8 = 0 ∧ m (29 + 6 * l) 9 = 0 ∧ m (29 + 6 * l) 10 = 0 ∧ m (29 + 6 * l) 11 = 10 ∧ m (29 + 6 * l) 12 = 30 ∧ m (29 + 6 * l) 13 = -1) ∧ m 108 l = -1) ∧
  (∀ l, 0 ≤ l → l < 6 → m (29 + 6 * l) 0 = l) ∧
  (∀ k, 0 ≤ k → k < 12 → ∀ d, 0 ≤ d → d < 100 → m (3 + 2 * k + 1) d = m 96 (100 * k + d)) ∧
  (∀ k, 0 ≤ k → k < m 1 1 → m (3 + 2 * k) 7 = farF (m 90) (m 91) 22 k 0 ∧ 0 ≤ m 90 k) ∧
  ∀ j, m (-2) j = S j
abbrev xtY (x j : Int) : Prop := (x = 0 ∧ (j = 7 ∨ j = 8 ∨ j = 9 ∨ j = 10 ∨ j = 12 ∨ j = 13)) ∨ (x = 88 ∧ (j = 1 ∨ j = 26 ∨ j = 27 ∨ j = 41 ∨ j = 78)) ∨ x = 71 ∨ x = 89 ∨ (x = 67 ∧ j = 11) ∨ ((x = 76 ∨ x = 82) ∧ j = 5) ∨ x = 109 ∨ (29 ≤ x ∧ x ≤ 59 ∧ (x - 29) % 6 = 0 ∧ (j = 0 ∨ (8 ≤ j ∧ j ≤ 13))) ∨ x = 108 ∨ (4 ≤ x ∧ x ≤ 26 ∧ x % 2 = 0) ∨ x = 96 ∨ (3 ≤ x ∧ x ≤ 25 ∧ x % 2 = 1 ∧ j = 7) ∨ (x = 1 ∧ j = 1) ∨ x = 90 ∨ x = 91 ∨ x = -2
theorem xt_0 {j : Int} (h : j = 7 ∨ j = 8 ∨ j = 9 ∨ j = 10 ∨ j = 12 ∨ j = 13) : xtY 0 j := Or.inl ⟨rfl, h⟩
theorem xt_88 {j : Int} (h : j = 1 ∨ j = 26 ∨ j = 27 ∨ j = 41 ∨ j = 78) : xtY 88 j := Or.inr (Or.inl ⟨rfl, h⟩)
theorem xt_l {l j : Int} (h0 : 0 ≤ l) (h1 : l < 6) (h : j = 0 ∨ (8 ≤ j ∧ j ≤ 13)) : xtY (29 + 6 * l) j := Or.inr (Or.inr (Or.inr (Or.inr (Or.inr (Or.inr (Or.inr (Or.inl ⟨by omega, by omega, by omega, h⟩)))))))
theorem xt_h {k j : Int} (h0 : 0 ≤ k) (h1 : k < 12) : xtY (3 + 2 * k + 1) j := Or.inr (Or.inr (Or.inr (Or.inr (Or.inr (Or.inr (Or.inr (Or.inr (Or.inr (Or.inl ⟨by omega, by omega, by omega⟩)))))))))
theorem xt_7 {k : Int} (h0 : 0 ≤ k) (h1 : k < 12) : xtY (3 + 2 * k) 7 := Or.inr (Or.inr (Or.inr (Or.inr (Or.inr (Or.inr (Or.inr (Or.inr (Or.inr (Or.inr (Or.inr (Or.inl ⟨by omega, by omega, by omega, rfl⟩)))))))))))
theorem XT_f {S : Int → Int} {m m' : zM} (h9 : 0 ≤ m 0 9) (h12 : m 1 1 ≤ 12) (h : XT S m) (e : ∀ x j, xtY x j → m' x j = m x j) : XT S m' := by
  have e0 : ∀ j, (j = 7 ∨ j = 8 ∨ j = 9 ∨ j = 10 ∨ j = 12 ∨ j = 13) → m' 0 j = m 0 j := fun j hj => e _ _ (xt_0 hj)
  have e88 : ∀ j, (j = 1 ∨ j = 26 ∨ j = 27 ∨ j = 41 ∨ j = 78) → m' 88 j = m 88 j := fun j hj => e _ _ (xt_88 hj)
  have e89 : ∀ j, m' 89 j = m 89 j := fun j => e _ _ (by simp [xtY])
  have e71 : ∀ j, m' 71 j = m 71 j := fun j => e _ _ (by simp [xtY])
  have e108 : ∀ j, m' 108 j = m 108 j := fun j => e _ _ (by simp [xtY])
  have e96 : ∀ j, m' 96 j = m 96 j := fun j => e _ _ (by simp [xtY])
  have e2 : ∀ j, m' (-2) j = m (-2) j := fun j => e _ _ (by simp [xtY])
  have e90 : m' 90 = m 90 := funext fun j => e _ _ (by simp [xtY])
  have e91 : m' 91 = m 91 := funext fun j => e _ _ (by simp [xtY])
  have e67 : m' 67 11 = m 67 11 := e _ _ (by simp [xtY])
  have e11 : m' 1 1 = m 1 1 := e _ _ (by simp [xtY])
  have el : ∀ l j, 0 ≤ l → l < 6 → (j = 0 ∨ (8 ≤ j ∧ j ≤ 13)) → m' (29 + 6 * l) j = m (29 + 6 * l) j := fun l j a b c => e _ _ (xt_l a b c)
  obtain ⟨h1, h2, h3, h4, h5, h6, h7, h8, h10, h11, h13⟩ := h
  unfold XT
  rw [e0 12 (by omega), e0 13 (by omega), e0 10 (by omega), e0 7 (by omega), e0 8 (by omega), e0 9 (by omega), e88 26 (by omega), e88 27 (by omega), e88 1 (by omega), e88 41 (by omega), e88 78 (by omega), e67, e11, e90, e91]
  simp only [e89, e71, e108, e96, e2]
  refine ⟨h1, h2, h3, ?_, encA_f (fun j => e _ _ (by simp [xtY])) _ _ h5, h6, fun l l0 l1 => ?_, fun l l0 l1 => ?_, fun k k0 k1 d d0 d1 => ?_, fun k k0 k1 => ?_, h13⟩
  · rw [← h4]
    rcases h6 with z | z <;> rw [z.1]
    · exact e _ _ (by simp [xtY])
    · exact e _ _ (by simp [xtY])
  · rw [el l 8 (by omega) l1 (by omega), el l 9 (by omega) l1 (by omega), el l 10 (by omega) l1 (by omega), el l 11 (by omega) l1 (by omega), el l 12 (by omega) l1 (by omega), el l 13 (by omega) l1 (by omega)]
    exact h7 l l0 l1
  · rw [el l 0 l0 l1 (by omega)]; exact h8 l l0 l1
  · rw [e _ _ (xt_h k0 k1)]; exact h10 k k0 k1 d d0 d1
  · rw [e _ _ (xt_7 k0 (by omega))]; exact h11 k k0 k1
def VI (S : Int → Int) (m : zM) : Prop := ∃ g, PG g m ∧ LG g ∧ RGd g ∧ WG g ∧ EW g ∧ CR g m ∧ XT S m
/-- nothing that is given has changed -/
theorem rn_xt {x j : Int} (c : xtY x j) : ¬ rnY x j := by
  intro s
  rcases c with c | c | c | c | c | c | c | c | c | c | c | c | c | c | c | c <;> rcases s with s | s | s | s | s | s | s | s <;> omega
theorem XT_y {S : Int → Int} {m m' : zM} (h9 : 0 ≤ m 0 9) (h12 : m 1 1 ≤ 12) (h : XT S m) (f : FY m m') : XT S m' := XT_f h9 h12 h fun x j c => f x j (rn_xt c)
theorem XT_q {S : Int → Int} {m m' : zM} (h9 : 0 ≤ m 0 9) (h12 : m 1 1 ≤ 12) (h : XT S m) (f : FQ m m') : XT S m' := XT_f h9 h12 h fun x j c => f x j (by
  rcases c with c | c | c | c | c | c | c | c | c | c | c | c | c | c | c | c <;> omega)
theorem PG_y {g m m' : zM} (h : PG g m) (a : FY m m') : PG g m' := fun x j p => (a x j (by
  intro s
  rcases p with p | p | p | p | p | p <;> rcases s with s | s | s | s | s | s | s | s <;> omega)).trans (h x j p)
theorem CS_q {g m m' : zM} (hg : LG g) (h : CS g m) (a : FQ m m') : CS g m' := CS_f hg h fun x j c => a x j (by
  rcases c with c | c | c | c | c | c | c <;> omega)
