/-! signs that wait: what writing leaves of them -/
theorem popW_op {b : Int} (hb : 1 ≤ b) : ∀ W : List Int, opW (popW b W) = opW W := by
  intro W
  induction W with
  | nil => rfl
  | cons s W ih =>
    unfold popW
    by_cases z : bdW s < b
    · rw [if_pos z]
    · rw [if_neg z, ih]
      have h36 : ¬ s = 36 := fun y => z (by rw [y]; exact Int.lt_of_lt_of_le (by decide : bdW 36 < 1) hb)
      show opW W = if s = 36 then opW W + 1 else opW W
      rw [if_neg h36]
theorem popW_mem {b : Int} : ∀ (W : List Int) (s : Int), s ∈ popW b W → s ∈ W := by
  intro W
  induction W with
  | nil => intro s h; exact h
  | cons x W ih =>
    intro s h
    unfold popW at h
    split at h
    · exact h
    · exact List.mem_cons_of_mem _ (ih s h)
theorem opW_le : ∀ W : List Int, opW W ≤ W.length := by
  intro W
  induction W with
  | nil => exact Nat.le_refl _
  | cons s W ih => unfold opW; rw [List.length_cons]; split <;> omega
theorem bdS_ok {k : Int} (h : ¬ bdS k = 0) : okW k ∧ ¬ k = 36 ∧ ¬ k = 35 ∧ ¬ k = 23 ∧ ¬ k = 2 ∧ bdW k = bdS k ∧ (bdS k = 1 ∨ bdS k = 2 ∨ bdS k = 4 ∨ bdS k = 5 ∨ bdS k = 6) := by
  have : k = 21 ∨ k = 22 ∨ k = 24 ∨ k = 25 ∨ k = 26 ∨ k = 27 ∨ k = 28 ∨ k = 29 ∨ k = 30 ∨ k = 31 ∨ k = 32 ∨ k = 33 ∨ k = 34 := by
    unfold bdS at h
    by_cases c1 : k = 21
    · omega
    by_cases c2 : k = 22
    · omega
    by_cases c3 : 24 ≤ k ∧ k ≤ 29
    · omega
    by_cases c4 : k = 30 ∨ k = 31
    · omega
    by_cases c5 : 32 ≤ k ∧ k ≤ 34
    · omega
    · rw [if_neg c1, if_neg c2, if_neg c3, if_neg c4, if_neg c5] at h
      exact absurd rfl h
  rcases this with z | z | z | z | z | z | z | z | z | z | z | z | z <;> subst z <;> decide
/-! tokens taken, as cells -/
/-- a word -/
theorem tw_c {m : zM} {E k v : Int} (hE : E = 76 ∨ E = 82) : ∀ m1, m1 = zup (zup (zup m 72 5 v) E 4 (m E 4 + 1)) 72 6 k → m1 72 5 = v ∧ m1 72 6 = k ∧ (∀ j, ¬ j = 5 → ¬ j = 6 → m1 72 j = m 72 j) ∧ m1 E 4 = m E 4 + 1 ∧ (∀ j, ¬ j = 4 → m1 E j = m E j) ∧ (∀ x j, ¬ x = 72 → ¬ x = E → m1 x j = m x j) := by
  intro m1 h
  subst h
  rcases hE with z | z <;> subst z <;> simp +contextual [zup]
theorem op_c {m : zM} : ∀ m1, m1 = zup (zup (zup (offF m 36) 72 8 (m 72 8 + 1)) 74 (m 72 8 + 1) 0) 72 9 1 → m1 73 (m 72 7) = 36 ∧ (∀ j, ¬ j = m 72 7 → m1 73 j = m 73 j) ∧ m1 72 7 = m 72 7 + 1 ∧ m1 72 8 = m 72 8 + 1 ∧ m1 72 9 = 1 ∧ (∀ j, ¬ j = 7 → ¬ j = 8 → ¬ j = 9 → m1 72 j = m 72 j) ∧ m1 74 (m 72 8 + 1) = 0 ∧ (∀ j, ¬ j = m 72 8 + 1 → m1 74 j = m 74 j) ∧ (∀ x j, ¬ x = 72 → ¬ x = 73 → ¬ x = 74 → m1 x j = m x j) := by
  intro m1 h
  subst h
  simp +contextual [zup, offF]
theorem un_c {m : zM} {E s v : Int} (hE : E = 76 ∨ E = 82) : ∀ m1, m1 = zup (offF (kuF m E) s) 72 9 v → m1 73 (m 72 7) = s ∧ (∀ j, ¬ j = m 72 7 → m1 73 j = m 73 j) ∧ m1 72 7 = m 72 7 + 1 ∧ m1 72 9 = v ∧ (∀ j, ¬ j = 7 → ¬ j = 9 → m1 72 j = m 72 j) ∧ m1 E 5 = m E 5 + 1 ∧ (∀ j, ¬ j = 5 → m1 E j = m E j) ∧ (∀ x j, ¬ x = 72 → ¬ x = 73 → ¬ x = E → m1 x j = m x j) := by
  intro m1 h
  subst h
  rcases hE with z | z <;> subst z <;> simp +contextual [zup, offF, kuF]
theorem lf_c {m : zM} {E s v : Int} (hE : E = 76 ∨ E = 82) : ∀ m1, m1 = zup (addF (kuF m E) E s v) 72 4 5 → m1 72 4 = 5 ∧ (∀ j, ¬ j = 4 → m1 72 j = m 72 j) ∧ m1 E 5 = m E 5 + 1 ∧ m1 E 11 = m E 11 + 1 ∧ (∀ j, ¬ j = 5 → ¬ j = 11 → m1 E j = m E j) ∧ m1 (E + 1) (m E 11) = s ∧ m1 (E + 2) (m E 11) = v ∧ (∀ j, ¬ j = m E 11 → m1 (E + 1) j = m (E + 1) j ∧ m1 (E + 2) j = m (E + 2) j) ∧ (∀ x j, ¬ x = 72 → ¬ x = E → ¬ x = E + 1 → ¬ x = E + 2 → m1 x j = m x j) := by
  intro m1 h
  subst h
  rcases hE with z | z <;> subst z <;> simp +contextual [zup, addF, kuF]
theorem ku_c {m : zM} {E : Int} : kuF m E E 5 = m E 5 + 1 ∧ (∀ x j, ¬ (x = E ∧ j = 5) → kuF m E x j = m x j) := by
  unfold kuF
  exact ⟨zup_s _ _ _ _, fun x j h => by unfold zup; rw [if_neg h]⟩
/-- a sign, over what writing left (w) -/
theorem sg_c {m w : zM} {E k v : Int} (hw : wrF E (bdS k) (m 72 7).toNat (kuF m E) = w) : ∀ m1, m1 = zup (zup (sg2F m E k) 72 9 v) 72 4 4 → m1 73 (w 72 7) = k ∧ (∀ j, ¬ j = w 72 7 → m1 73 j = w 73 j) ∧ m1 72 7 = w 72 7 + 1 ∧ m1 72 4 = 4 ∧ m1 72 9 = v ∧ (∀ j, ¬ j = 7 → ¬ j = 4 → ¬ j = 9 → m1 72 j = w 72 j) ∧ (∀ j, m1 74 j = if bdS k ≤ 4 ∧ j = m 72 8 then (if bdS k = 4 then 1 else 0) else w 74 j) ∧ (∀ x j, ¬ x = 72 → ¬ x = 73 → ¬ x = 74 → m1 x j = w x j) := by
  intro m1 h
  subst h
  unfold sg2F sg1F
  rw [hw]
  by_cases c : bdS k ≤ 4
  · rw [if_pos c]
    simp +contextual [zup, offF, c]
  · rw [if_neg c]
    simp +contextual [zup, offF, c]
theorem cl_c {w : zM} {x y : Int} : ∀ m1, m1 = zup (zup w 72 7 x) 72 8 y → m1 72 7 = x ∧ m1 72 8 = y ∧ (∀ j, ¬ j = 7 → ¬ j = 8 → m1 72 j = w 72 j) ∧ (∀ x j, ¬ x = 72 → m1 x j = w x j) := by
  intro m1 h
  subst h
  simp +contextual [zup]
theorem fn_c {w : zM} {E k : Int} (hE : E = 76 ∨ E = 82) (hk : k ≤ 13) : (∀ j, fnF w E k (E + 4) j = if j = k - 7 then w E 11 else w (E + 4) j) ∧ (∀ x j, ¬ x = E + 4 → fnF w E k x j = w x j) := by
  unfold fnF
  rw [if_pos hk]
  rcases hE with z | z <;> subst z <;> simp +contextual [zup]
theorem se_c {m : zM} {E w v : Int} (hE : E = 76 ∨ E = 82) (hw : 3 ≤ w ∧ w ≤ 6) : ∀ m1, m1 = zup (seF m E w v) 72 4 3 → m1 72 4 = 3 ∧ (∀ j, ¬ j = 4 → m1 72 j = m 72 j) ∧ m1 E (w - 3) = v ∧ (∀ j, ¬ j = w - 3 → m1 E j = m E j) ∧ (∀ x j, ¬ x = 72 → ¬ x = E → m1 x j = m x j) := by
  intro m1 h
  subst h
  have : w = 3 ∨ w = 4 ∨ w = 5 ∨ w = 6 := by omega
  unfold seF
  rcases this with y | y | y | y <;> subst y <;> rcases hE with z | z <;> subst z <;> simp +contextual [zup]
theorem fl_c {m : zM} {k : Int} : failF m k 72 10 = k ∧ failF m k 72 11 = m 75 4 := by
  unfold failF
  exact ⟨by rw [zup_j (by decide)]; exact zup_s _ _ _ _, by rw [zup_s]⟩
