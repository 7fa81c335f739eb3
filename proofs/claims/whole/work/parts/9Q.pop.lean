/-! what bind 1 leaves: a bracket on top, or nothing -/
def opW : List Int → Nat
  | [] => 0
  | s :: W => if s = 36 then opW W + 1 else opW W
theorem bdW_1 {s : Int} (h : okW s) (h36 : ¬ s = 36) : ¬ bdW s < 1 := by
  have : s = 35 ∨ s = 21 ∨ s = 22 ∨ s = 23 ∨ s = 24 ∨ s = 25 ∨ s = 26 ∨ s = 27 ∨ s = 28 ∨ s = 29 ∨ s = 30 ∨ s = 31 ∨ s = 32 ∨ s = 33 ∨ s = 34 := by unfold okW at h; omega
  rcases this with z | z | z | z | z | z | z | z | z | z | z | z | z | z | z <;> subst z <;> decide
theorem popW_1 : ∀ W : List Int, (∀ s, s ∈ W → okW s) → (popW 1 W = [] ∧ opW W = 0) ∨ ∃ W', popW 1 W = 36 :: W' ∧ opW W = opW W' + 1 := by
  intro W
  induction W with
  | nil => intro _; exact Or.inl ⟨rfl, rfl⟩
  | cons s W ih =>
    intro h
    have ep : popW 1 (s :: W) = if bdW s < 1 then s :: W else popW 1 W := rfl
    have eo : opW (s :: W) = if s = 36 then opW W + 1 else opW W := rfl
    by_cases z : s = 36
    · subst z
      rw [if_pos (by decide)] at ep
      rw [if_pos rfl] at eo
      exact Or.inr ⟨W, ep, eo⟩
    · rw [if_neg (bdW_1 (h s (List.mem_cons_self ..)) z)] at ep
      rw [if_neg z] at eo
      rw [ep, eo]
      exact ih (fun y hy => h y (List.mem_cons_of_mem _ hy))
theorem ndW_ok {u : zM} {K O : Int} {H : List Int} : ∀ (W N : List Int), ndW u K O H W N → ∀ s, s ∈ W → okW s := by
  intro W
  induction W with
  | nil => intro N _ s hs; exact absurd hs (List.not_mem_nil)
  | cons x W ih =>
    intro N h s hs
    cases N with
    | nil => exact absurd h (fun y => y)
    | cons y N =>
      rcases List.mem_cons.1 hs with q | q
      · rw [q]; exact h.1.1
      · exact ih N h.2.2 s q
