/-! bind and writeWaiting go together -/
/-- the reference's number of a sign that waits -/
def wmp (s : Int) : Int := if s = 36 then 100 else if s = 35 then 12 else if s = 23 then 13 else if s = 22 then 14 else if s = 21 then 15 else s - 23
abbrev okW (s : Int) : Prop := s = 36 ∨ s = 35 ∨ (21 ≤ s ∧ s ≤ 34)
theorem wmp_w {s : Int} (h : okW s) : wtM (wmp s) = bdW s := by
  have : s = 36 ∨ s = 35 ∨ s = 21 ∨ s = 22 ∨ s = 23 ∨ s = 24 ∨ s = 25 ∨ s = 26 ∨ s = 27 ∨ s = 28 ∨ s = 29 ∨ s = 30 ∨ s = 31 ∨ s = 32 ∨ s = 33 ∨ s = 34 := by unfold okW at h; omega
  rcases this with z | z | z | z | z | z | z | z | z | z | z | z | z | z | z | z <;> subst z <;> decide
theorem wmp_s {s : Int} (h : okW s) (h36 : ¬ s = 36) : sgK (wmp s) 0 = s := by
  have : s = 35 ∨ s = 21 ∨ s = 22 ∨ s = 23 ∨ s = 24 ∨ s = 25 ∨ s = 26 ∨ s = 27 ∨ s = 28 ∨ s = 29 ∨ s = 30 ∨ s = 31 ∨ s = 32 ∨ s = 33 ∨ s = 34 := by unfold okW at h; omega
  rcases this with z | z | z | z | z | z | z | z | z | z | z | z | z | z | z <;> subst z <;> decide
theorem wmp_un {s : Int} (h : okW s) (h36 : ¬ s = 36) : (wmp s = 12 ∨ wmp s = 13) ↔ (s = 35 ∨ s = 23) := by
  have : s = 35 ∨ s = 21 ∨ s = 22 ∨ s = 23 ∨ s = 24 ∨ s = 25 ∨ s = 26 ∨ s = 27 ∨ s = 28 ∨ s = 29 ∨ s = 30 ∨ s = 31 ∨ s = 32 ∨ s = 33 ∨ s = 34 := by unfold okW at h; omega
  rcases this with z | z | z | z | z | z | z | z | z | z | z | z | z | z | z <;> subst z <;> decide
/-- the reference's stack of signs that wait, and their knots -/
def rW (u : zM) : List Int → List Int → Prop
  | [], [] => True
  | s :: W, x :: N => u 118 W.length = wmp s ∧ u 119 W.length = x ∧ rW u W N
  | _, _ => False
theorem rW_f {u u' : zM} (e : ∀ x j, 118 ≤ x → x ≤ 119 → u' x j = u x j) : ∀ (W N : List Int), rW u W N → rW u' W N := by
  intro W
  induction W with
  | nil => intro N h; cases N with
    | nil => trivial
    | cons x N => exact h
  | cons s W ih =>
    intro N h
    cases N with
    | nil => exact h
    | cons x N => exact ⟨(e 118 _ (by decide) (by decide)).trans h.1, (e 119 _ (by decide) (by decide)).trans h.2.1, ih N h.2.2⟩
/-- how many of them want two sides -/
def nbW : List Int → Nat
  | [] => 0
  | s :: W => if s = 36 ∨ s = 35 ∨ s = 23 then nbW W else nbW W + 1
/-- knots that wait: made, not done, not held, of their sign's kind -/
def ndW (u : zM) (K O : Int) (H : List Int) : List Int → List Int → Prop
  | [], [] => True
  | s :: W, x :: N => (okW s ∧ x < 96 + K) ∧ (¬ s = 36 → (96 ≤ x ∧ x < 96 + K) ∧ u 111 x = wmp s ∧ u 114 x = 0 ∧ ¬ x ∈ H ∧ ¬ x ∈ N ∧ ∀ i, 96 ≤ i → i < 96 + O → ¬ u 115 i = x) ∧ ndW u K O H W N
  | _, _ => False
/-- both have written the same code -/
def cdR (a : zM) (E : Int) (u : zM) (K O : Int) : Prop := ∀ i, 0 ≤ i → i < O → (96 ≤ u 115 (96 + i) ∧ u 115 (96 + i) < 96 + K) ∧ a (E + 1) (7 + i) = sgK (u 111 (u 115 (96 + i))) (u 114 (u 115 (96 + i))) ∧ (a (E + 1) (7 + i) = 2 → a (E + 2) (7 + i) = u 114 (u 115 (96 + i)))
