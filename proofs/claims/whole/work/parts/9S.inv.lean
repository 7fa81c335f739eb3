/-! the class's reader: its invariant at a token's border -/
def CW (a : zM) (W : List Int) : Prop := stk a 73 W ∧ a 72 7 = W.length ∧ (∀ s, s ∈ W → okW s) ∧ (opW W : Int) = a 72 8
def BI (a : zM) (E k : Int) : Prop := a 72 3 = E ∧ (0 ≤ a E 4 ∧ a E 4 ≤ k) ∧ (0 ≤ a E 5 ∧ a E 5 ≤ 96) ∧ 7 ≤ a E 11 ∧ (((a 72 4 = 1 ∨ (a 72 4 = 2 ∧ 3 ≤ a 72 6 ∧ a 72 6 ≤ 6) ∨ a 72 4 = 3) ∧ a E 11 = 7 + a E 5) ∨ (((a 72 4 = 4 ∧ 7 ≤ a 72 6 ∧ a 72 6 ≤ 14) ∨ (a 72 4 = 5 ∧ 7 ≤ a 72 6 ∧ a 72 6 ≤ 13)) ∧ a E 11 + a 72 7 = 7 + a E 5 + a 72 8 ∧ (0 ≤ a 72 8 ∧ a 72 8 ≤ 8) ∧ ∃ W, CW a W))
/-- what a token taken may touch -/
abbrev tkY (E x : Int) : Prop := (72 ≤ x ∧ x ≤ 74) ∨ (E ≤ x ∧ x ≤ E + 4)
def FTk (E : Int) (m m' : zM) : Prop := ∀ x j, ¬ tkY E x → m' x j = m x j
theorem FT_r {E : Int} {m : zM} : FTk E m m := fun _ _ _ => rfl
theorem FT_u {E : Int} {m m' : zM} {x j v : Int} (a : FTk E m m') (hx : tkY E x) : FTk E m (zup m' x j v) := fun x' j' h => by
  unfold zup
  rw [if_neg (by rintro ⟨rfl, rfl⟩; exact h hx)]
  exact a x' j' h
theorem FT_add {E : Int} {m m' : zM} {s v : Int} (a : FTk E m m') : FTk E m (addF m' E s v) := FT_u (FT_u (FT_u a (by unfold tkY; omega)) (by unfold tkY; omega)) (by unfold tkY; omega)
theorem FT_off {E : Int} {m m' : zM} {s : Int} (a : FTk E m m') : FTk E m (offF m' s) := FT_u (FT_u a (by unfold tkY; omega)) (by unfold tkY; omega)
theorem FT_fail {E : Int} {m m' : zM} {s : Int} (a : FTk E m m') : FTk E m (failF m' s) := FT_u (FT_u a (by unfold tkY; omega)) (by unfold tkY; omega)
theorem FT_ku {E : Int} {m m' : zM} (a : FTk E m m') : FTk E m (kuF m' E) := FT_u a (by unfold tkY; omega)
theorem FT_bg {E : Int} {m m' : zM} {w : Int} (a : FTk E m m') : FTk E m (bgF m' E w) := by
  unfold bgF
  split
  · split
    · exact FT_u (FT_u a (by unfold tkY; omega)) (by unfold tkY; omega)
    · exact FT_u (FT_u (FT_u a (by unfold tkY; omega)) (by unfold tkY; omega)) (by unfold tkY; omega)
  · exact FT_u a (by unfold tkY; omega)
theorem FT_fn {E : Int} {m m' : zM} {w : Int} (a : FTk E m m') : FTk E m (fnF m' E w) := by
  unfold fnF
  split
  · exact FT_u a (by unfold tkY; omega)
  · exact a
theorem FT_be {E : Int} {m m' : zM} (a : FTk E m m') : FTk E m (beF m' E) := FT_u (FT_u (FT_u (FT_u (FT_u (FT_bg a) (by unfold tkY; omega)) (by unfold tkY; omega)) (by unfold tkY; omega)) (by unfold tkY; omega)) (by unfold tkY; omega)
theorem FT_wr {E b : Int} {m : zM} : ∀ (k : Nat) (m' : zM), FTk E m m' → FTk E m (wrF E b k m') := by
  intro k
  induction k with
  | zero => intro m' a; exact a
  | succ k ih =>
    intro m' a
    unfold wrF
    split
    · exact a
    · exact ih _ (FT_u (FT_add a) (by unfold tkY; omega))
theorem FT_se {E : Int} {m m' : zM} {w v : Int} (a : FTk E m m') : FTk E m (seF m' E w v) := by
  unfold seF
  repeat' split
  all_goals exact FT_u a (by unfold tkY; omega)
theorem FT_tk {E k : Int} {m : zM} : FTk E m (tkF m E k) := by
  have y72 : tkY E 72 := Or.inl (by omega)
  have y74 : tkY E 74 := Or.inl (by omega)
  have yE : tkY E E := Or.inr (by omega)
  have r : FTk E m m := FT_r
  unfold tkF
  split
  · unfold twF
    repeat' split
    · exact FT_fail r
    · exact FT_fail r
    · exact FT_u (FT_u (FT_u (FT_u r y72) yE) y72) y72
    · exact FT_be (FT_u (FT_u (FT_u r y72) yE) y72)
  split
  · unfold tnF
    repeat' split
    · exact FT_fail r
    · exact FT_fail r
    · exact FT_u (FT_se r) y72
  split
  · unfold tdF
    repeat' split
    · exact FT_fail r
    · exact FT_fail r
    · exact FT_fail r
    · exact FT_u (FT_u (FT_u (FT_off r) y72) y74) y72
    · exact FT_u (FT_off (FT_ku r)) y72
    · exact FT_u (FT_off (FT_ku r)) y72
    · exact FT_u (FT_add (FT_ku r)) y72
    · exact FT_u (FT_add (FT_ku r)) y72
  split
  · unfold tgF
    split
    · unfold teF
      split
      · exact FT_u (FT_u (FT_wr _ _ r) y72) y72
      split
      · exact FT_fail r
      split
      · exact FT_be (FT_u (FT_u (FT_fn (FT_wr _ _ r)) y72) y72)
      · exact FT_u (FT_fn (FT_wr _ _ r)) y72
    split
    · exact FT_fail r
    split
    · exact FT_fail r
    · refine FT_u (FT_u ?_ y72) y72
      unfold sg2F sg1F
      split
      · exact FT_u (FT_off (FT_wr _ _ (FT_ku r))) y74
      · exact FT_off (FT_wr _ _ (FT_ku r))
  · unfold tsF
    split
    · exact FT_u r y72
    · exact FT_fail r
/-- the start of an expression, as cells -/
theorem be_c {m : zM} {E w : Int} (hE : E = 76 ∨ E = 82) (h6 : m 72 6 = w) : beF m E 72 4 = 4 ∧ beF m E 72 7 = 0 ∧ beF m E 72 8 = 0 ∧ beF m E 72 9 = 1 ∧ beF m E 74 0 = 0 ∧ (∀ j, ¬ j = 4 → ¬ j = 7 → ¬ j = 8 → ¬ j = 9 → beF m E 72 j = m 72 j) ∧ (∀ j, ¬ j = 12 → beF m E E j = m E j) ∧ (beF m E E 12 = if w < 11 then m E 12 else ycF w) ∧ (∀ j, beF m E (E + 1) j = m (E + 1) j ∧ beF m E (E + 2) j = m (E + 2) j) ∧ (∀ j, beF m E (E + 3) j = (if w ≤ 13 ∧ j = w - 7 then m E 11 else m (E + 3) j) ∧ beF m E (E + 4) j = (if w ≤ 13 ∧ j = w - 7 then m E 11 else m (E + 4) j)) := by
  unfold beF
  rw [h6]
  unfold bgF
  by_cases c1 : w ≤ 13
  · rw [if_pos c1]
    by_cases c2 : w < 11
    · rw [if_pos c2]
      rcases hE with z | z <;> subst z <;> simp +contextual [zup, c1, c2]
    · rw [if_neg c2]
      rcases hE with z | z <;> subst z <;> simp +contextual [zup, c1, c2]
  · rw [if_neg c1]
    have c2 : ¬ w < 11 := by omega
    rcases hE with z | z <;> subst z <;> simp +contextual [zup, c1, c2]
