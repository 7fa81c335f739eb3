/-! tokens are one, and there are some -/
theorem fdWd_uniq {tx : Int → Int} {a b k k' : Int} : ∀ (ws : List (List Int)) (i : Int), fdWd tx a b ws i k → fdWd tx a b ws i k' → k = k' := by
  intro ws
  induction ws with
  | nil => intro i h h'; exact h.trans h'.symm
  | cons w ws ih =>
    intro i h h'
    rcases h with h | h
    · rcases h' with h' | h'
      · rw [h.2, h'.2]
      · exact absurd h.1 h'.1
    · rcases h' with h' | h'
      · exact absurd h'.1 h.1
      · exact ih (i + 1) h.2 h'.2
theorem fdWd_ex {tx : Int → Int} {a b : Int} : ∀ (ws : List (List Int)) (i : Int), ∃ k, fdWd tx a b ws i k := by
  intro ws
  induction ws with
  | nil => intro i; exact ⟨1, rfl⟩
  | cons w ws ih =>
    intro i
    by_cases h : isWd tx a b w
    · exact ⟨i, Or.inl ⟨h, rfl⟩⟩
    · obtain ⟨k, hk⟩ := ih (i + 1)
      exact ⟨k, Or.inr ⟨h, hk⟩⟩
theorem tkA_uniq {tx : Int → Int} {n p k v e k' v' e' : Int} (h : tkA tx n p k v e) (h' : tkA tx n p k' v' e') : k = k' ∧ e = e' ∧ (k = 2 → v = v') := by
  unfold tkA at h h'
  by_cases c1 : ¬ tkP tx n p < n
  · rw [if_pos c1] at h h'
    refine ⟨h.1.trans h'.1.symm, h.2.trans h'.2.symm, fun q => ?_⟩
    have := h.1
    omega
  rw [if_neg c1] at h h'
  by_cases c2 : ltA (tx (tkP tx n p))
  · rw [if_pos c2] at h h'
    refine ⟨fdWd_uniq _ _ h.1 h'.1, h.2.trans h'.2.symm, fun q => ?_⟩
    have := wkA_b h.1
    omega
  rw [if_neg c2] at h h'
  by_cases c3 : dgA (tx (tkP tx n p))
  · rw [if_pos c3] at h h'
    exact ⟨h.1.trans h'.1.symm, h.2.2.trans h'.2.2.symm, fun _ => h.2.1.trans h'.2.1.symm⟩
  rw [if_neg c3] at h h'
  refine ⟨h.1.trans h'.1.symm, h.2.trans h'.2.symm, fun q => ?_⟩
  have := siA_b (tx := tx) (n := n) (q := tkP tx n p)
  have := h.1
  omega
theorem tkA_ex (tx : Int → Int) (n p : Int) : ∃ t : Int × Int × Int, tkA tx n p t.1 t.2.1 t.2.2 := by
  by_cases c1 : ¬ tkP tx n p < n
  · exact ⟨(0, 0, tkP tx n p), by unfold tkA; rw [if_pos c1]; exact ⟨rfl, rfl⟩⟩
  by_cases c2 : ltA (tx (tkP tx n p))
  · obtain ⟨k, hk⟩ := fdWd_ex (tx := tx) (a := tkP tx n p) (b := leA tx n 600 (tkP tx n p)) wdsA 3
    exact ⟨(k, 0, leA tx n 600 (tkP tx n p)), by unfold tkA; rw [if_neg c1, if_pos c2]; exact ⟨hk, rfl⟩⟩
  by_cases c3 : dgA (tx (tkP tx n p))
  · exact ⟨(2, (nuA tx n 600 (tkP tx n p) 0).2, (nuA tx n 600 (tkP tx n p) 0).1), by unfold tkA; rw [if_neg c1, if_neg c2, if_pos c3]; exact ⟨rfl, rfl, rfl⟩⟩
  · exact ⟨(siA tx n (tkP tx n p), 0, tkP tx n p + 1 + (if siA tx n (tkP tx n p) = 25 ∨ siA tx n (tkP tx n p) = 27 ∨ siA tx n (tkP tx n p) = 28 then 1 else 0)), by unfold tkA; rw [if_neg c1, if_neg c2, if_neg c3]; exact ⟨rfl, rfl⟩⟩
/-- the token from p on: its kind, its number, where it ends -/
noncomputable def tk (tx : Int → Int) (n p : Int) : Int × Int × Int := Classical.choose (tkA_ex tx n p)
theorem tk_ok (tx : Int → Int) (n p : Int) : tkA tx n p (tk tx n p).1 (tk tx n p).2.1 (tk tx n p).2.2 := Classical.choose_spec (tkA_ex tx n p)
/-- a token that isn't the end takes a place at least, and stays in the text -/
theorem nuA_b {tx : Int → Int} {n : Int} : ∀ (f : Nat) (p v : Int), p ≤ n → 0 ≤ v → v ≤ 100000 → (p ≤ (nuA tx n f p v).1 ∧ (nuA tx n f p v).1 ≤ n) ∧ (0 ≤ (nuA tx n f p v).2 ∧ (nuA tx n f p v).2 ≤ 100000) := by
  intro f
  induction f with
  | zero => intro p v h h0 h1; unfold nuA; dsimp only; omega
  | succ f ih =>
    intro p v h h0 h1
    unfold nuA
    by_cases c : p < n ∧ dgA (tx p)
    · rw [if_pos c]
      have := ih (p + 1) (if v * 10 + (tx p - 48) < 100000 then v * 10 + (tx p - 48) else 100000) (by omega) (by split <;> omega) (by split <;> omega)
      omega
    · rw [if_neg c]; dsimp only; omega
theorem tk_b {tx : Int → Int} {n p : Int} (hp : 0 ≤ p ∧ p ≤ n) : p ≤ tkP tx n p ∧ tkP tx n p ≤ n ∧ (0 ≤ (tk tx n p).1 ∧ (tk tx n p).1 ≤ 39 ∧ ¬ (tk tx n p).1 = 35) ∧ tkP tx n p ≤ (tk tx n p).2.2 ∧ (tk tx n p).2.2 ≤ n ∧ (¬ (tk tx n p).1 = 0 → p < (tk tx n p).2.2) ∧ ((tk tx n p).1 = 2 → 0 ≤ (tk tx n p).2.1 ∧ (tk tx n p).2.1 ≤ 100000) := by
  have sb := skA_b (tx := tx) (n := n) 600 p hp.2
  have h := tk_ok tx n p
  generalize tk tx n p = t at h
  have sb : p ≤ tkP tx n p ∧ tkP tx n p ≤ n := sb
  unfold tkA at h
  generalize tkP tx n p = q at *
  by_cases c1 : ¬ q < n
  · rw [if_pos c1] at h
    refine ⟨sb.1, sb.2, by omega, by omega, by omega, by omega, by omega⟩
  rw [if_neg c1] at h
  by_cases c2 : ltA (tx q)
  · rw [if_pos c2] at h
    have wb := wkA_b h.1
    have lb : q + 1 ≤ leA tx n 600 q ∧ leA tx n 600 q ≤ n := by
      have e : leA tx n 600 q = if q < n ∧ ltA (tx q) then leA tx n 599 (q + 1) else q := rfl
      rw [e, if_pos ⟨by omega, c2⟩]
      exact leA_b 599 (q + 1) (by omega)
    refine ⟨sb.1, sb.2, by omega, by omega, by omega, by omega, by omega⟩
  rw [if_neg c2] at h
  by_cases c3 : dgA (tx q)
  · rw [if_pos c3] at h
    have e : nuA tx n 600 q 0 = if q < n ∧ dgA (tx q) then nuA tx n 599 (q + 1) (if 0 * 10 + (tx q - 48) < 100000 then 0 * 10 + (tx q - 48) else 100000) else (q, 0) := rfl
    rw [if_pos ⟨by omega, c3⟩] at e
    have nb := nuA_b (tx := tx) (n := n) 599 (q + 1) (if 0 * 10 + (tx q - 48) < 100000 then 0 * 10 + (tx q - 48) else 100000) (by omega) (by split <;> omega) (by split <;> omega)
    rw [← e] at nb
    refine ⟨sb.1, sb.2, by omega, by omega, by omega, by omega, by omega⟩
  rw [if_neg c3] at h
  have s1 := siA_b (tx := tx) (n := n) (q := q)
  have s35 : ¬ siA tx n q = 35 := by
    unfold siA
    repeat' split
    all_goals decide
  have s2 : siA tx n q = 25 ∨ siA tx n q = 27 ∨ siA tx n q = 28 → q + 1 < n := by
    unfold siA
    by_cases a1 : tx q = 60
    · rw [if_pos a1]
      by_cases a2 : q + 1 < n ∧ tx (q + 1) = 61
      · exact fun _ => a2.1
      · rw [if_neg a2]
        by_cases a3 : q + 1 < n ∧ tx (q + 1) = 62
        · exact fun _ => a3.1
        · rw [if_neg a3]; omega
    · rw [if_neg a1]
      by_cases a2 : tx q = 62
      · rw [if_pos a2]
        by_cases a3 : q + 1 < n ∧ tx (q + 1) = 61
        · exact fun _ => a3.1
        · rw [if_neg a3]; omega
      · rw [if_neg a2]
        intro h
        exfalso
        revert h
        repeat' split
        all_goals decide
  by_cases a : siA tx n q = 25 ∨ siA tx n q = 27 ∨ siA tx n q = 28
  · rw [if_pos a] at h
    have := s2 a
    refine ⟨sb.1, sb.2, by omega, by omega, by omega, by omega, by omega⟩
  · rw [if_neg a] at h
    refine ⟨sb.1, sb.2, by omega, by omega, by omega, by omega, by omega⟩
section L2
variable {Ω : zΩ} {Q : List zV → zM → Prop} {tx : Int → Int} {n : Int}
/-- the next token, of both -/
theorem t_tokC (HW : WBs Ω) {m : zM} {p : Int} (h : TC tx n m) (hp : m 75 2 = p) (b : 0 ≤ p ∧ p ≤ n) (K : ∀ m', FG m m' → m' 75 3 = (tk tx n p).1 → m' 75 4 = tkP tx n p → ((tk tx n p).1 = 2 → m' 75 5 = (tk tx n p).2.1) → m' 75 2 = (tk tx n p).2.2 → Q [] m') : zG Ω 85 0 [zR 8 75, zU] [] m Q :=
  s_tokC HW h hp b fun k v e m' hk f a3 a4 a5 a2 => by
    obtain ⟨u1, u2, u3⟩ := tkA_uniq hk (tk_ok tx n p)
    exact K m' f (a3.trans u1) a4 (fun q => (a5 (u1.trans q)).trans (u3 (u1.trans q))) (a2.trans u2)
theorem t_takeM {m : zM} {p : Int} (h : TM tx n m) (hp : m 88 29 = p) (b : 0 ≤ p ∧ p ≤ n) (K : ∀ m', FU m m' → RK (tk tx n p).1 (tk tx n p).2.1 m' → m' 88 32 = tkP tx n p → m' 88 29 = (tk tx n p).2.2 → Q [] m') : zG Ω 143 0 [zR 10 88, zU] [] m Q :=
  s_takeM h hp b fun k v e m' hk f rk a32 a29 => by
    obtain ⟨u1, u2, u3⟩ := tkA_uniq hk (tk_ok tx n p)
    refine K m' f ?_ a32 (a29.trans u2)
    rw [← u1]
    refine ⟨rk.1, rk.2.1, fun q => ?_, rk.2.2.2⟩
    have := rk.2.2.1 q
    rwa [u3 q] at this
end L2
