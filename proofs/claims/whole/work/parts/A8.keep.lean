/-! what is kept at the end -/
def KP (u m : zM) : Prop := (∀ j, 0 ≤ j → j < 4 → m 110 j = u 110 (4 + j)) ∧ (∀ j, 0 ≤ j → j < 9 → m 123 j = u 122 j) ∧ (∀ j, 0 ≤ j → j < 7 → m 116 j = u 116 (7 + j) ∧ m 117 j = u 117 (7 + j)) ∧ m 88 41 = u 88 42 ∧ (∀ j, 0 ≤ j → j < u 88 42 → m 111 j = u 111 (96 + j) ∧ m 112 j = zw (u 112 (96 + j) - 96) ∧ m 113 j = zw (u 113 (96 + j) - 96) ∧ m 114 j = u 114 (96 + j) ∧ m 115 j = zw (u 115 (96 + j) - 96)) ∧ (∀ x j, ¬ ((x = 110 ∧ 0 ≤ j ∧ j < 4) ∨ (x = 123 ∧ 0 ≤ j ∧ j < 9) ∨ (116 ≤ x ∧ x ≤ 117 ∧ 0 ≤ j ∧ j < 7) ∨ (x = 88 ∧ j = 41) ∨ (111 ≤ x ∧ x ≤ 115 ∧ 0 ≤ j ∧ j < 96)) → m x j = u x j)
section L3
variable {Ω : zΩ} {Q : List zV → zM → Prop}
theorem r_keep_107 {u : zM} (hK : 0 ≤ u 88 42 ∧ u 88 42 ≤ 96) : ∀ (f : Nat) (k : Int) (m : zM), 0 ≤ k → k + f = u 88 42 → m 88 41 = u 88 42 → (∀ x j, 111 ≤ x → x ≤ 115 → 96 ≤ j → m x j = u x j) → (∀ j, 0 ≤ j → j < k → m 111 j = u 111 (96 + j) ∧ m 112 j = zw (u 112 (96 + j) - 96) ∧ m 113 j = zw (u 113 (96 + j) - 96) ∧ m 114 j = u 114 (96 + j) ∧ m 115 j = zw (u 115 (96 + j) - 96)) → (∀ m', (∀ j, 0 ≤ j → j < u 88 42 → m' 111 j = u 111 (96 + j) ∧ m' 112 j = zw (u 112 (96 + j) - 96) ∧ m' 113 j = zw (u 113 (96 + j) - 96) ∧ m' 114 j = u 114 (96 + j) ∧ m' 115 j = zw (u 115 (96 + j) - 96)) → (∀ x j, ¬ (111 ≤ x ∧ x ≤ 115 ∧ 0 ≤ j ∧ j < 96) → m' x j = m x j) → Q [] m') → zG Ω 160 107 [zR 10 88, zI k] [] m Q := by
  intro f
  induction f with
  | zero =>
    intro k m k0 hk h41 h96 hd C
    exact w_X10_keep_107 (zif (fun z => absurd z (by omega)) fun _ => C m (fun j j0 j1 => hd j j0 (by omega)) fun _ _ _ => rfl)
  | succ f ih =>
    intro k m k0 hk h41 h96 hd C
    refine w_X10_keep_107 (zif (fun _ => ?_) fun z => absurd (show k < m 88 41 by omega) z)
    rw [zw_i (x := 96 + k) (by omega) (by omega), zw_i (x := k + 1) (by omega) (by omega), h96 111 _ (by decide) (by decide) (by omega), h96 112 _ (by decide) (by decide) (by omega), h96 113 _ (by decide) (by decide) (by omega), h96 114 _ (by decide) (by decide) (by omega), h96 115 _ (by decide) (by decide) (by omega)]
    refine zin_of (by omega) (by omega) (zin_of (by omega) (by omega) (zin_of (by omega) (by omega) (zin_of (by omega) (by omega) (zin_of (by omega) (by omega) (zin_of (by omega) (by omega) (zin_of (by omega) (by omega) (zin_of (by omega) (by omega) (zin_of (by omega) (by omega) (zin_of (by omega) (by omega) ?_)))))))))
    have e : ∀ x j, ¬ (111 ≤ x ∧ x ≤ 115 ∧ j = k) → zup (zup (zup (zup (zup m 111 k (u 111 (96 + k))) 112 k (zw (u 112 (96 + k) - 96))) 113 k (zw (u 113 (96 + k) - 96))) 114 k (u 114 (96 + k))) 115 k (zw (u 115 (96 + k) - 96)) x j = m x j := fun x j hx => by
      unfold zup
      rw [if_neg (by omega), if_neg (by omega), if_neg (by omega), if_neg (by omega), if_neg (by omega)]
    have es : ∀ n, n = zup (zup (zup (zup (zup m 111 k (u 111 (96 + k))) 112 k (zw (u 112 (96 + k) - 96))) 113 k (zw (u 113 (96 + k) - 96))) 114 k (u 114 (96 + k))) 115 k (zw (u 115 (96 + k) - 96)) → n 111 k = u 111 (96 + k) ∧ n 112 k = zw (u 112 (96 + k) - 96) ∧ n 113 k = zw (u 113 (96 + k) - 96) ∧ n 114 k = u 114 (96 + k) ∧ n 115 k = zw (u 115 (96 + k) - 96) := fun n hn => by
      subst hn
      simp [zup]
    have es := es _ rfl
    generalize zup (zup (zup (zup (zup m 111 k (u 111 (96 + k))) 112 k (zw (u 112 (96 + k) - 96))) 113 k (zw (u 113 (96 + k) - 96))) 114 k (u 114 (96 + k))) 115 k (zw (u 115 (96 + k) - 96)) = n at *
    refine ih (k + 1) n (by omega) (by omega) ((e _ _ (by omega)).trans h41) (fun x j h1 h2 h3 => (e x j (by omega)).trans (h96 x j h1 h2 h3)) (fun j j0 j1 => ?_) fun m' c1 c2 => C m' c1 fun x j hx => (c2 x j hx).trans (e x j (by omega))
    by_cases z : j = k
    · subst z; exact es
    · rw [e 111 j (by omega), e 112 j (by omega), e 113 j (by omega), e 114 j (by omega), e 115 j (by omega)]
      exact hd j j0 (by omega)
theorem r_keep {u : zM} (hK : 0 ≤ u 88 42 ∧ u 88 42 ≤ 96) (hT : ∀ j, 0 ≤ j → j < 9 → u 122 j = 0 ∨ u 122 j = 1) (C : ∀ m', KP u m' → Q [] m') : zG Ω 160 0 [zR 10 88, zU] [] u Q := by
  have s55 : ∀ (f : Nat) (k : Int) (m : zM), 0 ≤ k → k + f = 7 → (∀ x j, 116 ≤ x → x ≤ 117 → 7 ≤ j → m x j = u x j) → (∀ j, 0 ≤ j → j < k → m 116 j = u 116 (7 + j) ∧ m 117 j = u 117 (7 + j)) → (∀ x j, ¬ ((x = 110 ∧ 0 ≤ j ∧ j < 4) ∨ (x = 123 ∧ 0 ≤ j ∧ j < 9) ∨ (116 ≤ x ∧ x ≤ 117 ∧ 0 ≤ j ∧ j < 7)) → m x j = u x j) → (∀ j, 0 ≤ j → j < 4 → m 110 j = u 110 (4 + j)) → (∀ j, 0 ≤ j → j < 9 → m 123 j = u 122 j) → zG Ω 160 55 [zR 10 88, zI k] [] m Q := by
    intro f
    induction f with
    | zero =>
      intro k m k0 hk hs hd hf h1 h2
      refine w_X10_keep_55 (zif (fun z => absurd z (by omega)) fun _ => ?_)
      have e42 : m 88 42 = u 88 42 := hf _ _ (by omega)
      rw [e42]
      have e : ∀ x j, ¬ (x = 88 ∧ j = 41) → zup m 88 41 (u 88 42) x j = m x j := fun x j hx => by unfold zup; rw [if_neg hx]
      refine r_keep_107 (u := u) hK (u 88 42).toNat 0 _ (by decide) (by omega) (zup_s _ _ _ _) (fun x j a b c => (e x j (by omega)).trans (hf x j (by omega))) (fun j j0 j1 => absurd j1 (by omega)) fun m' c1 c2 => C m' ⟨fun j j0 j1 => ?_, fun j j0 j1 => ?_, fun j j0 j1 => ?_, ?_, c1, fun x j hx => ?_⟩
      · rw [c2 _ _ (by omega), e _ _ (by omega)]; exact h1 j j0 j1
      · rw [c2 _ _ (by omega), e _ _ (by omega)]; exact h2 j j0 j1
      · rw [c2 _ _ (by omega), e _ _ (by omega), c2 _ _ (by omega), e _ _ (by omega)]; exact hd j j0 (by omega)
      · rw [c2 _ _ (by omega)]; exact zup_s _ _ _ _
      · rw [c2 _ _ (by omega), e _ _ (by omega)]; exact hf x j (by omega)
    | succ f ih =>
      intro k m k0 hk hs hd hf h1 h2
      refine w_X10_keep_55 (zif (fun _ => ?_) fun z => absurd (show k < 7 by omega) z)
      rw [zw_i (x := 7 + k) (by omega) (by omega), zw_i (x := k + 1) (by omega) (by omega)]
      refine zin_of (by omega) (by omega) (zin_of (by omega) (by omega) (zin_of (by omega) (by omega) (zin_of (by omega) (by omega) ?_)))
      have e : ∀ x j, ¬ (116 ≤ x ∧ x ≤ 117 ∧ j = k) → zup (zup m 116 k (m 116 (7 + k))) 117 k (m 117 (7 + k)) x j = m x j := fun x j hx => by
        unfold zup; rw [if_neg (by omega), if_neg (by omega)]
      have e1 : zup (zup m 116 k (m 116 (7 + k))) 117 k (m 117 (7 + k)) 116 k = u 116 (7 + k) := by rw [zup_c (by decide), zup_s]; exact hs _ _ (by decide) (by decide) (by omega)
      have e2 : zup (zup m 116 k (m 116 (7 + k))) 117 k (m 117 (7 + k)) 117 k = u 117 (7 + k) := by rw [zup_s]; exact hs _ _ (by decide) (by decide) (by omega)
      refine ih (k + 1) _ (by omega) (by omega) (fun x j a b c => (e x j (by omega)).trans (hs x j a b c)) (fun j j0 j1 => ?_) (fun x j hx => (e x j (by omega)).trans (hf x j hx)) (fun j j0 j1 => (e _ _ (by omega)).trans (h1 j j0 j1)) (fun j j0 j1 => (e _ _ (by omega)).trans (h2 j j0 j1))
      by_cases z : j = k
      · subst z; exact ⟨e1, e2⟩
      · rw [e _ _ (by omega), e _ _ (by omega)]; exact hd j j0 (by omega)
  have s29 : ∀ (f : Nat) (k : Int) (m : zM), 0 ≤ k → k + f = 9 → (∀ x j, ¬ ((x = 110 ∧ 0 ≤ j ∧ j < 4) ∨ (x = 123 ∧ 0 ≤ j ∧ j < 9)) → m x j = u x j) → (∀ j, 0 ≤ j → j < 4 → m 110 j = u 110 (4 + j)) → (∀ j, 0 ≤ j → j < k → m 123 j = u 122 j) → zG Ω 160 29 [zR 10 88, zI k] [] m Q := by
    intro f
    induction f with
    | zero =>
      intro k m k0 hk hf h1 h2
      exact w_X10_keep_29 (zif (fun z => absurd z (by omega)) fun _ => s55 7 0 m (by decide) (by decide) (fun x j a b c => hf x j (by omega)) (fun j j0 j1 => absurd j1 (by omega)) (fun x j hx => hf x j (by omega)) h1 fun j j0 j1 => h2 j j0 (by omega))
    | succ f ih =>
      intro k m k0 hk hf h1 h2
      refine w_X10_keep_29 (zif (fun _ => ?_) fun z => absurd (show k < 9 by omega) z)
      rw [zw_i (x := k + 1) (by omega) (by omega)]
      have e22 : m 122 k = u 122 k := hf _ _ (by omega)
      have b22 := hT k k0 (by omega)
      rw [e22]
      refine zin_of (by omega) (by omega) (zin_of (by omega) (by omega) (zbl_of (by omega) (by omega) ?_))
      have e : ∀ x j, ¬ (x = 123 ∧ j = k) → zup m 123 k (u 122 k) x j = m x j := fun x j hx => by unfold zup; rw [if_neg hx]
      refine ih (k + 1) _ (by omega) (by omega) (fun x j hx => (e x j (by omega)).trans (hf x j hx)) (fun j j0 j1 => (e _ _ (by omega)).trans (h1 j j0 j1)) (fun j j0 j1 => ?_)
      by_cases z : j = k
      · subst z; exact zup_s _ _ _ _
      · rw [e _ _ (by omega)]; exact h2 j j0 (by omega)
  have s2 : ∀ (f : Nat) (k : Int) (m : zM), 0 ≤ k → k + f = 4 → (∀ x j, ¬ (x = 110 ∧ 0 ≤ j ∧ j < 4) → m x j = u x j) → (∀ j, 0 ≤ j → j < k → m 110 j = u 110 (4 + j)) → zG Ω 160 2 [zR 10 88, zI k] [] m Q := by
    intro f
    induction f with
    | zero =>
      intro k m k0 hk hf h1
      exact w_X10_keep_2 (zif (fun z => absurd z (by omega)) fun _ => s29 9 0 m (by decide) (by decide) (fun x j hx => hf x j (by omega)) (fun j j0 j1 => h1 j j0 (by omega)) (fun j j0 j1 => absurd j1 (by omega)))
    | succ f ih =>
      intro k m k0 hk hf h1
      refine w_X10_keep_2 (zif (fun _ => ?_) fun z => absurd (show k < 4 by omega) z)
      rw [zw_i (x := 4 + k) (by omega) (by omega), zw_i (x := k + 1) (by omega) (by omega), hf 110 (4 + k) (by omega)]
      refine zin_of (by omega) (by omega) (zin_of (by omega) (by omega) ?_)
      have e : ∀ x j, ¬ (x = 110 ∧ j = k) → zup m 110 k (u 110 (4 + k)) x j = m x j := fun x j hx => by unfold zup; rw [if_neg hx]
      refine ih (k + 1) _ (by omega) (by omega) (fun x j hx => (e x j (by omega)).trans (hf x j hx)) (fun j j0 j1 => ?_)
      by_cases z : j = k
      · subst z; exact zup_s _ _ _ _
      · rw [e _ _ (by omega)]; exact h1 j j0 (by omega)
  exact w_X10_keep_0 (s2 4 0 u (by decide) (by decide) (fun _ _ _ => rfl) fun j j0 j1 => absurd j1 (by omega))
end L3
