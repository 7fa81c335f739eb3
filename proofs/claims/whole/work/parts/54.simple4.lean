def zfill (m : zM) (c a b v : Int) : zM := fun x j => if x = c ∧ a ≤ j ∧ j ≤ b then v else m x j
theorem zfill_e {m : zM} {c a b v : Int} (h : b < a) : zfill m c a b v = m := by
  funext x j
  unfold zfill
  rw [if_neg (by omega)]
theorem zfill_s {m : zM} {c a b v : Int} (h : a ≤ b) : zfill (zup m c a v) c (a + 1) b v = zfill m c a b v := by
  funext x j
  unfold zfill zup
  by_cases h1 : x = c ∧ a ≤ j ∧ j ≤ b
  · rw [if_pos h1]
    by_cases h2 : j = a
    · rw [if_neg (by omega), if_pos ⟨h1.1, h2⟩]
    · rw [if_pos ⟨h1.1, by omega, h1.2.2⟩]
  · rw [if_neg h1, if_neg (by omega)]
    by_cases h2 : x = c ∧ j = a
    · exact absurd ⟨h2.1, by omega, by omega⟩ h1
    · rw [if_neg h2]
section L2
variable {Ω : zΩ} {Q : List zV → zM → Prop}
theorem s_height_60 {c v b : Int} (hb : b ≤ 99) : ∀ (n : Nat) (m : zM) (a : Int), 0 ≤ a → b + 1 - a ≤ n → a ≤ b + 1 → Q [zI 1] (zup (zfill m c a b v) 0 14 1) → zG Ω 101 60 [zR 9 0, zU, zU, zI b, zI v, zR 12 c, zI a] [] m Q := by
  intro n
  induction n with
  | zero =>
    intro m a h0 h1 h2 h
    refine w_X9_height_60 (zif (fun _ => ?_) fun h3 => absurd h3 (by omega))
    rwa [zfill_e (by omega)] at h
  | succ n ih =>
    intro m a h0 h1 h2 h
    refine w_X9_height_60 (zif (fun h3 => ?_) fun h3 => ?_)
    · rwa [zfill_e h3] at h
    · refine zin_of h0 (by omega) ?_
      rw [zw_id (by unfold zri; omega)]
      refine ih _ _ (by omega) (by omega) (by omega) ?_
      rwa [zfill_s (by omega)]
def okHt (S k a b h : Int) : Prop := (0 < k ∧ k < S) ∧ (0 ≤ a ∧ a ≤ 99) ∧ (a ≤ b ∧ b ≤ 99) ∧ (0 ≤ h ∧ h ≤ 99)
variable {m : zM}
theorem s_height {k a b h : Int} (hS : m 1 1 ≤ 12) (f : okHt (m 1 1) k a b h → Q [zI 1] (zup (zfill m (3 + 2 * k + 1) a b h) 0 14 1)) (nv : ¬ okHt (m 1 1) k a b h → Q [zI 0] m) : zG Ω 101 0 [zR 9 0, zI k, zI a, zI b, zI h, zU, zU] [] m Q := by
  unfold okHt at f nv
  exact w_X9_height_0 (b_hasWay (fun h1 => b_within (fun h2 => b_within (fun h3 => b_within (fun h4 => s_stOf (by omega) h1.2 hS (zk3_i (s_height_60 h3.2 (b + 1 - a).toNat m a h2.1 (by omega) (by omega) (f ⟨h1, h2, h3, h4⟩)))) fun h4 => nv (by omega)) fun h3 => nv (by omega)) fun h2 => nv (by omega)) fun h1 => nv (by omega))
theorem s_height_54 {k v b : Int} (hk : 1 ≤ k ∧ k ≤ 11) (hb : b ≤ 99) : ∀ (n : Nat) (m : zM) (a : Int), 0 ≤ a → b + 1 - a ≤ n → a ≤ b + 1 → Q [zI 1] (zfill m 96 (100 * k + a) (100 * k + b) v) → zG Ω 130 54 [zR 10 88, zI k, zU, zI b, zI v, zI a] [] m Q := by
  intro n
  induction n with
  | zero =>
    intro m a h0 h1 h2 h
    refine w_X10_height_54 (zif (fun _ => ?_) fun h3 => absurd h3 (by omega))
    rwa [zfill_e (by omega)] at h
  | succ n ih =>
    intro m a h0 h1 h2 h
    refine w_X10_height_54 (zif (fun h3 => ?_) fun h3 => ?_)
    · rwa [zfill_e (by omega)] at h
    · rw [zw_id (x := 100 * k) (by unfold zri; omega), zw_id (x := 100 * k + a) (by unfold zri; omega), zw_id (x := a + 1) (by unfold zri; omega)]
      refine zin_of (by omega) (by omega) ?_
      refine ih _ _ (by omega) (by omega) (by omega) ?_
      rw [← Int.add_assoc, zfill_s (by omega)]
      exact h
theorem s_heightM {k a b h : Int} (hS : m 88 4 ≤ 12) (f : okHt (m 88 4) k a b h → Q [zI 1] (zfill (zup m 88 2 0) 96 (100 * k + a) (100 * k + b) h)) (nv : ¬ okHt (m 88 4) k a b h → Q [zI 0] (zup m 88 2 0)) : zG Ω 130 0 [zR 10 88, zI k, zI a, zI b, zI h, zU] [] m Q := by
  unfold okHt at f nv
  exact w_X10_height_0 (zif (fun h1 => nv (by omega)) fun h1 => zif (fun h1b => b_isIn (fun h2 => b_isIn (fun h3 => b_isIn (fun h4 => s_height_54 (by omega) h3.2 (b + 1 - a).toNat _ a h2.1 (by omega) (by omega) (f ⟨by omega, h2, h3, h4⟩)) fun h4 => nv (by omega)) fun h3 => nv (by omega)) fun h2 => nv (by omega)) fun h1b => nv (by omega))
end L2
