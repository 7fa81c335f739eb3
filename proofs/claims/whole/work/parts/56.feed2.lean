section L2
variable {Ω : zΩ} {Q : List zV → zM → Prop}
theorem s_feedM {m : zM} {a b c d e : Int} (ht : 0 ≤ m 88 1 ∧ m 88 1 ≤ 600) (h : Q [zI (if 580 < m 88 1 then -1 else m 88 1 + 20)] (if 580 < m 88 1 then zup m 88 2 0 else zup (fdM (zup m 88 2 0) (m 88 1) a b c d e 20) 88 1 (m 88 1 + 20))) : zG Ω 125 0 [zR 10 88, zI a, zI b, zI c, zI d, zI e, zU, zU] [] m Q := by
  refine w_X10_feed_0 ?_
  rw [zw_id (by unfold zri; omega)]
  refine zif (fun h1 => ?_) fun h1 => ?_
  · rwa [if_pos (by omega), if_pos (by omega)] at h
  · rw [if_neg (by omega), if_neg (by omega)] at h
    have e0 : fdM (zup m 88 2 0) (m 88 1) a b c d e 0 = zup m 88 2 0 := by
      funext x j
      unfold fdM
      rw [if_neg (by omega)]
    have := s_feed_23 (Ω := Ω) (Q := Q) (m := zup m 88 2 0) (a := a) (b := b) (c := c) (d := d) (e := e) (t := m 88 1) (by omega) rfl 20 0 (by omega) (by omega) (by omega) h
    rw [e0] at this
    exact this
/-- the class's tape behind r bytes more of a number -/
def pnF (m : zM) (t w r : Int) : zM := fun x j => if x = 71 ∧ t ≤ j ∧ j < t + r then zi2b (zshr w (24 - 8 * (j - t))) else if x = 0 ∧ j = 10 then t + r else m x j
theorem pnF_0 {m : zM} {t w : Int} (h : m 0 10 = t) : pnF m t w 0 = m := by
  funext x j
  unfold pnF
  rw [if_neg (by omega)]
  by_cases h1 : x = 0 ∧ j = 10
  · rw [if_pos h1, h1.1, h1.2, h, Int.add_zero]
  · rw [if_neg h1]
theorem pnF_s {m : zM} {t w r : Int} (hr : 0 ≤ r) : zup (zup (pnF m t w r) 71 (t + r) (zi2b (zshr w (24 - 8 * r)))) 0 10 (t + r + 1) = pnF m t w (r + 1) := by
  funext x j
  unfold zup pnF
  by_cases h1 : x = 0 ∧ j = 10
  · rw [if_pos h1, if_neg (by omega), if_pos h1, Int.add_assoc]
  · rw [if_neg h1]
    by_cases h2 : x = 71 ∧ j = t + r
    · rw [if_pos h2, if_pos (by omega), show j - t = r by omega]
    · rw [if_neg h2]
      by_cases h3 : x = 71 ∧ t ≤ j ∧ j < t + r
      · rw [if_pos h3, if_pos (by omega)]
      · rw [if_neg h3, if_neg h1, if_neg (by omega), if_neg h1]
theorem pnF_10 {m : zM} {t w r : Int} : pnF m t w r 0 10 = t + r := by
  unfold pnF
  rw [if_neg (by omega), if_pos ⟨rfl, rfl⟩]
theorem s_put_3 {m : zM} {t w : Int} (ht : 0 ≤ t ∧ t ≤ 596) : ∀ (n : Nat) (r : Int), 0 ≤ r → r ≤ 4 → 4 - r ≤ n → Q [] (pnF m t w 4) → zG Ω 120 3 [zR 9 0, zI w, zI (24 - 8 * r)] [] (pnF m t w r) Q := by
  intro n
  induction n with
  | zero =>
    intro r h0 h1 h2 h
    refine w_X9_putNumber_3 (zif (fun _ => ?_) fun h3 => absurd h3 (by omega))
    rw [show r = 4 by omega]; exact h
  | succ n ih =>
    intro r h0 h1 h2 h
    refine w_X9_putNumber_3 (zif (fun h3 => ?_) fun h3 => ?_)
    · rw [show r = 4 by omega]; exact h
    · rw [pnF_10]
      refine zif (fun _ => zin_of (by omega) (by omega) ⟨by unfold zi2b; omega, ?_⟩) fun h4 => absurd h4 (by omega)
      rw [zw_id (by unfold zri; omega), zw_id (by unfold zri; omega), pnF_s h0, show 24 - 8 * r + -8 = 24 - 8 * (r + 1) by omega]
      exact ih _ (by omega) (by omega) (by omega) h
theorem s_put {m : zM} {w : Int} (ht : 0 ≤ m 0 10 ∧ m 0 10 ≤ 596) (h : Q [] (pnF m (m 0 10) w 4)) : zG Ω 120 0 [zR 9 0, zI w, zU] [] m Q := by
  refine w_X9_putNumber_0 ?_
  have := s_put_3 (Ω := Ω) (Q := Q) (m := m) (t := m 0 10) (w := w) ht 4 0 (by omega) (by omega) (by omega) h
  rw [pnF_0 rfl] at this
  exact this
/-- the class's tape behind feed -/
def fdC (m : zM) (t a b c d e : Int) : zM := pnF (pnF (pnF (pnF (pnF m t a 4) (t + 4) b 4) (t + 4 + 4) c 4) (t + 4 + 4 + 4) d 4) (t + 4 + 4 + 4 + 4) e 4
theorem s_feed {m : zM} {a b c d e : Int} (ht : 0 ≤ m 0 10 ∧ m 0 10 ≤ 600) (h : Q [zI (if 580 < m 0 10 then -1 else m 0 10 + 20)] (if 580 < m 0 10 then m else fdC m (m 0 10) a b c d e)) : zG Ω 96 0 [zR 9 0, zI a, zI b, zI c, zI d, zI e] [] m Q := by
  refine w_X9_feed_0 ?_
  rw [zw_id (by unfold zri; omega)]
  refine zif (fun h1 => ?_) fun h1 => ?_
  · rwa [if_pos (by omega), if_pos (by omega)] at h
  · rw [if_neg (by omega), if_neg (by omega)] at h
    refine s_put (by omega) (s_put (by rw [pnF_10]; omega) ?_)
    rw [pnF_10]
    refine s_put (by rw [pnF_10]; omega) ?_
    rw [pnF_10]
    refine s_put (by rw [pnF_10]; omega) ?_
    rw [pnF_10]
    refine s_put (by rw [pnF_10]; omega) ?_
    rw [pnF_10]
    have e20 : fdC m (m 0 10) a b c d e 0 10 = m 0 10 + 20 := by
      unfold fdC
      rw [pnF_10]; omega
    show Q [zI (fdC m (m 0 10) a b c d e 0 10)] (fdC m (m 0 10) a b c d e)
    rw [e20]
    exact h
theorem fdC_at {m : zM} {t a b c d e i : Int} (h0 : 0 ≤ i) (h : i < 20) : fdC m t a b c d e 71 (t + i) = zi2b (fdw a b c d e i) := by
  unfold fdC pnF fdw
  by_cases h4 : i < 4
  · rw [if_pos h4, if_neg (by omega), if_neg (by omega), if_neg (by omega), if_neg (by omega), if_neg (by omega), if_neg (by omega), if_neg (by omega), if_neg (by omega), if_pos (by omega)]
    congr 2; omega
  · rw [if_neg h4]
    by_cases h8 : i < 8
    · rw [if_pos h8, if_neg (by omega), if_neg (by omega), if_neg (by omega), if_neg (by omega), if_neg (by omega), if_neg (by omega), if_pos (by omega)]
      congr 2; omega
    · rw [if_neg h8]
      by_cases h12 : i < 12
      · rw [if_pos h12, if_neg (by omega), if_neg (by omega), if_neg (by omega), if_neg (by omega), if_pos (by omega)]
        congr 2; omega
      · rw [if_neg h12]
        by_cases h16 : i < 16
        · rw [if_pos h16, if_neg (by omega), if_neg (by omega), if_pos (by omega)]
          congr 2; omega
        · rw [if_neg h16, if_pos (by omega)]
          congr 2; omega
end L2
