/-- hours between two stations, by their ways and hours -/
def farF (nx hr : Int → Int) : Nat → Int → Int → Int
  | 0, _, _ => 0
  | n + 1, x, y => if x = y then 0 else if y < x then hr x + farF nx hr n (nx x) y else hr y + farF nx hr n x (nx y)
/-- a road of n stations -/
def vroad (nx hr : Int → Int) (n : Int) : Prop := n ≤ 12 ∧ ∀ k, 1 ≤ k → k < n → 0 ≤ nx k ∧ nx k < k ∧ 1 ≤ hr k ∧ hr k ≤ 20
theorem farF_b {nx hr : Int → Int} {n : Int} (hv : vroad nx hr n) : ∀ (f : Nat) (x y : Int), 0 ≤ x → x < n → 0 ≤ y → y < n → 0 ≤ farF nx hr f x y ∧ farF nx hr f x y ≤ 20 * f := by
  intro f
  induction f with
  | zero => intro x y _ _ _ _; unfold farF; omega
  | succ f ih =>
    intro x y h1 h2 h3 h4
    unfold farF
    split
    · omega
    · split
      · obtain ⟨a, b, c, d⟩ := hv.2 x (by omega) h2
        have := ih (nx x) y a (by omega) h3 h4
        omega
      · obtain ⟨a, b, c, d⟩ := hv.2 y (by omega) h4
        have := ih x (nx y) h1 h2 a (by omega)
        omega
section L2
variable {Ω : zΩ} {m : zM} {Q : List zV → zM → Prop}
theorem s_far_8 (hv : vroad (m 90) (m 91) (m 88 4)) : ∀ (f : Nat) (x y c : Int), x + y ≤ f → 0 ≤ x → x < m 88 4 → 0 ≤ y → y < m 88 4 → 0 ≤ c → c + 20 * f ≤ 100000 → Q [zI (c + farF (m 90) (m 91) f x y)] m → zG Ω 131 8 [zR 10 88, zU, zU, zI x, zI y, zI c] [] m Q := by
  intro f
  induction f with
  | zero =>
    intro x y c h0 h1 h2 h3 h4 h5 h6 h
    refine w_X10_far_8 (zif (fun _ => ?_) fun h7 => absurd h7 (by omega))
    unfold farF at h
    rwa [show c + 0 = c by omega] at h
  | succ f ih =>
    intro x y c h0 h1 h2 h3 h4 h5 h6 h
    have h12 := hv.1
    unfold farF at h
    refine w_X10_far_8 (zif (fun h7 => ?_) fun h7 => zif (fun h8 => ?_) fun h8 => ?_)
    · rw [if_pos h7] at h
      rwa [show c + 0 = c by omega] at h
    · rw [if_neg h7, if_pos h8] at h
      obtain ⟨a, b, c1, d⟩ := hv.2 x (by omega) h2
      refine zin_of (by omega) (by omega) (zin_of (by omega) (by omega) ?_)
      rw [zw_id (by unfold zri; omega)]
      refine ih _ _ _ (by omega) a (by omega) h3 h4 (by omega) (by omega) ?_
      rwa [show c + m 91 x + farF (m 90) (m 91) f (m 90 x) y = c + (m 91 x + farF (m 90) (m 91) f (m 90 x) y) by omega]
    · rw [if_neg h7, if_neg h8] at h
      obtain ⟨a, b, c1, d⟩ := hv.2 y (by omega) h4
      refine zin_of (by omega) (by omega) (zin_of (by omega) (by omega) ?_)
      rw [zw_id (by unfold zri; omega)]
      refine ih _ _ _ (by omega) h1 h2 a (by omega) (by omega) (by omega) ?_
      rwa [show c + m 91 y + farF (m 90) (m 91) f x (m 90 y) = c + (m 91 y + farF (m 90) (m 91) f x (m 90 y)) by omega]
/-- far, of the reference -/
theorem s_far (hv : vroad (m 90) (m 91) (m 88 4)) {x y : Int} (h1 : 0 ≤ x) (h2 : x < m 88 4) (h3 : 0 ≤ y) (h4 : y < m 88 4) (h : Q [zI (farF (m 90) (m 91) 22 x y)] m) : zG Ω 131 0 [zR 10 88, zI x, zI y, zU, zU, zU] [] m Q := by
  have h12 := hv.1
  refine w_X10_far_0 (s_far_8 hv 22 x y 0 (by omega) h1 h2 h3 h4 (by omega) (by omega) ?_)
  rwa [Int.zero_add]
theorem s_hb_10 (hv : vroad (fun k => m (3 + 2 * k) 1) (fun k => m (3 + 2 * k) 2) (m 1 1)) : ∀ (f : Nat) (x y c i : Int), x + y ≤ f → 0 ≤ x → x < m 1 1 → 0 ≤ y → y < m 1 1 → 0 ≤ c → c + 20 * f ≤ 100000 → 0 ≤ i → i + f < 24 → Q [zI (c + farF (fun k => m (3 + 2 * k) 1) (fun k => m (3 + 2 * k) 2) f x y)] m → zG Ω 47 10 [zU, zU, zR 7 (3 + 2 * x), zR 7 (3 + 2 * y), zI c, zI i] [] m Q := by
  intro f
  induction f with
  | zero =>
    intro x y c i h0 h1 h2 h3 h4 h5 h6 hi hf h
    refine w_X7_hoursTo_10 (zif (fun _ => zif (fun _ => ?_) fun h7 => absurd h7 (by omega)) fun h7 => absurd h7 (by omega))
    unfold farF at h
    rwa [show c + 0 = c by omega] at h
  | succ f ih =>
    intro x y c i h0 h1 h2 h3 h4 h5 h6 hi hf h
    have h12 := hv.1
    unfold farF at h
    refine w_X7_hoursTo_10 ?_
    rw [zs_n, zs_n]
    refine zif (fun _ => zif (fun h7 => ?_) fun h7 => zif (fun h8 => ?_) fun h8 => ?_) fun h7 => absurd h7 (by omega)
    · rw [if_pos (zs_e.mp h7)] at h
      rwa [show c + 0 = c by omega] at h
    · rw [if_neg (fun q => h7 (zs_e.mpr q)), if_pos h8] at h
      obtain ⟨a, b, c1, d⟩ := hv.2 x (by omega) h2
      dsimp only at a b c1 d h
      refine ⟨a, ?_⟩
      rw [zw_id (by unfold zri; omega), zw_id (by unfold zri; omega)]
      refine ih _ _ _ _ (by omega) a (by omega) h3 h4 (by omega) (by omega) (by omega) (by omega) ?_
      rw [Int.add_assoc]
      exact h
    · rw [if_neg (fun q => h7 (zs_e.mpr q)), if_neg h8] at h
      have h9 : ¬ x = y := fun q => h7 (zs_e.mpr q)
      obtain ⟨a, b, c1, d⟩ := hv.2 y (by omega) h4
      dsimp only at a b c1 d h
      refine ⟨a, ?_⟩
      rw [zw_id (by unfold zri; omega), zw_id (by unfold zri; omega)]
      refine ih _ _ _ _ (by omega) h1 h2 a (by omega) (by omega) (by omega) (by omega) (by omega) ?_
      rw [Int.add_assoc]
      exact h
/-- hoursTo, of the class -/
theorem s_hb (hv : vroad (fun k => m (3 + 2 * k) 1) (fun k => m (3 + 2 * k) 2) (m 1 1)) {x y : Int} (h1 : 0 ≤ x) (h2 : x < m 1 1) (h3 : 0 ≤ y) (h4 : y < m 1 1) (h : Q [zI (farF (fun k => m (3 + 2 * k) 1) (fun k => m (3 + 2 * k) 2) 22 x y)] m) : zG Ω 47 0 [zR 7 (3 + 2 * x), zR 7 (3 + 2 * y), zU, zU, zU, zU] [] m Q := by
  have h12 := hv.1
  refine w_X7_hoursTo_0 (s_hb_10 hv 22 x y 0 0 (by omega) h1 h2 h3 h4 (by omega) (by omega) (by omega) (by omega) ?_)
  rwa [Int.zero_add]
end L2
