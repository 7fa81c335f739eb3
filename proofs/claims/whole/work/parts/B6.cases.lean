theorem SCR_0 {Ω : zΩ} {S : Int → Int} (hS : SCR Ω S) : 0 ≤ S (-1) := by rw [hS.1]; omega
theorem zJ_scr {Ω : zΩ} {M : Nat} {J : Nat → List zV → List zV → zM → Prop} {R : List zV → zM → Prop} (HJ : zJ Ω M J R) {S : Int → Int} (hS : SCR Ω S) {pc : Nat} {ls st : List zV} {m : zM} (h : m (-2) (-1) = S (-1) → (∀ j : Int, 0 ≤ j → j < S (-1) → m (-2) j = S j) → J pc ls st m) : J pc ls st m := HJ.2.2.2.2.1 S hS pc ls st m h
/-! the law's loop -/
theorem zk_m {A B : Int → Prop} {r : List zV} (hAB : ∀ v, A v → B v) (h : zk1 r A) : zk1 r B := by
  obtain ⟨v, rfl, h⟩ := zk1_inv h
  exact hAB v h
section L3
variable {Ω : zΩ} {J : Nat → List zV → List zV → zM → Prop} {R : List zV → zM → Prop} {S : Int → Int} {m : zM} {i : Int}
theorem l_feed (HJ : zJ Ω 211 J R) (hS : SCR Ω S) (hS1 : S (-1) ≤ 3584) (hi : 0 ≤ i ∧ i + 7 ≤ S (-1)) (h : VI S m) (K : ∀ m', VI S m' → J 1182 [zR 90 0, zR 9 0, zR 10 88, zR 35 147, zI i, zU, zU] [] m') : J 148 [zR 90 0, zR 9 0, zR 10 88, zR 35 147, zI i, zU, zU] [] m := by
  have sm : ∀ j, m (-2) j = S j := by
    obtain ⟨g, hp, hg, hr, hw, he, hc, hx⟩ := h
    exact hx.2.2.2.2.2.2.2.2.2.2
  refine w_law_148 HJ ?_
  rw [zw_i (x := i + 1) (by omega) (by omega), zw_i (x := i + 2) (by omega) (by omega), zw_i (x := i + 3) (by omega) (by omega), zw_i (x := i + 4) (by omega) (by omega), zw_i (x := i + 5) (by omega) (by omega)]
  simp only [sm]
  refine ⟨⟨by omega, by omega⟩, ⟨⟨by omega, by omega⟩, ⟨⟨by omega, by omega⟩, ⟨⟨by omega, by omega⟩, ⟨⟨by omega, by omega⟩, ?_⟩⟩⟩⟩⟩
  refine zG.mono (VI_feed h (N := fun v1 v2 m2 => if v1 = v2 then J 1182 [zR 90 0, zR 9 0, zR 10 88, zR 35 147, zI i, zU, zU] [] m2 else R [zI 0] m2) fun v m' hv => by rw [if_pos rfl]; exact K m' hv) fun r1 m1 hz => zk_m (fun v hz => zJ_scr HJ hS fun s1 s2 => ?_) hz
  refine w_law_182 HJ ?_
  rw [zw_i (x := i + 1) (by omega) (by omega), zw_i (x := i + 2) (by omega) (by omega), zw_i (x := i + 3) (by omega) (by omega), zw_i (x := i + 4) (by omega) (by omega), zw_i (x := i + 5) (by omega) (by omega), s1, s2 (i + 1) (by omega) (by omega), s2 (i + 2) (by omega) (by omega), s2 (i + 3) (by omega) (by omega), s2 (i + 4) (by omega) (by omega), s2 (i + 5) (by omega) (by omega)]
  exact ⟨⟨by omega, by omega⟩, ⟨⟨by omega, by omega⟩, ⟨⟨by omega, by omega⟩, ⟨⟨by omega, by omega⟩, ⟨⟨by omega, by omega⟩, hz⟩⟩⟩⟩⟩
theorem l_edicts (HJ : zJ Ω 211 J R) (hS : SCR Ω S) (HW : WBs Ω) (hS1 : S (-1) ≤ 3584) (hi : 0 ≤ i ∧ i + 7 ≤ S (-1)) (h : VI S m) (K : ∀ m', VI S m' → J 1182 [zR 90 0, zR 9 0, zR 10 88, zR 35 147, zI i, zU, zU] [] m') : J 221 [zR 90 0, zR 9 0, zR 10 88, zR 35 147, zI i, zU, zU] [] m := by
  have sm : ∀ j, m (-2) j = S j := by
    obtain ⟨g, hp, hg, hr, hw, he, hc, hx⟩ := h
    exact hx.2.2.2.2.2.2.2.2.2.2
  refine w_law_221 HJ ?_
  rw [zw_i (x := i + 1) (by omega) (by omega)]
  simp only [sm]
  refine ⟨⟨by omega, by omega⟩, ?_⟩
  refine zG.mono (VI_edicts HW h (N := fun v1 v2 m2 => if v1 = v2 then J 1182 [zR 90 0, zR 9 0, zR 10 88, zR 35 147, zI i, zU, zU] [] m2 else R [zI 0] m2) fun v m' hv => by rw [if_pos rfl]; exact K m' hv) fun r1 m1 hz => zk_m (fun v hz => zJ_scr HJ hS fun s1 s2 => ?_) hz
  refine w_law_231 HJ ?_
  rw [zw_i (x := i + 1) (by omega) (by omega), s1, s2 (i + 1) (by omega) (by omega)]
  exact ⟨⟨by omega, by omega⟩, hz⟩
theorem l_fault (HJ : zJ Ω 211 J R) (hS : SCR Ω S) (hS1 : S (-1) ≤ 3584) (hi : 0 ≤ i ∧ i + 7 ≤ S (-1)) (h : VI S m) (K : ∀ m', VI S m' → J 1182 [zR 90 0, zR 9 0, zR 10 88, zR 35 147, zI i, zU, zU] [] m') : J 246 [zR 90 0, zR 9 0, zR 10 88, zR 35 147, zI i, zU, zU] [] m := by
  have sm : ∀ j, m (-2) j = S j := by
    obtain ⟨g, hp, hg, hr, hw, he, hc, hx⟩ := h
    exact hx.2.2.2.2.2.2.2.2.2.2
  refine w_law_246 HJ ?_
  rw [zw_i (x := i + 1) (by omega) (by omega)]
  simp only [sm]
  refine ⟨⟨by omega, by omega⟩, ?_⟩
  refine zG.mono (VI_fault h (N := fun v1 v2 m2 => if v1 = v2 then J 1182 [zR 90 0, zR 9 0, zR 10 88, zR 35 147, zI i, zU, zU] [] m2 else R [zI 0] m2) fun v m' hv => by rw [if_pos rfl]; exact K m' hv) fun r1 m1 hz => zk_m (fun v hz => zJ_scr HJ hS fun s1 s2 => ?_) hz
  refine w_law_256 HJ ?_
  rw [zw_i (x := i + 1) (by omega) (by omega), s1, s2 (i + 1) (by omega) (by omega)]
  exact ⟨⟨by omega, by omega⟩, hz⟩
theorem l_year (HJ : zJ Ω 211 J R) (hS : SCR Ω S) (hS1 : S (-1) ≤ 3584) (hi : 0 ≤ i ∧ i + 7 ≤ S (-1)) (h : VI S m) (K : ∀ m', VI S m' → J 1182 [zR 90 0, zR 9 0, zR 10 88, zR 35 147, zI i, zU, zU] [] m') : J 271 [zR 90 0, zR 9 0, zR 10 88, zR 35 147, zI i, zU, zU] [] m := by
  have sm : ∀ j, m (-2) j = S j := by
    obtain ⟨g, hp, hg, hr, hw, he, hc, hx⟩ := h
    exact hx.2.2.2.2.2.2.2.2.2.2
  refine w_law_271 HJ ?_
  rw [zw_i (x := i + 1) (by omega) (by omega)]
  simp only [sm]
  refine ⟨⟨by omega, by omega⟩, ?_⟩
  refine zG.mono (VI_year h (N := fun v1 v2 m2 => if v1 = v2 then J 1182 [zR 90 0, zR 9 0, zR 10 88, zR 35 147, zI i, zU, zU] [] m2 else R [zI 0] m2) fun v m' hv => by rw [if_pos rfl]; exact K m' hv) fun r1 m1 hz => zk_m (fun v hz => zJ_scr HJ hS fun s1 s2 => ?_) hz
  refine w_law_281 HJ ?_
  rw [zw_i (x := i + 1) (by omega) (by omega), s1, s2 (i + 1) (by omega) (by omega)]
  exact ⟨⟨by omega, by omega⟩, hz⟩
theorem l_station (HJ : zJ Ω 211 J R) (hS : SCR Ω S) (hS1 : S (-1) ≤ 3584) (hi : 0 ≤ i ∧ i + 7 ≤ S (-1)) (h : VI S m) (K : ∀ m', VI S m' → J 1182 [zR 90 0, zR 9 0, zR 10 88, zR 35 147, zI i, zU, zU] [] m') : J 296 [zR 90 0, zR 9 0, zR 10 88, zR 35 147, zI i, zU, zU] [] m := by
  have sm : ∀ j, m (-2) j = S j := by
    obtain ⟨g, hp, hg, hr, hw, he, hc, hx⟩ := h
    exact hx.2.2.2.2.2.2.2.2.2.2
  refine w_law_296 HJ ?_
  rw [zw_i (x := i + 1) (by omega) (by omega), zw_i (x := i + 2) (by omega) (by omega), zw_i (x := i + 3) (by omega) (by omega), zw_i (x := i + 4) (by omega) (by omega), zw_i (x := i + 5) (by omega) (by omega), zw_i (x := i + 6) (by omega) (by omega)]
  simp only [sm]
  refine ⟨⟨by omega, by omega⟩, ⟨⟨by omega, by omega⟩, ⟨⟨by omega, by omega⟩, ⟨⟨by omega, by omega⟩, ⟨⟨by omega, by omega⟩, ⟨⟨by omega, by omega⟩, ?_⟩⟩⟩⟩⟩⟩
  split
  · rename_i c
    refine zG.mono (VI_station (gt := 0) (by omega) h (N := fun v1 v2 m2 => if v1 = v2 then J 1182 [zR 90 0, zR 9 0, zR 10 88, zR 35 147, zI i, zU, zU] [] m2 else R [zI 0] m2) fun v m' hv => by rw [if_pos rfl]; exact K m' hv) fun r1 m1 hz => zk_m (fun v hz => zJ_scr HJ hS fun s1 s2 => ?_) hz
    refine w_law_345 HJ ?_
    rw [zw_i (x := i + 1) (by omega) (by omega), zw_i (x := i + 2) (by omega) (by omega), zw_i (x := i + 3) (by omega) (by omega), zw_i (x := i + 4) (by omega) (by omega), zw_i (x := i + 5) (by omega) (by omega), zw_i (x := i + 6) (by omega) (by omega), s1, s2 (i + 1) (by omega) (by omega), s2 (i + 2) (by omega) (by omega), s2 (i + 3) (by omega) (by omega), s2 (i + 4) (by omega) (by omega), s2 (i + 5) (by omega) (by omega), s2 (i + 6) (by omega) (by omega)]
    refine ⟨⟨by omega, by omega⟩, ⟨⟨by omega, by omega⟩, ⟨⟨by omega, by omega⟩, ⟨⟨by omega, by omega⟩, ⟨⟨by omega, by omega⟩, ⟨⟨by omega, by omega⟩, ?_⟩⟩⟩⟩⟩⟩
    rw [if_pos c]
    exact hz
  · rename_i c
    refine zG.mono (VI_station (gt := 1) (by omega) h (N := fun v1 v2 m2 => if v1 = v2 then J 1182 [zR 90 0, zR 9 0, zR 10 88, zR 35 147, zI i, zU, zU] [] m2 else R [zI 0] m2) fun v m' hv => by rw [if_pos rfl]; exact K m' hv) fun r1 m1 hz => zk_m (fun v hz => zJ_scr HJ hS fun s1 s2 => ?_) hz
    refine w_law_345 HJ ?_
    rw [zw_i (x := i + 1) (by omega) (by omega), zw_i (x := i + 2) (by omega) (by omega), zw_i (x := i + 3) (by omega) (by omega), zw_i (x := i + 4) (by omega) (by omega), zw_i (x := i + 5) (by omega) (by omega), zw_i (x := i + 6) (by omega) (by omega), s1, s2 (i + 1) (by omega) (by omega), s2 (i + 2) (by omega) (by omega), s2 (i + 3) (by omega) (by omega), s2 (i + 4) (by omega) (by omega), s2 (i + 5) (by omega) (by omega), s2 (i + 6) (by omega) (by omega)]
    refine ⟨⟨by omega, by omega⟩, ⟨⟨by omega, by omega⟩, ⟨⟨by omega, by omega⟩, ⟨⟨by omega, by omega⟩, ⟨⟨by omega, by omega⟩, ⟨⟨by omega, by omega⟩, ?_⟩⟩⟩⟩⟩⟩
    rw [if_neg c]
    exact hz
theorem l_height (HJ : zJ Ω 211 J R) (hS : SCR Ω S) (hS1 : S (-1) ≤ 3584) (hi : 0 ≤ i ∧ i + 7 ≤ S (-1)) (h : VI S m) (K : ∀ m', VI S m' → J 1182 [zR 90 0, zR 9 0, zR 10 88, zR 35 147, zI i, zU, zU] [] m') : J 399 [zR 90 0, zR 9 0, zR 10 88, zR 35 147, zI i, zU, zU] [] m := by
  have sm : ∀ j, m (-2) j = S j := by
    obtain ⟨g, hp, hg, hr, hw, he, hc, hx⟩ := h
    exact hx.2.2.2.2.2.2.2.2.2.2
  refine w_law_399 HJ ?_
  rw [zw_i (x := i + 1) (by omega) (by omega), zw_i (x := i + 2) (by omega) (by omega), zw_i (x := i + 3) (by omega) (by omega), zw_i (x := i + 4) (by omega) (by omega)]
  simp only [sm]
  refine ⟨⟨by omega, by omega⟩, ⟨⟨by omega, by omega⟩, ⟨⟨by omega, by omega⟩, ⟨⟨by omega, by omega⟩, ?_⟩⟩⟩⟩
  refine zG.mono (VI_height h (N := fun v1 v2 m2 => if v1 = v2 then J 1182 [zR 90 0, zR 9 0, zR 10 88, zR 35 147, zI i, zU, zU] [] m2 else R [zI 0] m2) fun v m' hv => by rw [if_pos rfl]; exact K m' hv) fun r1 m1 hz => zk_m (fun v hz => zJ_scr HJ hS fun s1 s2 => ?_) hz
  refine w_law_427 HJ ?_
  rw [zw_i (x := i + 1) (by omega) (by omega), zw_i (x := i + 2) (by omega) (by omega), zw_i (x := i + 3) (by omega) (by omega), zw_i (x := i + 4) (by omega) (by omega), s1, s2 (i + 1) (by omega) (by omega), s2 (i + 2) (by omega) (by omega), s2 (i + 3) (by omega) (by omega), s2 (i + 4) (by omega) (by omega)]
  exact ⟨⟨by omega, by omega⟩, ⟨⟨by omega, by omega⟩, ⟨⟨by omega, by omega⟩, ⟨⟨by omega, by omega⟩, hz⟩⟩⟩⟩
theorem l_between (HJ : zJ Ω 211 J R) (hS : SCR Ω S) (hS1 : S (-1) ≤ 3584) (hi : 0 ≤ i ∧ i + 7 ≤ S (-1)) (h : VI S m) (K : ∀ m', VI S m' → J 1182 [zR 90 0, zR 9 0, zR 10 88, zR 35 147, zI i, zU, zU] [] m') : J 460 [zR 90 0, zR 9 0, zR 10 88, zR 35 147, zI i, zU, zU] [] m := by
  have sm : ∀ j, m (-2) j = S j := by
    obtain ⟨g, hp, hg, hr, hw, he, hc, hx⟩ := h
    exact hx.2.2.2.2.2.2.2.2.2.2
  refine w_law_460 HJ ?_
  rw [zw_i (x := i + 1) (by omega) (by omega), zw_i (x := i + 2) (by omega) (by omega)]
  simp only [sm]
  refine ⟨⟨by omega, by omega⟩, ⟨⟨by omega, by omega⟩, ?_⟩⟩
  refine zG.mono (VI_between h (N := fun v1 v2 m2 => if v1 = v2 then J 1182 [zR 90 0, zR 9 0, zR 10 88, zR 35 147, zI i, zU, zU] [] m2 else R [zI 0] m2) fun v m' hv => by rw [if_pos rfl]; exact K m' hv) fun r1 m1 hz => zk_m (fun v hz => zJ_scr HJ hS fun s1 s2 => ?_) hz
  refine w_law_476 HJ ?_
  rw [zw_i (x := i + 1) (by omega) (by omega), zw_i (x := i + 2) (by omega) (by omega), s1, s2 (i + 1) (by omega) (by omega), s2 (i + 2) (by omega) (by omega)]
  exact ⟨⟨by omega, by omega⟩, ⟨⟨by omega, by omega⟩, hz⟩⟩
theorem l_lord (HJ : zJ Ω 211 J R) (hS : SCR Ω S) (hS1 : S (-1) ≤ 3584) (hi : 0 ≤ i ∧ i + 7 ≤ S (-1)) (h : VI S m) (K : ∀ m', VI S m' → J 1182 [zR 90 0, zR 9 0, zR 10 88, zR 35 147, zI i, zU, zU] [] m') : J 497 [zR 90 0, zR 9 0, zR 10 88, zR 35 147, zI i, zU, zU] [] m := by
  have sm : ∀ j, m (-2) j = S j := by
    obtain ⟨g, hp, hg, hr, hw, he, hc, hx⟩ := h
    exact hx.2.2.2.2.2.2.2.2.2.2
  refine w_law_497 HJ ?_
  rw [zw_i (x := i + 1) (by omega) (by omega), zw_i (x := i + 2) (by omega) (by omega), zw_i (x := i + 3) (by omega) (by omega), zw_i (x := i + 4) (by omega) (by omega), zw_i (x := i + 5) (by omega) (by omega), zw_i (x := i + 6) (by omega) (by omega)]
  simp only [sm]
  refine ⟨⟨by omega, by omega⟩, ⟨⟨by omega, by omega⟩, ⟨⟨by omega, by omega⟩, ⟨⟨by omega, by omega⟩, ⟨⟨by omega, by omega⟩, ⟨⟨by omega, by omega⟩, ?_⟩⟩⟩⟩⟩⟩
  refine zG.mono (VI_lord h (N := fun v1 v2 m2 => if v1 = v2 then J 1182 [zR 90 0, zR 9 0, zR 10 88, zR 35 147, zI i, zU, zU] [] m2 else R [zI 0] m2) fun v m' hv => by rw [if_pos rfl]; exact K m' hv) fun r1 m1 hz => zk_m (fun v hz => zJ_scr HJ hS fun s1 s2 => ?_) hz
  refine w_law_538 HJ ?_
  rw [zw_i (x := i + 1) (by omega) (by omega), zw_i (x := i + 2) (by omega) (by omega), zw_i (x := i + 3) (by omega) (by omega), zw_i (x := i + 4) (by omega) (by omega), zw_i (x := i + 5) (by omega) (by omega), zw_i (x := i + 6) (by omega) (by omega), s1, s2 (i + 1) (by omega) (by omega), s2 (i + 2) (by omega) (by omega), s2 (i + 3) (by omega) (by omega), s2 (i + 4) (by omega) (by omega), s2 (i + 5) (by omega) (by omega), s2 (i + 6) (by omega) (by omega)]
  exact ⟨⟨by omega, by omega⟩, ⟨⟨by omega, by omega⟩, ⟨⟨by omega, by omega⟩, ⟨⟨by omega, by omega⟩, ⟨⟨by omega, by omega⟩, ⟨⟨by omega, by omega⟩, hz⟩⟩⟩⟩⟩⟩
theorem l_papers (HJ : zJ Ω 211 J R) (hS : SCR Ω S) (hS1 : S (-1) ≤ 3584) (hi : 0 ≤ i ∧ i + 7 ≤ S (-1)) (h : VI S m) (K : ∀ m', VI S m' → J 1182 [zR 90 0, zR 9 0, zR 10 88, zR 35 147, zI i, zU, zU] [] m') : J 584 [zR 90 0, zR 9 0, zR 10 88, zR 35 147, zI i, zU, zU] [] m := by
  have sm : ∀ j, m (-2) j = S j := by
    obtain ⟨g, hp, hg, hr, hw, he, hc, hx⟩ := h
    exact hx.2.2.2.2.2.2.2.2.2.2
  refine w_law_584 HJ ?_
  rw [zw_i (x := i + 1) (by omega) (by omega), zw_i (x := i + 2) (by omega) (by omega), zw_i (x := i + 3) (by omega) (by omega)]
  simp only [sm]
  refine ⟨⟨by omega, by omega⟩, ⟨⟨by omega, by omega⟩, ⟨⟨by omega, by omega⟩, ?_⟩⟩⟩
  refine zG.mono (VI_papers h (N := fun v1 v2 m2 => if v1 = v2 then J 1182 [zR 90 0, zR 9 0, zR 10 88, zR 35 147, zI i, zU, zU] [] m2 else R [zI 0] m2) fun v m' hv => by rw [if_pos rfl]; exact K m' hv) fun r1 m1 hz => zk_m (fun v hz => zJ_scr HJ hS fun s1 s2 => ?_) hz
  refine w_law_606 HJ ?_
  rw [zw_i (x := i + 1) (by omega) (by omega), zw_i (x := i + 2) (by omega) (by omega), zw_i (x := i + 3) (by omega) (by omega), s1, s2 (i + 1) (by omega) (by omega), s2 (i + 2) (by omega) (by omega), s2 (i + 3) (by omega) (by omega)]
  exact ⟨⟨by omega, by omega⟩, ⟨⟨by omega, by omega⟩, ⟨⟨by omega, by omega⟩, hz⟩⟩⟩
theorem l_window (HJ : zJ Ω 211 J R) (hS : SCR Ω S) (hS1 : S (-1) ≤ 3584) (hi : 0 ≤ i ∧ i + 7 ≤ S (-1)) (h : VI S m) (K : ∀ m', VI S m' → J 1182 [zR 90 0, zR 9 0, zR 10 88, zR 35 147, zI i, zU, zU] [] m') : J 633 [zR 90 0, zR 9 0, zR 10 88, zR 35 147, zI i, zU, zU] [] m := by
  have sm : ∀ j, m (-2) j = S j := by
    obtain ⟨g, hp, hg, hr, hw, he, hc, hx⟩ := h
    exact hx.2.2.2.2.2.2.2.2.2.2
  refine w_law_633 HJ ?_
  rw [zw_i (x := i + 1) (by omega) (by omega), zw_i (x := i + 2) (by omega) (by omega), zw_i (x := i + 3) (by omega) (by omega), zw_i (x := i + 4) (by omega) (by omega)]
  simp only [sm]
  refine ⟨⟨by omega, by omega⟩, ⟨⟨by omega, by omega⟩, ⟨⟨by omega, by omega⟩, ⟨⟨by omega, by omega⟩, ?_⟩⟩⟩⟩
  refine zG.mono (VI_window h (N := fun v1 v2 m2 => if v1 = v2 then J 1182 [zR 90 0, zR 9 0, zR 10 88, zR 35 147, zI i, zU, zU] [] m2 else R [zI 0] m2) fun v m' hv => by rw [if_pos rfl]; exact K m' hv) fun r1 m1 hz => zk_m (fun v hz => zJ_scr HJ hS fun s1 s2 => ?_) hz
  refine w_law_661 HJ ?_
  rw [zw_i (x := i + 1) (by omega) (by omega), zw_i (x := i + 2) (by omega) (by omega), zw_i (x := i + 3) (by omega) (by omega), zw_i (x := i + 4) (by omega) (by omega), s1, s2 (i + 1) (by omega) (by omega), s2 (i + 2) (by omega) (by omega), s2 (i + 3) (by omega) (by omega), s2 (i + 4) (by omega) (by omega)]
  exact ⟨⟨by omega, by omega⟩, ⟨⟨by omega, by omega⟩, ⟨⟨by omega, by omega⟩, ⟨⟨by omega, by omega⟩, hz⟩⟩⟩⟩
theorem l_wants (HJ : zJ Ω 211 J R) (hS : SCR Ω S) (hS1 : S (-1) ≤ 3584) (hi : 0 ≤ i ∧ i + 7 ≤ S (-1)) (h : VI S m) (K : ∀ m', VI S m' → J 1182 [zR 90 0, zR 9 0, zR 10 88, zR 35 147, zI i, zU, zU] [] m') : J 694 [zR 90 0, zR 9 0, zR 10 88, zR 35 147, zI i, zU, zU] [] m := by
  have sm : ∀ j, m (-2) j = S j := by
    obtain ⟨g, hp, hg, hr, hw, he, hc, hx⟩ := h
    exact hx.2.2.2.2.2.2.2.2.2.2
  refine w_law_694 HJ ?_
  rw [zw_i (x := i + 1) (by omega) (by omega), zw_i (x := i + 2) (by omega) (by omega), zw_i (x := i + 3) (by omega) (by omega)]
  simp only [sm]
  refine ⟨⟨by omega, by omega⟩, ⟨⟨by omega, by omega⟩, ⟨⟨by omega, by omega⟩, ?_⟩⟩⟩
  refine zG.mono (VI_wants h (N := fun v1 v2 m2 => if v1 = v2 then J 1182 [zR 90 0, zR 9 0, zR 10 88, zR 35 147, zI i, zU, zU] [] m2 else R [zI 0] m2) fun v m' hv => by rw [if_pos rfl]; exact K m' hv) fun r1 m1 hz => zk_m (fun v hz => zJ_scr HJ hS fun s1 s2 => ?_) hz
  refine w_law_716 HJ ?_
  rw [zw_i (x := i + 1) (by omega) (by omega), zw_i (x := i + 2) (by omega) (by omega), zw_i (x := i + 3) (by omega) (by omega), s1, s2 (i + 1) (by omega) (by omega), s2 (i + 2) (by omega) (by omega), s2 (i + 3) (by omega) (by omega)]
  exact ⟨⟨by omega, by omega⟩, ⟨⟨by omega, by omega⟩, ⟨⟨by omega, by omega⟩, hz⟩⟩⟩
theorem l_ahead (HJ : zJ Ω 211 J R) (hS : SCR Ω S) (hS1 : S (-1) ≤ 3584) (hi : 0 ≤ i ∧ i + 7 ≤ S (-1)) (h : VI S m) (K : ∀ m', VI S m' → J 1182 [zR 90 0, zR 9 0, zR 10 88, zR 35 147, zI i, zU, zU] [] m') : J 743 [zR 90 0, zR 9 0, zR 10 88, zR 35 147, zI i, zU, zU] [] m := by
  have sm : ∀ j, m (-2) j = S j := by
    obtain ⟨g, hp, hg, hr, hw, he, hc, hx⟩ := h
    exact hx.2.2.2.2.2.2.2.2.2.2
  refine w_law_743 HJ ?_
  rw [zw_i (x := i + 1) (by omega) (by omega), zw_i (x := i + 2) (by omega) (by omega)]
  simp only [sm]
  refine ⟨⟨by omega, by omega⟩, ⟨⟨by omega, by omega⟩, ?_⟩⟩
  refine zG.mono (VI_ahead h (N := fun v1 v2 m2 => if v1 = v2 then J 1182 [zR 90 0, zR 9 0, zR 10 88, zR 35 147, zI i, zU, zU] [] m2 else R [zI 0] m2) fun v m' hv => by rw [if_pos rfl]; exact K m' hv) fun r1 m1 hz => zk_m (fun v hz => zJ_scr HJ hS fun s1 s2 => ?_) hz
  refine w_law_759 HJ ?_
  rw [zw_i (x := i + 1) (by omega) (by omega), zw_i (x := i + 2) (by omega) (by omega), s1, s2 (i + 1) (by omega) (by omega), s2 (i + 2) (by omega) (by omega)]
  exact ⟨⟨by omega, by omega⟩, ⟨⟨by omega, by omega⟩, hz⟩⟩
theorem l_set (HJ : zJ Ω 211 J R) (hS : SCR Ω S) (hS1 : S (-1) ≤ 3584) (hi : 0 ≤ i ∧ i + 7 ≤ S (-1)) (h : VI S m) (K : ∀ m', VI S m' → J 1182 [zR 90 0, zR 9 0, zR 10 88, zR 35 147, zI i, zU, zU] [] m') : J 780 [zR 90 0, zR 9 0, zR 10 88, zR 35 147, zI i, zU, zU] [] m := by
  have sm : ∀ j, m (-2) j = S j := by
    obtain ⟨g, hp, hg, hr, hw, he, hc, hx⟩ := h
    exact hx.2.2.2.2.2.2.2.2.2.2
  refine w_law_780 HJ ?_
  rw [zw_i (x := i + 1) (by omega) (by omega), zw_i (x := i + 2) (by omega) (by omega)]
  simp only [sm]
  refine ⟨⟨by omega, by omega⟩, ⟨⟨by omega, by omega⟩, ?_⟩⟩
  refine zG.mono (VI_set h (N := fun v1 v2 m2 => if v1 = v2 then J 1182 [zR 90 0, zR 9 0, zR 10 88, zR 35 147, zI i, zU, zU] [] m2 else R [zI 0] m2) fun v m' hv => by rw [if_pos rfl]; exact K m' hv) fun r1 m1 hz => zk_m (fun v hz => zJ_scr HJ hS fun s1 s2 => ?_) hz
  refine w_law_796 HJ ?_
  rw [zw_i (x := i + 1) (by omega) (by omega), zw_i (x := i + 2) (by omega) (by omega), s1, s2 (i + 1) (by omega) (by omega), s2 (i + 2) (by omega) (by omega)]
  exact ⟨⟨by omega, by omega⟩, ⟨⟨by omega, by omega⟩, hz⟩⟩
theorem l_judge (HJ : zJ Ω 211 J R) (hS : SCR Ω S) (hS1 : S (-1) ≤ 3584) (hi : 0 ≤ i ∧ i + 7 ≤ S (-1)) (h : VI S m) (K : ∀ m', VI S m' → J 1182 [zR 90 0, zR 9 0, zR 10 88, zR 35 147, zI i, zU, zU] [] m') : J 817 [zR 90 0, zR 9 0, zR 10 88, zR 35 147, zI i, zU, zU] [] m := by
  have sm : ∀ j, m (-2) j = S j := by
    obtain ⟨g, hp, hg, hr, hw, he, hc, hx⟩ := h
    exact hx.2.2.2.2.2.2.2.2.2.2
  refine w_law_817 HJ ?_
  rw [zw_i (x := i + 1) (by omega) (by omega)]
  simp only [sm]
  refine ⟨⟨by omega, by omega⟩, ?_⟩
  refine zG.mono (VI_judge h (N := fun v1 v2 m2 => if v1 = v2 then J 1182 [zR 90 0, zR 9 0, zR 10 88, zR 35 147, zI i, zU, zU] [] m2 else R [zI 0] m2) fun v m' hv => by rw [if_pos rfl]; exact K m' hv) fun r1 m1 hz => zk_m (fun v hz => zJ_scr HJ hS fun s1 s2 => ?_) hz
  refine w_law_827 HJ ?_
  rw [zw_i (x := i + 1) (by omega) (by omega), s1, s2 (i + 1) (by omega) (by omega)]
  exact ⟨⟨by omega, by omega⟩, hz⟩
theorem l_night (HJ : zJ Ω 211 J R) (hS : SCR Ω S) (hS1 : S (-1) ≤ 3584) (hi : 0 ≤ i ∧ i + 7 ≤ S (-1)) (h : VI S m) (K : ∀ m', VI S m' → J 1182 [zR 90 0, zR 9 0, zR 10 88, zR 35 147, zI i, zU, zU] [] m') : J 842 [zR 90 0, zR 9 0, zR 10 88, zR 35 147, zI i, zU, zU] [] m := by
  have sm : ∀ j, m (-2) j = S j := by
    obtain ⟨g, hp, hg, hr, hw, he, hc, hx⟩ := h
    exact hx.2.2.2.2.2.2.2.2.2.2
  refine w_law_842 HJ ?_
  rw [zw_i (x := i + 1) (by omega) (by omega), zw_i (x := i + 2) (by omega) (by omega), zw_i (x := i + 3) (by omega) (by omega)]
  simp only [sm]
  refine ⟨⟨by omega, by omega⟩, ⟨⟨by omega, by omega⟩, ⟨⟨by omega, by omega⟩, ?_⟩⟩⟩
  refine zG.mono (VI_night h (N := fun v1 v2 m2 => if v1 = v2 then J 1182 [zR 90 0, zR 9 0, zR 10 88, zR 35 147, zI i, zU, zU] [] m2 else R [zI 0] m2) fun v m' hv => by rw [if_pos rfl]; exact K m' hv) fun r1 m1 hz => zk_m (fun v hz => zJ_scr HJ hS fun s1 s2 => ?_) hz
  refine w_law_864 HJ ?_
  rw [zw_i (x := i + 1) (by omega) (by omega), zw_i (x := i + 2) (by omega) (by omega), zw_i (x := i + 3) (by omega) (by omega), s1, s2 (i + 1) (by omega) (by omega), s2 (i + 2) (by omega) (by omega), s2 (i + 3) (by omega) (by omega)]
  exact ⟨⟨by omega, by omega⟩, ⟨⟨by omega, by omega⟩, ⟨⟨by omega, by omega⟩, hz⟩⟩⟩
theorem l_end (HJ : zJ Ω 211 J R) (hS : SCR Ω S) (hS1 : S (-1) ≤ 3584) (hi : 0 ≤ i ∧ i + 7 ≤ S (-1)) (h : VI S m) (K : ∀ m', VI S m' → J 1182 [zR 90 0, zR 9 0, zR 10 88, zR 35 147, zI i, zU, zU] [] m') : J 891 [zR 90 0, zR 9 0, zR 10 88, zR 35 147, zI i, zU, zU] [] m := by
  have sm : ∀ j, m (-2) j = S j := by
    obtain ⟨g, hp, hg, hr, hw, he, hc, hx⟩ := h
    exact hx.2.2.2.2.2.2.2.2.2.2
  refine w_law_891 HJ ?_
  rw [zw_i (x := i + 1) (by omega) (by omega), zw_i (x := i + 2) (by omega) (by omega)]
  simp only [sm]
  refine ⟨⟨by omega, by omega⟩, ⟨⟨by omega, by omega⟩, ?_⟩⟩
  refine zG.mono (VI_end h (N := fun v1 v2 m2 => if v1 = v2 then J 1182 [zR 90 0, zR 9 0, zR 10 88, zR 35 147, zI i, zU, zU] [] m2 else R [zI 0] m2) fun v m' hv => by rw [if_pos rfl]; exact K m' hv) fun r1 m1 hz => zk_m (fun v hz => zJ_scr HJ hS fun s1 s2 => ?_) hz
  refine w_law_907 HJ ?_
  rw [zw_i (x := i + 1) (by omega) (by omega), zw_i (x := i + 2) (by omega) (by omega), s1, s2 (i + 1) (by omega) (by omega), s2 (i + 2) (by omega) (by omega)]
  exact ⟨⟨by omega, by omega⟩, ⟨⟨by omega, by omega⟩, hz⟩⟩
theorem l_given (HJ : zJ Ω 211 J R) (hS : SCR Ω S) (hS1 : S (-1) ≤ 3584) (hi : 0 ≤ i ∧ i + 7 ≤ S (-1)) (h : VI S m) (K : ∀ m', VI S m' → J 1182 [zR 90 0, zR 9 0, zR 10 88, zR 35 147, zI i, zU, zU] [] m') : J 928 [zR 90 0, zR 9 0, zR 10 88, zR 35 147, zI i, zU, zU] [] m := by
  have sm : ∀ j, m (-2) j = S j := by
    obtain ⟨g, hp, hg, hr, hw, he, hc, hx⟩ := h
    exact hx.2.2.2.2.2.2.2.2.2.2
  refine w_law_928 HJ ?_
  rw [zw_i (x := i + 1) (by omega) (by omega), zw_i (x := i + 2) (by omega) (by omega)]
  simp only [sm]
  refine ⟨⟨by omega, by omega⟩, ⟨⟨by omega, by omega⟩, ?_⟩⟩
  refine zG.mono (VI_given h (N := fun v1 v2 m2 => if v1 = v2 then J 1182 [zR 90 0, zR 9 0, zR 10 88, zR 35 147, zI i, zU, zU] [] m2 else R [zI 0] m2) fun v m' hv => by rw [if_pos rfl]; exact K m' hv) fun r1 m1 hz => zk_m (fun v hz => zJ_scr HJ hS fun s1 s2 => ?_) hz
  refine w_law_944 HJ ?_
  rw [zw_i (x := i + 1) (by omega) (by omega), zw_i (x := i + 2) (by omega) (by omega), s1, s2 (i + 1) (by omega) (by omega), s2 (i + 2) (by omega) (by omega)]
  exact ⟨⟨by omega, by omega⟩, ⟨⟨by omega, by omega⟩, hz⟩⟩
theorem l_plan (HJ : zJ Ω 211 J R) (hS : SCR Ω S) (h : VI S m) (K : ∀ m', VI S m' → J 1182 [zR 90 0, zR 9 0, zR 10 88, zR 35 147, zI i, zU, zU] [] m') : J 965 [zR 90 0, zR 9 0, zR 10 88, zR 35 147, zI i, zU, zU] [] m := by
  have sm : ∀ j, m (-2) j = S j := by
    obtain ⟨g, hp, hg, hr, hw, he, hc, hx⟩ := h
    exact hx.2.2.2.2.2.2.2.2.2.2
  refine w_law_965 HJ ?_
  refine zG.mono (VI_plan h (N := fun v1 v2 m2 => if v1 = v2 then J 1182 [zR 90 0, zR 9 0, zR 10 88, zR 35 147, zI i, zU, zU] [] m2 else R [zI 0] m2) fun v m' hv => by rw [if_pos rfl]; exact K m' hv) fun r1 m1 hz => zk_m (fun v hz => zJ_scr HJ hS fun s1 s2 => ?_) hz
  refine w_law_969 HJ ?_
  exact hz
theorem l_anew (HJ : zJ Ω 211 J R) (hS : SCR Ω S) (hS1 : S (-1) ≤ 3584) (hi : 0 ≤ i ∧ i + 7 ≤ S (-1)) (h : VI S m) (K : ∀ m', VI S m' → J 1182 [zR 90 0, zR 9 0, zR 10 88, zR 35 147, zI i, zU, zU] [] m') : J 978 [zR 90 0, zR 9 0, zR 10 88, zR 35 147, zI i, zU, zU] [] m := by
  have sm : ∀ j, m (-2) j = S j := by
    obtain ⟨g, hp, hg, hr, hw, he, hc, hx⟩ := h
    exact hx.2.2.2.2.2.2.2.2.2.2
  refine w_law_978 HJ ?_
  rw [zw_i (x := i + 1) (by omega) (by omega)]
  simp only [sm]
  refine ⟨⟨by omega, by omega⟩, ?_⟩
  refine zG.mono (VI_anew h (N := fun v1 v2 m2 => if v1 = v2 then J 1182 [zR 90 0, zR 9 0, zR 10 88, zR 35 147, zI i, zU, zU] [] m2 else R [zI 0] m2) fun v m' hv => by rw [if_pos rfl]; exact K m' hv) fun r1 m1 hz => zk_m (fun v hz => zJ_scr HJ hS fun s1 s2 => ?_) hz
  refine w_law_988 HJ ?_
  rw [zw_i (x := i + 1) (by omega) (by omega), s1, s2 (i + 1) (by omega) (by omega)]
  exact ⟨⟨by omega, by omega⟩, hz⟩
theorem l_row (HJ : zJ Ω 211 J R) (hS : SCR Ω S) (hS1 : S (-1) ≤ 3584) (hi : 0 ≤ i ∧ i + 7 ≤ S (-1)) (h : VI S m) (K : ∀ m', VI S m' → J 1182 [zR 90 0, zR 9 0, zR 10 88, zR 35 147, zI i, zU, zU] [] m') : J 1003 [zR 90 0, zR 9 0, zR 10 88, zR 35 147, zI i, zU, zU] [] m := by
  have sm : ∀ j, m (-2) j = S j := by
    obtain ⟨g, hp, hg, hr, hw, he, hc, hx⟩ := h
    exact hx.2.2.2.2.2.2.2.2.2.2
  refine w_law_1003 HJ ?_
  rw [zw_i (x := i + 1) (by omega) (by omega)]
  simp only [sm]
  refine ⟨⟨by omega, by omega⟩, ?_⟩
  refine zG.mono (VI_row (SCR_r hS (by omega) (by omega)) h (N := fun v1 v2 m2 => if v1 = v2 then J 1182 [zR 90 0, zR 9 0, zR 10 88, zR 35 147, zI i, zU, zU] [] m2 else R [zI 0] m2) fun v m' hv => by rw [if_pos rfl]; exact K m' hv) fun r1 m1 hz => zk_m (fun v hz => zJ_scr HJ hS fun s1 s2 => ?_) hz
  refine w_law_1013 HJ ?_
  rw [zw_i (x := i + 1) (by omega) (by omega), s1, s2 (i + 1) (by omega) (by omega)]
  exact ⟨⟨by omega, by omega⟩, hz⟩
theorem l_known (HJ : zJ Ω 211 J R) (hS : SCR Ω S) (hS1 : S (-1) ≤ 3584) (hi : 0 ≤ i ∧ i + 7 ≤ S (-1)) (h : VI S m) (K : ∀ m', VI S m' → J 1182 [zR 90 0, zR 9 0, zR 10 88, zR 35 147, zI i, zU, zU] [] m') : J 1028 [zR 90 0, zR 9 0, zR 10 88, zR 35 147, zI i, zU, zU] [] m := by
  have sm : ∀ j, m (-2) j = S j := by
    obtain ⟨g, hp, hg, hr, hw, he, hc, hx⟩ := h
    exact hx.2.2.2.2.2.2.2.2.2.2
  refine w_law_1028 HJ ?_
  rw [zw_i (x := i + 1) (by omega) (by omega), zw_i (x := i + 2) (by omega) (by omega), zw_i (x := i + 3) (by omega) (by omega), zw_i (x := i + 4) (by omega) (by omega)]
  simp only [sm]
  refine ⟨⟨by omega, by omega⟩, ⟨⟨by omega, by omega⟩, ⟨⟨by omega, by omega⟩, ⟨⟨by omega, by omega⟩, ?_⟩⟩⟩⟩
  refine zG.mono (VI_known h (N := fun v1 v2 m2 => if v1 = v2 then J 1182 [zR 90 0, zR 9 0, zR 10 88, zR 35 147, zI i, zU, zU] [] m2 else R [zI 0] m2) fun v m' hv => by rw [if_pos rfl]; exact K m' hv) fun r1 m1 hz => zk_m (fun v hz => zJ_scr HJ hS fun s1 s2 => ?_) hz
  refine w_law_1056 HJ ?_
  rw [zw_i (x := i + 1) (by omega) (by omega), zw_i (x := i + 2) (by omega) (by omega), zw_i (x := i + 3) (by omega) (by omega), zw_i (x := i + 4) (by omega) (by omega), s1, s2 (i + 1) (by omega) (by omega), s2 (i + 2) (by omega) (by omega), s2 (i + 3) (by omega) (by omega), s2 (i + 4) (by omega) (by omega)]
  exact ⟨⟨by omega, by omega⟩, ⟨⟨by omega, by omega⟩, ⟨⟨by omega, by omega⟩, ⟨⟨by omega, by omega⟩, hz⟩⟩⟩⟩
theorem l_count (HJ : zJ Ω 211 J R) (hS : SCR Ω S) (hS1 : S (-1) ≤ 3584) (hi : 0 ≤ i ∧ i + 7 ≤ S (-1)) (h : VI S m) (K : ∀ m', VI S m' → J 1182 [zR 90 0, zR 9 0, zR 10 88, zR 35 147, zI i, zU, zU] [] m') : J 1157 [zR 90 0, zR 9 0, zR 10 88, zR 35 147, zI i, zU, zU] [] m := by
  have sm : ∀ j, m (-2) j = S j := by
    obtain ⟨g, hp, hg, hr, hw, he, hc, hx⟩ := h
    exact hx.2.2.2.2.2.2.2.2.2.2
  refine w_law_1157 HJ ?_
  rw [zw_i (x := i + 1) (by omega) (by omega)]
  simp only [sm]
  refine ⟨⟨by omega, by omega⟩, ?_⟩
  refine zG.mono (VI_count h (N := fun v1 v2 m2 => if v1 = v2 then J 1182 [zR 90 0, zR 9 0, zR 10 88, zR 35 147, zI i, zU, zU] [] m2 else R [zI 0] m2) fun v m' hv => by rw [if_pos rfl]; exact K m' hv) fun r1 m1 hz => zk_m (fun v hz => zJ_scr HJ hS fun s1 s2 => ?_) hz
  refine w_law_1167 HJ ?_
  rw [zw_i (x := i + 1) (by omega) (by omega), s1, s2 (i + 1) (by omega) (by omega)]
  exact ⟨⟨by omega, by omega⟩, hz⟩
/-- look: what the law's own look answers -/
def ZLk (J J' : Nat → List zV → List zV → zM → Prop) : Prop := ∀ (m : zM) (x4 a b : Int), zri a → zri b → 1 ≤ m 1 1 → lkH m → (¬ (0 ≤ a ∧ a < m 1 1) → J' 1106 [zR 90 0, zR 9 0, zR 10 88, zR 35 147, zI x4, zU, zU] [zI 1] m) → ((0 ≤ a ∧ a < m 1 1) → ¬ (0 ≤ b ∧ b ≤ 5) → J' 1106 [zR 90 0, zR 9 0, zR 10 88, zR 35 147, zI x4, zU, zU] [zI 2] m) → ((0 ≤ a ∧ a < m 1 1) → (0 ≤ b ∧ b ≤ 5) → J' 1106 [zR 90 0, zR 9 0, zR 10 88, zR 35 147, zI x4, zU, zU] [zI 0] (zup m 147 0 (lkv m a b))) → J 1103 [zR 90 0, zR 9 0, zR 10 88, zR 35 147, zI x4, zU, zU] [zR 35 147, zI b, zI a, zR 9 0] m
end L3
