/-! look, and the loop -/
theorem VI_147 {S : Int → Int} {m : zM} {v : Int} (h : VI S m) : VI S (zup m 147 0 v) := by
  obtain ⟨g, hp, hg, hr, hw, he, hc, hx⟩ := h
  have e : ∀ x j, ¬ x = 147 → zup m 147 0 v x j = m x j := fun x j hx => zup_c hx
  have h9 : 0 ≤ m 0 9 := by rw [hc.1.1.2.1]; exact hg.2.2.1.1
  have h12 : m 1 1 ≤ 12 := by rw [hc.1.1.1]; exact hg.1.1
  refine ⟨g, fun x j p => (e x j (by unfold prA at p; omega)).trans (hp x j p), hg, hr, hw, he, ⟨CS_f hg hc.1 fun x j c => e x j (by unfold csY at c; omega), fun q => REC_g hg (hc.2 (by rw [← e 0 14 (by decide)]; exact q)) fun x j q0 q1 => e x j (by omega)⟩, XT_f h9 h12 hx fun x j c => e x j ?_⟩
  rcases c with c | c | c | c | c | c | c | c | c | c | c | c | c | c | c | c <;> omega
theorem VI_q {S : Int → Int} {m m' : zM} (h : VI S m) (f : FQ m m') : VI S m' := by
  obtain ⟨g, hp, hg, hr, hw, he, hc, hx⟩ := h
  exact VI_yq hp hg hr hw he hc hx FY_r hc f
theorem zcmp_0 {a b : Int} (h : a = b) : zcmp a b = 0 := by
  unfold zcmp
  rw [if_neg (by omega), if_pos h]
section L3
variable {Ω : zΩ} {J J' : Nat → List zV → List zV → zM → Prop} {R : List zV → zM → Prop} {S : Int → Int} {m : zM} {i : Int}
theorem l_look (HJ : zJ Ω 211 J R) (HJ' : zJ Ω 211 J' R) (HL : ZLk J J') (hS : SCR Ω S) (hS1 : S (-1) ≤ 3584) (hi : 0 ≤ i ∧ i + 7 ≤ S (-1)) (h : VI S m) (K : ∀ m', VI S m' → J' 1182 [zR 90 0, zR 9 0, zR 10 88, zR 35 147, zI i, zU, zU] [] m') : J 1089 [zR 90 0, zR 9 0, zR 10 88, zR 35 147, zI i, zU, zU] [] m := by
  have h0 := h
  obtain ⟨g, hp, hg, hr, hw, he, hc, hx⟩ := h0
  have sm : ∀ j, m (-2) j = S j := hx.2.2.2.2.2.2.2.2.2.2
  have e11 := hc.1.1.1
  have e4 : m 88 4 = g 88 4 := hp _ _ (pr_8 (by omega))
  have hS12 := hg.1.1
  have hS1' := hg.2.1
  have sc := hc.1.2.2.2.2.1
  refine w_law_1089 HJ ?_
  rw [zw_i (x := i + 1) (by omega) (by omega), zw_i (x := i + 2) (by omega) (by omega)]
  simp only [sm]
  refine ⟨⟨by omega, by omega⟩, ⟨by omega, by omega⟩, ?_⟩
  refine HL m i (S (i + 1)) (S (i + 2)) (SCR_r hS (by omega) (by omega)) (SCR_r hS (by omega) (by omega)) (by omega) ⟨by omega, fun k k0 k1 => ?_⟩ (fun c => ?_) (fun c1 c2 => ?_) fun c1 c2 => ?_
  · have x9 := (hx.2.2.2.2.2.2.2.2.2.1 k k0 k1).2
    rw [hp 90 k (pr_r (by omega))] at x9
    rw [(sc k k0 (by omega)).1.1]
    exact x9
  · refine zJ_scr HJ' hS fun s1 s2 => w_law_1106 HJ' ?_
    rw [zw_i (x := i + 1) (by omega) (by omega), zw_i (x := i + 2) (by omega) (by omega), s1, s2 (i + 1) (by omega) (by omega), s2 (i + 2) (by omega) (by omega)]
    refine ⟨⟨by omega, by omega⟩, ⟨by omega, by omega⟩, w_X10_look_0 (b_isStation (fun q => absurd q (by rw [zup_j (by decide)]; omega)) fun _ => w_X10_throwsOut_0 (zk1_i (zk1_i (w_X10_thrown_0 (zk1_i ?_)))))⟩
    rw [zup_s, if_pos rfl, if_neg (by decide)]
    exact K _ (VI_q (VI_q h FQ_z) FQ_z)
  · refine zJ_scr HJ' hS fun s1 s2 => w_law_1106 HJ' ?_
    rw [zw_i (x := i + 1) (by omega) (by omega), zw_i (x := i + 2) (by omega) (by omega), s1, s2 (i + 1) (by omega) (by omega), s2 (i + 2) (by omega) (by omega)]
    refine ⟨⟨by omega, by omega⟩, ⟨by omega, by omega⟩, w_X10_look_0 (b_isStation (fun _ => zif (fun z => absurd z (by omega)) fun _ => zif (fun z => absurd z (by omega)) fun _ => zif (fun z => absurd z (by omega)) fun _ => zif (fun z => absurd z (by omega)) fun _ => zif (fun z => absurd z (by omega)) fun _ => zif (fun z => absurd z (by omega)) fun _ => w_X10_throwsOut_0 (zk1_i (zk1_i (w_X10_thrown_0 (zk1_i ?_))))) fun q => absurd (by rw [zup_j (by decide)]; omega) q)⟩
    rw [zup_s, if_pos rfl, if_neg (by decide)]
    exact K _ (VI_q (VI_q h FQ_z) FQ_z)
  · have s147 := VI_147 (v := lkv m (S (i + 1)) (S (i + 2))) h
    have e147 : zup m 147 0 (lkv m (S (i + 1)) (S (i + 2))) 147 0 = lkv m (S (i + 1)) (S (i + 2)) := zup_s _ _ _ _
    have ex : ∀ x j, ¬ x = 147 → zup m 147 0 (lkv m (S (i + 1)) (S (i + 2))) x j = m x j := fun x j hx => zup_c hx
    generalize hv : lkv m (S (i + 1)) (S (i + 2)) = v at *
    generalize zup m 147 0 v = m1 at *
    refine zJ_scr HJ' hS fun s1 s2 => w_law_1106 HJ' ?_
    rw [zw_i (x := i + 1) (by omega) (by omega), zw_i (x := i + 2) (by omega) (by omega), s1, s2 (i + 1) (by omega) (by omega), s2 (i + 2) (by omega) (by omega)]
    generalize S (i + 1) = a at *
    generalize S (i + 2) = b at *
    have sk := (sc a c1.1 (by omega)).1
    have mr : ∀ x, 90 ≤ x → x ≤ 95 → zup m1 88 2 0 x a = g x a := fun x x0 x1 => by
      rw [zup_c (by omega), ex x a (by omega)]
      exact hp _ _ (pr_r (by omega))
    have fin : ∀ w, w = v → zk1 [zI w] fun v1 => zG Ω 124 0 [zR 10 88] [] (zup m1 88 2 0) (fun r2 m2 => zk1 r2 fun v2 => if v2 = 0 then (if (0 : Int) = 0 then (if (zcmp (m2 147 0) v1) = 0 then (J' 1182 [zR 90 0, zR 9 0, zR 10 88, zR 35 147, zI i, zU, zU] [] m2) else (R [zI 0] m2)) else (J' 1182 [zR 90 0, zR 9 0, zR 10 88, zR 35 147, zI i, zU, zU] [] m2)) else (R [zI 0] m2)) := fun w hw => by
      refine zk1_i (w_X10_thrown_0 (zk1_i ?_))
      rw [zup_s, if_pos rfl, if_pos rfl, zup_c (by decide), e147, if_pos (zcmp_0 hw.symm)]
      exact K _ (VI_q s147 FQ_z)
    refine ⟨⟨by omega, by omega⟩, ⟨by omega, by omega⟩, w_X10_look_0 (b_isStation (fun _ => zif (fun z => ?_) fun z0 => zif (fun z => ?_) fun z1 => zif (fun z => ?_) fun z2 => zif (fun z => ?_) fun z3 => zif (fun z => ?_) fun z4 => zif (fun z => ?_) fun z5 => absurd c2 (by omega)) fun q => absurd ?_ q)⟩
    · rw [mr 90 (by decide) (by decide)]
      subst z
      refine zin_of (by omega) (by omega) (fin _ ?_)
      rw [← hv, ← sk.1]; rfl
    · rw [mr 91 (by decide) (by decide)]
      subst z
      refine zin_of (by omega) (by omega) (fin _ ?_)
      rw [← hv, ← sk.2.1]; rfl
    · rw [mr 92 (by decide) (by decide)]
      subst z
      refine zin_of (by omega) (by omega) (fin _ ?_)
      rw [← hv, ← sk.2.2.1]; rfl
    · rw [mr 93 (by decide) (by decide)]
      subst z
      refine zin_of (by omega) (by omega) (fin _ ?_)
      rw [← hv, ← sk.2.2.2.1]; rfl
    · rw [mr 94 (by decide) (by decide)]
      subst z
      refine zin_of (by omega) (by omega) (fin _ ?_)
      rw [← hv, ← sk.2.2.2.2.1]; rfl
    · rw [mr 95 (by decide) (by decide)]
      subst z
      have hv' : v = if m (3 + 2 * a) 6 = 0 then 0 else 1 := by rw [← hv]; rfl
      refine zin_of (by omega) (by omega) (zif (fun y => fin 0 ?_) fun y => fin 1 ?_)
      · rw [hv', if_pos (by rw [sk.2.2.2.2.2]; exact y)]
      · rw [hv', if_neg (by rw [sk.2.2.2.2.2]; exact y)]
    · rw [zup_j (by decide), ex 88 4 (by decide)]; omega
/-- the loop: Jf n, n cells more than the layout's -/
theorem l_loop {Jf : Nat → Nat → List zV → List zV → zM → Prop} (HW : WBs Ω) (hS : SCR Ω S) (hS1 : S (-1) ≤ 3584) (HJ : ∀ n, n ≤ 600 → zJ Ω 211 (Jf n) R) (HL : ∀ n, n < 600 → ZLk (Jf n) (Jf (n + 1))) (HR : ∀ m', R [zI 1] m') : ∀ (f n : Nat) (i : Int) (m : zM), VI S m → 0 ≤ i → i ≤ 4000 → S (-1) - i ≤ 7 * f → n + f ≤ 600 → Jf n 23 [zR 90 0, zR 9 0, zR 10 88, zR 35 147, zI i, zU, zU] [] m := by
  intro f
  induction f with
  | zero =>
    intro n i m h i0 i1 hf hn
    have sm : ∀ j, m (-2) j = S j := by
      obtain ⟨g, hp, hg, hr, hw, he, hc, hx⟩ := h
      exact hx.2.2.2.2.2.2.2.2.2.2
    refine w_law_23 (HJ n (by omega)) ?_
    rw [sm]
    refine zif (fun _ => HR m) fun z => absurd ?_ z
    have h0 := SCR_0 hS
    rw [zw_i (by omega) (by omega)]; omega
  | succ f ih =>
    intro n i m h i0 i1 hf hn
    have sm : ∀ j, m (-2) j = S j := by
      obtain ⟨g, hp, hg, hr, hw, he, hc, hx⟩ := h
      exact hx.2.2.2.2.2.2.2.2.2.2
    have h0 := SCR_0 hS
    refine w_law_23 (HJ n (by omega)) ?_
    rw [sm, sm, zw_i (x := S (-1) - 7) (by omega) (by omega)]
    refine zif (fun _ => HR m) fun z => ⟨⟨i0, by omega⟩, ?_⟩
    have hi : 0 ≤ i ∧ i + 7 ≤ S (-1) := by omega
    have K1 : ∀ n', n' + f ≤ 600 → ∀ m', VI S m' → Jf n' 1182 [zR 90 0, zR 9 0, zR 10 88, zR 35 147, zI i, zU, zU] [] m' := fun n' hn' m' hv => by
      refine w_law_1182 (HJ n' (by omega)) ?_
      rw [zw_i (x := i + 7) (by omega) (by omega)]
      exact ih n' (i + 7) m' hv (by omega) (by omega) (by omega) hn'
    have K := K1 n (by omega)
    exact zif (fun _ => l_feed (HJ n (by omega)) hS hS1 hi h K) fun _ => zif (fun _ => l_edicts (HJ n (by omega)) hS HW hS1 hi h K) fun _ => zif (fun _ => l_fault (HJ n (by omega)) hS hS1 hi h K) fun _ => zif (fun _ => l_year (HJ n (by omega)) hS hS1 hi h K) fun _ => zif (fun _ => l_station (HJ n (by omega)) hS hS1 hi h K) fun _ => zif (fun _ => l_height (HJ n (by omega)) hS hS1 hi h K) fun _ => zif (fun _ => l_between (HJ n (by omega)) hS hS1 hi h K) fun _ => zif (fun _ => l_lord (HJ n (by omega)) hS hS1 hi h K) fun _ => zif (fun _ => l_papers (HJ n (by omega)) hS hS1 hi h K) fun _ => zif (fun _ => l_window (HJ n (by omega)) hS hS1 hi h K) fun _ => zif (fun _ => l_wants (HJ n (by omega)) hS hS1 hi h K) fun _ => zif (fun _ => l_ahead (HJ n (by omega)) hS hS1 hi h K) fun _ => zif (fun _ => l_set (HJ n (by omega)) hS hS1 hi h K) fun _ => zif (fun _ => l_judge (HJ n (by omega)) hS hS1 hi h K) fun _ => zif (fun _ => l_night (HJ n (by omega)) hS hS1 hi h K) fun _ => zif (fun _ => l_end (HJ n (by omega)) hS hS1 hi h K) fun _ => zif (fun _ => l_given (HJ n (by omega)) hS hS1 hi h K) fun _ => zif (fun _ => l_plan (HJ n (by omega)) hS h K) fun _ => zif (fun _ => l_anew (HJ n (by omega)) hS hS1 hi h K) fun _ => zif (fun _ => l_row (HJ n (by omega)) hS hS1 hi h K) fun _ => zif (fun _ => l_known (HJ n (by omega)) hS hS1 hi h K) fun _ => zif (fun _ => l_look (HJ n (by omega)) (HJ (n + 1) (by omega)) (HL n (by omega)) hS hS1 hi h (K1 (n + 1) (by omega))) fun _ => zif (fun _ => l_count (HJ n (by omega)) hS hS1 hi h K) fun _ => K m h
end L3
