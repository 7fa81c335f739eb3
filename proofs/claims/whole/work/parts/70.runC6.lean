def FN (m m' : zM) : Prop := ∀ x j, ¬ (30 ≤ x ∧ x ≤ 64 ∧ 1 ≤ (x - 30) % 6 ∧ (x - 30) % 6 ≤ 4) → m' x j = m x j
theorem IC_fn {g m m' : zM} (hv : vG g) (h : IC g m) (f : FN m m') : IC g m' := by
  have v1 := hv.1
  have v2 := hv.2.1
  obtain ⟨⟨a1, a2⟩, ⟨b0, b1, b2, b3, b4⟩, c, d⟩ := h
  have e3 : m' 65 3 = m 65 3 := f _ _ (by omega)
  refine ⟨⟨(f _ _ (by omega)).trans a1, (f _ _ (by omega)).trans a2⟩, ⟨by rw [e3]; exact b0, ?_, ?_, ?_, ?_⟩, fun k k0 k1 => ⟨?_, fun dd d0 d1 => ?_⟩, fun l l0 l1 => ⟨?_, ?_, ?_⟩⟩
  · rw [e3, f _ _ (by omega)]; exact b1
  · rw [e3, f _ _ (by omega)]; exact b2
  · rw [e3, f _ _ (by omega)]; exact b3
  · rw [e3, f _ _ (by omega)]; exact b4
  · have := (c k k0 k1).1
    rw [f _ 1 (by omega), f _ 2 (by omega), f _ 3 (by omega), f _ 4 (by omega), f _ 5 (by omega), f _ 6 (by omega)]
    exact this
  · have := (c k k0 k1).2 dd d0 d1
    rw [f _ _ (by omega)]; exact this
  · have := (d l l0 l1).1
    rw [f _ 1 (by omega), f _ 6 (by omega), f _ 7 (by omega), f _ 8 (by omega), f _ 9 (by omega), f _ 12 (by omega), f _ 15 (by omega), f _ 16 (by omega)]
    exact this
  · rw [f _ 5 (by omega)]; exact (d l l0 l1).2.1
  · rw [f _ l (by omega)]; exact (d l l0 l1).2.2
theorem RD_fn {g s m m' : zM} (hv : vG g) (h : RD g s m) (f : FN m m') : RD g s m' := by
  have v1 := hv.1
  have v2 := hv.2.1
  refine ⟨fun l h0 h1 => CL_s (h.1 l h0 h1) (fun _ _ _ _ => rfl) (fun _ _ _ => rfl) fun j _ _ => f _ j (by omega), fun k h0 h1 => ?_, CT_s h.2.2 rfl rfl rfl fun j _ _ => f _ j (by omega)⟩
  rw [f _ 9 (by omega), f _ 10 (by omega)]
  exact h.2.1 k h0 h1
def NQ (g m : zM) (l : Int) (d : Nat) : Prop := m (30 + 6 * l + 1) d = dysA g (d + 1) 130 l ∧ m (30 + 6 * l + 2) d = dysA g (d + 1) 134 l ∧ m (30 + 6 * l + 3) d = dysA g (d + 1) 132 l ∧ m (30 + 6 * l + 4) d = dysA g (d + 1) 135 l
def NC (g m : zM) (n : Nat) : Prop := ∀ (l : Int) (d : Nat), 0 ≤ l → l < g 88 12 → d < n → NQ g m l d
/-- all that the class's run may write -/
def FR (m m' : zM) : Prop := ∀ x j, ¬ ((30 ≤ x ∧ x ≤ 64 ∧ (x - 30) % 6 = 0 ∧ 6 ≤ j ∧ j ≤ 15) ∨ (30 ≤ x ∧ x ≤ 64 ∧ 1 ≤ (x - 30) % 6 ∧ (x - 30) % 6 ≤ 4) ∨ (3 ≤ x ∧ x ≤ 25 ∧ x % 2 = 1 ∧ 8 ≤ j ∧ j ≤ 10) ∨ (x = 65 ∧ 6 ≤ j ∧ j ≤ 10)) → m' x j = m x j
theorem FR_r {m : zM} : FR m m := fun _ _ _ => rfl
theorem FR_t {m m' m'' : zM} (a : FR m m') (b : FR m' m'') : FR m m'' := fun x j h => (b x j h).trans (a x j h)
theorem FR_c {m m' : zM} (a : FC m m') : FR m m' := fun x j h => a x j (by omega)
theorem FR_n {m m' : zM} (a : FN m m') : FR m m' := fun x j h => a x j (by omega)
section L2
variable {Ω : zΩ} {Q : List zV → zM → Prop} {g : zM}
theorem s_keepC_19 {n : Nat} (hv : vG g) (hn : n ≤ 99) : ∀ (r : Nat) (i : Int) (m : zM), i + r = g 88 12 → 0 ≤ i → IC g m → RD g (dysA g (n + 1)) m → NC g m n → (∀ l, 0 ≤ l → l < i → NQ g m l n) → (∀ m', FN m m' → NC g m' (n + 1) → zG Ω 54 6 [zR 5 65, zI ((n : Int) + 1), zU] [] m' Q) → zG Ω 54 19 [zR 5 65, zI n, zI i] [] m Q := by
  have v2 := hv.2.1
  intro r
  induction r with
  | zero =>
    intro i m hi0 h0 hi hr hN hl K
    have e4 := hi.1.2
    refine w_X5_keepRecord_19 (zif (fun h => absurd h (by omega)) fun _ => ?_)
    rw [zw_i (by omega) (by omega)]
    refine K m (fun _ _ _ => rfl) fun l d a b c => ?_
    by_cases e : d = n
    · subst e; exact hl l a (by omega)
    · exact hN l d a b (by omega)
  | succ r ih =>
    intro i m hi0 h0 hi hr hN hl K
    have e4 := hi.1.2
    have cl := hr.1 i (by omega) (by omega)
    refine w_X5_keepRecord_19 (zif (fun _ => zin_of (by omega) (by omega) ?_) fun h => absurd (show i < m 65 4 by omega) h)
    have bl := (dysA_BA hv (n + 1) (by omega)).1 i (by omega) (by omega)
    have v7 := hv.2.2.2.2.2.2 i (by omega) (by omega)
    unfold LB at bl
    refine w_X2_keepNight_0 (zif (fun h => absurd h (by omega)) fun _ => zif (fun _ => ⟨by rw [cl.1]; omega, ?_⟩) fun h => absurd (show (n : Int) < 100 by omega) h)
    iterate 4 refine zin_of (by omega) (by omega) ?_
    simp (disch := omega) only [zup_c]
    rw [cl.1, cl.2.1, cl.2.2.1, cl.2.2.2.1, zs_n]
    show zG Ω 54 19 _ _ _ _
    rw [zw_i (x := i + 1) (by omega) (by omega)]
    have f1 : FN m (zup (zup (zup (zup m (30 + 6 * i + 1) n (dysA g (n + 1) 130 i)) (30 + 6 * i + 2) n (dysA g (n + 1) 134 i)) (30 + 6 * i + 3) n (dysA g (n + 1) 132 i)) (30 + 6 * i + 4) n (dysA g (n + 1) 135 i)) := by
      intro x j h
      simp (disch := omega) only [zup_c]
    refine ih (i + 1) _ (by omega) (by omega) (IC_fn hv hi f1) (RD_fn hv hr f1) (fun l d a b c => ?_) (fun l a b => ?_) fun m' f' N' => K m' (fun x j h => (f' x j h).trans (f1 x j h)) N'
    · have := hN l d a b c
      unfold NQ at this ⊢
      simp (disch := omega) only [zup_j]
      exact this
    · by_cases e : l = i
      · subst e
        unfold NQ
        simp (disch := omega) only [zup_c, zup_e]
        exact ⟨trivial, trivial, trivial, trivial⟩
      · have := hl l a (by omega)
        unfold NQ at this ⊢
        simp (disch := omega) only [zup_c]
        exact this
theorem s_keepC_6 (hv : vG g) (hday : ∀ l, 0 ≤ l → l < g 88 12 → ¬ g 125 l = 0 → 0 ≤ g 129 l) : ∀ (r n : Nat) (m : zM), n + r = 100 → IC g m → RD g (dysA g n) m → NC g m n → (∀ m', FR m m' → IC g m' → RD g (dysA g 100) m' → NC g m' 100 → zG Ω 58 0 [zR 5 65, zU, zU] [] m' (fun r1 m1 => zk0 r1 (Q [] m1))) → zG Ω 54 6 [zR 5 65, zI n, zU] [] m Q := by
  have v2 := hv.2.1
  intro r
  induction r with
  | zero =>
    intro n m hn hi hr hN K
    have : n = 100 := by omega
    subst this
    exact w_X5_keepRecord_6 (zif (fun h => absurd h (by omega)) fun _ => K m FR_r hi hr hN)
  | succ r ih =>
    intro n m hn hi hr hN K
    refine w_X5_keepRecord_6 (zif (fun _ => ?_) fun h => absurd (show (n : Int) < 100 by omega) h)
    have gb : GB g (dysA g n) 100 := fun k k0 k1 => by
      have := dysA_GB hv n (by omega) k k0 k1
      omega
    refine s_dayC (s := dysA g n) (c := 6 * n) hv hday (by omega) (by omega) (dysA_BA hv n (by omega)) gb (dysA_AI hv n (by omega)) hi hr fun m1 f1 r1 => ?_
    have i1 := IC_f hv hi f1
    have n1 : NC g m1 n := fun l d a b c => by
      have := hN l d a b c
      unfold NQ at this ⊢
      rw [f1 _ _ (by omega), f1 _ _ (by omega), f1 _ _ (by omega), f1 _ _ (by omega)]
      exact this
    show zG Ω 54 19 _ _ _ _
    refine s_keepC_19 (n := n) hv (by omega) (g 88 12).toNat 0 m1 (by omega) (by omega) i1 r1 n1 (fun l a b => absurd a (by omega)) fun m2 f2 n2 => ?_
    exact ih (n + 1) m2 (by omega) (IC_fn hv i1 f2) (RD_fn hv r1 f2) n2 fun m' f' a b c => K m' (FR_t (FR_c f1) (FR_t (FR_n f2) f')) a b c
theorem s_forgetC {N : Int} (hN : N ≤ 12) : ∀ (r : Nat) (i : Int) (m : zM), m 1 1 = N → i + r = N → 0 ≤ i → (∀ k, 0 ≤ k → k < i → m (3 + 2 * k) 9 = 0 ∧ m (3 + 2 * k) 10 = 0) → (∀ m', (∀ x j, ¬ (3 ≤ x ∧ x ≤ 25 ∧ x % 2 = 1 ∧ 8 ≤ j ∧ j ≤ 10) → m' x j = m x j) → (∀ k, 0 ≤ k → k < N → m' (3 + 2 * k) 9 = 0 ∧ m' (3 + 2 * k) 10 = 0) → Q [] m') → zG Ω 49 2 [zR 4 1, zI i] [] m Q := by
  intro r
  induction r with
  | zero =>
    intro i m h1 hi h0 hA K
    exact w_X4_forgetGiven_2 (zif (fun h => absurd h (by omega)) fun _ => K m (fun _ _ _ => rfl) fun k a b => hA k a (by omega))
  | succ r ih =>
    intro i m h1 hi h0 hA K
    refine w_X4_forgetGiven_2 (zif (fun _ => zin_of (by omega) (by omega) (w_X7_forgetGiven_0 ?_)) fun h => absurd (show i < m 1 1 by omega) h)
    show zG Ω 49 2 _ _ _ _
    rw [zw_i (by omega) (by omega)]
    refine ih (i + 1) _ (by simp (disch := omega) only [zup_c]; exact h1) (by omega) (by omega) (fun k a b => ?_) fun m' o' R' => K m' (fun x j h => (o' x j h).trans ?_) R'
    · by_cases e : k = i
      · subst e
        simp (disch := omega) only [zup_j, zup_e]
        exact ⟨trivial, trivial⟩
      · simp (disch := omega) only [zup_c]; exact hA k a (by omega)
    · have u : ∀ (f : zM) (y v : Int), 8 ≤ y → y ≤ 10 → zup f (3 + 2 * i) y v x j = f x j := fun f y v y0 y1 => by
        unfold zup
        rw [if_neg (by rintro ⟨rfl, rfl⟩; omega)]
      rw [u _ 10 _ (by decide) (by decide), u _ 9 _ (by decide) (by decide), u _ 8 _ (by decide) (by decide)]
theorem sumA_0 {f : Int → Int} (h : ∀ j, f j = 0) : ∀ n : Nat, sumA f n = 0 := by
  intro n
  induction n with
  | zero => rfl
  | succ n ih => unfold sumA; rw [ih, h]; rfl
theorem s_beginC_34 (hv : vG g) (hday : ∀ l, 0 ≤ l → l < g 88 12 → ¬ g 125 l = 0 → 0 ≤ g 129 l) : ∀ (r i : Nat) (m : zM), ((i + r : Nat) : Int) = g 88 12 → IC g m → (∀ l : Int, 0 ≤ l → l < (i : Int) → CL (s0A g) m l) → m 65 6 = sumA (uwA g (s0A g)) i → (∀ m', (∀ x j, ¬ ((30 ≤ x ∧ x ≤ 60 ∧ (x - 30) % 6 = 0 ∧ 6 ≤ j ∧ j ≤ 15) ∨ (x = 65 ∧ j = 6)) → m' x j = m x j) → (∀ l, 0 ≤ l → l < g 88 12 → CL (s0A g) m' l) → m' 65 6 = sumA (uwA g (s0A g)) (g 88 12).toNat → Q [] m') → zG Ω 57 34 [zR 5 65, zI i] [] m Q := by
  have v2 := hv.2.1
  intro r
  induction r with
  | zero =>
    intro i m hn hi hA hu K
    have e4 := hi.1.2
    refine w_X5_begin_34 (zif (fun h => absurd h (by omega)) fun _ => K m (fun _ _ _ => rfl) (fun l a b => hA l a (by omega)) ?_)
    rw [show (g 88 12).toNat = i by omega]
    exact hu
  | succ r ih =>
    intro i m hn hi hA hu K
    have e4 := hi.1.2
    have il := hi.2.2.2 i (by omega) (by omega)
    have hd := hday i (by omega) (by omega)
    have v7 := hv.2.2.2.2.2.2 i (by omega) (by omega)
    refine w_X5_begin_34 (zif (fun _ => zin_of (by omega) (by omega) (w_X2_begin_0 ⟨by rw [il.1.1]; omega, ?_⟩)) fun h => absurd (show (i : Int) < m 65 4 by omega) h)
    show zin (i : Int) 6 _
    refine zin_of (by omega) (by omega) ?_
    rw [il.1.1, zs_n, zw_i (x := (i : Int) + 1) (by omega) (by omega)]
    generalize hm1 : zup (zup (zup (zup (zup (zup (zup (zup (zup (zup m (30 + 6 * (i : Int)) 6 (g 97 i)) (30 + 6 * (i : Int)) 7 0) (30 + 6 * (i : Int)) 8 0) (30 + 6 * (i : Int)) 9 0) (30 + 6 * (i : Int)) 10 0) (30 + 6 * (i : Int)) 11 0) (30 + 6 * (i : Int)) 12 (-1)) (30 + 6 * (i : Int)) 13 0) (30 + 6 * (i : Int)) 14 0) (30 + 6 * (i : Int)) 15 0 = m1
    have o1 : ∀ x j, ¬ (x = 30 + 6 * (i : Int) ∧ 6 ≤ j ∧ j ≤ 15) → m1 x j = m x j := by
      intro x j h
      rw [← hm1]
      have u : ∀ (f : zM) (y v : Int), 6 ≤ y → y ≤ 15 → zup f (30 + 6 * (i : Int)) y v x j = f x j := fun f y v y0 y1 => by
        unfold zup
        rw [if_neg (by rintro ⟨rfl, rfl⟩; omega)]
      rw [u _ 15 _ (by decide) (by decide), u _ 14 _ (by decide) (by decide), u _ 13 _ (by decide) (by decide), u _ 12 _ (by decide) (by decide), u _ 11 _ (by decide) (by decide), u _ 10 _ (by decide) (by decide), u _ 9 _ (by decide) (by decide), u _ 8 _ (by decide) (by decide), u _ 7 _ (by decide) (by decide), u _ 6 _ (by decide) (by decide)]
    have c1 : CL (s0A g) m1 i := by
      unfold CL
      rw [← hm1]
      simp (disch := omega) only [zup_j, zup_e]
      refine ⟨by simp [s0A], by simp [s0A], by simp [s0A], by simp [s0A], by simp [s0A], by simp [s0A], by simp [s0A], fun k k0 k1 => ?_⟩
      rw [zmask_0 k0 k1]
      simp [s0A]
    have f1 : FC m m1 := fun x j h => o1 x j (by omega)
    have i1 := IC_f hv hi f1
    have hu1 : m1 65 6 = sumA (uwA g (s0A g)) i := by rw [o1 _ _ (by omega)]; exact hu
    have hs : sumA (uwA g (s0A g)) (i + 1) = sumA (uwA g (s0A g)) i + (if ¬ g 125 (i : Int) = 0 then 1 else 0) := by
      show _ + uwA g (s0A g) i = _
      unfold uwA
      simp [s0A]
    have A1 : ∀ l, 0 ≤ l → l < ((i + 1 : Nat) : Int) → CL (s0A g) m1 l := by
      intro l a b
      by_cases e : l = i
      · rw [e]; exact c1
      · exact CL_s (hA l a (by omega)) (fun _ _ _ _ => rfl) (fun _ _ _ => rfl) fun j _ _ => o1 _ j (by omega)
    have sb := sumA_b (f := uwA g (s0A g)) (A := 0) (B := 1) i fun j a b => by unfold uwA; split <;> omega
    rw [o1 _ 5 (by omega), il.2.1, hu1, zw_i (x := sumA (uwA g (s0A g)) i + 1) (by omega) (by omega)]
    by_cases q : g 125 (i : Int) = 0
    · rw [if_pos q, if_pos rfl]
      rw [if_neg (fun z => z q), Int.add_zero] at hs
      refine ih (i + 1) m1 (by omega) i1 A1 (by rw [hs]; exact hu1) fun m' o' => K m' fun x j h => (o' x j h).trans (o1 x j (by omega))
    · rw [if_neg q, if_neg (by have := hd q; omega)]
      rw [if_pos q] at hs
      refine ih (i + 1) _ (by omega) (IC_f hv i1 (FC_u FC_r (by omega))) (fun l a b => CL_s (A1 l a b) (fun _ _ _ _ => rfl) (fun _ _ _ => rfl) fun j _ _ => zup_c (by omega)) (by rw [hs, zup_e rfl rfl]) fun m' o' => K m' fun x j h => (o' x j h).trans ?_
      unfold zup
      rw [if_neg (by rintro ⟨rfl, rfl⟩; omega)]
      exact o1 x j (by omega)
theorem s_beginC {m : zM} (hv : vG g) (hday : ∀ l, 0 ≤ l → l < g 88 12 → ¬ g 125 l = 0 → 0 ≤ g 129 l) (hi : IC g m) (K : ∀ m', FC m m' → RD g (s0A g) m' → Q [] m') : zG Ω 57 0 [zR 5 65, zU] [] m Q := by
  have v1 := hv.1
  have v2 := hv.2.1
  generalize hm0 : zup (zup (zup (zup (zup m 65 7 0) 65 8 0) 65 9 0) 65 10 (-1)) 65 6 0 = m0
  have f0 : FC m m0 := by
    rw [← hm0]
    exact FC_u (FC_u (FC_u (FC_u (FC_u FC_r (by omega)) (by omega)) (by omega)) (by omega)) (by omega)
  have i0 := IC_f hv hi f0
  refine w_X5_begin_0 ?_
  rw [hm0]
  refine w_X4_forgetGiven_0 (s_forgetC (N := g 88 4) (by omega) (g 88 4).toNat 0 m0 i0.1.1 (by omega) (by omega) (fun k a b => absurd a (by omega)) fun m1 o1 z1 => ?_)
  have f1 : FC m0 m1 := fun x j h => o1 x j (by omega)
  have e1 : ∀ j, m1 65 j = m0 65 j := fun j => o1 _ _ (by omega)
  show zG Ω 57 34 _ _ _ _
  have e6 : m1 65 6 = 0 := by rw [e1, ← hm0]; exact zup_e rfl rfl
  refine s_beginC_34 hv hday (g 88 12).toNat 0 m1 (by omega) (IC_f hv i0 f1) (fun l a b => absurd a (by omega)) e6 fun m2 o2 c2 u2 => ?_
  refine K m2 (FC_t f0 (FC_t f1 fun x j h => o2 x j (by omega))) ⟨c2, fun k h0 h1 => ?_, ?_⟩
  · have := z1 k (by omega) h1
    rw [o2 _ 9 (by omega), o2 _ 10 (by omega), this.1, this.2]
    simp [s0A]
  · unfold CT
    rw [u2, o2 65 7 (by omega), o2 65 8 (by omega), o2 65 9 (by omega), o2 65 10 (by omega), e1, e1, e1, e1, ← hm0]
    simp (disch := omega) only [zup_j, zup_e]
    rw [sumA_0 (f := s0A g 134) (fun j => by simp [s0A]), sumA_0 (f := s0A g 135) (fun j => by simp [s0A]), sumA_0 (f := arA (s0A g)) (fun j => by simp [s0A])]
    have := maxA_le (f := s0A g 137) (d := -1) (by omega) (g 88 12).toNat fun j _ _ => by simp [s0A]
    refine ⟨rfl, rfl, rfl, ?_, trivial⟩
    omega
end L2
