/-- nights as they are kept by the reference -/
def NL (g m : zM) (l : Int) (d : Nat) : Prop := m 142 (500 * l + 5 * d) = dysA g (d + 1) 130 l ∧ m 142 (500 * l + 5 * d + 1) = phA g (dysA g (d + 1)) l ∧ m 142 (500 * l + 5 * d + 2) = dysA g (d + 1) 134 l ∧ m 142 (500 * l + 5 * d + 3) = dysA g (d + 1) 132 l ∧ m 142 (500 * l + 5 * d + 4) = dysA g (d + 1) 135 l
def NM (g m : zM) (n : Nat) : Prop := ∀ (l : Int) (d : Nat), 0 ≤ l → l < g 88 12 → d < n → NL g m l d
def RG (g s m : zM) : Prop := ∀ k, 1 ≤ k → k < g 88 4 → m 140 k = s 140 k ∧ m 141 k = s 141 k
/-- nothing but these rows has changed -/
def OM (a b : Int) (m m' : zM) : Prop := ∀ x j, ¬ (a ≤ x ∧ x ≤ b) → m' x j = m x j
def FM2 (m m' : zM) : Prop := ∀ x j, ¬ ((130 ≤ x ∧ x ≤ 142) ∨ (x = 88 ∧ 76 ≤ j ∧ j ≤ 77)) → m' x j = m x j
theorem FM_2 {m m' : zM} (h : FM m m') : FM2 m m' := fun x j q => h x j (by omega)
theorem FM2_r {m : zM} : FM2 m m := fun _ _ _ => rfl
theorem FM2_t {m m' m'' : zM} (a : FM2 m m') (b : FM2 m' m'') : FM2 m m'' := fun x j h => (b x j h).trans (a x j h)
theorem OM_FM2 {a b : Int} {m m' : zM} (h : OM a b m m') (ha : 130 ≤ a) (hb : b ≤ 142) : FM2 m m' := fun x j q => h x j (by omega)
theorem IM_f2 {g m m' : zM} (h : IM g m) (f : FM2 m m') : IM g m' := by
  refine ⟨fun x j hx => (f x j (by omega)).trans (h.1 x j hx), fun l h0 h1 => ?_⟩
  have := h.2 l h0 h1
  rw [f 125 l (by omega), f 126 l (by omega), f 127 l (by omega), f 128 l (by omega), f 129 l (by omega)]
  exact this
def RX (g s m : zM) : Prop := (∀ l, 0 ≤ l → l < g 88 12 → RLm s m l) ∧ (∀ l k, 0 ≤ l → l < g 88 12 → 0 ≤ k → k < 12 → m 133 (12 * l + k) = s 133 (12 * l + k))
theorem RX_eq {g s s' m m' : zM} (h : RX g s m) (e : ∀ x j, 130 ≤ x → x ≤ 138 → ¬ x = 131 → m' x j = m x j) (e' : ∀ x j, 130 ≤ x → x ≤ 138 → ¬ x = 131 → s' x j = s x j) : RX g s' m' := by
  refine ⟨fun l h0 h1 => ?_, fun l k h0 h1 h2 h3 => ?_⟩
  · have := h.1 l h0 h1
    unfold RLm at this ⊢
    rw [e 130 l (by decide) (by decide) (by decide), e 132 l (by decide) (by decide) (by decide), e 134 l (by decide) (by decide) (by decide), e 135 l (by decide) (by decide) (by decide), e 136 l (by decide) (by decide) (by decide), e 137 l (by decide) (by decide) (by decide), e 138 l (by decide) (by decide) (by decide)]
    rw [e' 130 l (by decide) (by decide) (by decide), e' 132 l (by decide) (by decide) (by decide), e' 134 l (by decide) (by decide) (by decide), e' 135 l (by decide) (by decide) (by decide), e' 136 l (by decide) (by decide) (by decide), e' 137 l (by decide) (by decide) (by decide), e' 138 l (by decide) (by decide) (by decide)]
    exact this
  · rw [e 133 _ (by decide) (by decide) (by decide), e' 133 _ (by decide) (by decide) (by decide)]; exact h.2 l k h0 h1 h2 h3
theorem RM_eq {g s m m' : zM} (h : RM g s m) (e : ∀ x j, 130 ≤ x → x ≤ 139 → ¬ x = 131 → m' x j = m x j) : RM g s m' := by
  refine ⟨fun l h0 h1 => ?_, fun l k h0 h1 h2 h3 => ?_, fun k h0 h1 => ?_⟩
  · have := h.1 l h0 h1
    unfold RLm at this ⊢
    rw [e 130 l (by decide) (by decide) (by decide), e 132 l (by decide) (by decide) (by decide), e 134 l (by decide) (by decide) (by decide), e 135 l (by decide) (by decide) (by decide), e 136 l (by decide) (by decide) (by decide), e 137 l (by decide) (by decide) (by decide), e 138 l (by decide) (by decide) (by decide)]
    exact this
  · rw [e 133 _ (by decide) (by decide) (by decide)]; exact h.2.1 l k h0 h1 h2 h3
  · rw [e 139 _ (by decide) (by decide) (by decide)]; exact h.2.2 k h0 h1
theorem PM_eq {g s m m' : zM} (h : PM g s m) (e : ∀ j, m' 131 j = m 131 j) : PM g s m' := fun l h0 h1 => (e l).trans (h l h0 h1)
theorem RG_eq {g s m m' : zM} (h : RG g s m) (e : ∀ x j, 140 ≤ x → x ≤ 141 → m' x j = m x j) : RG g s m' := fun k h0 h1 => by
  rw [e 140 k (by decide) (by decide), e 141 k (by decide) (by decide)]; exact h k h0 h1
theorem NM_eq {g m m' : zM} {n : Nat} (h : NM g m n) (e : ∀ j, m' 142 j = m 142 j) : NM g m' n := fun l d h0 h1 h2 => by
  have := h l d h0 h1 h2
  unfold NL at this ⊢
  rw [e, e, e, e, e]; exact this
section L2
variable {Ω : zΩ} {Q : List zV → zM → Prop} {g : zM}
theorem s_run_2 (hv : vG g) : ∀ (r : Nat) (i : Int) (m : zM), i + r = g 88 12 → 0 ≤ i → IM g m → (∀ l, 0 ≤ l → l < i → RLm (s0A g) m l ∧ m 131 l = 0) → (∀ m', OM 130 138 m m' → (∀ j, m' 133 j = m 133 j) → (∀ l, 0 ≤ l → l < g 88 12 → RLm (s0A g) m' l ∧ m' 131 l = 0) → zG Ω 184 79 [zR 10 88, zI 0, zU, zU] [] m' Q) → zG Ω 184 2 [zR 10 88, zI i, zU, zU] [] m Q := by
  have v2 := hv.2.1
  intro r
  induction r with
  | zero =>
    intro i m hi0 h0 hi hR K
    have e12 := hi.1 88 12 (by omega)
    refine w_X10_runIt_2 (zif (fun h => absurd h (by omega)) fun _ => ?_)
    exact K m (fun _ _ _ => rfl) (fun _ => rfl) fun l a b => hR l a (by omega)
  | succ r ih =>
    intro i m hi0 h0 hi hR K
    have e12 := hi.1 88 12 (by omega)
    refine w_X10_runIt_2 (zif (fun _ => ?_) fun h => absurd (show i < m 88 12 by omega) h)
    iterate 9 refine zin_of (by omega) (by omega) ?_
    rw [zw_i (x := i + 1) (by omega) (by omega)]
    have o : OM 130 138 m (zup (zup (zup (zup (zup (zup (zup (zup m 130 i (m 97 i)) 131 i 0) 132 i 0) 134 i 0) 135 i 0) 136 i 0) 137 i (-1)) 138 i 0) := by
      intro x j h
      simp (disch := omega) only [zup_c]
    have o3 : ∀ j, (zup (zup (zup (zup (zup (zup (zup (zup m 130 i (m 97 i)) 131 i 0) 132 i 0) 134 i 0) 135 i 0) 136 i 0) 137 i (-1)) 138 i 0) 133 j = m 133 j := fun j => by simp [zup]
    refine ih (i + 1) _ (by omega) (by omega) (IM_f2 hi (OM_FM2 o (by decide) (by decide))) (fun l a b => ?_) fun m' o' e3 R' => K m' (fun x j h => (o' x j h).trans (o x j h)) (fun j => (e3 j).trans (o3 j)) R'
    by_cases e : l = i
    · subst e
      unfold RLm
      rw [hi.1 97 l (by omega)]
      simp [zup, s0A]
    · have := hR l a (by omega)
      unfold RLm at this ⊢
      simp [zup, e]
      exact this
theorem s_run_79 : ∀ (r : Nat) (i : Int) (m : zM), i + r = 72 → 0 ≤ i → (∀ j, 0 ≤ j → j < i → m 133 j = 0) → (∀ m', OM 133 133 m m' → (∀ j, 0 ≤ j → j < 72 → m' 133 j = 0) → zG Ω 184 100 [zR 10 88, zI 0, zU, zU] [] m' Q) → zG Ω 184 79 [zR 10 88, zI i, zU, zU] [] m Q := by
  intro r
  induction r with
  | zero =>
    intro i m hi0 h0 hR K
    refine w_X10_runIt_79 (zif (fun h => absurd h (by omega)) fun _ => ?_)
    exact K m (fun _ _ _ => rfl) fun l a b => hR l a (by omega)
  | succ r ih =>
    intro i m hi0 h0 hR K
    refine w_X10_runIt_79 (zif (fun _ => zin_of (by omega) (by omega) ?_) fun h => absurd (show i < 72 by omega) h)
    rw [zw_i (x := i + 1) (by omega) (by omega)]
    refine ih (i + 1) _ (by omega) (by omega) (fun j a b => ?_) fun m' o' R' => K m' (fun x j h => (o' x j h).trans (zup_c (by omega))) R'
    by_cases e : j = i
    · rw [zup_e rfl e]
    · rw [zup_j e]; exact hR j a (by omega)
theorem s_run_100 : ∀ (r : Nat) (i : Int) (m : zM), i + r = 12 → 0 ≤ i → (∀ j, 0 ≤ j → j < i → m 140 j = 0 ∧ m 141 j = 0) → (∀ m', OM 140 141 m m' → (∀ j, 0 ≤ j → j < 12 → m' 140 j = 0 ∧ m' 141 j = 0) → zG Ω 184 128 [zR 10 88, zI 0, zU, zU] [] m' Q) → zG Ω 184 100 [zR 10 88, zI i, zU, zU] [] m Q := by
  intro r
  induction r with
  | zero =>
    intro i m hi0 h0 hR K
    refine w_X10_runIt_100 (zif (fun h => absurd h (by omega)) fun _ => ?_)
    exact K m (fun _ _ _ => rfl) fun l a b => hR l a (by omega)
  | succ r ih =>
    intro i m hi0 h0 hR K
    refine w_X10_runIt_100 (zif (fun _ => zin_of (by omega) (by omega) (zin_of (by omega) (by omega) ?_)) fun h => absurd (show i < 12 by omega) h)
    rw [zw_i (x := i + 1) (by omega) (by omega)]
    refine ih (i + 1) _ (by omega) (by omega) (fun j a b => ?_) fun m' o' R' => K m' (fun x j h => (o' x j h).trans (by simp (disch := omega) only [zup_c])) R'
    by_cases e : j = i
    · simp [zup, e]
    · simp [zup, e]; exact hR j a (by omega)
theorem s_run_136 {d : Int} (hv : vG g) : ∀ (r : Nat) (i : Int) (m : zM), i + r = g 88 4 → 0 ≤ i → IM g m → (∀ j, 0 ≤ j → j < i → m 139 j = g 93 j) → (∀ m', OM 139 139 m m' → (∀ j, 0 ≤ j → j < g 88 4 → m' 139 j = g 93 j) → zG Ω 184 164 [zR 10 88, zI d, zI 0, zU] [] m' Q) → zG Ω 184 136 [zR 10 88, zI d, zI i, zU] [] m Q := by
  have v1 := hv.1
  intro r
  induction r with
  | zero =>
    intro i m hi0 h0 hi hR K
    have e12 := hi.1 88 4 (by omega)
    refine w_X10_runIt_136 (zif (fun h => absurd h (by omega)) fun _ => ?_)
    exact K m (fun _ _ _ => rfl) fun l a b => hR l a (by omega)
  | succ r ih =>
    intro i m hi0 h0 hi hR K
    have e12 := hi.1 88 4 (by omega)
    refine w_X10_runIt_136 (zif (fun _ => zin_of (by omega) (by omega) (zin_of (by omega) (by omega) ?_)) fun h => absurd (show i < m 88 4 by omega) h)
    rw [zw_i (x := i + 1) (by omega) (by omega), hi.1 93 i (by omega)]
    refine ih (i + 1) _ (by omega) (by omega) (IM_f hi (FM_u FM_r (by omega))) (fun j a b => ?_) fun m' o' R' => K m' (fun x j h => (o' x j h).trans (zup_c (by omega))) R'
    by_cases e : j = i
    · rw [zup_e rfl e, e]
    · rw [zup_j e]; exact hR j a (by omega)
theorem s_run_164 {d c : Int} {s : zM} (hv : vG g) (hd : 0 ≤ d ∧ d ≤ 99) (hc : 0 ≤ c ∧ c ≤ 594) (hb : BA g s c c) : ∀ (r i : Nat) (m : zM), ((i + r : Nat) : Int) = g 88 12 → IM g m → RM g (lordsA g d i s) m → PM g (lordsA g d i s) m → (∀ m', FM m m' → RM g (lordsA g d (i + r) s) m' → PM g (lordsA g d (i + r) s) m' → zG Ω 184 222 [zR 10 88, zI d, zI 1, zU] [] m' Q) → zG Ω 184 164 [zR 10 88, zI d, zI i, zU] [] m Q := by
  have v2 := hv.2.1
  intro r
  induction r with
  | zero =>
    intro i m hn hi hr hp K
    have e12 := hi.1 88 12 (by omega)
    exact w_X10_runIt_164 (zif (fun h => absurd h (by omega)) fun _ => K m FM_r hr hp)
  | succ r ih =>
    intro i m hn hi hr hp K
    have e12 := hi.1 88 12 (by omega)
    have ii := hi.2 i (by omega) (by omega)
    have v7 := hv.2.2.2.2.2.2 i (by omega) (by omega)
    have hb' := lordsA_BA hv hd i s (by omega) hb
    have it := hi.2 (g 128 i) (by omega) (by omega)
    have pt := hp (g 128 i) (by omega) (by omega)
    have bt := hb'.1 (g 128 i) (by omega) (by omega)
    unfold LB at bt
    have skip : ¬ (¬ g 125 (g 128 (i : Int)) = 0 ∧ g 129 (g 128 (i : Int)) ≤ d ∧ ¬ lordsA g d i s 130 (g 128 (i : Int)) = 0) → zG Ω 184 164 [zR 10 88, zI d, zI ((i : Int) + 1), zU] [] m Q := by
      intro hn'
      have e : lordsA g d (i + 1) s = lordsA g d i s := by
        rw [lordsA, if_neg hn']
      have := ih (i + 1) m (by omega) hi (by rw [e]; exact hr) (by rw [e]; exact hp) fun m' f' r' p' => K m' f' (by rwa [show i + 1 + r = i + (r + 1) by omega] at r') (by rwa [show i + 1 + r = i + (r + 1) by omega] at p')
      exact this
    refine w_X10_runIt_164 (zif (fun _ => zin_of (by omega) (by omega) ?_) fun h => absurd (show (i : Int) < m 88 12 by omega) h)
    rw [ii.2.2.2.1, it.1, it.2.2.2.2, pt, zw_i (x := (i : Int) + 1) (by omega) (by omega)]
    refine zin_of (by omega) (by omega) (zif (fun h => skip fun q => q.1 h) fun h => zin_of (by omega) (by omega) (zif (fun h2 => skip fun q => by omega) fun h2 => zin_of (by omega) (by omega) (zif (fun h3 => ?_) fun h3 => skip fun q => h3 ?_)))
    · have n0 : ¬ lordsA g d i s 130 (g 128 (i : Int)) = 0 := fun z => by unfold phA at h3; rw [if_pos z] at h3; omega
      have e : lordsA g d (i + 1) s = askA g (lordsA g d i s) (g 128 (i : Int)) d := by
        rw [lordsA, if_pos ⟨h, by omega, n0⟩]
      refine s_asks (c := c + i) hv (by omega) hd (by omega) hb' hi hr hp (by omega) fun m1 f1 r1 p1 => ?_
      show zG Ω 184 164 [zR 10 88, zI d, zI ((i : Int) + 1), zU] [] m1 Q
      exact ih (i + 1) m1 (by omega) (IM_f hi f1) (by rw [e]; exact r1) (by rw [e]; exact p1) fun m' f' r' p' => K m' (FM_t f1 f') (by rwa [show i + 1 + r = i + (r + 1) by omega] at r') (by rwa [show i + 1 + r = i + (r + 1) by omega] at p')
    · unfold phA
      rw [if_neg q.2.2]
      split <;> omega
theorem s_run_222 {d n : Int} {t : zM} (hv : vG g) (hn : n ≤ 99) (hb : ∀ k, 0 ≤ k → k < g 88 4 → 0 ≤ t 139 k ∧ t 139 k ≤ g 93 k) (hG : GB g t n) : ∀ (r : Nat) (i : Int) (m : zM), i + r = g 88 4 → 1 ≤ i → IM g m → (∀ k, 0 ≤ k → k < g 88 4 → m 139 k = t 139 k) → (∀ k, 1 ≤ k → k < i → m 140 k = endA g t 140 k ∧ m 141 k = endA g t 141 k) → (∀ k, i ≤ k → k < g 88 4 → m 140 k = t 140 k ∧ m 141 k = t 141 k) → (∀ m', OM 140 141 m m' → RG g (endA g t) m' → zG Ω 184 288 [zR 10 88, zI d, zI 0, zU] [] m' Q) → zG Ω 184 222 [zR 10 88, zI d, zI i, zU] [] m Q := by
  have v1 := hv.1
  intro r
  induction r with
  | zero =>
    intro i m hi0 h0 hi hd hA hB K
    have e12 := hi.1 88 4 (by omega)
    refine w_X10_runIt_222 (zif (fun h => absurd h (by omega)) fun _ => ?_)
    exact K m (fun _ _ _ => rfl) fun l a b => hA l a (by omega)
  | succ r ih =>
    intro i m hi0 h0 hi hd hA hB K
    have e12 := hi.1 88 4 (by omega)
    have a1 := hB i (by omega) (by omega)
    have a2 := hd i (by omega) (by omega)
    have a3 := hG i (by omega) (by omega)
    have a4 := hb i (by omega) (by omega)
    have a5 := hv.2.2.2.1 i (by omega) (by omega)
    have next : ∀ v, v = endA g t 141 i → zG Ω 184 222 [zR 10 88, zI d, zI (i + 1), zU] [] (zup (zup m 140 i (t 140 i + (g 93 i - t 139 i))) 141 i v) Q := by
      intro v hv'
      refine ih (i + 1) _ (by omega) (by omega) (IM_f2 hi ?_) (fun k b1 b2 => ?_) (fun k b1 b2 => ?_) (fun k b1 b2 => ?_) fun m' o' R' => K m' (fun x j h => (o' x j h).trans (by simp (disch := omega) only [zup_c])) R'
      · intro x j h
        simp (disch := omega) only [zup_c]
      · have := hd k b1 b2
        simp [zup]; exact this
      · by_cases e : k = i
        · subst e
          rw [← hv']
          simp [zup, endA]
        · simp [zup, e]; exact hA k b1 (by omega)
      · have := hB k (by omega) b2
        simp (disch := omega) only [zup_j]
        exact this
    refine w_X10_runIt_222 (zif (fun _ => ?_) fun h => absurd (show i < m 88 4 by omega) h)
    iterate 5 refine zin_of (by omega) (by omega) ?_
    rw [zw_i (x := i + 1) (by omega) (by omega), hi.1 93 i (by omega), a1.1, a1.2, a2, zw_i (x := g 93 i - t 139 i) (by omega) (by omega), zw_i (x := t 140 i + (g 93 i - t 139 i)) (by omega) (by omega)]
    refine zif (fun h => zin_of (by omega) (by omega) (next _ ?_)) fun h => zin_of (by omega) (by omega) (zin_of (by omega) (by omega) (next _ ?_))
    · simp [endA, h]
    · simp [endA, h]
theorem s_run_288 {n : Nat} (hv : vG g) (hn : n ≤ 99) : ∀ (r : Nat) (i : Int) (m : zM), i + r = g 88 12 → 0 ≤ i → IM g m → RX g (dysA g (n + 1)) m → PM g (dysA g (n + 1)) m → NM g m n → (∀ l, 0 ≤ l → l < i → NL g m l n) → (∀ m', OM 142 142 m m' → NM g m' (n + 1) → zG Ω 184 128 [zR 10 88, zI ((n : Int) + 1), zU, zU] [] m' Q) → zG Ω 184 288 [zR 10 88, zI n, zI i, zU] [] m Q := by
  have v2 := hv.2.1
  intro r
  induction r with
  | zero =>
    intro i m hi0 h0 hi hx hp hN hl K
    have e12 := hi.1 88 12 (by omega)
    refine w_X10_runIt_288 (zif (fun h => absurd h (by omega)) fun _ => ?_)
    rw [zw_i (by omega) (by omega)]
    refine K m (fun _ _ _ => rfl) fun l d a b c => ?_
    by_cases e : d = n
    · subst e; exact hl l a (by omega)
    · exact hN l d a b (by omega)
  | succ r ih =>
    intro i m hi0 h0 hi hx hp hN hl K
    have e12 := hi.1 88 12 (by omega)
    have rl := hx.1 i (by omega) (by omega)
    unfold RLm at rl
    have pl := hp i (by omega) (by omega)
    refine w_X10_runIt_288 (zif (fun _ => ?_) fun h => absurd (show i < m 88 12 by omega) h)
    have w0 : zw (zw (500 * i) + zw (5 * (n : Int))) = 500 * i + 5 * n := by
      rw [zw_i (x := 500 * i) (by omega) (by omega), zw_i (x := 5 * (n : Int)) (by omega) (by omega), zw_i (by omega) (by omega)]
    rw [w0, zw_i (x := 500 * i + 5 * n + 1) (by omega) (by omega), zw_i (x := 500 * i + 5 * n + 2) (by omega) (by omega), zw_i (x := 500 * i + 5 * n + 3) (by omega) (by omega), zw_i (x := 500 * i + 5 * n + 4) (by omega) (by omega), zw_i (x := i + 1) (by omega) (by omega)]
    iterate 10 refine zin_of (by omega) (by omega) ?_
    have o : OM 142 142 m (zup (zup (zup (zup (zup m 142 (500 * i + 5 * n) (m 130 i)) 142 (500 * i + 5 * n + 1) (m 131 i)) 142 (500 * i + 5 * n + 2) (m 134 i)) 142 (500 * i + 5 * n + 3) (m 132 i)) 142 (500 * i + 5 * n + 4) (m 135 i)) := by
      intro x j h
      simp (disch := omega) only [zup_c]
    refine ih (i + 1) _ (by omega) (by omega) (IM_f2 hi (OM_FM2 o (by decide) (by decide))) (RX_eq hx (fun x j a b _ => o x j (by omega)) fun _ _ _ _ _ => rfl) (PM_eq hp fun j => o 131 j (by omega)) (fun l d a b c => ?_) (fun l a b => ?_) fun m' o' N' => K m' (fun x j h => (o' x j h).trans (o x j h)) N'
    · have := hN l d a b c
      unfold NL at this ⊢
      simp (disch := omega) only [zup_j]
      exact this
    · by_cases e : l = i
      · subst e
        unfold NL
        simp (disch := omega) only [zup_j, zup_e]
        exact ⟨rl.1, pl, rl.2.2.1, rl.2.1, rl.2.2.2.1⟩
      · have := hl l a (by omega)
        unfold NL at this ⊢
        simp (disch := omega) only [zup_j]
        exact this
theorem s_run_128 (hv : vG g) : ∀ (r n : Nat) (m : zM), n + r = 100 → IM g m → RX g (dysA g n) m → PM g (dysA g n) m → RG g (dysA g n) m → NM g m n → (∀ m', FM2 m m' → RX g (dysA g 100) m' → PM g (dysA g 100) m' → RG g (dysA g 100) m' → NM g m' 100 → Q [] m') → zG Ω 184 128 [zR 10 88, zI n, zU, zU] [] m Q := by
  have v1 := hv.1
  have v2 := hv.2.1
  intro r
  induction r with
  | zero =>
    intro n m hn hi hx hp hg hN K
    have : n = 100 := by omega
    subst this
    exact w_X10_runIt_128 (zif (fun h => absurd h (by omega)) fun _ => K m FM2_r hx hp hg hN)
  | succ r ih =>
    intro n m hn hi hx hp hg hN K
    refine w_X10_runIt_128 (zif (fun _ => ?_) fun h => absurd (show (n : Int) < 100 by omega) h)
    refine s_run_136 hv (g 88 4).toNat 0 m (by omega) (by omega) hi (fun j a b => absurd a (by omega)) fun m1 o1 d1 => ?_
    have f1 := OM_FM2 o1 (by decide) (by decide)
    have i1 := IM_f2 hi f1
    have bb : BA g (dutA g (dysA g n)) (6 * n) (6 * n) := by
      have hb := dysA_BA hv n (by omega)
      refine ⟨fun l h0 h1 => ?_, fun k h0 h1 => ?_⟩
      · have := hb.1 l h0 h1
        unfold LB at this ⊢
        simp [dutA]
        omega
      · have := hv.2.2.2.1 k h0 h1
        simp [dutA]
        omega
    have x1 : RX g (dutA g (dysA g n)) m1 := RX_eq hx (fun x j a b _ => o1 x j (by omega)) fun x j a b _ => by unfold dutA; rw [if_neg (by omega)]
    have r1 : RM g (dutA g (dysA g n)) m1 := ⟨x1.1, x1.2, fun k a b => by rw [d1 k a b]; simp [dutA]⟩
    have p1 : PM g (dutA g (dysA g n)) m1 := by
      intro l a b
      rw [o1 131 l (by omega), hp l a b]
      simp [phA, dutA]
    refine s_run_164 (c := 6 * n) (s := dutA g (dysA g n)) hv (by omega) (by omega) bb (g 88 12).toNat 0 m1 (by omega) i1 r1 p1 fun m2 f2 r2 p2 => ?_
    rw [Nat.zero_add] at r2 p2
    have b2 := lordsA_BA hv (d := n) (by omega) (g 88 12).toNat _ (by omega) bb
    have i2 := IM_f i1 f2
    have g2 : ∀ k, 1 ≤ k → k < g 88 4 → m2 140 k = lordsA g n (g 88 12).toNat (dutA g (dysA g n)) 140 k ∧ m2 141 k = lordsA g n (g 88 12).toNat (dutA g (dysA g n)) 141 k := by
      intro k a b
      rw [f2 140 k (by omega), f2 141 k (by omega), o1 140 k (by omega), o1 141 k (by omega), lordsA_x (by omega), lordsA_x (by omega)]
      have := hg k a b
      simp [dutA]
      exact this
    have gb : GB g (lordsA g n (g 88 12).toNat (dutA g (dysA g n))) n := by
      intro k a b
      have := dysA_GB hv n (by omega) k a b
      rw [lordsA_x (by omega), lordsA_x (by omega)]
      simp [dutA]
      exact this
    have ed : dysA g (n + 1) = endA g (lordsA g n (g 88 12).toNat (dutA g (dysA g n))) := rfl
    generalize lordsA g n (g 88 12).toNat (dutA g (dysA g n)) = t at *
    refine s_run_222 (n := n) (t := t) hv (by omega) b2.2 gb (g 88 4 - 1).toNat 1 m2 (by omega) (by omega) i2 r2.2.2 (fun k a b => absurd a (by omega)) g2 fun m3 o3 g3 => ?_
    rw [← ed] at g3
    have x3 : RX g (dysA g (n + 1)) m3 := RX_eq ⟨r2.1, r2.2.1⟩ (fun x j a b _ => o3 x j (by omega)) fun x j a b _ => by rw [ed]; unfold endA; rw [if_neg (by omega), if_neg (by omega)]
    have p3 : PM g (dysA g (n + 1)) m3 := by
      intro l a b
      rw [o3 131 l (by omega), p2 l a b, ed]
      simp [phA, endA]
    have F3 : FM2 m m3 := FM2_t f1 (FM2_t (FM_2 f2) (OM_FM2 o3 (by decide) (by decide)))
    have N3 : NM g m3 n := NM_eq hN fun j => by rw [o3 142 j (by omega), f2 142 j (by omega), o1 142 j (by omega)]
    refine s_run_288 (n := n) hv (by omega) (g 88 12).toNat 0 m3 (by omega) (by omega) (IM_f2 hi F3) x3 p3 N3 (fun l a b => absurd a (by omega)) fun m4 o4 N4 => ?_
    have F4 := OM_FM2 o4 (by decide) (by decide)
    exact ih (n + 1) m4 (by omega) (IM_f2 (IM_f2 hi F3) F4) (RX_eq x3 (fun x j a b _ => o4 x j (by omega)) fun _ _ _ _ _ => rfl) (PM_eq p3 fun j => o4 131 j (by omega)) (RG_eq g3 fun x j a b => o4 x j (by omega)) N4 fun m' f' a b c d => K m' (FM2_t F3 (FM2_t F4 f')) a b c d
/-- the reference's run -/
theorem s_runIt {m : zM} (hv : vG g) (hi : IM g m) (K : ∀ m', FM2 m m' → RX g (dysA g 100) m' → PM g (dysA g 100) m' → RG g (dysA g 100) m' → NM g m' 100 → Q [] m') : zG Ω 184 0 [zR 10 88, zU, zU, zU] [] m Q := by
  have v1 := hv.1
  have v2 := hv.2.1
  refine w_X10_runIt_0 (s_run_2 hv (g 88 12).toNat 0 m (by omega) (by omega) hi (fun l a b => absurd a (by omega)) fun m1 o1 e1 R1 => s_run_79 72 0 m1 (by omega) (by omega) (fun l a b => absurd a (by omega)) fun m2 o2 R2 => s_run_100 12 0 m2 (by omega) (by omega) (fun l a b => absurd a (by omega)) fun m3 o3 R3 => ?_)
  have F : FM2 m m3 := FM2_t (OM_FM2 o1 (by decide) (by decide)) (FM2_t (OM_FM2 o2 (by decide) (by decide)) (OM_FM2 o3 (by decide) (by decide)))
  refine s_run_128 hv 100 0 m3 (by omega) (IM_f2 hi F) ⟨fun l a b => ?_, fun l k a b c d => ?_⟩ (fun l a b => ?_) (fun k a b => ?_) (fun l d _ _ h => absurd h (by omega)) fun m' f' => K m' (FM2_t F f')
  · have := (R1 l a b).1
    unfold RLm at this ⊢
    simp (disch := omega) only [o3 _ _, o2 _ _]
    exact this
  · rw [o3 133 _ (by omega), R2 _ (by omega) (by omega)]
    simp [dysA, s0A]
  · have := (R1 l a b).2
    have v := hv.2.2.2.2.2.2 l a b
    rw [o3 131 l (by omega), o2 131 l (by omega), this]
    simp [phA, dysA, s0A]
    omega
  · rw [(R3 k (by omega) (by omega)).1, (R3 k (by omega) (by omega)).2]
    simp [dysA, s0A]
end L2
