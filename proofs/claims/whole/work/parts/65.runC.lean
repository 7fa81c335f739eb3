/-! the class's run does as the numbers do -/
def sumA (f : Int → Int) : Nat → Int
  | 0 => 0
  | n + 1 => sumA f n + f n
def maxA (f : Int → Int) : Nat → Int
  | 0 => -1
  | n + 1 => if maxA f n < f n then f n else maxA f n
theorem sumA_same {f f' : Int → Int} : ∀ n : Nat, (∀ j, 0 ≤ j → j < n → f' j = f j) → sumA f' n = sumA f n := by
  intro n
  induction n with
  | zero => intro _; rfl
  | succ n ih =>
    intro h
    unfold sumA
    rw [ih fun j a b => h j a (by omega), h n (by omega) (by omega)]
theorem sumA_ch {f f' : Int → Int} {l : Int} (h : ∀ j, ¬ j = l → f' j = f j) (h0 : 0 ≤ l) : ∀ n : Nat, l < n → sumA f' n = sumA f n + (f' l - f l) := by
  intro n
  induction n with
  | zero => intro a; omega
  | succ n ih =>
    intro a
    unfold sumA
    by_cases e : l = n
    · subst e
      rw [sumA_same n fun j b c => h j (by omega)]
      omega
    · rw [ih (by omega), h n (by omega)]
      omega
theorem sumA_b {f : Int → Int} {A B : Int} : ∀ n : Nat, (∀ j, 0 ≤ j → j < n → A ≤ f j ∧ f j ≤ B) → A * n ≤ sumA f n ∧ sumA f n ≤ B * n := by
  intro n
  induction n with
  | zero => intro _; unfold sumA; simp
  | succ n ih =>
    intro h
    have a := ih fun j b c => h j b (by omega)
    have b := h n (by omega) (by omega)
    unfold sumA
    rw [show ((n + 1 : Nat) : Int) = (n : Int) + 1 by omega, Int.mul_add, Int.mul_add]
    omega
theorem maxA_same {f f' : Int → Int} : ∀ n : Nat, (∀ j, 0 ≤ j → j < n → f' j = f j) → maxA f' n = maxA f n := by
  intro n
  induction n with
  | zero => intro _; rfl
  | succ n ih =>
    intro h
    unfold maxA
    rw [ih fun j a b => h j a (by omega), h n (by omega) (by omega)]
theorem maxA_le {f : Int → Int} {d : Int} (hd : -1 ≤ d) : ∀ n : Nat, (∀ j, 0 ≤ j → j < n → f j ≤ d) → maxA f n ≤ d ∧ -1 ≤ maxA f n := by
  intro n
  induction n with
  | zero => intro _; unfold maxA; omega
  | succ n ih =>
    intro h
    have a := ih fun j b c => h j b (by omega)
    have b := h n (by omega) (by omega)
    unfold maxA
    split <;> omega
theorem maxA_at {f : Int → Int} {d l : Int} (hd : -1 ≤ d) (h0 : 0 ≤ l) (hl : f l = d) : ∀ n : Nat, l < n → (∀ j, 0 ≤ j → j < n → f j ≤ d) → maxA f n = d := by
  intro n
  induction n with
  | zero => intro a; omega
  | succ n ih =>
    intro a h
    have b := maxA_le hd n fun j b c => h j b (by omega)
    have c := h n (by omega) (by omega)
    unfold maxA
    by_cases e : l = n
    · subst e
      split <;> omega
    · rw [ih (by omega) fun j b c => h j b (by omega)]
      split <;> omega
abbrev mxA (a b : Int) : Int := if a < b then b else a
/-- the class holds what is given; E: its edicts -/
def IC (g m : zM) : Prop := (m 1 1 = g 88 4 ∧ m 65 4 = g 88 12) ∧ ((m 65 3 = 76 ∨ m 65 3 = 82) ∧ m (m 65 3) 0 = g 110 0 ∧ m (m 65 3) 1 = g 110 1 ∧ m (m 65 3) 2 = g 110 2 ∧ m (m 65 3) 3 = g 110 3) ∧ (∀ k, 0 ≤ k → k < g 88 4 → (m (3 + 2 * k) 1 = g 90 k ∧ m (3 + 2 * k) 2 = g 91 k ∧ m (3 + 2 * k) 3 = g 92 k ∧ m (3 + 2 * k) 4 = g 93 k ∧ m (3 + 2 * k) 5 = g 94 k ∧ m (3 + 2 * k) 6 = g 95 k) ∧ ∀ d, 0 ≤ d → d < 100 → m (3 + 2 * k + 1) d = g 96 (100 * k + d)) ∧ (∀ l, 0 ≤ l → l < g 88 12 → (m (30 + 6 * l + (-1)) 1 = g 97 l ∧ m (30 + 6 * l + (-1)) 6 = g 101 l ∧ m (30 + 6 * l + (-1)) 7 = g 102 l ∧ m (30 + 6 * l + (-1)) 8 = g 103 l ∧ m (30 + 6 * l + (-1)) 9 = g 104 l ∧ m (30 + 6 * l + (-1)) 12 = g 107 l ∧ m (30 + 6 * l + (-1)) 15 = g 126 l ∧ m (30 + 6 * l + (-1)) 16 = g 127 l) ∧ m (30 + 6 * l) 5 = (if g 125 l = 0 then -1 else g 129 l) ∧ m 66 l = g 128 l)
def FC (m m' : zM) : Prop := ∀ x j, ¬ ((30 ≤ x ∧ x ≤ 60 ∧ (x - 30) % 6 = 0 ∧ 6 ≤ j ∧ j ≤ 15) ∨ (3 ≤ x ∧ x ≤ 25 ∧ x % 2 = 1 ∧ 8 ≤ j ∧ j ≤ 10) ∨ (x = 65 ∧ 6 ≤ j ∧ j ≤ 10)) → m' x j = m x j
theorem FC_r {m : zM} : FC m m := fun _ _ _ => rfl
theorem FC_t {m m' m'' : zM} (a : FC m m') (b : FC m' m'') : FC m m'' := fun x j h => (b x j h).trans (a x j h)
theorem FC_u {m m' : zM} {x j v : Int} (a : FC m m') (hx : (30 ≤ x ∧ x ≤ 60 ∧ (x - 30) % 6 = 0 ∧ 6 ≤ j ∧ j ≤ 15) ∨ (3 ≤ x ∧ x ≤ 25 ∧ x % 2 = 1 ∧ 8 ≤ j ∧ j ≤ 10) ∨ (x = 65 ∧ 6 ≤ j ∧ j ≤ 10)) : FC m (zup m' x j v) := fun x' j' h => by
  unfold zup
  rw [if_neg (by rintro ⟨rfl, rfl⟩; exact h hx)]
  exact a x' j' h
theorem IC_f {g m m' : zM} (hv : vG g) (h : IC g m) (f : FC m m') : IC g m' := by
  have v1 := hv.1
  have v2 := hv.2.1
  obtain ⟨⟨a1, a2⟩, ⟨b0, b1, b2, b3, b4⟩, c, d⟩ := h
  have e3 : m' 65 3 = m 65 3 := f _ _ (by omega)
  refine ⟨⟨(f _ _ (by omega)).trans a1, (f _ _ (by omega)).trans a2⟩, ⟨by rw [e3]; exact b0, ?_, ?_, ?_, ?_⟩, fun k k0 k1 => ⟨?_, fun dd d0 d1 => ?_⟩, fun l l0 l1 => ⟨?_, ?_, ?_⟩⟩
  · rw [e3, f _ _ (by omega)]; exact b1
  · rw [e3, f _ _ (by omega)]; exact b2
  · rw [e3, f _ _ (by omega)]; exact b3
  · rw [e3, f _ _ (by omega)]; exact b4
  · have := (c k k0 k1).1
    rw [f _ 1 (by omega), f _ 2 (by omega), f _ 3 (by omega), f _ 4 (by omega), f _ 5 (by omega), f _ 6 (by omega)]
    exact this
  · have := (c k k0 k1).2 dd d0 d1
    rw [f _ _ (by omega)]; exact this
  · have := (d l l0 l1).1
    rw [f _ 1 (by omega), f _ 6 (by omega), f _ 7 (by omega), f _ 8 (by omega), f _ 9 (by omega), f _ 12 (by omega), f _ 15 (by omega), f _ 16 (by omega)]
    exact this
  · rw [f _ 5 (by omega)]; exact (d l l0 l1).2.1
  · rw [f _ l (by omega)]; exact (d l l0 l1).2.2
def CL (s m : zM) (l : Int) : Prop := m (30 + 6 * l) 6 = s 130 l ∧ m (30 + 6 * l) 7 = s 132 l ∧ m (30 + 6 * l) 8 = s 134 l ∧ m (30 + 6 * l) 9 = s 135 l ∧ m (30 + 6 * l) 10 = s 136 l ∧ m (30 + 6 * l) 11 = s 138 l ∧ m (30 + 6 * l) 12 = s 137 l ∧ ∀ k, 0 ≤ k → k < 12 → (zand (m (30 + 6 * l) 15) (zshl 1 k) = 0 ↔ s 133 (12 * l + k) = 0)
def CK (g s m : zM) (k : Int) : Prop := m (3 + 2 * k) 8 = g 93 k - s 139 k ∧ m (3 + 2 * k) 9 = s 140 k + (g 93 k - s 139 k) ∧ m (3 + 2 * k) 10 = mxA (s 141 k) (g 93 k - s 139 k)
abbrev arA (s : zM) : Int → Int := fun l => if s 137 l < 0 then 0 else 1
abbrev uwA (g s : zM) : Int → Int := fun l => if ¬ g 125 l = 0 ∧ s 137 l < 0 then 1 else 0
def CT (g s m : zM) : Prop := m 65 7 = sumA (s 134) (g 88 12).toNat ∧ m 65 8 = sumA (s 135) (g 88 12).toNat ∧ m 65 9 = sumA (arA s) (g 88 12).toNat ∧ m 65 10 = maxA (s 137) (g 88 12).toNat ∧ m 65 6 = sumA (uwA g s) (g 88 12).toNat
def RC (g s m : zM) : Prop := (∀ l, 0 ≤ l → l < g 88 12 → CL s m l) ∧ (∀ k, 1 ≤ k → k < g 88 4 → CK g s m k) ∧ CT g s m
theorem zup_row {f : zM} {x j v y : Int} (h : ¬ y = x) : zup f x j v y = f y := by
  funext b
  exact zup_c h
theorem CT_s {g s s' m m' : zM} (h : CT g s m) (e4 : s' 134 = s 134) (e5 : s' 135 = s 135) (e7 : s' 137 = s 137) (em : ∀ j, 6 ≤ j → j ≤ 10 → m' 65 j = m 65 j) : CT g s' m' := by
  unfold CT at h ⊢
  rw [em 7 (by decide) (by decide), em 8 (by decide) (by decide), em 9 (by decide) (by decide), em 10 (by decide) (by decide), em 6 (by decide) (by decide), e4, e5, e7]
  unfold arA uwA at h ⊢
  rw [e7]
  exact h
theorem CK_s {g s s' m m' : zM} {k : Int} (h : CK g s m k) (e1 : s' 139 k = s 139 k) (e2 : s' 140 k = s 140 k) (e3 : s' 141 k = s 141 k) (em : ∀ j, 8 ≤ j → j ≤ 10 → m' (3 + 2 * k) j = m (3 + 2 * k) j) : CK g s' m' k := by
  unfold CK at h ⊢
  rw [em 8 (by decide) (by decide), em 9 (by decide) (by decide), em 10 (by decide) (by decide), e1, e2, e3]
  exact h
theorem CL_s {s s' m m' : zM} {l : Int} (h : CL s m l) (e : ∀ x, 130 ≤ x → x ≤ 138 → ¬ x = 133 → s' x l = s x l) (e3 : ∀ k, 0 ≤ k → k < 12 → s' 133 (12 * l + k) = s 133 (12 * l + k)) (em : ∀ j, 6 ≤ j → j ≤ 15 → m' (30 + 6 * l) j = m (30 + 6 * l) j) : CL s' m' l := by
  unfold CL at h ⊢
  rw [em 6 (by decide) (by decide), em 7 (by decide) (by decide), em 8 (by decide) (by decide), em 9 (by decide) (by decide), em 10 (by decide) (by decide), em 11 (by decide) (by decide), em 12 (by decide) (by decide), em 15 (by decide) (by decide), e 130 (by decide) (by decide) (by decide), e 132 (by decide) (by decide) (by decide), e 134 (by decide) (by decide) (by decide), e 135 (by decide) (by decide) (by decide), e 136 (by decide) (by decide) (by decide), e 137 (by decide) (by decide) (by decide), e 138 (by decide) (by decide) (by decide)]
  refine ⟨h.1, h.2.1, h.2.2.1, h.2.2.2.1, h.2.2.2.2.1, h.2.2.2.2.2.1, h.2.2.2.2.2.2.1, fun k k0 k1 => ?_⟩
  rw [e3 k k0 k1]
  exact h.2.2.2.2.2.2.2 k k0 k1
theorem RC_130 {g s m : zM} {l v : Int} (hv : vG g) (h : RC g s m) (h0 : 0 ≤ l) (h1 : l < g 88 12) : RC g (zup s 130 l v) (zup m (30 + 6 * l) 6 v) := by
  have v1 := hv.1
  have v2 := hv.2.1
  refine ⟨fun l' e0 e1 => ?_, fun k e0 e1 => ?_, ?_⟩
  · have c := h.1 l' e0 e1
    by_cases e : l' = l
    · subst e
      unfold CL at c ⊢
      simp (disch := omega) only [zup_j, zup_c, zup_e]
      simp only [c, true_and]
      exact fun k k0 k1 => c.2.2.2.2.2.2.2 k k0 k1
    · exact CL_s c (fun x _ _ _ => zup_j e) (fun k _ _ => zup_c (by decide)) fun j _ _ => zup_c (by omega)
  · exact CK_s (h.2.1 k e0 e1) (zup_c (by decide)) (zup_c (by decide)) (zup_c (by decide)) fun j _ _ => zup_c (by omega)
  · exact CT_s h.2.2 (zup_row (by decide)) (zup_row (by decide)) (zup_row (by decide)) fun j _ _ => zup_c (by omega)
theorem RC_132 {g s m : zM} {l v : Int} (hv : vG g) (h : RC g s m) (h0 : 0 ≤ l) (h1 : l < g 88 12) : RC g (zup s 132 l v) (zup m (30 + 6 * l) 7 v) := by
  have v1 := hv.1
  have v2 := hv.2.1
  refine ⟨fun l' e0 e1 => ?_, fun k e0 e1 => ?_, ?_⟩
  · have c := h.1 l' e0 e1
    by_cases e : l' = l
    · subst e
      unfold CL at c ⊢
      simp (disch := omega) only [zup_j, zup_c, zup_e]
      simp only [c, true_and]
      exact fun k k0 k1 => c.2.2.2.2.2.2.2 k k0 k1
    · exact CL_s c (fun x _ _ _ => zup_j e) (fun k _ _ => zup_c (by decide)) fun j _ _ => zup_c (by omega)
  · exact CK_s (h.2.1 k e0 e1) (zup_c (by decide)) (zup_c (by decide)) (zup_c (by decide)) fun j _ _ => zup_c (by omega)
  · exact CT_s h.2.2 (zup_row (by decide)) (zup_row (by decide)) (zup_row (by decide)) fun j _ _ => zup_c (by omega)
theorem RC_136 {g s m : zM} {l v : Int} (hv : vG g) (h : RC g s m) (h0 : 0 ≤ l) (h1 : l < g 88 12) : RC g (zup s 136 l v) (zup m (30 + 6 * l) 10 v) := by
  have v1 := hv.1
  have v2 := hv.2.1
  refine ⟨fun l' e0 e1 => ?_, fun k e0 e1 => ?_, ?_⟩
  · have c := h.1 l' e0 e1
    by_cases e : l' = l
    · subst e
      unfold CL at c ⊢
      simp (disch := omega) only [zup_j, zup_c, zup_e]
      simp only [c, true_and]
      exact fun k k0 k1 => c.2.2.2.2.2.2.2 k k0 k1
    · exact CL_s c (fun x _ _ _ => zup_j e) (fun k _ _ => zup_c (by decide)) fun j _ _ => zup_c (by omega)
  · exact CK_s (h.2.1 k e0 e1) (zup_c (by decide)) (zup_c (by decide)) (zup_c (by decide)) fun j _ _ => zup_c (by omega)
  · exact CT_s h.2.2 (zup_row (by decide)) (zup_row (by decide)) (zup_row (by decide)) fun j _ _ => zup_c (by omega)
theorem RC_138 {g s m : zM} {l v : Int} (hv : vG g) (h : RC g s m) (h0 : 0 ≤ l) (h1 : l < g 88 12) : RC g (zup s 138 l v) (zup m (30 + 6 * l) 11 v) := by
  have v1 := hv.1
  have v2 := hv.2.1
  refine ⟨fun l' e0 e1 => ?_, fun k e0 e1 => ?_, ?_⟩
  · have c := h.1 l' e0 e1
    by_cases e : l' = l
    · subst e
      unfold CL at c ⊢
      simp (disch := omega) only [zup_j, zup_c, zup_e]
      simp only [c, true_and]
      exact fun k k0 k1 => c.2.2.2.2.2.2.2 k k0 k1
    · exact CL_s c (fun x _ _ _ => zup_j e) (fun k _ _ => zup_c (by decide)) fun j _ _ => zup_c (by omega)
  · exact CK_s (h.2.1 k e0 e1) (zup_c (by decide)) (zup_c (by decide)) (zup_c (by decide)) fun j _ _ => zup_c (by omega)
  · exact CT_s h.2.2 (zup_row (by decide)) (zup_row (by decide)) (zup_row (by decide)) fun j _ _ => zup_c (by omega)
theorem RC_134 {g s m : zM} {l v : Int} (hv : vG g) (h : RC g s m) (h0 : 0 ≤ l) (h1 : l < g 88 12) : RC g (zup s 134 l (s 134 l + v)) (zup (zup m (30 + 6 * l) 8 (s 134 l + v)) 65 7 (sumA (s 134) (g 88 12).toNat + v)) := by
  have v1 := hv.1
  have v2 := hv.2.1
  refine ⟨fun l' e0 e1 => ?_, fun k e0 e1 => ?_, ?_⟩
  · have c := h.1 l' e0 e1
    by_cases e : l' = l
    · subst e
      unfold CL at c ⊢
      simp (disch := omega) only [zup_j, zup_c, zup_e]
      simp only [c, true_and]
      exact fun k k0 k1 => c.2.2.2.2.2.2.2 k k0 k1
    · exact CL_s c (fun x _ _ _ => zup_j e) (fun k _ _ => zup_c (by decide)) fun j _ _ => by rw [zup_c (by omega), zup_c (by omega)]
  · exact CK_s (h.2.1 k e0 e1) (zup_c (by decide)) (zup_c (by decide)) (zup_c (by decide)) fun j _ _ => by rw [zup_c (by omega), zup_c (by omega)]
  · have t := h.2.2
    unfold CT arA uwA at t ⊢
    rw [zup_row (y := 137) (by decide), zup_row (y := 135) (by decide)]
    have q := sumA_ch (f := s 134) (f' := zup s 134 l (s 134 l + v) 134) (l := l) (fun j hj => zup_j hj) h0 (g 88 12).toNat (by omega)
    rw [zup_e rfl rfl] at q
    rw [q]
    simp (disch := omega) only [zup_j, zup_c, zup_e]
    simp only [t, true_and]
    refine ⟨by omega, trivial⟩
theorem RC_135 {g s m : zM} {l v : Int} (hv : vG g) (h : RC g s m) (h0 : 0 ≤ l) (h1 : l < g 88 12) : RC g (zup s 135 l (s 135 l + v)) (zup (zup m (30 + 6 * l) 9 (s 135 l + v)) 65 8 (sumA (s 135) (g 88 12).toNat + v)) := by
  have v1 := hv.1
  have v2 := hv.2.1
  refine ⟨fun l' e0 e1 => ?_, fun k e0 e1 => ?_, ?_⟩
  · have c := h.1 l' e0 e1
    by_cases e : l' = l
    · subst e
      unfold CL at c ⊢
      simp (disch := omega) only [zup_j, zup_c, zup_e]
      simp only [c, true_and]
      exact fun k k0 k1 => c.2.2.2.2.2.2.2 k k0 k1
    · exact CL_s c (fun x _ _ _ => zup_j e) (fun k _ _ => zup_c (by decide)) fun j _ _ => by rw [zup_c (by omega), zup_c (by omega)]
  · exact CK_s (h.2.1 k e0 e1) (zup_c (by decide)) (zup_c (by decide)) (zup_c (by decide)) fun j _ _ => by rw [zup_c (by omega), zup_c (by omega)]
  · have t := h.2.2
    unfold CT arA uwA at t ⊢
    rw [zup_row (y := 137) (by decide), zup_row (y := 134) (by decide)]
    have q := sumA_ch (f := s 135) (f' := zup s 135 l (s 135 l + v) 135) (l := l) (fun j hj => zup_j hj) h0 (g 88 12).toNat (by omega)
    rw [zup_e rfl rfl] at q
    rw [q]
    simp (disch := omega) only [zup_j, zup_c, zup_e]
    simp only [t, true_and]
    exact ⟨by omega, trivial⟩
