/-! LEVEL 2, THE RUN, as numbers alone. g: what is given, with the reference's cells; s: what changes, likewise -/
theorem zup_e {f : zM} {k j v a b : Int} (h1 : a = k) (h2 : b = j) : zup f k j v a b = v := by unfold zup; rw [if_pos ⟨h1, h2⟩]
theorem zw_i {x : Int} (h1 : -2147483648 ≤ x) (h2 : x ≤ 2147483647) : zw x = x := zw_id (by unfold zri; omega)
abbrev shA (g : zM) (k d : Int) : Prop := g 94 k ≤ g 96 (100 * k + d)
abbrev paA (g : zM) (l : Int) : Prop := g 103 l < g 101 l ∨ g 104 l < g 102 l
abbrev faA (g s : zM) (l k : Int) : Prop := ¬ g 95 k = 0 ∧ s 133 (12 * l + k) = 0 ∧ paA g l
def loA (g s : zM) (k : Int) : Nat → Int
  | 0 => 0
  | n + 1 => loA g s k n + (if s 130 (n : Int) = k ∧ ¬ g 97 (n : Int) = k then 1 else 0)
abbrev hoA (g s : zM) (k : Int) : Prop := k = 0 ∨ loA g s k (g 88 12).toNat < g 92 k
/-- how many ways he can go, and how many he goes -/
def lookA (g s : zM) (l d : Int) : Nat → Int → Int → Nat × Nat
  | 0, _, _ => (0, 0)
  | n + 1, k, h => if k = 0 then (0, 0) else if h + g 91 k ≤ g 110 0 ∧ ¬ shA g k d ∧ (k = s 130 l ∨ ¬ faA g s l k) then ((lookA g s l d n (g 90 k) (h + g 91 k)).1 + 1, if 0 < (lookA g s l d n (g 90 k) (h + g 91 k)).2 then (lookA g s l d n (g 90 k) (h + g 91 k)).2 + 1 else if hoA g s (g 90 k) then 1 else 0) else (0, 0)
def nxA (g : zM) : Nat → Int → Int
  | 0, k => k
  | n + 1, k => nxA g n (g 90 k)
abbrev gvA (g s : zM) (l : Int) : Int := if s 139 (s 130 l) < g 126 l then s 139 (s 130 l) else g 126 l
def hopA (g s : zM) (l : Int) : zM := fun x j =>
  if x = 139 ∧ j = s 130 l then s 139 j - gvA g s l
  else if x = 136 ∧ j = l then s 136 l + (g 126 l - gvA g s l)
  else if x = 135 ∧ j = l then s 135 l + g 110 3 * (g 126 l - gvA g s l)
  else if x = 130 ∧ j = l then g 90 (s 130 l)
  else if x = 132 ∧ j = l ∧ faA g s l (g 90 (s 130 l)) then g 110 2
  else if x = 133 ∧ j = 12 * l + g 90 (s 130 l) ∧ ¬ g 95 (g 90 (s 130 l)) = 0 then 1
  else s x j
def hopsA (g : zM) (l : Int) : Nat → zM → zM
  | 0, s => s
  | n + 1, s => hopsA g l n (hopA g s l)
def marksA (g s : zM) (l d : Int) (p : Nat × Nat) : zM := if p.2 = 0 ∧ shA g (s 130 l) d then zup (if p.2 < p.1 then zup s 134 l (s 134 l + 1) else s) 138 l (s 138 l + 1) else (if p.2 < p.1 then zup s 134 l (s 134 l + 1) else s)
def nightA (g s : zM) (l d : Int) : zM := if s 130 l = 0 then zup s 137 l d else if s 130 l = g 97 l then s else zup s 135 l (s 135 l + g 127 l)
def askA (g s : zM) (l d : Int) : zM := if 0 < s 132 l then zup (zup s 132 l (s 132 l - 1)) 135 l (s 135 l + g 127 l) else nightA g (hopsA g l (lookA g s l d 12 (s 130 l) 0).2 (marksA g s l d (lookA g s l d 12 (s 130 l) 0))) l d
/-- the lords of a day, the first n by their turn -/
def lordsA (g : zM) (d : Int) : Nat → zM → zM
  | 0, s => s
  | n + 1, s => if ¬ g 125 (g 128 (n : Int)) = 0 ∧ g 129 (g 128 (n : Int)) ≤ d ∧ ¬ lordsA g d n s 130 (g 128 (n : Int)) = 0 then askA g (lordsA g d n s) (g 128 (n : Int)) d else lordsA g d n s
def dutA (g s : zM) : zM := fun x j => if x = 139 then g 93 j else s x j
def endA (g s : zM) : zM := fun x j => if x = 140 then s 140 j + (g 93 j - s 139 j) else if x = 141 then (if s 141 j < g 93 j - s 139 j then g 93 j - s 139 j else s 141 j) else s x j
def dayA (g s : zM) (d : Int) : zM := endA g (lordsA g d (g 88 12).toNat (dutA g s))
def s0A (g : zM) : zM := fun x j => if x = 130 then g 97 j else if x = 137 then -1 else if x = 139 then g 93 j else 0
/-- behind n days -/
def dysA (g : zM) : Nat → zM
  | 0 => s0A g
  | n + 1 => dayA g (dysA g n) n
abbrev phA (g s : zM) (l : Int) : Int := if s 130 l = 0 then 2 else if s 130 l = g 97 l then 0 else 1
/-- what is given is as it can be -/
def vG (g : zM) : Prop := (1 ≤ g 88 4 ∧ g 88 4 ≤ 12) ∧ (0 ≤ g 88 12 ∧ g 88 12 ≤ 6) ∧ (∀ k, 1 ≤ k → k < g 88 4 → (0 ≤ g 90 k ∧ g 90 k < k) ∧ (1 ≤ g 91 k ∧ g 91 k ≤ 20)) ∧ (∀ k, 0 ≤ k → k < g 88 4 → 0 ≤ g 93 k ∧ g 93 k ≤ 999) ∧ g 95 0 = 0 ∧ ((1 ≤ g 110 0 ∧ g 110 0 ≤ 24) ∧ (1 ≤ g 110 1 ∧ g 110 1 ≤ 99) ∧ (1 ≤ g 110 2 ∧ g 110 2 ≤ 9) ∧ (0 ≤ g 110 3 ∧ g 110 3 ≤ 99)) ∧ (∀ l, 0 ≤ l → l < g 88 12 → (1 ≤ g 97 l ∧ g 97 l < g 88 4) ∧ (0 ≤ g 126 l ∧ g 126 l ≤ 9999) ∧ (0 ≤ g 127 l ∧ g 127 l ≤ 9999) ∧ (0 ≤ g 128 l ∧ g 128 l < g 88 12) ∧ (0 ≤ g 107 l ∧ g 107 l ≤ 99))
/-- a lord's numbers behind c questions -/
def LB (g s : zM) (c e l : Int) : Prop := (0 ≤ s 130 l ∧ s 130 l ≤ g 97 l) ∧ (0 ≤ s 132 l ∧ s 132 l ≤ 9) ∧ (0 ≤ s 134 l ∧ s 134 l ≤ c) ∧ (0 ≤ s 138 l ∧ s 138 l ≤ c) ∧ (0 ≤ s 135 l ∧ s 135 l + 989901 * s 130 l ≤ 10888911 + 9999 * e) ∧ (0 ≤ s 136 l ∧ s 136 l + 9999 * s 130 l ≤ 109989) ∧ (-1 ≤ s 137 l ∧ s 137 l ≤ 99)
def BA (g s : zM) (c e : Int) : Prop := (∀ l, 0 ≤ l → l < g 88 12 → LB g s c e l) ∧ (∀ k, 0 ≤ k → k < g 88 4 → 0 ≤ s 139 k ∧ s 139 k ≤ g 93 k)
theorem mul_b {a b A B : Int} (h1 : 0 ≤ a) (h2 : a ≤ A) (h3 : 0 ≤ b) (h4 : b ≤ B) : 0 ≤ a * b ∧ a * b ≤ A * B :=
  ⟨Int.mul_nonneg h1 h3, Int.le_trans (Int.mul_le_mul_of_nonneg_right h2 h3) (Int.mul_le_mul_of_nonneg_left h4 (Int.le_trans h1 h2))⟩
theorem gvA_b {g s : zM} {l c e : Int} (hv : vG g) (hb : BA g s c e) (h0 : 0 ≤ l) (h1 : l < g 88 12) : 0 ≤ gvA g s l ∧ gvA g s l ≤ g 126 l ∧ gvA g s l ≤ s 139 (s 130 l) := by
  obtain ⟨v1, v2, v3, v4, v5, v6, v7⟩ := hv
  have a := v7 l h0 h1
  have b := hb.1 l h0 h1
  unfold LB at b
  have d := hb.2 (s 130 l) (by omega) (by omega)
  unfold gvA
  split <;> omega
theorem hopA_BA {g s : zM} {l c f : Int} (hv : vG g) (hb : BA g s c f) (h0 : 0 ≤ l) (h1 : l < g 88 12) (h2 : 1 ≤ s 130 l) : BA g (hopA g s l) c f := by
  have hg := gvA_b hv hb h0 h1
  obtain ⟨v1, v2, v3, v4, v5, v6, v7⟩ := hv
  have a := v7 l h0 h1
  refine ⟨fun l' e0 e1 => ?_, fun k e0 e1 => ?_⟩
  · have b := hb.1 l' e0 e1
    unfold LB at b ⊢
    by_cases e : l' = l
    · subst e
      have nx := v3 (s 130 l') h2 (by omega)
      have mb := mul_b (a := g 110 3) (b := g 126 l' - gvA g s l') (A := 99) (B := 9999) (by omega) (by omega) (by omega) (by omega)
      have q1 : hopA g s l' 130 l' = g 90 (s 130 l') := by simp [hopA]
      have q2 : hopA g s l' 132 l' = g 110 2 ∨ hopA g s l' 132 l' = s 132 l' := by
        unfold hopA
        rw [if_neg (by omega), if_neg (by omega), if_neg (by omega), if_neg (by omega)]
        by_cases z : (132 : Int) = 132 ∧ l' = l' ∧ faA g s l' (g 90 (s 130 l'))
        · rw [if_pos z]; exact Or.inl rfl
        · rw [if_neg z, if_neg (by omega)]; exact Or.inr rfl
      have q3 : hopA g s l' 134 l' = s 134 l' := by simp [hopA]
      have q4 : hopA g s l' 138 l' = s 138 l' := by simp [hopA]
      have q5 : hopA g s l' 135 l' = s 135 l' + g 110 3 * (g 126 l' - gvA g s l') := by simp [hopA]
      have q6 : hopA g s l' 136 l' = s 136 l' + (g 126 l' - gvA g s l') := by simp [hopA]
      have q7 : hopA g s l' 137 l' = s 137 l' := by simp [hopA]
      rw [q1, q3, q4, q5, q6, q7]
      omega
    · have q1 : hopA g s l 130 l' = s 130 l' := by simp [hopA, e]
      have q2 : hopA g s l 132 l' = s 132 l' := by simp [hopA, e]
      have q3 : hopA g s l 134 l' = s 134 l' := by simp [hopA]
      have q4 : hopA g s l 138 l' = s 138 l' := by simp [hopA]
      have q5 : hopA g s l 135 l' = s 135 l' := by simp [hopA, e]
      have q6 : hopA g s l 136 l' = s 136 l' := by simp [hopA, e]
      have q7 : hopA g s l 137 l' = s 137 l' := by simp [hopA]
      rw [q1, q2, q3, q4, q5, q6, q7]
      exact b
  · have b := hb.2 k e0 e1
    by_cases e : k = s 130 l
    · have q : hopA g s l 139 k = s 139 k - gvA g s l := by simp [hopA, e]
      rw [q]
      subst e
      omega
    · have q : hopA g s l 139 k = s 139 k := by simp [hopA, e]
      rw [q]; exact b
theorem nxA_s {g : zM} : ∀ (n : Nat) (k : Int), nxA g (n + 1) k = g 90 (nxA g n k) := by
  intro n
  induction n with
  | zero => intro k; rfl
  | succ n ih => intro k; exact ih (g 90 k)
/-- where he can go is a way along the stations -/
def pth (g : zM) (n : Nat) (k : Int) : Prop := ∀ i, i < n → 1 ≤ nxA g i k
theorem pth_b {g : zM} (hv : vG g) : ∀ (n : Nat) (k : Int), 0 ≤ k → k < g 88 4 → pth g n k → ∀ i, i ≤ n → 0 ≤ nxA g i k ∧ nxA g i k + i ≤ k := by
  intro n k h0 h1 hp i
  induction i with
  | zero => intro _; exact ⟨h0, by unfold nxA; omega⟩
  | succ i ih =>
    intro hi
    have a := ih (by omega)
    have b := hp i (by omega)
    rw [nxA_s]
    have c := hv.2.2.1 (nxA g i k) b (by omega)
    omega
theorem pth_lt {g : zM} (hv : vG g) {n : Nat} {k : Int} (h0 : 0 ≤ k) (h1 : k < g 88 4) (hp : pth g n k) : ∀ (e a : Nat), a + e < n → nxA g (a + e + 1) k < nxA g a k := by
  intro e
  induction e with
  | zero =>
    intro a ha
    rw [nxA_s]
    have b := pth_b hv n k h0 h1 hp a (by omega)
    have c := hv.2.2.1 (nxA g a k) (hp a (by omega)) (by omega)
    exact c.1.2
  | succ e ih =>
    intro a ha
    have x := ih a (by omega)
    rw [nxA_s]
    have y := hp (a + e + 1) (by omega)
    have b := pth_b hv n k h0 h1 hp (a + e + 1) (by omega)
    have c := hv.2.2.1 (nxA g (a + e + 1) k) y (by omega)
    have : a + (e + 1) = a + e + 1 := by omega
    rw [this]
    omega
theorem pth_ne {g : zM} (hv : vG g) {n a b : Nat} {k : Int} (h0 : 0 ≤ k) (h1 : k < g 88 4) (hp : pth g n k) (ha : a < b) (hb : b ≤ n) : nxA g b k < nxA g a k := by
  have := pth_lt hv h0 h1 hp (b - a - 1) a (by omega)
  rwa [show a + (b - a - 1) + 1 = b by omega] at this
theorem lookA_p {g s : zM} {l d : Int} (hv : vG g) : ∀ (n : Nat) (k h : Int), 0 ≤ k → k < g 88 4 → pth g (lookA g s l d n k h).1 k ∧ (lookA g s l d n k h).2 ≤ (lookA g s l d n k h).1 := by
  intro n
  induction n with
  | zero => intro k h _ _; exact ⟨fun i hi => absurd hi (Nat.not_lt_zero i), Nat.le_refl _⟩
  | succ n ih =>
    intro k h h0 h1
    unfold lookA
    split
    · exact ⟨fun i hi => absurd hi (Nat.not_lt_zero i), Nat.le_refl _⟩
    · rename_i hk
      split
      · have v := hv.2.2.1 k (by omega) h1
        obtain ⟨a, b⟩ := ih (g 90 k) (h + g 91 k) (by omega) (by omega)
        refine ⟨fun i hi => ?_, ?_⟩
        · cases i with
          | zero => show 1 ≤ k; omega
          | succ i => exact a i (by dsimp only at hi; omega)
        · dsimp only
          split
          · omega
          · split <;> omega
      · exact ⟨fun i hi => absurd hi (Nat.not_lt_zero i), Nat.le_refl _⟩
theorem hopA_at {g s : zM} {l : Int} : hopA g s l 130 l = g 90 (s 130 l) := by simp [hopA]
theorem hopsA_at {g : zM} {l : Int} : ∀ (n : Nat) (s : zM), hopsA g l n s 130 l = nxA g n (s 130 l) := by
  intro n
  induction n with
  | zero => intro s; rfl
  | succ n ih => intro s; unfold hopsA; rw [ih, hopA_at]; rfl
theorem hopsA_BA {g : zM} {l c e : Int} (hv : vG g) (h0 : 0 ≤ l) (h1 : l < g 88 12) : ∀ (n : Nat) (s : zM), BA g s c e → pth g n (s 130 l) → BA g (hopsA g l n s) c e := by
  intro n
  induction n with
  | zero => intro s hb _; exact hb
  | succ n ih =>
    intro s hb hp
    unfold hopsA
    refine ih _ (hopA_BA hv hb h0 h1 (hp 0 (by omega))) fun i hi => ?_
    rw [hopA_at]
    exact hp (i + 1) (by omega)
theorem BA_w {g s : zM} {c c' e e' : Int} (h : BA g s c e) (hc : c ≤ c') (he : e ≤ e') : BA g s c' e' := by
  refine ⟨fun l h0 h1 => ?_, h.2⟩
  have := h.1 l h0 h1
  unfold LB at this ⊢
  omega
theorem marksA_BA {g s : zM} {l d c f : Int} {p : Nat × Nat} (hb : BA g s c f) : BA g (marksA g s l d p) (c + 1) f := by
  refine ⟨fun l' h0 h1 => ?_, fun k h0 h1 => ?_⟩
  · have b := hb.1 l' h0 h1
    unfold LB at b ⊢
    unfold marksA
    by_cases e : l' = l
    · subst e
      split <;> split <;> (try simp [zup]) <;> omega
    · split <;> split <;> (try simp [zup, e]) <;> omega
  · have b := hb.2 k h0 h1
    unfold marksA
    split <;> split <;> (try simp [zup]) <;> omega
theorem marksA_at {g s : zM} {l d l' : Int} {p : Nat × Nat} : marksA g s l d p 130 l' = s 130 l' := by
  unfold marksA
  split <;> split <;> (try simp [zup])
theorem nightA_BA {g t : zM} {l d c e : Int} (hv : vG g) (hx : BA g t c e) (h0 : 0 ≤ l) (h1 : l < g 88 12) (hd : 0 ≤ d ∧ d ≤ 99) : BA g (nightA g t l d) c (e + 1) := by
  have a := hv.2.2.2.2.2.2 l h0 h1
  unfold nightA
  split
  · refine ⟨fun l' e0 e1 => ?_, fun k e0 e1 => ?_⟩
    · have b := hx.1 l' e0 e1
      unfold LB at b ⊢
      by_cases e : l' = l
      · subst e
        simp only [zup]
        simp
        omega
      · simp [zup, e]
        omega
    · have := hx.2 k e0 e1
      simp [zup]
      exact this
  · split
    · exact BA_w hx (Int.le_refl _) (by omega)
    · refine ⟨fun l' e0 e1 => ?_, fun k e0 e1 => ?_⟩
      · have b := hx.1 l' e0 e1
        unfold LB at b ⊢
        by_cases e : l' = l
        · subst e
          simp only [zup]
          simp
          omega
        · simp [zup, e]
          omega
      · have := hx.2 k e0 e1
        simp [zup]
        exact this
/-- the question leaves all in its bounds -/
theorem askA_BA {g s : zM} {l d c : Int} (hv : vG g) (hb : BA g s c c) (h0 : 0 ≤ l) (h1 : l < g 88 12) (hd : 0 ≤ d ∧ d ≤ 99) : BA g (askA g s l d) (c + 1) (c + 1) := by
  have a := hv.2.2.2.2.2.2 l h0 h1
  have hl := hb.1 l h0 h1
  unfold askA
  split
  · rename_i hh
    refine ⟨fun l' e0 e1 => ?_, fun k e0 e1 => ?_⟩
    · have b := hb.1 l' e0 e1
      unfold LB at b ⊢
      by_cases e : l' = l
      · subst e
        simp only [zup]
        simp
        omega
      · simp [zup, e]
        omega
    · have := hb.2 k e0 e1
      simp [zup]
      exact this
  · have hk : 0 ≤ s 130 l ∧ s 130 l < g 88 4 := by unfold LB at hl; omega
    obtain ⟨p1, p2⟩ := lookA_p (s := s) (l := l) (d := d) hv 12 (s 130 l) 0 hk.1 hk.2
    have hp : pth g (lookA g s l d 12 (s 130 l) 0).2 (marksA g s l d (lookA g s l d 12 (s 130 l) 0) 130 l) := by
      rw [marksA_at]
      exact fun i hi => p1 i (by omega)
    exact nightA_BA hv (hopsA_BA hv h0 h1 _ _ (marksA_BA hb) hp) h0 h1 hd
theorem lordsA_BA {g : zM} {d c : Int} (hv : vG g) (hd : 0 ≤ d ∧ d ≤ 99) : ∀ (n : Nat) (s : zM), (n : Int) ≤ g 88 12 → BA g s c c → BA g (lordsA g d n s) (c + n) (c + n) := by
  intro n
  induction n with
  | zero => intro s _ hb; unfold lordsA; rwa [show c + ((0 : Nat) : Int) = c by omega]
  | succ n ih =>
    intro s hn hb
    have b := ih s (by omega) hb
    have v := hv.2.2.2.2.2.2 n (by omega) (by omega)
    unfold lordsA
    rw [show c + ((n + 1 : Nat) : Int) = c + n + 1 by omega]
    split
    · exact askA_BA hv b (by omega) (by omega) hd
    · exact BA_w b (by omega) (by omega)
theorem dayA_BA {g s : zM} {d c : Int} (hv : vG g) (hd : 0 ≤ d ∧ d ≤ 99) (hb : BA g s c c) : BA g (dayA g s d) (c + 6) (c + 6) := by
  have v2 := hv.2.1
  have b0 : BA g (dutA g s) c c := by
    refine ⟨fun l h0 h1 => ?_, fun k h0 h1 => ?_⟩
    · have := hb.1 l h0 h1
      unfold LB at this ⊢
      simp [dutA]
      omega
    · have := hv.2.2.2.1 k h0 h1
      simp [dutA]
      omega
  have b1 := lordsA_BA hv hd (g 88 12).toNat _ (by omega) b0
  unfold dayA
  generalize lordsA g d (g 88 12).toNat (dutA g s) = t at b1
  refine BA_w (c := c + (g 88 12).toNat) (e := c + (g 88 12).toNat) ⟨fun l h0 h1 => ?_, fun k h0 h1 => ?_⟩ (by omega) (by omega)
  · have := b1.1 l h0 h1
    unfold LB at this ⊢
    simp [endA]
    omega
  · have := b1.2 k h0 h1
    simp [endA]
    exact this
theorem dysA_BA {g : zM} (hv : vG g) : ∀ n : Nat, n ≤ 100 → BA g (dysA g n) (6 * n) (6 * n) := by
  intro n
  induction n with
  | zero =>
    intro _
    refine ⟨fun l h0 h1 => ?_, fun k h0 h1 => ?_⟩
    · have := hv.2.2.2.2.2.2 l h0 h1
      have v1 := hv.1
      unfold LB dysA
      simp [s0A]
      omega
    · have := hv.2.2.2.1 k h0 h1
      unfold dysA
      simp [s0A]
      omega
  | succ n ih =>
    intro hn
    have := dayA_BA hv (d := n) (by omega) (ih (by omega))
    unfold dysA
    rwa [show 6 * ((n + 1 : Nat) : Int) = 6 * (n : Int) + 6 by omega]
/-- rows that a question doesn't touch -/
theorem hopA_x {g s : zM} {l x j : Int} (h : 140 ≤ x) : hopA g s l x j = s x j := by
  unfold hopA
  rw [if_neg (by omega), if_neg (by omega), if_neg (by omega), if_neg (by omega), if_neg (by omega), if_neg (by omega)]
theorem hopsA_x {g : zM} {l x j : Int} (h : 140 ≤ x) : ∀ (n : Nat) (s : zM), hopsA g l n s x j = s x j := by
  intro n
  induction n with
  | zero => intro s; rfl
  | succ n ih => intro s; unfold hopsA; rw [ih, hopA_x h]
theorem askA_x {g s : zM} {l d x j : Int} (h : 140 ≤ x) : askA g s l d x j = s x j := by
  have u : ∀ (f : zM) (y k v : Int), y < 140 → zup f y k v x j = f x j := fun f y k v hy => zup_c (by omega)
  unfold askA
  split
  · rw [u _ _ _ _ (by omega), u _ _ _ _ (by omega)]
  · have e : marksA g s l d (lookA g s l d 12 (s 130 l) 0) x j = s x j := by
      unfold marksA
      split <;> split <;> simp only [u _ 138 _ _ (by omega), u _ 134 _ _ (by omega)]
    unfold nightA
    split
    · rw [u _ _ _ _ (by omega), hopsA_x h, e]
    · split
      · rw [hopsA_x h, e]
      · rw [u _ _ _ _ (by omega), hopsA_x h, e]
theorem lordsA_x {g : zM} {d x j : Int} (h : 140 ≤ x) : ∀ (n : Nat) (s : zM), lordsA g d n s x j = s x j := by
  intro n
  induction n with
  | zero => intro s; rfl
  | succ n ih =>
    intro s
    unfold lordsA
    split
    · rw [askA_x h, ih]
    · exact ih s
theorem hopA_o {g s : zM} {l l' : Int} (h : ¬ l' = l) : hopA g s l 130 l' = s 130 l' := by simp [hopA, h]
theorem hopsA_o {g : zM} {l l' : Int} (h : ¬ l' = l) : ∀ (n : Nat) (s : zM), hopsA g l n s 130 l' = s 130 l' := by
  intro n
  induction n with
  | zero => intro s; rfl
  | succ n ih => intro s; unfold hopsA; rw [ih, hopA_o h]
/-- what is given in all stays in its bounds -/
def GB (g s : zM) (n : Int) : Prop := ∀ k, 1 ≤ k → k < g 88 4 → (0 ≤ s 140 k ∧ s 140 k ≤ 999 * n) ∧ (0 ≤ s 141 k ∧ s 141 k ≤ 999)
theorem dayA_GB {g s : zM} {d c n : Int} (hv : vG g) (hd : 0 ≤ d ∧ d ≤ 99) (hb : BA g s c c) (h : GB g s n) : GB g (dayA g s d) (n + 1) := by
  intro k h0 h1
  have v2 := hv.2.1
  have v4 := hv.2.2.2.1 k (by omega) h1
  have b0 : BA g (dutA g s) c c := by
    refine ⟨fun l e0 e1 => ?_, fun k e0 e1 => ?_⟩
    · have := hb.1 l e0 e1
      unfold LB at this ⊢
      simp [dutA]
      omega
    · have := hv.2.2.2.1 k e0 e1
      simp [dutA]
      omega
  have b1 := (lordsA_BA hv hd (g 88 12).toNat _ (by omega) b0).2 k (by omega) h1
  have x0 := lordsA_x (g := g) (d := d) (x := 140) (j := k) (by omega) (g 88 12).toNat (dutA g s)
  have x1 := lordsA_x (g := g) (d := d) (x := 141) (j := k) (by omega) (g 88 12).toNat (dutA g s)
  have x2 : dutA g s 140 k = s 140 k := by simp [dutA]
  have x3 : dutA g s 141 k = s 141 k := by simp [dutA]
  have q := h k h0 h1
  have y0 : dayA g s d 140 k = lordsA g d (g 88 12).toNat (dutA g s) 140 k + (g 93 k - lordsA g d (g 88 12).toNat (dutA g s) 139 k) := by
    unfold dayA endA; simp
  have y1 : dayA g s d 141 k = (if lordsA g d (g 88 12).toNat (dutA g s) 141 k < g 93 k - lordsA g d (g 88 12).toNat (dutA g s) 139 k then g 93 k - lordsA g d (g 88 12).toNat (dutA g s) 139 k else lordsA g d (g 88 12).toNat (dutA g s) 141 k) := by
    unfold dayA endA; simp
  rw [y0, y1, x0, x1, x2, x3]
  split <;> omega
theorem dysA_GB {g : zM} (hv : vG g) : ∀ n : Nat, n ≤ 100 → GB g (dysA g n) n := by
  intro n
  induction n with
  | zero =>
    intro _ k h0 h1
    unfold dysA
    simp [s0A]
  | succ n ih =>
    intro hn
    have := dayA_GB hv (d := n) (by omega) (dysA_BA hv n (by omega)) (ih (by omega))
    unfold dysA
    exact this
