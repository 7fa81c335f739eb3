/-! yields and costs only grow; when nobody is under way nothing changes: isBetterThan -/
theorem sumA_le {f f' : Int → Int} : ∀ n : Nat, (∀ j : Int, 0 ≤ j → j < (n : Int) → f j ≤ f' j) → sumA f n ≤ sumA f' n := by
  intro n
  induction n with
  | zero => intro _; exact Int.le_refl _
  | succ n ih =>
    intro h
    have a := ih fun j b c => h j b (by omega)
    have b := h n (by omega) (by omega)
    unfold sumA
    omega
theorem hopsA_mono {g : zM} {l c e : Int} (hv : vG g) (h0 : 0 ≤ l) (h1 : l < g 88 12) : ∀ (n : Nat) (s : zM), BA g s c e → pth g n (s 130 l) → ∀ j, s 135 j ≤ hopsA g l n s 135 j ∧ hopsA g l n s 134 j = s 134 j := by
  intro n
  induction n with
  | zero => intro s _ _ j; exact ⟨Int.le_refl _, rfl⟩
  | succ n ih =>
    intro s hb hp j
    have hg := gvA_b hv hb h0 h1
    have v6 := hv.2.2.2.2.2.1
    have mb := Int.mul_nonneg (a := g 110 3) (b := g 126 l - gvA g s l) (by omega) (by omega)
    have a := ih (hopA g s l) (hopA_BA hv hb h0 h1 (hp 0 (by omega))) (fun i hi => by rw [hopA_at]; exact hp (i + 1) (by omega)) j
    have e4 : hopA g s l 134 j = s 134 j := by simp [hopA]
    have e5 : s 135 j ≤ hopA g s l 135 j := by
      by_cases e : j = l
      · have : hopA g s l 135 j = s 135 l + g 110 3 * (g 126 l - gvA g s l) := by simp [hopA, e]
        rw [this, e]
        omega
      · have : hopA g s l 135 j = s 135 j := by simp [hopA, e]
        rw [this]
        exact Int.le_refl _
    unfold hopsA
    exact ⟨Int.le_trans e5 a.1, a.2.trans e4⟩
theorem askA_mono {g s : zM} {l d c : Int} (hv : vG g) (hb : BA g s c c) (h0 : 0 ≤ l) (h1 : l < g 88 12) (j : Int) : s 134 j ≤ askA g s l d 134 j ∧ s 135 j ≤ askA g s l d 135 j := by
  have v7 := hv.2.2.2.2.2.2 l h0 h1
  have bl := hb.1 l h0 h1
  unfold LB at bl
  unfold askA
  split
  · by_cases e : j = l
    · subst e; simp [zup]; omega
    · simp [zup, e]
  · obtain ⟨p1, p2⟩ := lookA_p (s := s) (l := l) (d := d) hv 12 (s 130 l) 0 (by omega) (by omega)
    have hp : pth g (lookA g s l d 12 (s 130 l) 0).2 (marksA g s l d (lookA g s l d 12 (s 130 l) 0) 130 l) := by
      rw [marksA_at]
      exact fun i hi => p1 i (by omega)
    have hm := hopsA_mono hv h0 h1 _ _ (marksA_BA (l := l) (d := d) (p := lookA g s l d 12 (s 130 l) 0) hb) hp j
    have m4 : s 134 j ≤ marksA g s l d (lookA g s l d 12 (s 130 l) 0) 134 j := by
      unfold marksA
      by_cases e : j = l
      · subst e; split <;> split <;> (try simp [zup]) <;> omega
      · split <;> split <;> (try simp [zup, e])
    have m5 : marksA g s l d (lookA g s l d 12 (s 130 l) 0) 135 j = s 135 j := by
      unfold marksA
      split <;> split <;> (try simp [zup])
    generalize hopsA g l (lookA g s l d 12 (s 130 l) 0).2 (marksA g s l d (lookA g s l d 12 (s 130 l) 0)) = t at hm
    generalize marksA g s l d (lookA g s l d 12 (s 130 l) 0) = u at hm m4 m5
    unfold nightA
    split
    · rw [zup_c (by decide), zup_c (by decide)]; omega
    · split
      · omega
      · rw [zup_c (by decide)]
        by_cases e : j = l
        · subst e; rw [zup_e rfl rfl]; omega
        · rw [zup_j e]; omega
theorem lordsA_mono {g : zM} {d c : Int} (hv : vG g) (hd : 0 ≤ d ∧ d ≤ 99) (j : Int) : ∀ (n : Nat) (s : zM), (n : Int) ≤ g 88 12 → BA g s c c → s 134 j ≤ lordsA g d n s 134 j ∧ s 135 j ≤ lordsA g d n s 135 j := by
  intro n
  induction n with
  | zero => intro s _ _; exact ⟨Int.le_refl _, Int.le_refl _⟩
  | succ n ih =>
    intro s hn hb
    have a := ih s (by omega) hb
    have b := lordsA_BA hv hd n s (by omega) hb
    have v := hv.2.2.2.2.2.2 n (by omega) (by omega)
    unfold lordsA
    split
    · have c := askA_mono (d := d) hv b (l := g 128 n) (by omega) (by omega) j
      omega
    · exact a
theorem dysA_mono {g : zM} (hv : vG g) (j : Int) : ∀ (k n : Nat), n + k ≤ 100 → dysA g n 134 j ≤ dysA g (n + k) 134 j ∧ dysA g n 135 j ≤ dysA g (n + k) 135 j := by
  have v2 := hv.2.1
  intro k
  induction k with
  | zero => intro n _; exact ⟨Int.le_refl _, Int.le_refl _⟩
  | succ k ih =>
    intro n hn
    have a := ih n (by omega)
    have b := lordsA_mono hv (d := (n + k : Nat)) (by omega) j (g 88 12).toNat (dutA g (dysA g (n + k))) (by omega) (dutA_BA hv (dysA_BA hv (n + k) (by omega)))
    have e4 : dysA g (n + (k + 1)) 134 j = lordsA g (n + k : Nat) (g 88 12).toNat (dutA g (dysA g (n + k))) 134 j := by
      rw [show n + (k + 1) = n + k + 1 by omega, dysA, dayA]; simp [endA]
    have e5 : dysA g (n + (k + 1)) 135 j = lordsA g (n + k : Nat) (g 88 12).toNat (dutA g (dysA g (n + k))) 135 j := by
      rw [show n + (k + 1) = n + k + 1 by omega, dysA, dayA]; simp [endA]
    have d4 : dutA g (dysA g (n + k)) 134 j = dysA g (n + k) 134 j := by simp [dutA]
    have d5 : dutA g (dysA g (n + k)) 135 j = dysA g (n + k) 135 j := by simp [dutA]
    rw [e4, e5]
    omega
/-- nobody is under way -/
def hmA (g s : zM) : Prop := ∀ l, 0 ≤ l → l < g 88 12 → g 125 l = 0 ∨ s 130 l = 0
theorem lordsA_id {g s : zM} {d : Int} (hv : vG g) (h : hmA g s) : ∀ n : Nat, (n : Int) ≤ g 88 12 → lordsA g d n s = s := by
  intro n
  induction n with
  | zero => intro _; rfl
  | succ n ih =>
    intro hn
    have v := hv.2.2.2.2.2.2 n (by omega) (by omega)
    have a := ih (by omega)
    unfold lordsA
    rw [a]
    split
    · rename_i q
      rcases h (g 128 n) (by omega) (by omega) with z | z
      · exact absurd z q.1
      · exact absurd z q.2.2
    · rfl
theorem dysA_id {g : zM} (hv : vG g) {n : Nat} (h : hmA g (dysA g n)) : ∀ (k : Nat) (x : Int), 130 ≤ x → x ≤ 138 → dysA g (n + k) x = dysA g n x := by
  have v2 := hv.2.1
  intro k
  induction k with
  | zero => intro x _ _; rfl
  | succ k ih =>
    intro x x0 x1
    have hh : hmA g (dutA g (dysA g (n + k))) := fun l l0 l1 => by
      have e : dutA g (dysA g (n + k)) 130 l = dysA g n 130 l := by simp [dutA]; rw [ih 130 (by omega) (by omega)]
      rw [e]
      exact h l l0 l1
    rw [show n + (k + 1) = n + k + 1 by omega, dysA, dayA, lordsA_id hv hh _ (by omega), ← ih x x0 x1]
    funext j
    unfold endA dutA
    rw [if_neg (by omega), if_neg (by omega), if_neg (by omega)]
theorem hmA_of {g s : zM} {n : Nat} {d : Int} (ha : AI g s d) (h : sumA (uwA g s) n = 0) : ∀ l : Int, 0 ≤ l → l < (n : Int) → l < g 88 12 → g 125 l = 0 ∨ s 130 l = 0 := by
  have key : ∀ m : Nat, m ≤ n → sumA (uwA g s) m ≤ 0 → ∀ l : Int, 0 ≤ l → l < (m : Int) → uwA g s l = 0 := by
    intro m
    induction m with
    | zero => intro _ _ l a b; omega
    | succ m ih =>
      intro hm hs l a b
      have sb := sumA_b (f := uwA g s) (A := 0) (B := 1) m fun j _ _ => by unfold uwA; split <;> omega
      have um : uwA g s m = 0 ∨ uwA g s m = 1 := by unfold uwA; split <;> omega
      have e : sumA (uwA g s) (m + 1) = sumA (uwA g s) m + uwA g s m := rfl
      by_cases z : l = m
      · rw [z]; omega
      · exact ih (by omega) (by omega) l a (by omega)
  intro l l0 l1 l2
  have u := key n (Nat.le_refl _) (by omega) l l0 l1
  have al := ha l l0 l2
  unfold uwA at u
  by_cases z : g 125 l = 0
  · exact Or.inl z
  · right
    rcases al with y | y
    · rw [if_pos ⟨z, by omega⟩] at u; omega
    · exact y.2.2
def FZ (E : Int) (m m' : zM) : Prop := ∀ x j, ¬ ((30 ≤ x ∧ x ≤ 60 ∧ (x - 30) % 6 = 0 ∧ 6 ≤ j ∧ j ≤ 15) ∨ (3 ≤ x ∧ x ≤ 25 ∧ x % 2 = 1 ∧ 8 ≤ j ∧ j ≤ 10) ∨ (x = 65 ∧ 6 ≤ j ∧ j ≤ 10) ∨ x = E + 5) → m' x j = m x j
theorem FZ_t {E : Int} {m m' m'' : zM} (a : FZ E m m') (b : FZ E m' m'') : FZ E m m'' := fun x j h => (b x j h).trans (a x j h)
theorem FZ_c {E : Int} {m m' : zM} (a : FC m m') : FZ E m m' := fun x j h => a x j fun q => h (by omega)
theorem FZ_f {E : Int} {m m' : zM} (a : FF E m m') : FZ E m m' := fun x j h => a x j fun q => h (by omega)
/-- what isBetterThan needs beside the run -/
def BE (g m : zM) (E : Int) : Prop := ER m E g ∧ LF m g ∧ m 65 3 = E ∧ m 65 4 = g 88 12 ∧ m 65 5 = g 88 3 ∧ ∀ j, 0 ≤ j → j < g 88 12 → m (29 + 6 * j) 12 = g 107 j
theorem BE_f {g m m' : zM} {E : Int} (hE : E = 76 ∨ E = 82) (hN : 0 ≤ g 88 12 ∧ g 88 12 ≤ 6) (h : BE g m E) (a : FZ E m m') : BE g m' E := by
  obtain ⟨h1, h2, h3, h4, h5, h6⟩ := h
  refine ⟨ER_f h1 fun x j x0 x1 => a x j (by omega), LF_f hN.2 h2 fun x j x0 x1 x2 x3 => a x j (by omega), (a _ _ (by omega)).trans h3, (a _ _ (by omega)).trans h4, (a _ _ (by omega)).trans h5, fun j j0 j1 => ?_⟩
  rw [a _ _ (by omega)]
  exact h6 j j0 j1
section L2
variable {Ω : zΩ} {Q : List zV → zM → Prop} {g : zM} {rr dd : Int → Int}
theorem s_below {m : zM} {y c Y C : Int} (hY : m 65 7 = Y) (hC : m 65 8 = C) (f : Y < y ∨ (Y = y ∧ C < c) → Q [zI 1] m) (n : ¬ (Y < y ∨ (Y = y ∧ C < c)) → Q [zI 0] m) : zG Ω 56 0 [zR 5 65, zI y, zI c] [] m Q := by
  refine w_X5_isStillBelow_0 ?_
  rw [hY, hC]
  exact zif (fun h => f (Or.inl h)) fun h => zif (fun h2 => zif (fun h3 => f (Or.inr ⟨h2, h3⟩)) fun h3 => n fun q => q.elim h fun z => h3 z.2) fun h2 => n fun q => q.elim h fun z => h2 z.1
theorem s_finB {m : zM} {E y c : Int} (hg : LG g) (hr : RGd g) (hE : E = 76 ∨ E = 82) (hday : ∀ l, 0 ≤ l → l < g 88 12 → ¬ rr l = 0 → 0 ≤ dd l) (hi : IC (DG g rr dd) m) (hc : ∀ l, 0 ≤ l → l < g 88 12 → CL (SD g rr dd) m l) (h7 : m 65 7 = sumA (SD g rr dd 134) (g 88 12).toNat) (h8 : m 65 8 = sumA (SD g rr dd 135) (g 88 12).toNat) (hb : BE g m E) (K1 : ∀ m', FZ E m m' → m' 65 7 = sumA (SD g rr dd 134) (g 88 12).toNat → m' 65 8 = sumA (ccD g rr dd) (g 88 12).toNat → (sumA (SD g rr dd 134) (g 88 12).toNat < y ∨ (sumA (SD g rr dd 134) (g 88 12).toNat = y ∧ sumA (ccD g rr dd) (g 88 12).toNat < c)) → Q [zI 1] m') (K0 : ∀ m', FZ E m m' → ¬ (sumA (SD g rr dd 134) (g 88 12).toNat < y ∨ (sumA (SD g rr dd 134) (g 88 12).toNat = y ∧ sumA (ccD g rr dd) (g 88 12).toNat < c)) → Q [zI 0] m') : zG Ω 58 0 [zR 5 65, zU, zU] [] m (fun r3 m3 => zk0 r3 (zG Ω 56 0 [zR 5 65, zI y, zI c] [] m3 (fun r4 m4 => zk1 r4 fun v4 => zbl v4 (Q [zI v4] m4)))) := by
  have hN := hg.2.2.1
  obtain ⟨b1, b2, b3, b4, b5, b6⟩ := hb
  refine w_X5_finish_0 (s_finC_2D (E := E) hg hr hE (g 88 12).toNat 0 m (by omega) b1 b2 b3 b4 b5 (fun j j0 j1 => ?_) (fun j j0 j1 => (hc j (by omega) j1).2.2.2.1) (fun j a b => absurd a (by omega)) (by rw [h8]; show _ = _ + 0; rw [Int.add_zero]) fun m5 f5 _ t5 => ?_)
  · have il := (hi.2.2.2 j j0 j1).2.1
    have cl := hc j j0 j1
    refine ⟨il, ?_, cl.2.2.2.2.2.2.1, cl.2.2.2.2.2.1, b6 j j0 j1⟩
    by_cases z : rr j = 0
    · exact Or.inl z
    · exact Or.inr (hday j j0 j1 z)
  · show zG Ω 56 0 _ _ _ _
    have s7 : m5 65 7 = sumA (SD g rr dd 134) (g 88 12).toNat := (f5 65 7 (by omega)).trans h7
    exact s_below s7 t5 (fun q => zk1_i (zbl_of (by decide) (by decide) (K1 m5 (FZ_f f5) s7 t5 q))) fun q => zk1_i (zbl_of (by decide) (by decide) (K0 m5 (FZ_f f5) q))
theorem s_better_6 {E y c : Int} (hg : LG g) (hr : RGd g) (hE : E = 76 ∨ E = 82) (hday : ∀ l, 0 ≤ l → l < g 88 12 → ¬ rr l = 0 → 0 ≤ dd l) : ∀ (r n : Nat) (m : zM), n + r = 100 → IC (DG g rr dd) m → RD (DG g rr dd) (dysA (DG g rr dd) n) m → BE g m E → (∀ m', FZ E m m' → m' 65 7 = sumA (SD g rr dd 134) (g 88 12).toNat → m' 65 8 = sumA (ccD g rr dd) (g 88 12).toNat → (sumA (SD g rr dd 134) (g 88 12).toNat < y ∨ (sumA (SD g rr dd 134) (g 88 12).toNat = y ∧ sumA (ccD g rr dd) (g 88 12).toNat < c)) → Q [zI 1] m') → (∀ m', FZ E m m' → ¬ (sumA (SD g rr dd 134) (g 88 12).toNat < y ∨ (sumA (SD g rr dd 134) (g 88 12).toNat = y ∧ sumA (ccD g rr dd) (g 88 12).toNat < c)) → Q [zI 0] m') → zG Ω 55 6 [zR 5 65, zI y, zI c, zI n] [] m Q := by
  have hv := DG_vG (r := rr) (d := dd) hg hr
  have hN := hg.2.2.1
  intro r
  induction r with
  | zero =>
    intro n m hn hi hd hb K1 K0
    have : n = 100 := by omega
    subst this
    exact w_X5_isBetterThan_6 (zif (fun h => absurd h (by omega)) fun _ => s_finB hg hr hE hday hi hd.1 hd.2.2.1 hd.2.2.2.1 hb K1 K0)
  | succ r ih =>
    intro n m hn hi hd hb K1 K0
    refine w_X5_isBetterThan_6 (zif (fun _ => zif (fun _ => ?_) fun hz => ?_) fun h => absurd (show (n : Int) < 100 by omega) h)
    · have gb : GB (DG g rr dd) (dysA (DG g rr dd) n) 100 := fun k k0 k1 => by
        have := dysA_GB hv n (by omega) k k0 k1
        omega
      refine s_dayC (s := dysA (DG g rr dd) n) (c := 6 * n) hv hday (by omega) (by omega) (dysA_BA hv n (by omega)) gb (dysA_AI hv n (by omega)) hi hd fun m1 f1 r1 => ?_
      have r1 : RD (DG g rr dd) (dysA (DG g rr dd) (n + 1)) m1 := r1
      have z1 := FZ_c (E := E) f1
      show zG Ω 56 0 _ _ _ _
      refine s_below r1.2.2.1 r1.2.2.2.1 (fun q => zk1_t ?_) fun q => zk1_f (K0 m1 z1 fun z => q ?_)
      · rw [zw_i (by omega) (by omega)]
        exact ih (n + 1) m1 (by omega) (IC_f hv hi f1) r1 (BE_f hE hN hb z1) (fun m' f' => K1 m' (FZ_t z1 f')) fun m' f' => K0 m' (FZ_t z1 f')
      · have e12 : DG g rr dd 88 12 = g 88 12 := rfl
        rw [e12]
        have m4 : sumA (dysA (DG g rr dd) (n + 1) 134) (g 88 12).toNat ≤ sumA (SD g rr dd 134) (g 88 12).toNat := sumA_le _ fun j j0 j1 => by
          have := (dysA_mono hv j (100 - (n + 1)) (n + 1) (by omega)).1
          rwa [show n + 1 + (100 - (n + 1)) = 100 by omega] at this
        have m5 : sumA (dysA (DG g rr dd) (n + 1) 135) (g 88 12).toNat ≤ sumA (SD g rr dd 135) (g 88 12).toNat := sumA_le _ fun j j0 j1 => by
          have := (dysA_mono hv j (100 - (n + 1)) (n + 1) (by omega)).2
          rwa [show n + 1 + (100 - (n + 1)) = 100 by omega] at this
        have m6 := ccA_sumD (g := g) (rr := rr) (dd := dd) (g 88 12).toNat
        have m7 := sumA_b (f := fiD g rr dd) (A := 0) (B := 9999) (g 88 12).toNat fun j a b => by
          have := coA_b (vl g 3 (fA g j (lateA g (SD g rr dd) j)))
          unfold fiD fnA
          split <;> omega
        omega
    · have u0 : sumA (uwA (DG g rr dd) (dysA (DG g rr dd) n)) (g 88 12).toNat = 0 := by
        have := hd.2.2.2.2.2.2
        have e : m 65 6 = sumA (uwA (DG g rr dd) (dysA (DG g rr dd) n)) (g 88 12).toNat := this
        have sb := sumA_b (f := uwA (DG g rr dd) (dysA (DG g rr dd) n)) (A := 0) (B := 1) (g 88 12).toNat fun j _ _ => by unfold uwA; split <;> omega
        omega
      have hm : hmA (DG g rr dd) (dysA (DG g rr dd) n) := fun l l0 l1 => hmA_of (dysA_AI hv n (by omega)) u0 l l0 (by have : l < g 88 12 := l1; omega) l1
      have ei : ∀ x, 130 ≤ x → x ≤ 138 → SD g rr dd x = dysA (DG g rr dd) n x := fun x x0 x1 => by
        have := dysA_id hv hm (100 - n) x x0 x1
        rwa [show n + (100 - n) = 100 by omega] at this
      have hc : ∀ l, 0 ≤ l → l < g 88 12 → CL (SD g rr dd) m l := fun l l0 l1 => CL_s (hd.1 l l0 l1) (fun x a b _ => by rw [ei x a b]) (fun k _ _ => by rw [ei 133 (by decide) (by decide)]) fun _ _ _ => rfl
      refine s_finB hg hr hE hday hi hc ?_ ?_ hb K1 K0
      · rw [ei 134 (by decide) (by decide)]; exact hd.2.2.1
      · rw [ei 135 (by decide) (by decide)]; exact hd.2.2.2.1
theorem s_better {m : zM} {E y c : Int} (hg : LG g) (hr : RGd g) (hE : E = 76 ∨ E = 82) (hday : ∀ l, 0 ≤ l → l < g 88 12 → ¬ rr l = 0 → 0 ≤ dd l) (hi : IC (DG g rr dd) m) (hb : BE g m E) (K1 : ∀ m', FZ E m m' → m' 65 7 = sumA (SD g rr dd 134) (g 88 12).toNat → m' 65 8 = sumA (ccD g rr dd) (g 88 12).toNat → (sumA (SD g rr dd 134) (g 88 12).toNat < y ∨ (sumA (SD g rr dd 134) (g 88 12).toNat = y ∧ sumA (ccD g rr dd) (g 88 12).toNat < c)) → Q [zI 1] m') (K0 : ∀ m', FZ E m m' → ¬ (sumA (SD g rr dd 134) (g 88 12).toNat < y ∨ (sumA (SD g rr dd 134) (g 88 12).toNat = y ∧ sumA (ccD g rr dd) (g 88 12).toNat < c)) → Q [zI 0] m') : zG Ω 55 0 [zR 5 65, zI y, zI c, zU] [] m Q := by
  have hv := DG_vG (r := rr) (d := dd) hg hr
  refine w_X5_isBetterThan_0 (s_beginC hv hday hi fun m1 f1 r1 => ?_)
  have z1 := FZ_c (E := E) f1
  show zG Ω 55 6 _ _ _ _
  exact s_better_6 hg hr hE hday 100 0 m1 (by omega) (IC_f hv hi f1) r1 (BE_f hE hg.2.2.1 hb z1) (fun m' f' => K1 m' (FZ_t z1 f')) fun m' f' => K0 m' (FZ_t z1 f')
end L2
