/-! the turns of the lords, and the reference's row at hand -/
def insA (ah : Int → Int → Int) (l : Int) : Nat → (Int → Int) → (Int → Int)
  | 0, t => fun j => if j = 0 then l else t j
  | k + 1, t => if ah l (t (k : Int)) = 0 then (fun j => if j = (k : Int) + 1 then l else t j) else insA ah l k (fun j => if j = (k : Int) + 1 then t (k : Int) else t j)
def tuA (g : zM) : Nat → (Int → Int)
  | 0 => fun _ => 0
  | n + 1 => insA (ahG g) (n : Int) n (tuA g n)
theorem insA_b {ah : Int → Int → Int} {l n : Int} (hl : 0 ≤ l ∧ l ≤ n) : ∀ (k : Nat) (t : Int → Int), (k : Int) ≤ n → (∀ j, 0 ≤ j → j ≤ n → ¬ j = k → 0 ≤ t j ∧ t j ≤ n) → ∀ j, 0 ≤ j → j ≤ n → 0 ≤ insA ah l k t j ∧ insA ah l k t j ≤ n := by
  intro k
  induction k with
  | zero =>
    intro t hk ht j j0 j1
    unfold insA
    split
    · exact hl
    · exact ht j j0 j1 (by omega)
  | succ k ih =>
    intro t hk ht j j0 j1
    unfold insA
    split
    · try dsimp only
      split
      · exact hl
      · exact ht j j0 j1 (by omega)
    · refine ih _ (by omega) (fun j j0 j1 hj => ?_) j j0 j1
      try dsimp only
      split
      · exact ht k (by omega) (by omega) (by omega)
      · exact ht j j0 j1 (by omega)
theorem tuA_b {g : zM} : ∀ (n : Nat) (j : Int), 0 ≤ j → j < n → 0 ≤ tuA g n j ∧ tuA g n j < n := by
  intro n
  induction n with
  | zero => intro j a b; omega
  | succ n ih =>
    intro j a b
    have := insA_b (ah := ahG g) (l := n) (n := n) (by omega) n (tuA g n) (Int.le_refl _) (fun j j0 j1 hj => by have := ih j j0 (by omega); omega) j a (by omega)
    unfold tuA
    omega
def FP (m m' : zM) : Prop := ∀ x j, ¬ (x = 124 ∨ (126 ≤ x ∧ x ≤ 128) ∨ (x = 88 ∧ j = 57)) → m' x j = m x j
theorem FP_r {m : zM} : FP m m := fun _ _ _ => rfl
theorem FP_t {m m' m'' : zM} (a : FP m m') (b : FP m' m'') : FP m m'' := fun x j h => (b x j h).trans (a x j h)
theorem FP_e {m m' : zM} (a : FE m m') : FP m m' := fun x j h => a x j (by omega)
theorem PG_p {g m m' : zM} (h : PG g m) (a : FP m m') : PG g m' := fun x j p => (a x j (by unfold prA at p; omega)).trans (h x j p)
theorem FP_u {m m' : zM} {x j v : Int} (a : FP m m') (hx : 126 ≤ x ∧ x ≤ 128) : FP m (zup m' x j v) := fun x' j' h => by
  unfold zup
  rw [if_neg (by rintro ⟨rfl, rfl⟩; exact h (Or.inr (Or.inl hx)))]
  exact a x' j' h
section L2
variable {Ω : zΩ} {Q : List zV → zM → Prop} {g : zM}
theorem s_prep_34 {l : Int} (hg : LG g) (hw : EW g) (hl : 0 ≤ l ∧ l < g 88 12) : ∀ (k : Nat) (t : Int → Int) (m : zM), (k : Int) ≤ l → PG g m → (∀ j, 0 ≤ j → j ≤ l → ¬ j = k → m 128 j = t j ∧ 0 ≤ t j ∧ t j ≤ l) → (∀ m', FP m m' → (∀ x j, 126 ≤ x → x ≤ 127 → m' x j = m x j) → (∀ j, 0 ≤ j → j ≤ l → m' 128 j = insA (ahG g) l k t j) → zG Ω 177 2 [zR 10 88, zI (l + 1), zU] [] m' Q) → zG Ω 177 34 [zR 10 88, zI l, zI k] [] m Q := by
  have hN := hg.2.2.1
  intro k
  induction k with
  | zero =>
    intro t m hk hp ht K
    refine w_X10_prepare_34 (zif (fun h => absurd h (by omega)) fun _ => zin_of (by omega) (by omega) ?_)
    rw [zw_i (x := l + 1) (by omega) (by omega)]
    refine K _ (FP_u FP_r (by omega)) (fun x j a b => zup_c (by omega)) fun j j0 j1 => ?_
    unfold insA
    by_cases e : j = 0
    · rw [if_pos e, zup_e rfl (by omega)]
    · rw [if_neg e, zup_j (by omega)]
      exact (ht j j0 j1 (by omega)).1
  | succ k ih =>
    intro t m hk hp ht K
    have htk := ht k (by omega) (by omega) (by omega)
    have wk : zw (((k + 1 : Nat) : Int) - 1) = k := by rw [zw_i (by omega) (by omega)]; omega
    have wk2 : zw (((k + 1 : Nat) : Int) + (-1)) = k := by rw [zw_i (by omega) (by omega)]; omega
    refine w_X10_prepare_34 (zif (fun _ => ?_) fun h => absurd (show (0 : Int) < ((k + 1 : Nat) : Int) by omega) h)
    rw [wk, wk2, htk.1, zw_i (x := l + 1) (by omega) (by omega)]
    unfold insA at K
    refine zin_of (by omega) (by omega) (s_isAhead hg hw hl ⟨htk.2.1, by omega⟩ hp fun m1 f1 => zk1_i ?_)
    have e128 : ∀ j, m1 128 j = m 128 j := fun j => f1 128 j (by omega)
    have e67 : ∀ x j, 126 ≤ x → x ≤ 127 → m1 x j = m x j := fun x j a b => f1 x j (by omega)
    refine zif (fun h => zin_of (by omega) (by omega) ?_) fun h => zin_of (by omega) (by omega) (zin_of (by omega) (by omega) ?_)
    · rw [if_pos h] at K
      refine K _ (FP_u (FP_e f1) (by omega)) (fun x j a b => (zup_c (by omega)).trans (e67 x j a b)) fun j j0 j1 => ?_
      try dsimp only
      by_cases e : j = (k : Int) + 1
      · rw [if_pos e, zup_e rfl (by omega)]
      · rw [if_neg e, zup_j (by omega), e128]
        exact (ht j j0 j1 (by omega)).1
    · rw [if_neg h] at K
      rw [e128, htk.1]
      refine ih _ _ (by omega) (PG_p hp (FP_u (FP_e f1) (by omega))) (fun j j0 j1 hj => ?_) fun m' f' e' r' => K m' (FP_t (FP_u (FP_e f1) (by omega)) f') (fun x j a b => (e' x j a b).trans ((zup_c (by omega)).trans (e67 x j a b))) r'
      try dsimp only
      by_cases e : j = (k : Int) + 1
      · rw [if_pos e, zup_e rfl (by omega)]
        exact ⟨rfl, htk.2⟩
      · rw [if_neg e, zup_j (by omega), e128]
        exact ht j j0 j1 (by omega)
theorem s_prep_2 (hg : LG g) (hw : EW g) : ∀ (r l : Nat) (m : zM), ((l + r : Nat) : Int) = g 88 12 → PG g m → (∀ j : Int, 0 ≤ j → j < (l : Int) → m 126 j = wtA g j ∧ m 127 j = rmA g j ∧ m 128 j = tuA g l j) → (∀ m', FP m m' → (∀ j, 0 ≤ j → j < g 88 12 → m' 126 j = wtA g j ∧ m' 127 j = rmA g j ∧ m' 128 j = tuA g (g 88 12).toNat j) → Q [] m') → zG Ω 177 2 [zR 10 88, zI l, zU] [] m Q := by
  have hN := hg.2.2.1
  intro r
  induction r with
  | zero =>
    intro l m hl hp ht K
    have e12 := hp 88 12 (by unfold prA; omega)
    refine w_X10_prepare_2 (zif (fun h => absurd h (by omega)) fun _ => K m FP_r fun j a b => ?_)
    rw [show (g 88 12).toNat = l by omega]
    exact ht j a (by omega)
  | succ r ih =>
    intro l m hl hp ht K
    have e12 := hp 88 12 (by unfold prA; omega)
    refine w_X10_prepare_2 (zif (fun _ => ?_) fun h => absurd (show (l : Int) < m 88 12 by omega) h)
    refine s_bearersOf hg hw (by omega) hp fun m1 f1 => zk1_i (zin_of (by omega) (by omega) ?_)
    have F1 : FP m (zup m1 126 l (wtA g l)) := FP_u (FP_e f1) (by omega)
    refine s_roomOf hg hw (by omega) (PG_p hp F1) fun m2 f2 => zk1_i (zin_of (by omega) (by omega) ?_)
    have F2 : FP m (zup m2 127 l (rmA g l)) := FP_u (FP_t F1 (FP_e f2)) (by omega)
    have e6 : ∀ j, zup m2 127 l (rmA g l) 126 j = zup m1 126 l (wtA g l) 126 j := fun j => by rw [zup_c (by decide), f2 126 j (by omega)]
    have e8 : ∀ j, zup m2 127 l (rmA g l) 128 j = m 128 j := fun j => by rw [zup_c (by decide), f2 128 j (by omega), zup_c (by decide), f1 128 j (by omega)]
    refine s_prep_34 hg hw (by omega) l (tuA g l) _ (Int.le_refl _) (PG_p hp F2) (fun j j0 j1 hj => ?_) fun m' f' e' t' => ?_
    · have tb := tuA_b (g := g) l j j0 (by omega)
      rw [e8]
      exact ⟨(ht j j0 (by omega)).2.2, tb.1, by omega⟩
    · refine ih (l + 1) m' (by omega) (PG_p hp (FP_t F2 f')) (fun j a b => ?_) fun m'' f'' => K m'' (FP_t F2 (FP_t f' f''))
      rw [e' 126 j (by decide) (by decide), e' 127 j (by decide) (by decide), t' j a (by omega), e6]
      refine ⟨?_, ?_, rfl⟩
      · by_cases e : j = l
        · rw [zup_e rfl e, e]
        · rw [zup_j e, f1 126 j (by omega)]
          exact (ht j a (by omega)).1
      · by_cases e : j = l
        · rw [zup_e rfl e, e]
        · rw [zup_j e, f2 127 j (by omega), zup_c (by decide), f1 127 j (by omega)]
          exact (ht j a (by omega)).2.1
theorem s_prepare {m : zM} (hg : LG g) (hw : EW g) (hp : PG g m) (K : ∀ m', FP m m' → (∀ j, 0 ≤ j → j < g 88 12 → m' 126 j = wtA g j ∧ m' 127 j = rmA g j ∧ m' 128 j = tuA g (g 88 12).toNat j) → Q [] m') : zG Ω 177 0 [zR 10 88, zU, zU] [] m Q := by
  have hN := hg.2.2.1
  exact w_X10_prepare_0 (s_prep_2 hg hw (g 88 12).toNat 0 m (by omega) hp (fun j a b => absurd a (by omega)) K)
end L2
/-- what is given to a run: the lords who run, and their days -/
def DG (g : zM) (r d : Int → Int) : zM := fun x j => if x = 125 then r j else if x = 126 then wtA g j else if x = 127 then rmA g j else if x = 128 then tuA g (g 88 12).toNat j else if x = 129 then d j else g x j
theorem DG_x {g : zM} {r d : Int → Int} {x : Int} (h : ¬ (125 ≤ x ∧ x ≤ 129)) : DG g r d x = g x := by
  funext j
  unfold DG
  rw [if_neg (by omega), if_neg (by omega), if_neg (by omega), if_neg (by omega), if_neg (by omega)]
/-- the rest of what a run needs -/
def RGd (g : zM) : Prop := (∀ k, 0 ≤ k → k < g 88 4 → 0 ≤ g 93 k ∧ g 93 k ≤ 999) ∧ g 95 0 = 0 ∧ ((1 ≤ g 110 0 ∧ g 110 0 ≤ 24) ∧ (1 ≤ g 110 1 ∧ g 110 1 ≤ 99) ∧ (1 ≤ g 110 2 ∧ g 110 2 ≤ 9) ∧ (0 ≤ g 110 3 ∧ g 110 3 ≤ 99)) ∧ ∀ l, 0 ≤ l → l < g 88 12 → 0 ≤ g 107 l ∧ g 107 l ≤ 99
theorem DG_vG {g : zM} {r d : Int → Int} (hg : LG g) (hr : RGd g) : vG (DG g r d) := by
  obtain ⟨a, b, c, e, f⟩ := hg
  have E : ∀ x, ¬ (125 ≤ x ∧ x ≤ 129) → DG g r d x = g x := fun x h => DG_x h
  unfold vG
  rw [E 88 (by omega), E 90 (by omega), E 91 (by omega), E 93 (by omega), E 95 (by omega), E 110 (by omega), E 97 (by omega), E 107 (by omega)]
  refine ⟨⟨b, a.1⟩, c, fun k k0 k1 => ?_, hr.1, hr.2.1, hr.2.2.1, fun l l0 l1 => ?_⟩
  · have := a.2 k k0 k1; omega
  · have q1 : DG g r d 126 l = wtA g l := by simp [DG]
    have q2 : DG g r d 127 l = rmA g l := by simp [DG]
    have q3 : DG g r d 128 l = tuA g (g 88 12).toNat l := by simp [DG]
    have t := tuA_b (g := g) (g 88 12).toNat l l0 (by omega)
    have w1 := coA_b (vl g 1 (fA g l 0))
    have w2 := coA_b (vl g 2 (fA g l 0))
    have w3 := hr.2.2.2 l l0 l1
    have w4 := f l l0 l1
    rw [q1, q2, q3]
    exact ⟨w4.1, w1, w2, ⟨t.1, by omega⟩, w3⟩
