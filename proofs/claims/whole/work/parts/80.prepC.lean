/-! the class: what edicts want, and the turns -/
/-- the class's edicts E say what g's do -/
def ER (m : zM) (E : Int) (g : zM) : Prop := (m E 0 = g 110 0 ∧ m E 1 = g 110 1 ∧ m E 2 = g 110 2 ∧ m E 3 = g 110 3) ∧ (∀ e, 0 ≤ e → e ≤ 3 → cdC m E (7 + e) ∧ ∀ f, vC m E (7 + e) f = vl g e f) ∧ m E 12 = (yc g : Int) ∧ ∀ k, 0 ≤ k → k < (yc g : Int) → cdC m E (11 + k) ∧ ∀ f, vC m E (11 + k) f = vl g (4 + k) f
theorem row_eq {m m' : zM} {x : Int} (h : ∀ j, m' x j = m x j) : m' x = m x := by funext j; exact h j
theorem ER_f {m m' g : zM} {E : Int} (h : ER m E g) (e : ∀ x j, E ≤ x → x ≤ E + 4 → m' x j = m x j) : ER m' E g := by
  unfold ER at h ⊢
  have r0 : m' E = m E := row_eq fun j => e E j (by omega) (by omega)
  have r1 : m' (E + 1) = m (E + 1) := row_eq fun j => e _ j (by omega) (by omega)
  have r2 : m' (E + 2) = m (E + 2) := row_eq fun j => e _ j (by omega) (by omega)
  have r3 : m' (E + 3) = m (E + 3) := row_eq fun j => e _ j (by omega) (by omega)
  have r4 : m' (E + 4) = m (E + 4) := row_eq fun j => e _ j (by omega) (by omega)
  unfold cdC vC at h ⊢
  rw [r0, r1, r2, r3, r4]
  exact h
/-- the class's lords hold g's facts -/
def LF (m g : zM) : Prop := ∀ l, 0 ≤ l → l < g 88 12 → m (29 + 6 * l) 0 = l ∧ m (29 + 6 * l) 1 = g 97 l ∧ m (29 + 6 * l) 2 = farF (g 90) (g 91) 22 (g 97 l) 0 ∧ m (29 + 6 * l) 3 = g 98 l ∧ m (29 + 6 * l) 4 = g 99 l ∧ m (29 + 6 * l) 5 = g 100 l ∧ m (29 + 6 * l) 6 = g 101 l ∧ m (29 + 6 * l) 7 = g 102 l
theorem LF_f {m m' g : zM} (hN : g 88 12 ≤ 6) (h : LF m g) (e : ∀ x j, 29 ≤ x → x ≤ 59 → (x - 29) % 6 = 0 → j ≤ 7 → m' x j = m x j) : LF m' g := fun l l0 l1 => by
  have := h l l0 l1
  rw [e _ 0 (by omega) (by omega) (by omega) (by omega), e _ 1 (by omega) (by omega) (by omega) (by omega), e _ 2 (by omega) (by omega) (by omega) (by omega), e _ 3 (by omega) (by omega) (by omega) (by omega), e _ 4 (by omega) (by omega) (by omega) (by omega), e _ 5 (by omega) (by omega) (by omega) (by omega), e _ 6 (by omega) (by omega) (by omega) (by omega), e _ 7 (by omega) (by omega) (by omega) (by omega)]
  exact this
theorem fcC_A {m g : zM} {l lt c : Int} (h : LF m g) (h0 : 0 ≤ l) (h1 : l < g 88 12) : fcC m (29 + 6 * l) (g 88 3) lt c = fA g l lt c := by
  have := h l h0 h1
  unfold fcC fA
  rw [this.1, this.2.2.1, this.2.2.2.1, this.2.2.2.2.1, this.2.2.2.2.2.1, this.2.2.2.2.2.2.1, this.2.2.2.2.2.2.2]
theorem ahA_c {u v u' v' : Int → Int} {t : Int} : ∀ (n : Nat) (k : Int), (∀ j, k ≤ j → j < k + n → u' j = u j ∧ v' j = v j) → ahA u' v' t n k = ahA u v t n k := by
  intro n
  induction n with
  | zero => intro k _; rfl
  | succ n ih =>
    intro k h
    have := h k (by omega) (by omega)
    unfold ahA
    rw [this.1, this.2, ih (k + 1) fun j a b => h j (by omega) (by omega)]
section L2
variable {Ω : zΩ} {Q : List zV → zM → Prop} {g m : zM}
theorem s_letsG {E l : Int} (hg : LG g) (hE : E = 76 ∨ E = 82) (he : ER m E g) (hf : LF m g) (hl : 0 ≤ l ∧ l < g 88 12) (K : ∀ m', FV E m m' → Q [zI (atA g l)] m') : zG Ω 8 0 [zR 0 E, zR 1 (29 + 6 * l), zI (g 88 3)] [] m Q := by
  have hN := hg.2.2.1
  have e0 := he.2.1 0 (by omega) (by omega)
  refine s_lets hE (by omega) (fun c _ _ => fcC_A hf hl.1 hl.2) (fun c _ _ => fA_bd hg hl.1 hl.2 (by omega) c) e0.1 fun m' f' => ?_
  have K := K m' f'
  unfold atA at K
  rw [← e0.2] at K
  exact K
theorem s_coinsG {E l lt e : Int} (hg : LG g) (hE : E = 76 ∨ E = 82) (he : ER m E g) (hf : LF m g) (hl : 0 ≤ l ∧ l < g 88 12) (ht : 0 ≤ lt ∧ lt ≤ 100) (h3 : 0 ≤ e ∧ e ≤ 3) (K : ∀ m', FV E m m' → Q [zI (coA (vl g e (fA g l lt)))] m') : zG Ω 9 0 [zR 0 E, zI (7 + e), zR 1 (29 + 6 * l), zI (g 88 3), zI lt] [] m Q := by
  have hN := hg.2.2.1
  have e0 := he.2.1 e h3.1 h3.2
  refine s_coins hE (by omega) (by omega) (fun c _ _ => fcC_A hf hl.1 hl.2) (fun c _ _ => fA_bd hg hl.1 hl.2 ht c) e0.1 fun m' f' => ?_
  have K := K m' f'
  rw [← e0.2] at K
  exact K
theorem s_aheadG {E a b : Int} (hg : LG g) (hE : E = 76 ∨ E = 82) (he : ER m E g) (hf : LF m g) (ha : 0 ≤ a ∧ a < g 88 12) (hb : 0 ≤ b ∧ b < g 88 12) (K : ∀ m', FV E m m' → Q [zI (ahG g a b)] m') : zG Ω 10 0 [zR 0 E, zR 1 (29 + 6 * a), zR 1 (29 + 6 * b), zI (g 88 3), zU, zU, zU, zU, zU] [] m Q := by
  have hN := hg.2.2.1
  have yb := yc_b g
  have e12 := he.2.2.1
  refine s_putsAhead (f1 := fA g a 0) (f2 := fA g b 0) hE (by omega) (by omega) (fun c _ _ => fA_bd hg ha.1 ha.2 (by omega) c) (fun c _ _ => fA_bd hg hb.1 hb.2 (by omega) c) (by omega) (fun c _ _ => fcC_A hf ha.1 ha.2) (fun c _ _ => fcC_A hf hb.1 hb.2) (fun j j0 j1 => (he.2.2.2 j j0 (by omega)).1) fun m' f' => ?_
  have K := K m' f'
  unfold ahG at K
  rw [e12, show ((yc g : Int)).toNat = yc g by omega, (hf a ha.1 ha.2).1, (hf b hb.1 hb.2).1]
  rw [ahA_c (yc g) 0 fun j j0 j1 => ⟨(he.2.2.2 j j0 (by omega)).2 _, (he.2.2.2 j j0 (by omega)).2 _⟩]
  exact K
/-- what prepare may write -/
def FK (E : Int) (m m' : zM) : Prop := ∀ x j, ¬ (x = E + 5 ∨ x = 66 ∨ (x = 65 ∧ 3 ≤ j ∧ j ≤ 5) ∨ (29 ≤ x ∧ x ≤ 59 ∧ (x - 29) % 6 = 0 ∧ 14 ≤ j ∧ j ≤ 16)) → m' x j = m x j
theorem FK_r {E : Int} {m : zM} : FK E m m := fun _ _ _ => rfl
theorem FK_t {E : Int} {m m' m'' : zM} (a : FK E m m') (b : FK E m' m'') : FK E m m'' := fun x j h => (b x j h).trans (a x j h)
theorem FK_v {E : Int} {m m' : zM} (a : FV E m m') : FK E m m' := fun x j h => a x j (by omega)
theorem FK_u {E : Int} {m m' : zM} {x j v : Int} (a : FK E m m') (hx : x = E + 5 ∨ x = 66 ∨ (x = 65 ∧ 3 ≤ j ∧ j ≤ 5) ∨ (29 ≤ x ∧ x ≤ 59 ∧ (x - 29) % 6 = 0 ∧ 14 ≤ j ∧ j ≤ 16)) : FK E m (zup m' x j v) := fun x' j' h => by
  unfold zup
  rw [if_neg (by rintro ⟨rfl, rfl⟩; exact h hx)]
  exact a x' j' h
theorem ER_k {E : Int} {m m' g : zM} (hE : E = 76 ∨ E = 82) (h : ER m E g) (a : FK E m m') : ER m' E g := ER_f h fun x j h0 h1 => a x j (by omega)
theorem LF_k {E : Int} {m m' g : zM} (hE : E = 76 ∨ E = 82) (hN : g 88 12 ≤ 6) (h : LF m g) (a : FK E m m') : LF m' g := LF_f hN h fun x j h0 h1 h2 h3 => a x j (by omega)
theorem s_orderC_12 {E l : Int} (hg : LG g) (hE : E = 76 ∨ E = 82) (hl : 0 ≤ l ∧ l < g 88 12) : ∀ (k : Nat) (t : Int → Int) (m : zM), (k : Int) ≤ l → ER m E g → LF m g → m 65 3 = E → m 65 5 = g 88 3 → (∀ j, 0 ≤ j → j ≤ l → ¬ j = k → m 66 j = t j ∧ 0 ≤ t j ∧ t j ≤ l) → (∀ m', (∀ x j, ¬ (x = E + 5 ∨ x = 66) → m' x j = m x j) → (∀ j, 0 ≤ j → j ≤ l → m' 66 j = insA (ahG g) l k t j) → Q [] m') → zG Ω 53 12 [zR 5 65, zU, zR 2 (30 + 6 * l), zI k, zI k] [] m Q := by
  have hN := hg.2.2.1
  intro k
  induction k with
  | zero =>
    intro t m hk he hf h3 h5 ht K
    refine w_X5_putInOrder_12 (zif (fun h => absurd h (by omega)) fun _ => zin_of (by omega) (by omega) ?_)
    rw [zs_2]
    refine K _ (fun x j h => zup_c (by omega)) fun j j0 j1 => ?_
    unfold insA
    by_cases e : j = 0
    · rw [if_pos e, zup_e rfl (by omega)]
    · rw [if_neg e, zup_j (by omega)]
      exact (ht j j0 j1 (by omega)).1
  | succ k ih =>
    intro t m hk he hf h3 h5 ht K
    have htk := ht k (by omega) (by omega) (by omega)
    have ez : zw (((k + 1 : Nat) : Int) - 1) = k := by rw [zw_i (by omega) (by omega)]; omega
    have ez2 : zw (((k + 1 : Nat) : Int) + (-1)) = k := by rw [zw_i (by omega) (by omega)]; omega
    refine w_X5_putInOrder_12 (zif (fun _ => ⟨by omega, ?_⟩) fun h => absurd (show (0 : Int) < ((k + 1 : Nat) : Int) by omega) h)
    rw [ez, ez2, h3, h5, htk.1, show 30 + 6 * l + (-1) = 29 + 6 * l by omega, show 30 + 6 * t k + (-1) = 29 + 6 * t k by omega]
    unfold insA at K
    refine zin_of (by omega) (by omega) ⟨htk.2.1, s_aheadG hg hE he hf hl ⟨htk.2.1, by omega⟩ fun m1 f1 => zk1_i ?_⟩
    have e66 : ∀ j, m1 66 j = m 66 j := fun j => f1 66 j (by omega)
    refine zif (fun h => zin_of (by omega) (by omega) ?_) fun h => zin_of (by omega) (by omega) ⟨by rw [e66, htk.1]; exact htk.2.1, zin_of (by omega) (by omega) ?_⟩
    · rw [if_pos h] at K
      rw [zs_2]
      refine K _ (fun x j q => (zup_c (by omega)).trans (f1 x j (by omega))) fun j j0 j1 => ?_
      by_cases e : j = (k : Int) + 1
      · rw [if_pos e, zup_e rfl (by omega)]
      · rw [if_neg e, zup_j (by omega), e66]
        exact (ht j j0 j1 (by omega)).1
    · rw [if_neg h] at K
      rw [e66, htk.1, zs_2]
      have o : ∀ x j, ¬ (x = E + 5 ∨ x = 66) → zup m1 66 ((k + 1 : Nat) : Int) (t k) x j = m x j := fun x j q => (zup_c (by omega)).trans (f1 x j (by omega))
      refine ih _ _ (by omega) (ER_f he fun x j a b => o x j (by omega)) (LF_f hN.2 hf fun x j a b c d => o x j (by omega)) ((o _ _ (by omega)).trans h3) ((o _ _ (by omega)).trans h5) (fun j j0 j1 hj => ?_) fun m' o' r' => K m' (fun x j q => (o' x j q).trans (o x j q)) r'
      by_cases e : j = (k : Int) + 1
      · rw [if_pos e, zup_e rfl (by omega)]
        exact ⟨rfl, htk.2⟩
      · rw [if_neg e, zup_j (by omega), e66]
        exact ht j j0 j1 (by omega)
theorem s_prepC_23 {E : Int} (hg : LG g) (hE : E = 76 ∨ E = 82) : ∀ (r l : Nat) (m : zM), ((l + r : Nat) : Int) = g 88 12 → ER m E g → LF m g → m 65 3 = E → m 65 4 = g 88 12 → m 65 5 = g 88 3 → (∀ j : Int, 0 ≤ j → j < (l : Int) → m (29 + 6 * j) 14 = atA g j ∧ m (29 + 6 * j) 15 = wtA g j ∧ m (29 + 6 * j) 16 = rmA g j ∧ m 66 j = tuA g l j) → (∀ m', FK E m m' → m' 65 3 = E → m' 65 4 = g 88 12 → m' 65 5 = g 88 3 → (∀ j, 0 ≤ j → j < g 88 12 → m' (29 + 6 * j) 14 = atA g j ∧ m' (29 + 6 * j) 15 = wtA g j ∧ m' (29 + 6 * j) 16 = rmA g j ∧ m' 66 j = tuA g (g 88 12).toNat j) → Q [] m') → zG Ω 52 23 [zR 5 65, zU, zU, zI (g 88 3), zI l, zU] [] m Q := by
  have hN := hg.2.2.1
  intro r
  induction r with
  | zero =>
    intro l m hl he hf h3 h4 h5 ht K
    refine w_X5_prepare_23 (zif (fun h => absurd h (by omega)) fun _ => K m FK_r h3 h4 h5 fun j a b => ?_)
    rw [show (g 88 12).toNat = l by omega]
    exact ht j a (by omega)
  | succ r ih =>
    intro l m hl he hf h3 h4 h5 ht K
    refine w_X5_prepare_23 (zif (fun _ => zin_of (by omega) (by omega) ⟨by omega, ?_⟩) fun h => absurd (show (l : Int) < m 65 4 by omega) h)
    rw [h3, show 30 + 6 * (l : Int) + (-1) = 29 + 6 * l by omega, zw_i (x := (l : Int) + 1) (by omega) (by omega)]
    refine s_letsG hg hE he hf (by omega) fun m1 f1 => zk1_i (zbl_of ?_ ?_ ?_)
    · unfold atA; split <;> omega
    · unfold atA; split <;> omega
    have F1 : FK E m (zup m1 (29 + 6 * l) 14 (atA g l)) := FK_u (FK_v f1) (by omega)
    have q3 : zup m1 (29 + 6 * (l : Int)) 14 (atA g l) 65 3 = E := by rw [zup_c (by omega), f1 65 3 (by omega)]; exact h3
    refine ⟨by rw [q3]; omega, ?_⟩
    rw [q3]
    refine s_coinsG (e := 1) hg hE (ER_k hE he F1) (LF_k hE hN.2 hf F1) (by omega) (by omega) (by omega) fun m2 f2 => zk1_i ?_
    have F2 : FK E m (zup m2 (29 + 6 * l) 15 (wtA g l)) := FK_u (FK_t F1 (FK_v f2)) (by omega)
    have q3 : zup m2 (29 + 6 * (l : Int)) 15 (wtA g l) 65 3 = E := by rw [zup_c (by omega), f2 65 3 (by omega)]; exact q3
    refine ⟨by show 0 ≤ zup m2 (29 + 6 * (l : Int)) 15 (wtA g l) 65 3; rw [q3]; omega, ?_⟩
    show zG Ω 9 0 [zR 0 (zup m2 (29 + 6 * (l : Int)) 15 (wtA g l) 65 3), _, _, _, _] _ (zup m2 (29 + 6 * (l : Int)) 15 (wtA g l)) _
    rw [q3]
    refine s_coinsG (e := 2) hg hE (ER_k hE he F2) (LF_k hE hN.2 hf F2) (by omega) (by omega) (by omega) fun m3 f3 => zk1_i ?_
    have F3 : FK E m (zup m3 (29 + 6 * l) 16 (rmA g l)) := FK_u (FK_t F2 (FK_v f3)) (by omega)
    have fields : zup m3 (29 + 6 * (l : Int)) 16 (rmA g l) (29 + 6 * l) 14 = atA g l ∧ zup m3 (29 + 6 * (l : Int)) 16 (rmA g l) (29 + 6 * l) 15 = wtA g l ∧ zup m3 (29 + 6 * (l : Int)) 16 (rmA g l) (29 + 6 * l) 16 = rmA g l := by
      refine ⟨?_, ?_, zup_e rfl rfl⟩
      · rw [zup_j (by decide), f3 _ _ (by omega), zup_j (by decide), f2 _ _ (by omega), zup_e rfl rfl]
      · rw [zup_j (by decide), f3 _ _ (by omega), zup_e rfl rfl]
    have others : ∀ x j, ¬ (x = E + 5) → ¬ (x = 29 + 6 * (l : Int) ∧ 14 ≤ j ∧ j ≤ 16) → zup m3 (29 + 6 * (l : Int)) 16 (rmA g l) x j = m x j := by
      intro x j a b
      have u : ∀ (f : zM) (y v : Int), 14 ≤ y → y ≤ 16 → zup f (29 + 6 * (l : Int)) y v x j = f x j := fun f y v y0 y1 => by
        unfold zup
        rw [if_neg (by rintro ⟨rfl, rfl⟩; omega)]
      rw [u _ 16 _ (by decide) (by decide), f3 x j a, u _ 15 _ (by decide) (by decide), f2 x j a, u _ 14 _ (by decide) (by decide), f1 x j a]
    generalize zup m3 (29 + 6 * (l : Int)) 16 (rmA g l) = m4 at *
    show zG Ω 53 0 _ _ _ _
    refine w_X5_putInOrder_0 (zin_of (by omega) (by omega) ?_)
    refine s_orderC_12 hg hE (by omega) l (tuA g l) m4 (Int.le_refl _) (ER_k hE he F3) (LF_k hE hN.2 hf F3) ((others _ _ (by omega) (by omega)).trans h3) ((others _ _ (by omega) (by omega)).trans h5) (fun j j0 j1 hj => ?_) fun m5 o5 t5 => ?_
    · have tb := tuA_b (g := g) l j j0 (by omega)
      rw [others 66 j (by omega) (by omega)]
      exact ⟨(ht j j0 (by omega)).2.2.2, tb.1, by omega⟩
    · have F5 : FK E m m5 := FK_t F3 fun x j h => o5 x j (by omega)
      show zG Ω 52 23 _ _ _ _
      refine ih (l + 1) m5 (by omega) (ER_k hE he F5) (LF_k hE hN.2 hf F5) ((o5 _ _ (by omega)).trans ((others _ _ (by omega) (by omega)).trans h3)) ((o5 _ _ (by omega)).trans ((others _ _ (by omega) (by omega)).trans h4)) ((o5 _ _ (by omega)).trans ((others _ _ (by omega) (by omega)).trans h5)) (fun j a b => ?_) fun m' f' => K m' (FK_t F5 f')
      rw [o5 _ 14 (by omega), o5 _ 15 (by omega), o5 _ 16 (by omega), t5 j a (by omega)]
      by_cases e : j = l
      · subst e
        exact ⟨fields.1, fields.2.1, fields.2.2, rfl⟩
      · have := ht j a (by omega)
        rw [others _ 14 (by omega) (by omega), others _ 15 (by omega) (by omega), others _ 16 (by omega) (by omega)]
        exact ⟨this.1, this.2.1, this.2.2.1, rfl⟩
theorem s_prepC {E : Int} (hg : LG g) (hE : E = 76 ∨ E = 82) (he : ER m E g) (hf : LF m g) (K : ∀ m', FK E m m' → m' 65 3 = E → m' 65 4 = g 88 12 → m' 65 5 = g 88 3 → (∀ j, 0 ≤ j → j < g 88 12 → m' (29 + 6 * j) 14 = atA g j ∧ m' (29 + 6 * j) 15 = wtA g j ∧ m' (29 + 6 * j) 16 = rmA g j ∧ m' 66 j = tuA g (g 88 12).toNat j) → Q [] m') : zG Ω 52 0 [zR 5 65, zR 0 E, zI (g 88 12), zI (g 88 3), zU, zU] [] m Q := by
  have hN := hg.2.2.1
  refine w_X5_prepare_0 ?_
  rw [if_neg (by omega)]
  have F0 : FK E m (zup (zup (zup m 65 3 E) 65 4 (g 88 12)) 65 5 (g 88 3)) := FK_u (FK_u (FK_u FK_r (by omega)) (by omega)) (by omega)
  exact s_prepC_23 hg hE (g 88 12).toNat 0 _ (by omega) (ER_k hE he F0) (LF_k hE hN.2 hf F0) rfl rfl rfl (fun j a b => absurd a (by omega)) fun m' f' => K m' (FK_t F0 f')
end L2
