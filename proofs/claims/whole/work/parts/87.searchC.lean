/-! the class's search -/
abbrev fsA (g : zM) (mv d : Int) (l : Int) : Int := if atA g l = 0 then -1 else lwA g mv d l
abbrev laA (g : zM) (mv d : Int) (l : Int) : Int := if atA g l = 0 then -1 else hiA g mv d l
/-- the class has opened a search -/
def SQ (g : zM) (mv d : Int) (m : zM) : Prop := CS g m ∧ (m 67 5 = g 88 12 ∧ m 67 6 = mv) ∧ (m 65 3 = m 0 7 ∧ m 65 4 = g 88 12 ∧ m 65 5 = g 88 3) ∧ ∀ l, 0 ≤ l → l < g 88 12 → (m 68 l = fsA g mv d l ∧ m 69 l = laA g mv d l) ∧ (m (29 + 6 * l) 14 = atA g l ∧ m (29 + 6 * l) 15 = wtA g l ∧ m (29 + 6 * l) 16 = rmA g l ∧ m 66 l = tuA g (g 88 12).toNat l)
abbrev sqY (x j : Int) : Prop := (3 ≤ x ∧ x ≤ 25 ∧ x % 2 = 1 ∧ 8 ≤ j ∧ j ≤ 10) ∨ (30 ≤ x ∧ x ≤ 60 ∧ (x - 30) % 6 = 0 ∧ 5 ≤ j ∧ j ≤ 15) ∨ (x = 65 ∧ 6 ≤ j ∧ j ≤ 10) ∨ (x = 67 ∧ 7 ≤ j) ∨ x = 70 ∨ x = 81 ∨ x = 87
def FS (m m' : zM) : Prop := ∀ x j, ¬ sqY x j → m' x j = m x j
theorem FS_r {m : zM} : FS m m := fun _ _ _ => rfl
theorem FS_t {m m' m'' : zM} (a : FS m m') (b : FS m' m'') : FS m m'' := fun x j h => (b x j h).trans (a x j h)
theorem FS_u {m m' : zM} {x j v : Int} (a : FS m m') (hx : sqY x j) : FS m (zup m' x j v) := fun x' j' h => by
  unfold zup
  rw [if_neg (by rintro ⟨rfl, rfl⟩; exact h hx)]
  exact a x' j' h
theorem sq_2 {x j : Int} (h : 30 ≤ x ∧ x ≤ 60 ∧ (x - 30) % 6 = 0 ∧ 5 ≤ j ∧ j ≤ 15) : sqY x j := Or.inr (Or.inl h)
theorem sq_E {E x j : Int} (hE : E = 76 ∨ E = 82) (h : x = E + 5) : sqY x j := by
  rcases hE with e | e
  · exact Or.inr (Or.inr (Or.inr (Or.inr (Or.inr (Or.inl (by omega))))))
  · exact Or.inr (Or.inr (Or.inr (Or.inr (Or.inr (Or.inr (by omega))))))
theorem FS_z {E : Int} {m m' : zM} (hE : E = 76 ∨ E = 82) (a : FZ E m m') : FS m m' := fun x j h => a x j fun q => h (by
  rcases q with q | q | q | q
  · exact sq_2 (by omega)
  · exact Or.inl q
  · exact Or.inr (Or.inr (Or.inl q))
  · exact sq_E hE q)
theorem cs_sq {x j : Int} (c : csY x j) : ¬ sqY x j := by
  intro s
  rcases c with c | c | c | c | c | c | c <;> rcases s with s | s | s | s | s | s | s <;> omega
theorem SQ_f {g m m' : zM} {mv d : Int} (hg : LG g) (h : SQ g mv d m) (a : FS m m') : SQ g mv d m' := by
  have hN := hg.2.2.1
  obtain ⟨h1, h2, h3, h4⟩ := h
  have n7 : m' 0 7 = m 0 7 := a _ _ (by unfold sqY; omega)
  refine ⟨CS_f hg h1 fun x j c => a x j (cs_sq c), ⟨(a _ _ (by unfold sqY; omega)).trans h2.1, (a _ _ (by unfold sqY; omega)).trans h2.2⟩, ⟨?_, (a _ _ (by unfold sqY; omega)).trans h3.2.1, (a _ _ (by unfold sqY; omega)).trans h3.2.2⟩, fun l l0 l1 => ?_⟩
  · rw [n7, a _ _ (by unfold sqY; omega)]; exact h3.1
  · have := h4 l l0 l1
    rw [a 68 l (by unfold sqY; omega), a 69 l (by unfold sqY; omega), a 66 l (by unfold sqY; omega), a _ 14 (by unfold sqY; omega), a _ 15 (by unfold sqY; omega), a _ 16 (by unfold sqY; omega)]
    exact this
/-- the row of days in the class -/
def DQ (g : zM) (mv d c : Int) (m : zM) : Prop := ∀ l, 0 ≤ l → l < g 88 12 → m (30 + 6 * l) 5 = dyA g mv d c l
section L2
variable {Ω : zΩ} {Q : List zV → zM → Prop} {g : zM}
theorem s_open_18 {mv d : Int} (hg : LG g) (hm : mv = 0 ∨ mv = 1) (hw : WG g) : ∀ (r : Nat) (l : Int) (m : zM), l + r = g 88 12 → 0 ≤ l → m 67 5 = g 88 12 → m 67 6 = mv → (∀ j, 0 ≤ j → j < g 88 12 → m (29 + 6 * j) 14 = atA g j ∧ m (29 + 6 * j) 10 = g 105 j ∧ m (29 + 6 * j) 11 = g 106 j ∧ m (29 + 6 * j) 13 = g 108 j) → (∀ j, 0 ≤ j → j < l → m 68 j = fsA g mv d j ∧ m 69 j = laA g mv d j) → (∀ m', (∀ x j, ¬ (x = 68 ∨ x = 69) → m' x j = m x j) → (∀ j, 0 ≤ j → j < g 88 12 → m' 68 j = fsA g mv d j ∧ m' 69 j = laA g mv d j) → Q [] m') → zG Ω 69 18 [zR 6 67, zU, zI d, zU, zI l, zU] [] m Q := by
  have hN := hg.2.2.1
  intro r
  induction r with
  | zero =>
    intro l m hl h0 h5 h6 hA hB K
    exact w_X6_open_18 (zif (fun h => absurd h (by omega)) fun _ => K m (fun _ _ _ => rfl) fun j a b => hB j a (by omega))
  | succ r ih =>
    intro l m hl h0 h5 h6 hA hB K
    have al := hA l h0 (by omega)
    have wl := hw l h0 (by omega)
    have next : ∀ a b, a = fsA g mv d l → b = laA g mv d l → zG Ω 70 0 [zR 6 67, zI l, zI a, zI b] [] m (fun r8 m8 => zk0 r8 (zG Ω 69 18 [zR 6 67, zU, zI d, zU, zI (l + 1), zU] [] m8 Q)) := by
      intro a b ha hb
      refine w_X6_allow_0 (zin_of (by omega) (by omega) (zin_of (by omega) (by omega) ?_))
      show zG Ω 69 18 _ _ _ _
      refine ih (l + 1) _ (by omega) (by omega) (by rw [zup_c (by decide), zup_c (by decide)]; exact h5) (by rw [zup_c (by decide), zup_c (by decide)]; exact h6) (fun j j0 j1 => ?_) (fun j j0 j1 => ?_) fun m' o' => K m' fun x j h => (o' x j h).trans (by rw [zup_c (by omega), zup_c (by omega)])
      · simp (disch := omega) only [zup_c]
        exact hA j j0 j1
      · by_cases e : j = l
        · subst e
          rw [zup_c (by decide), zup_e rfl rfl, zup_e rfl rfl]
          exact ⟨ha, hb⟩
        · rw [zup_c (by decide), zup_j e, zup_j e, zup_c (by decide)]
          exact hB j j0 (by omega)
    refine w_X6_open_18 (zif (fun _ => zin_of (by omega) (by omega) ?_) fun h => absurd (show l < m 67 5 by omega) h)
    rw [show 30 + 6 * l + (-1) = 29 + 6 * l by omega, al.1, al.2.1, al.2.2.1, al.2.2.2, h6, zw_i (x := l + 1) (by omega) (by omega)]
    unfold fsA laA lwA hiA at next
    refine zif (fun h => next _ _ ?_ ?_) fun h => zif (fun h1 => ?_) fun h1 => zif (fun h2 => ?_) fun h2 => zif (fun h3 => next _ _ ?_ ?_) fun h3 => ?_
    · rw [if_pos h]
    · rw [if_pos h]
    · rw [if_pos h1]
      refine next _ _ ?_ ?_
      · rw [if_neg h, if_pos h1]
      · rw [if_neg h, if_pos h1]
    · rw [if_neg h1]
      refine next _ _ ?_ ?_
      · rw [if_neg h, if_neg h1, if_neg (show ¬ (0 ≤ g 108 l ∧ g 108 l < d) by omega)]
        by_cases z : d < g 105 l
        · rw [if_pos z, if_neg (by omega)]
        · rw [if_neg z]; split <;> omega
      · rw [if_neg h, if_neg h1, if_neg (show ¬ (0 ≤ g 108 l ∧ g 108 l < d) by omega)]
    · rw [if_neg h, if_neg h1, if_pos (show 0 ≤ g 108 l ∧ g 108 l < d by omega)]
    · rw [if_neg h, if_neg h1, if_pos (show 0 ≤ g 108 l ∧ g 108 l < d by omega)]
    · rw [if_neg h1]
      refine next _ _ ?_ ?_
      · rw [if_neg h, if_neg h1, if_neg (show ¬ (0 ≤ g 108 l ∧ g 108 l < d) by omega)]
        by_cases z : d < g 105 l
        · rw [if_pos z, if_neg (by omega)]
        · rw [if_neg z]; split <;> omega
      · rw [if_neg h, if_neg h1, if_neg (show ¬ (0 ≤ g 108 l ∧ g 108 l < d) by omega)]
theorem s_step_7 {mv d c : Int} (hg : LG g) (hw : WG g) (hd : 0 ≤ d ∧ d ≤ 99) (hc : 0 ≤ c ∧ c ≤ 2000) (hn : ∀ j, 0 ≤ j → j < g 88 12 → 1 ≤ nnA g mv d j) : ∀ (l : Nat) (m : zM), (l : Int) ≤ g 88 12 → SQ g mv d m → (∀ j : Int, 0 ≤ j → j < (l : Int) → m (30 + 6 * j) 5 = dyA g mv d c j) → (∀ j : Int, (l : Int) ≤ j → j < g 88 12 → m (30 + 6 * j) 5 = dyA g mv d (c + 1) j) → vvA (nnA g mv d) (g 88 12).toNat (c + 1) ((g 88 12).toNat - l) = vvA (nnA g mv d) (g 88 12).toNat c ((g 88 12).toNat - l) + 1 → (∀ m', FS m m' → m' 67 = m 67 → m' 70 = m 70 → DQ g mv d (c + 1) m' → Q [] m') → zG Ω 74 7 [zR 6 67, zI ((l : Int) - 1)] [] m Q := by
  have hN := hg.2.2.1
  intro l
  induction l with
  | zero =>
    intro m hl hs hA hB hv K
    exact w_X6_stepRow_7 (zif (fun _ => K m FS_r rfl rfl fun j a b => hB j (by omega) b) fun h => absurd (show ((0 : Nat) : Int) - 1 < 0 by omega) h)
  | succ l ih =>
    intro m hl hs hA hB hv K
    have el : ((l + 1 : Nat) : Int) - 1 = l := by omega
    rw [el]
    have sl := (hs.2.2.2 l (by omega) (by omega)).1
    have al := hA l (by omega) (by omega)
    have nl := hn l (by omega) (by omega)
    have lb := lw_b (mv := mv) (d := d) hw hd (l := l) (by omega) (by omega)
    have ek : (g 88 12).toNat - l = ((g 88 12).toNat - (l + 1)) + 1 := by omega
    have ei : ((g 88 12).toNat : Int) - 1 - (((g 88 12).toNat - (l + 1) : Nat) : Int) = l := by omega
    have eq : (g 88 12).toNat - 1 - ((l : Int)).toNat = (g 88 12).toNat - (l + 1) := by omega
    generalize hk : (g 88 12).toNat - (l + 1) = k at *
    have vb := vvA_b (f := nnA g mv d) (N := (g 88 12).toNat) (c := c) hc.1 (fun j a b => hn j a (by omega)) k (by omega)
    have v1 : vvA (nnA g mv d) (g 88 12).toNat c (k + 1) = vvA (nnA g mv d) (g 88 12).toNat c k / nnA g mv d l := by rw [vvA, ei]
    have v2 : vvA (nnA g mv d) (g 88 12).toNat (c + 1) (k + 1) = (vvA (nnA g mv d) (g 88 12).toNat c k + 1) / nnA g mv d l := by rw [vvA, ei, hv]
    have d1 : ∀ e, dyA g mv d e l = if atA g l = 0 then -1 else lwA g mv d l + vvA (nnA g mv d) (g 88 12).toNat e k % nnA g mv d l := fun e => by
      unfold dyA
      rw [eq]
    obtain ⟨s1, s2⟩ := div_succ nl vb.1
    have mb := Int.emod_nonneg (vvA (nnA g mv d) (g 88 12).toNat c k) (show nnA g mv d l ≠ 0 by omega)
    have mb2 := Int.emod_lt_of_pos (vvA (nnA g mv d) (g 88 12).toNat c k) (show 0 < nnA g mv d l by omega)
    refine w_X6_stepRow_7 (zif (fun h => absurd h (by omega)) fun _ => zin_of (by omega) (by omega) (zin_of (by omega) (by omega) ?_))
    rw [al, sl.2, sl.1, d1 c]
    by_cases q : atA g l = 0
    · have nn1 : nnA g mv d l = 1 := by unfold nnA; rw [if_pos q]
      unfold fsA laA
      rw [if_pos q, if_pos q, if_pos q, if_neg (by decide), zw_i (x := (l : Int) + (-1)) (by omega) (by omega)]
      refine zin_of (by omega) (by omega) (zin_of (by omega) (by omega) ?_)
      rw [show (l : Int) + (-1) = (l : Int) - 1 by omega]
      have f1 : FS m (zup m (30 + 6 * l) 5 (-1)) := FS_u FS_r (sq_2 (by omega))
      refine ih _ (by omega) (SQ_f hg hs f1) (fun j j0 j1 => by rw [zup_c (by omega)]; exact hA j j0 (by omega)) (fun j j0 j1 => ?_) ?_ fun m' f' e1 e2 => K m' (FS_t f1 f') (e1.trans (zup_row (by omega))) (e2.trans (zup_row (by omega)))
      · by_cases e : j = l
        · rw [e, zup_e rfl rfl, d1, if_pos q]
        · rw [zup_c (by omega)]; exact hB j (by omega) j1
      · rw [ek, v1, v2, nn1]
        simp
    · have nne : nnA g mv d l = hiA g mv d l - lwA g mv d l + 1 := by unfold nnA; rw [if_neg q]
      unfold fsA laA
      rw [if_neg q, if_neg q, if_neg q, zw_i (x := (l : Int) + (-1)) (by omega) (by omega), zw_i (x := lwA g mv d l + vvA (nnA g mv d) (g 88 12).toNat c k % nnA g mv d l + 1) (by omega) (by omega)]
      refine zif (fun h => zin_of (by omega) (by omega) ?_) fun h => zin_of (by omega) (by omega) (zin_of (by omega) (by omega) ?_)
      · have z := s1 (by omega)
        have f1 : FS m (zup m (30 + 6 * l) 5 (lwA g mv d l + vvA (nnA g mv d) (g 88 12).toNat c k % nnA g mv d l + 1)) := FS_u FS_r (sq_2 (by omega))
        refine K _ f1 (zup_row (by omega)) (zup_row (by omega)) fun j j0 j1 => ?_
        by_cases e : j = l
        · rw [e, zup_e rfl rfl, d1, if_neg q, hv, z.1]; omega
        · rw [zup_c (by omega)]
          by_cases e2 : j < l
          · have vs := vvA_same (f := nnA g mv d) (N := (g 88 12).toNat) (c := c) (c' := c + 1) (k := k + 1) (by rw [v1, v2, z.2]) ((g 88 12).toNat - 1 - j.toNat - (k + 1))
            rw [show k + 1 + ((g 88 12).toNat - 1 - j.toNat - (k + 1)) = (g 88 12).toNat - 1 - j.toNat by omega] at vs
            rw [hA j j0 (by omega)]
            unfold dyA
            rw [vs]
          · exact hB j (by omega) j1
      · have z := s2 (by omega)
        rw [show (l : Int) + (-1) = (l : Int) - 1 by omega]
        have f1 : FS m (zup m (30 + 6 * l) 5 (lwA g mv d l)) := FS_u FS_r (sq_2 (by omega))
        refine ih _ (by omega) (SQ_f hg hs f1) (fun j j0 j1 => by rw [zup_c (by omega)]; exact hA j j0 (by omega)) (fun j j0 j1 => ?_) ?_ fun m' f' e1 e2 => K m' (FS_t f1 f') (e1.trans (zup_row (by omega))) (e2.trans (zup_row (by omega)))
        · by_cases e : j = l
          · rw [e, zup_e rfl rfl, d1, if_neg q, hv, z.1, Int.add_zero]
          · rw [zup_c (by omega)]; exact hB j (by omega) j1
        · rw [ek, v1, v2, z.2]
end L2
