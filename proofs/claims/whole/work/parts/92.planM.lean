/-! plan and anew, of the reference -/
def SR (g : zM) (mv d : Int) (m : zM) : Prop := PG g m ∧ ∀ l, 0 ≤ l → l < g 88 12 → m 125 l = atA g l ∧ m 143 l = lwA g mv d l ∧ m 144 l = hiA g mv d l ∧ m 145 l = g 108 l
def FT (m m' : zM) : Prop := ∀ x j, ¬ (x = 108 ∨ (124 ≤ x ∧ x ≤ 146) ∨ (x = 88 ∧ (j = 2 ∨ j = 57 ∨ (76 ≤ j ∧ j ≤ 78) ∨ j = 83))) → m' x j = m x j
theorem FT_t {m m' m'' : zM} (a : FT m m') (b : FT m' m'') : FT m m'' := fun x j h => (b x j h).trans (a x j h)
theorem prd_zero {f : Int → Int} {j : Int} (h0 : 0 ≤ j) (hf : f j = 0) : ∀ n : Nat, j < (n : Int) → prdA f n = 0 := by
  intro n
  induction n with
  | zero => intro h; omega
  | succ n ih =>
    intro h
    unfold prdA
    by_cases e : j = n
    · rw [← e, hf, Int.mul_zero]
    · rw [ih (by omega), Int.zero_mul]
theorem PA_eq {g : zM} {mv d : Int} (hN : 0 ≤ g 88 12) (hn : ∀ j, 0 ≤ j → j < g 88 12 → 1 ≤ nnA g mv d j) : PA g mv d = prdA (nnA g mv d) (g 88 12).toNat := prdA_c _ fun j a b => by
  have := hn j a (by omega)
  unfold n0A
  rw [if_pos (by omega)]
theorem PA_0 {g : zM} {mv d j : Int} (h0 : 0 ≤ j) (h1 : j < g 88 12) (h : nnA g mv d j ≤ 0) : PA g mv d = 0 := prd_zero h0 (by unfold n0A; rw [if_neg (by omega)]) _ (by omega)
section L2
variable {Ω : zΩ} {Q : List zV → zM → Prop} {g : zM}
theorem s_rows_4 {m : zM} {mv d : Int} (hg : LG g) (hw : WG g) (hd : 0 ≤ d ∧ d ≤ 99) (hn : ∀ j, 0 ≤ j → j < g 88 12 → 1 ≤ nnA g mv d j) (hs : SR g mv d m) (K0 : ¬ prdA (nnA g mv d) (g 88 12).toNat ≤ 2000 → Q [zI (-1)] (zup m 88 78 2000)) (K1 : prdA (nnA g mv d) (g 88 12).toNat ≤ 2000 → zG Ω 177 0 [zR 10 88, zU, zU] [] (zup m 88 78 (prdA (nnA g mv d) (g 88 12).toNat)) (fun r1 m1 => zk0 r1 (zG Ω 194 88 [zR 10 88, zI mv, zI (prdA (nnA g mv d) (g 88 12).toNat), zI 0, zL 0, zU, zL 0, zU, zI 0, zI 0, zU, zU, zU, zU, zU, zU, zU, zU] [] m1 Q))) : ∀ (r l : Nat), l + r = (g 88 12).toNat → prdA (nnA g mv d) l ≤ 2000 → zG Ω 194 4 [zR 10 88, zI mv, zI (prdA (nnA g mv d) l), zI l, zU, zU, zU, zU, zU, zU, zU, zU, zU, zU, zU, zU, zU, zU] [] m Q := by
  have hN := hg.2.2.1
  have em := hs.1 88 12 (by unfold prA; omega)
  intro r
  induction r with
  | zero =>
    intro l hl hp
    rw [show (g 88 12).toNat = l by omega] at K1
    exact w_X10_search_4 (zif (fun h => absurd h (by omega)) fun _ => K1 hp)
  | succ r ih =>
    intro l hl hp
    have sl := hs.2 l (by omega) (by omega)
    have nl := hn l (by omega) (by omega)
    have lb := lw_b (mv := mv) (d := d) hw hd (l := l) (by omega) (by omega)
    have p1 := prdA_pos hn l (by omega)
    have e : prdA (nnA g mv d) (l + 1) = prdA (nnA g mv d) l * nnA g mv d l := rfl
    have big : 2000 < prdA (nnA g mv d) (l + 1) → Q [zI (-1)] (zup m 88 78 2000) := fun h => K0 fun q => by
      have := prdA_mono hn (l + 1) ((g 88 12).toNat - (l + 1)) (by omega)
      rw [show l + 1 + ((g 88 12).toNat - (l + 1)) = (g 88 12).toNat by omega] at this
      omega
    have go : ∀ v, v = prdA (nnA g mv d) (l + 1) → ¬ 2000 < v → zG Ω 194 4 [zR 10 88, zI mv, zI v, zI ((l : Int) + 1), zU, zU, zU, zU, zU, zU, zU, zU, zU, zU, zU, zU, zU, zU] [] m Q := fun v hv h => by
      rw [hv]
      exact ih (l + 1) (by omega) (by omega)
    refine w_X10_search_4 (zif (fun _ => zin_of (by omega) (by omega) ?_) fun h => absurd (show (l : Int) < m 88 12 by omega) h)
    rw [sl.1, sl.2.1, sl.2.2.1, zw_i (x := (l : Int) + 1) (by omega) (by omega)]
    refine zif (fun q => ?_) fun q => zin_of (by omega) (by omega) (zin_of (by omega) (by omega) ?_)
    · have nn1 : nnA g mv d l = 1 := by unfold nnA; rw [if_pos q]
      rw [nn1] at e
      rw [← e]
      have : prdA (nnA g mv d) (l + 1) = prdA (nnA g mv d) l := by rw [e, Int.mul_one]
      rw [zw_i (by omega) (by omega)]
      exact zif (fun h => big h) fun h => go _ rfl h
    · have nne : nnA g mv d l = hiA g mv d l - lwA g mv d l + 1 := by unfold nnA; rw [if_neg q]
      have mb := mul_b (a := prdA (nnA g mv d) l) (b := nnA g mv d l) (A := 2000) (B := 101) (by omega) hp (by omega) (by omega)
      rw [zw_i (x := hiA g mv d l - lwA g mv d l) (by omega) (by omega), zw_i (x := hiA g mv d l - lwA g mv d l + 1) (by omega) (by omega), ← nne, zw_i (by omega) (by omega), ← e]
      exact zif (fun h => big h) fun h => go _ rfl h
theorem s_row424 {b : Int → Int} {y : Int} (hN : 0 ≤ g 88 12 ∧ g 88 12 ≤ 6) : ∀ (r l : Nat) (m : zM), ((l + r : Nat) : Int) = g 88 12 → m 88 12 = g 88 12 → (∀ j, 0 ≤ j → j < g 88 12 → m 146 j = b j) → (∀ j : Int, 0 ≤ j → j < (l : Int) → m 108 j = b j) → (∀ m', (∀ x j, ¬ (x = 108 ∧ 0 ≤ j ∧ j < g 88 12) → m' x j = m x j) → (∀ j, 0 ≤ j → j < g 88 12 → m' 108 j = b j) → Q [zI y] m') → zG Ω 194 424 [zR 10 88, zU, zU, zU, zU, zU, zU, zU, zI y, zI l, zU, zU, zU, zU, zU, zU, zU, zU] [] m Q := by
  intro r
  induction r with
  | zero =>
    intro l m hl em hB hA K
    exact w_X10_search_424 (zif (fun h => absurd h (by omega)) fun _ => K m (fun _ _ _ => rfl) fun j a b => hA j a (by omega))
  | succ r ih =>
    intro l m hl em hB hA K
    refine w_X10_search_424 (zif (fun _ => zin_of (by omega) (by omega) (zin_of (by omega) (by omega) ?_)) fun h => absurd (show (l : Int) < m 88 12 by omega) h)
    rw [hB l (by omega) (by omega), zw_i (x := (l : Int) + 1) (by omega) (by omega)]
    refine ih (l + 1) _ (by omega) (by rw [zup_c (by decide)]; exact em) (fun j j0 j1 => by rw [zup_c (by decide)]; exact hB j j0 j1) (fun j j0 j1 => ?_) fun m' o' => K m' fun x j h => (o' x j h).trans ?_
    · by_cases e : j = l
      · rw [e, zup_e rfl rfl]
      · rw [zup_j e]; exact hA j j0 (by omega)
    · unfold zup
      rw [if_neg (by rintro ⟨rfl, rfl⟩; omega)]
theorem s_searchM {m : zM} {mv d : Int} (hg : LG g) (hwf : EW g) (hr : RGd g) (hw : WG g) (hd : 0 ≤ d ∧ d ≤ 99) (hn : ∀ j, 0 ≤ j → j < g 88 12 → 1 ≤ nnA g mv d j) (hs : SR g mv d m) (K0 : ¬ okP g mv d → ∀ m', FT m m' → PG g m' → m' 88 78 = lkA g mv d → Q [zI (-1)] m') (K1 : okP g mv d → ∀ m', FT m m' → PG (gR g (BA' g mv d).2.2.2.2.2) m' → m' 88 78 = lkA g mv d → m' 88 83 = (BA' g mv d).2.2.2.2.1 → Q [zI (BA' g mv d).2.2.1] m') : zG Ω 194 0 [zR 10 88, zI mv, zU, zU, zU, zU, zU, zU, zU, zU, zU, zU, zU, zU, zU, zU, zU, zU] [] m Q := by
  have hN := hg.2.2.1
  have ep := PA_eq hN.1 hn
  have pp := prdA_pos hn (g 88 12).toNat (by omega)
  refine w_X10_search_0 (s_rows_4 hg hw hd hn hs (fun q => ?_) (fun q => ?_) (g 88 12).toNat 0 (by omega) (by show (1 : Int) ≤ 2000; omega))
  · refine K0 (fun z => by unfold okP at z; omega) _ (fun x j h => ?_) (fun x j p => ?_) ?_
    · unfold zup
      rw [if_neg (by rintro ⟨rfl, rfl⟩; omega)]
    · rw [← hs.1 x j p]
      unfold zup
      rw [if_neg (by rintro ⟨rfl, rfl⟩; unfold prA at p; omega)]
    · rw [zup_e rfl rfl]; unfold lkA; rw [if_neg (by omega)]
  · have ok : okP g mv d := ⟨by omega, by omega⟩
    have el : lkA g mv d = prdA (nnA g mv d) (g 88 12).toNat := by unfold lkA; split <;> omega
    rw [← ep]
    have o0 : ∀ x j, ¬ (x = 88 ∧ j = 78) → zup m 88 78 (PA g mv d) x j = m x j := fun x j h => by
      unfold zup
      rw [if_neg h]
    have p0 : PG g (zup m 88 78 (PA g mv d)) := fun x j p => (o0 x j (by unfold prA at p; omega)).trans (hs.1 x j p)
    refine s_prepare hg hwf p0 fun m1 f1 r1 => ?_
    have o1 : ∀ x j, ¬ (x = 124 ∨ (126 ≤ x ∧ x ≤ 128) ∨ (x = 88 ∧ (j = 57 ∨ j = 78))) → m1 x j = m x j := fun x j h => (f1 x j (by omega)).trans (o0 x j (by omega))
    have s1 : SP g mv d m1 := ⟨PG_p p0 f1, fun l l0 l1 => by
      have a := hs.2 l l0 l1
      have b := r1 l l0 l1
      rw [o1 125 l (by omega), o1 143 l (by omega), o1 144 l (by omega), o1 145 l (by omega)]
      exact ⟨⟨a.1, b⟩, a.2⟩⟩
    have e78 : m1 88 78 = PA g mv d := by rw [f1 88 78 (by omega), zup_e rfl rfl]
    show zG Ω 194 88 _ _ _ _
    have key := s_main_88 (Ω := Ω) (Q := Q) (mv := mv) (d := d) (x2 := PA g mv d) hg hwf hr hw hd hn (PA g mv d).toNat 0 m1 (by omega) (by omega) s1 (fun z => by unfold bsA at z; dsimp only at z; omega) fun m2 f2 s2 b2 => ?_
    · exact key
    · rw [Nat.zero_add] at b2 ⊢
      have bb := (bs_b (mv := mv) (d := d) hg hr hw (PA g mv d).toNat).1 (by omega)
      obtain ⟨q83, q146⟩ := b2 bb
      refine s_row424 (b := (BA' g mv d).2.2.2.2.2) hN (g 88 12).toNat 0 m2 (by omega) (s2.1 88 12 (by unfold prA; omega)) q146 (fun j a b => absurd a (by omega)) fun m3 o3 r3 => ?_
      refine K1 ok m3 (fun x j h => ?_) (fun x j p => ?_) ?_ ?_
      · rw [o3 x j (by omega), f2 x j (by omega), o1 x j (by omega)]
      · unfold gR
        by_cases z : x = 108 ∧ 0 ≤ j ∧ j < g 88 12
        · rw [if_pos z, z.1]; exact r3 j z.2.1 z.2.2
        · rw [if_neg z, o3 x j z]; exact s2.1 x j p
      · rw [o3 _ _ (by omega), f2 _ _ (by omega), e78, el, ep]
      · rw [o3 _ _ (by omega)]; exact q83
theorem s_plan_7 (hg : LG g) (hwf : EW g) : ∀ (r l : Nat) (m : zM), ((l + r : Nat) : Int) = g 88 12 → PG g m → (∀ j : Int, 0 ≤ j → j < (l : Int) → m 125 j = atA g j ∧ m 143 j = g 105 j ∧ m 144 j = g 106 j ∧ m 145 j = g 108 j) → (∀ m', (∀ x j, ¬ (x = 124 ∨ x = 125 ∨ (143 ≤ x ∧ x ≤ 145) ∨ (x = 88 ∧ j = 57)) → m' x j = m x j) → (∀ j, 0 ≤ j → j < g 88 12 → m' 125 j = atA g j ∧ m' 143 j = g 105 j ∧ m' 144 j = g 106 j ∧ m' 145 j = g 108 j) → zG Ω 194 0 [zR 10 88, zI 0, zU, zU, zU, zU, zU, zU, zU, zU, zU, zU, zU, zU, zU, zU, zU, zU] [] m' (fun r1 m1 => zk1 r1 fun v1 => Q [zI v1] m1)) → zG Ω 195 7 [zR 10 88, zI l] [] m Q := by
  have hN := hg.2.2.1
  intro r
  induction r with
  | zero =>
    intro l m hl hp hA K
    have em := hp 88 12 (by unfold prA; omega)
    exact w_X10_plan_7 (zif (fun h => absurd h (by omega)) fun _ => K m (fun _ _ _ => rfl) fun j a b => hA j a (by omega))
  | succ r ih =>
    intro l m hl hp hA K
    have em := hp 88 12 (by unfold prA; omega)
    refine w_X10_plan_7 (zif (fun _ => s_attends hg hwf (by omega) hp fun m2 f2 => zk1_i (zin_of (by omega) (by omega) (zbl_of ?_ ?_ ?_))) fun h => absurd (show (l : Int) < m 88 12 by omega) h)
    · unfold atA; split <;> omega
    · unfold atA; split <;> omega
    have p2 := PG_e hp f2
    repeat refine zin_of (by omega) (by omega) ?_
    rw [p2 105 l (by unfold prA; omega), p2 106 l (by unfold prA; omega), p2 108 l (by unfold prA; omega), zw_i (x := (l : Int) + 1) (by omega) (by omega)]
    have o : ∀ x j, ¬ (x = 124 ∨ x = 125 ∨ (143 ≤ x ∧ x ≤ 145) ∨ (x = 88 ∧ j = 57)) → zup (zup (zup (zup m2 125 l (atA g l)) 143 l (g 105 l)) 144 l (g 106 l)) 145 l (g 108 l) x j = m x j := fun x j h => by
      rw [zup_c (by omega), zup_c (by omega), zup_c (by omega), zup_c (by omega), f2 x j (by omega)]
    refine ih (l + 1) _ (by omega) (fun x j p => (o x j (by unfold prA at p; omega)).trans (hp x j p)) (fun j j0 j1 => ?_) fun m' o' => K m' fun x j h => (o' x j h).trans (o x j h)
    by_cases e : j = l
    · subst e
      simp (disch := omega) only [zup_c, zup_e]
      exact ⟨trivial, trivial, trivial, trivial⟩
    · have := hA j j0 (by omega)
      simp (disch := omega) only [zup_c, zup_j]
      rw [f2 125 j (by omega), f2 143 j (by omega), f2 144 j (by omega), f2 145 j (by omega)]
      exact this
theorem s_planM {m : zM} (hg : LG g) (hwf : EW g) (hr : RGd g) (hw : WG g) (hp : PG g m) (K : ∀ m', FT m m' → PG (gS g 0 0) m' → m' 88 78 = lkA g 0 0 → Q [zI (if okP g 0 0 then (BA' g 0 0).2.2.1 else -1)] m') : zG Ω 195 0 [zR 10 88, zU] [] m Q := by
  have hN := hg.2.2.1
  have lo0 : ∀ l, lwA g 0 0 l = g 105 l := fun l => by unfold lwA; rw [if_pos rfl]
  have hi0 : ∀ l, hiA g 0 0 l = g 106 l := fun l => by unfold hiA; rw [if_pos rfl]
  have hn : ∀ j, 0 ≤ j → j < g 88 12 → 1 ≤ nnA g 0 0 j := fun j j0 j1 => by
    have := hw j j0 j1
    unfold nnA
    rw [lo0, hi0]
    split <;> omega
  unfold gS at K
  have o0 : ∀ x j, ¬ (x = 88 ∧ j = 2) → zup m 88 2 0 x j = m x j := fun x j h => by
    unfold zup
    rw [if_neg h]
  refine w_X10_plan_0 (s_plan_7 hg hwf (g 88 12).toNat 0 _ (by omega) (fun x j p => (o0 x j (by unfold prA at p; omega)).trans (hp x j p)) (fun j a b => absurd a (by omega)) fun m1 o1 r1 => ?_)
  have f1 : FT m m1 := fun x j h => (o1 x j (by omega)).trans (o0 x j (by omega))
  have p1 : PG g m1 := fun x j p => (o1 x j (by unfold prA at p; omega)).trans ((o0 x j (by unfold prA at p; omega)).trans (hp x j p))
  refine s_searchM (mv := 0) (d := 0) hg hwf hr hw (by omega) hn ⟨p1, fun l l0 l1 => by rw [lo0, hi0]; exact r1 l l0 l1⟩ (fun q m2 f2 p2 e2 => zk1_i ?_) fun q m2 f2 p2 e2 _ => zk1_i ?_
  · rw [if_neg q, if_neg q] at K
    exact K m2 (FT_t f1 f2) p2 e2
  · rw [if_pos q, if_pos q] at K
    exact K m2 (FT_t f1 f2) p2 e2
end L2
