/-! the reference's search -/
def SP (g : zM) (mv d : Int) (m : zM) : Prop := PG g m ∧ ∀ l, 0 ≤ l → l < g 88 12 → (m 125 l = atA g l ∧ m 126 l = wtA g l ∧ m 127 l = rmA g l ∧ m 128 l = tuA g (g 88 12).toNat l) ∧ (m 143 l = lwA g mv d l ∧ m 144 l = hiA g mv d l ∧ m 145 l = g 108 l)
def FB (m m' : zM) : Prop := ∀ x j, ¬ (x = 124 ∨ (129 ≤ x ∧ x ≤ 142) ∨ x = 146 ∨ (x = 88 ∧ (j = 57 ∨ j = 76 ∨ j = 77 ∨ j = 83))) → m' x j = m x j
theorem FB_r {m : zM} : FB m m := fun _ _ _ => rfl
theorem FB_t {m m' m'' : zM} (a : FB m m') (b : FB m' m'') : FB m m'' := fun x j h => (b x j h).trans (a x j h)
theorem SP_f {g m m' : zM} {mv d : Int} (h : SP g mv d m) (a : FB m m') : SP g mv d m' := by
  refine ⟨fun x j p => (a x j (by unfold prA at p; omega)).trans (h.1 x j p), fun l l0 l1 => ?_⟩
  have := h.2 l l0 l1
  rw [a 125 l (by omega), a 126 l (by omega), a 127 l (by omega), a 128 l (by omega), a 143 l (by omega), a 144 l (by omega), a 145 l (by omega)]
  exact this
theorem SP_IM {g m : zM} {mv d c : Int} (h : SP g mv d m) (hq : ∀ j, 0 ≤ j → j < g 88 12 → m 129 j = dyA g mv d c j) : IM (DG g (atA g) (dyA g mv d c)) m := by
  refine ⟨fun x j p => ?_, fun l l0 l1 => ?_⟩
  · rw [h.1 x j (by unfold prA; omega), DG_x (by omega)]
  · have l1 : l < g 88 12 := l1
    have := (h.2 l l0 l1).1
    rw [this.1, this.2.1, this.2.2.1, this.2.2.2, hq l l0 l1]
    simp [DG]
section L2
variable {Ω : zΩ} {Q : List zV → zM → Prop} {g : zM}
theorem s_dig {mv d c x1 x2 x3 x4 x6 x8 x9 : Int} (hg : LG g) (hw : WG g) (hd : 0 ≤ d ∧ d ≤ 99) (hc : 0 ≤ c ∧ c ≤ 2000) (hn : ∀ j, 0 ≤ j → j < g 88 12 → 1 ≤ nnA g mv d j) : ∀ (l : Nat) (m : zM), (l : Int) ≤ g 88 12 → SP g mv d m → (∀ j : Int, (l : Int) ≤ j → j < g 88 12 → m 129 j = dyA g mv d c j) → (∀ m', (∀ x j, ¬ x = 129 → m' x j = m x j) → (∀ j, 0 ≤ j → j < g 88 12 → m' 129 j = dyA g mv d c j) → zG Ω 194 200 [zR 10 88, zI x1, zI x2, zI x3, zL x4, zU, zL x6, zU, zI x8, zI x9, zU, zI 0, zI 0, zI 0, zU, zU, zU, zU] [] m' Q) → zG Ω 194 106 [zR 10 88, zI x1, zI x2, zI x3, zL x4, zU, zL x6, zU, zI x8, zI x9, zI (vvA (nnA g mv d) (g 88 12).toNat c ((g 88 12).toNat - l)), zI ((l : Int) - 1), zU, zU, zU, zU, zU, zU] [] m Q := by
  have hN := hg.2.2.1
  intro l
  induction l with
  | zero =>
    intro m hl hs hA K
    exact w_X10_search_106 (zif (fun _ => K m (fun _ _ _ => rfl) fun j a b => hA j (by omega) b) fun h => absurd (show ((0 : Nat) : Int) - 1 < 0 by omega) h)
  | succ l ih =>
    intro m hl hs hA K
    have el : ((l + 1 : Nat) : Int) - 1 = l := by omega
    rw [el]
    have sl := hs.2 l (by omega) (by omega)
    have nl := hn l (by omega) (by omega)
    have lb := lw_b (mv := mv) (d := d) hw hd (l := l) (by omega) (by omega)
    have ek : (g 88 12).toNat - l = ((g 88 12).toNat - (l + 1)) + 1 := by omega
    have ei : ((g 88 12).toNat : Int) - 1 - (((g 88 12).toNat - (l + 1) : Nat) : Int) = l := by omega
    have eq : (g 88 12).toNat - 1 - ((l : Int)).toNat = (g 88 12).toNat - (l + 1) := by omega
    rw [ek] at ih
    generalize hk : (g 88 12).toNat - (l + 1) = k at *
    have vb := vvA_b (f := nnA g mv d) (N := (g 88 12).toNat) (c := c) hc.1 (fun j a b => hn j a (by omega)) k (by omega)
    have v1 : vvA (nnA g mv d) (g 88 12).toNat c (k + 1) = vvA (nnA g mv d) (g 88 12).toNat c k / nnA g mv d l := by rw [vvA, ei]
    have d1 : dyA g mv d c l = if atA g l = 0 then -1 else lwA g mv d l + vvA (nnA g mv d) (g 88 12).toNat c k % nnA g mv d l := by
      unfold dyA
      rw [eq]
    have mb := Int.emod_nonneg (vvA (nnA g mv d) (g 88 12).toNat c k) (show nnA g mv d l ≠ 0 by omega)
    have mb2 := Int.emod_lt_of_pos (vvA (nnA g mv d) (g 88 12).toNat c k) (show 0 < nnA g mv d l by omega)
    have db := Int.ediv_nonneg (a := vvA (nnA g mv d) (g 88 12).toNat c k) (b := nnA g mv d l) vb.1 (by omega)
    have db2 := Int.ediv_le_self (a := vvA (nnA g mv d) (g 88 12).toNat c k) (nnA g mv d l) vb.1
    have next : ∀ v w, v = vvA (nnA g mv d) (g 88 12).toNat c (k + 1) → w = dyA g mv d c l → zG Ω 194 106 [zR 10 88, zI x1, zI x2, zI x3, zL x4, zU, zL x6, zU, zI x8, zI x9, zI v, zI ((l : Int) - 1), zU, zU, zU, zU, zU, zU] [] (zup m 129 l w) Q := by
      intro v w hv hw'
      rw [hv]
      have o : ∀ x j, ¬ x = 129 → zup m 129 l w x j = m x j := fun x j h => zup_c h
      refine ih _ (by omega) (SP_f hs fun x j h => o x j (by omega)) (fun j j0 j1 => ?_) fun m' o' => K m' fun x j h => (o' x j h).trans (o x j h)
      by_cases e : j = l
      · rw [e, zup_e rfl rfl]; exact hw'
      · rw [zup_j e]; exact hA j (by omega) j1
    refine w_X10_search_106 (zif (fun h => absurd h (by omega)) fun _ => zin_of (by omega) (by omega) ?_)
    rw [sl.1.1, sl.2.1, sl.2.2.1, zw_i (x := (l : Int) + (-1)) (by omega) (by omega), show (l : Int) + (-1) = (l : Int) - 1 by omega]
    generalize hvv : vvA (nnA g mv d) (g 88 12).toNat c k = v at *
    by_cases q : atA g l = 0
    · have nn1 : nnA g mv d l = 1 := by unfold nnA; rw [if_pos q]
      rw [if_pos q, if_pos q]
      refine zin_of (by omega) (by omega) (zin_of (by omega) (by omega) (next _ _ ?_ ?_))
      · rw [v1, nn1, Int.tdiv_eq_ediv_of_nonneg vb.1, zw_i (by omega) (by omega)]
      · rw [d1, if_pos q]
    · have nne : nnA g mv d l = hiA g mv d l - lwA g mv d l + 1 := by unfold nnA; rw [if_neg q]
      rw [if_neg q, if_neg q, zw_i (x := hiA g mv d l - lwA g mv d l) (by omega) (by omega), zw_i (x := hiA g mv d l - lwA g mv d l + 1) (by omega) (by omega), ← nne]
      refine zin_of (by omega) (by omega) (zin_of (by omega) (by omega) (zin_of (by omega) (by omega) (zin_of (by omega) (by omega) (zdv_of (by omega) (zin_of (by omega) (by omega) (zdv_of (by omega) (next _ _ ?_ ?_)))))))
      · rw [v1, Int.tdiv_eq_ediv_of_nonneg vb.1, zw_i (by omega) (by omega)]
      · rw [d1, if_neg q, Int.tmod_eq_emod_of_nonneg vb.1, zw_i (by omega) (by omega)]
theorem s_wts {m : zM} {mv d c x1 x2 x3 x4 x6 x8 x9 : Int} (hg : LG g) (hw : WG g) (hs : SP g mv d m) (hq : ∀ j, 0 ≤ j → j < g 88 12 → m 129 j = dyA g mv d c j) (K : zG Ω 194 270 [zR 10 88, zI x1, zI x2, zI x3, zL x4, zU, zL x6, zU, zI x8, zI x9, zU, zI (if x1 = 0 then 0 else sumA (wtS g (dyA g mv d c)) (g 88 12).toNat), zI (sumA (otS g (dyA g mv d c)) (g 88 12).toNat), zU, zU, zU, zU, zU] [] m Q) : ∀ (r l : Nat), l + r = (g 88 12).toNat → zG Ω 194 200 [zR 10 88, zI x1, zI x2, zI x3, zL x4, zU, zL x6, zU, zI x8, zI x9, zU, zI (sumA (wtS g (dyA g mv d c)) l), zI (sumA (otS g (dyA g mv d c)) l), zI l, zU, zU, zU, zU] [] m Q := by
  have hN := hg.2.2.1
  have em := hs.1 88 12 (by unfold prA; omega)
  intro r
  induction r with
  | zero =>
    intro l hl
    rw [show (g 88 12).toNat = l by omega] at K
    refine w_X10_search_200 (zif (fun h => absurd h (by omega)) fun _ => zif (fun h => ?_) fun h => ?_)
    · rwa [if_pos h] at K
    · rwa [if_neg h] at K
  | succ r ih =>
    intro l hl
    have sl := hs.2 l (by omega) (by omega)
    have wl := hw l (by omega) (by omega)
    have hn := ih (l + 1) (by omega)
    have e1 : sumA (wtS g (dyA g mv d c)) (l + 1) = sumA (wtS g (dyA g mv d c)) l + wtS g (dyA g mv d c) l := rfl
    have e2 : sumA (otS g (dyA g mv d c)) (l + 1) = sumA (otS g (dyA g mv d c)) l + otS g (dyA g mv d c) l := rfl
    rw [e1, e2, show ((l + 1 : Nat) : Int) = (l : Int) + 1 by omega] at hn
    have sb := sumA_b (f := wtS g (dyA g mv d c)) (A := 0) (B := 10) l fun j a b => by
      have := hw j (by omega) (by omega)
      unfold wtS
      split
      · omega
      · split <;> omega
    have sb2 := sumA_b (f := otS g (dyA g mv d c)) (A := 0) (B := 1) l fun j a b => by
      unfold otS
      split
      · omega
      · split <;> omega
    refine w_X10_search_200 (zif (fun _ => zin_of (by omega) (by omega) ?_) fun h => absurd (show (l : Int) < m 88 12 by omega) h)
    rw [sl.1.1, hq l (by omega) (by omega), sl.2.2.2, hs.1 98 l (by unfold prA; omega)]
    have w57 : ∀ a b, zG Ω 194 200 [zR 10 88, zI x1, zI x2, zI x3, zL x4, zU, zL x6, zU, zI x8, zI x9, zU, zI a, zI b, zI ((l : Int) + 1), zU, zU, zU, zU] [] m Q → zG Ω 194 257 [zR 10 88, zI x1, zI x2, zI x3, zL x4, zU, zL x6, zU, zI x8, zI x9, zU, zI a, zI b, zI l, zU, zU, zU, zU] [] m Q := fun a b h => w_X10_search_257 (by rw [zw_i (by omega) (by omega)]; exact h)
    refine zif (fun h => w57 _ _ ?_) fun h => zin_of (by omega) (by omega) (zin_of (by omega) (by omega) (zif (fun h2 => w57 _ _ ?_) fun h2 => zin_of (by omega) (by omega) ?_))
    · unfold wtS otS at hn
      rw [if_pos h, if_pos h, Int.add_zero, Int.add_zero] at hn
      exact hn
    · unfold wtS otS at hn
      rw [if_neg h, if_neg h, if_pos h2, if_pos h2, Int.add_zero, Int.add_zero] at hn
      exact hn
    · rw [zw_i (x := 10 - g 98 (l : Int)) (by omega) (by omega), zw_i (x := sumA (wtS g (dyA g mv d c)) l + (10 - g 98 (l : Int))) (by omega) (by omega), zw_i (x := sumA (otS g (dyA g mv d c)) l + 1) (by omega) (by omega)]
      refine w57 _ _ ?_
      have a1 : wtS g (dyA g mv d c) l = 10 - g 98 l := by unfold wtS; rw [if_neg h, if_neg h2]
      have a2 : otS g (dyA g mv d c) l = 1 := by unfold otS; rw [if_neg h, if_neg h2]
      rwa [a1, a2] at hn
theorem s_keep386 {mv d c x1 x2 x3 x4 x6 x8 x9 : Int} (hg : LG g) : ∀ (r l : Nat) (m : zM), ((l + r : Nat) : Int) = g 88 12 → PG g m → (∀ j, 0 ≤ j → j < g 88 12 → m 129 j = dyA g mv d c j) → (∀ j : Int, 0 ≤ j → j < (l : Int) → m 146 j = dyA g mv d c j) → (∀ m', (∀ x j, ¬ x = 146 → m' x j = m x j) → (∀ j, 0 ≤ j → j < g 88 12 → m' 146 j = dyA g mv d c j) → zG Ω 194 415 [zR 10 88, zI x1, zI x2, zI x3, zL x4, zU, zL x6, zU, zI x8, zI x9, zU, zU, zU, zU, zU, zU, zU, zU] [] m' Q) → zG Ω 194 386 [zR 10 88, zI x1, zI x2, zI x3, zL x4, zU, zL x6, zU, zI x8, zI x9, zU, zU, zU, zU, zU, zU, zU, zI l] [] m Q := by
  have hN := hg.2.2.1
  intro r
  induction r with
  | zero =>
    intro l m hl hp hq hA K
    have em := hp 88 12 (by unfold prA; omega)
    exact w_X10_search_386 (zif (fun h => absurd h (by omega)) fun _ => K m (fun _ _ _ => rfl) fun j a b => hA j a (by omega))
  | succ r ih =>
    intro l m hl hp hq hA K
    have em := hp 88 12 (by unfold prA; omega)
    refine w_X10_search_386 (zif (fun _ => zin_of (by omega) (by omega) (zin_of (by omega) (by omega) ?_)) fun h => absurd (show (l : Int) < m 88 12 by omega) h)
    rw [hq l (by omega) (by omega), zw_i (x := (l : Int) + 1) (by omega) (by omega)]
    refine ih (l + 1) _ (by omega) (fun x j p => (zup_c (by unfold prA at p; omega)).trans (hp x j p)) (fun j j0 j1 => by rw [zup_c (by omega)]; exact hq j j0 j1) (fun j j0 j1 => ?_) fun m' o' => K m' fun x j h => (o' x j h).trans (zup_c h)
    by_cases e : j = l
    · rw [e, zup_e rfl rfl]
    · rw [zup_j e]; exact hA j j0 (by omega)
theorem s_main_88 {mv d x2 : Int} (hg : LG g) (hwf : EW g) (hr : RGd g) (hw : WG g) (hd : 0 ≤ d ∧ d ≤ 99) (hn : ∀ j, 0 ≤ j → j < g 88 12 → 1 ≤ nnA g mv d j) : ∀ (r c : Nat) (m : zM), ((c + r : Nat) : Int) = x2 → x2 ≤ 2000 → SP g mv d m → ((bsA g mv d c).1 = 1 → m 88 83 = (bsA g mv d c).2.2.2.2.1 ∧ ∀ j, 0 ≤ j → j < g 88 12 → m 146 j = (bsA g mv d c).2.2.2.2.2 j) → (∀ m', FB m m' → SP g mv d m' → ((bsA g mv d (c + r)).1 = 1 → m' 88 83 = (bsA g mv d (c + r)).2.2.2.2.1 ∧ ∀ j, 0 ≤ j → j < g 88 12 → m' 146 j = (bsA g mv d (c + r)).2.2.2.2.2 j) → zG Ω 194 424 [zR 10 88, zU, zU, zU, zU, zU, zU, zU, zI (bsA g mv d (c + r)).2.2.1, zI 0, zU, zU, zU, zU, zU, zU, zU, zU] [] m' Q) → zG Ω 194 88 [zR 10 88, zI mv, zI x2, zI (bsA g mv d c).1, zL (bsA g mv d c).2.1, zU, zL (bsA g mv d c).2.2.2.1, zU, zI (bsA g mv d c).2.2.1, zI c, zU, zU, zU, zU, zU, zU, zU, zU] [] m Q := by
  have hN := hg.2.2.1
  intro r
  induction r with
  | zero =>
    intro c m hc hx hs hB K
    exact w_X10_search_88 (zif (fun h => absurd h (by omega)) fun _ => K m FB_r hs hB)
  | succ r ih =>
    intro c m hc hx hs hB K
    have em := hs.1 88 12 (by unfold prA; omega)
    have next : ∀ m' : zM, FB m m' → ((bsA g mv d (c + 1)).1 = 1 → m' 88 83 = (bsA g mv d (c + 1)).2.2.2.2.1 ∧ ∀ j, 0 ≤ j → j < g 88 12 → m' 146 j = (bsA g mv d (c + 1)).2.2.2.2.2 j) → zG Ω 194 415 [zR 10 88, zI mv, zI x2, zI (bsA g mv d (c + 1)).1, zL (bsA g mv d (c + 1)).2.1, zU, zL (bsA g mv d (c + 1)).2.2.2.1, zU, zI (bsA g mv d (c + 1)).2.2.1, zI c, zU, zU, zU, zU, zU, zU, zU, zU] [] m' Q := by
      intro m' f' b'
      refine w_X10_search_415 ?_
      rw [zw_i (by omega) (by omega)]
      have := ih (c + 1) m' (by omega) hx (SP_f hs f') b' fun m'' f'' => by
        rw [show c + 1 + r = c + (r + 1) by omega]
        exact K m'' (FB_t f' f'')
      exact this
    refine w_X10_search_88 (zif (fun _ => ?_) fun h => absurd (show (c : Int) < x2 by omega) h)
    rw [em, zw_i (x := g 88 12 - 1) (by omega) (by omega)]
    have key := s_dig (Ω := Ω) (Q := Q) (mv := mv) (d := d) (c := c) (x1 := mv) (x2 := x2) (x3 := (bsA g mv d c).1) (x4 := (bsA g mv d c).2.1) (x6 := (bsA g mv d c).2.2.2.1) (x8 := (bsA g mv d c).2.2.1) (x9 := c) hg hw hd (by omega) hn (g 88 12).toNat m (by omega) hs (fun j a b => absurd b (by omega)) fun m1 o1 q1 => ?_
    · rw [show (g 88 12).toNat - (g 88 12).toNat = 0 by omega, show (((g 88 12).toNat : Nat) : Int) - 1 = g 88 12 - 1 by omega] at key
      exact key
    have f1 : FB m m1 := fun x j h => o1 x j (by omega)
    have s1 := SP_f hs f1
    refine s_wts hg hw s1 q1 ?_ (g 88 12).toNat 0 (by omega)
    have ew : (if mv = 0 then 0 else sumA (wtS g (dyA g mv d c)) (g 88 12).toNat) = wgA g mv (dyA g mv d c) := rfl
    rw [ew]
    have skip : ∀ m' : zM, FB m m' → ¬ btR g mv (bsA g mv d c) (dyA g mv d c) → m' 88 83 = m 88 83 → (∀ j, m' 146 j = m 146 j) → zG Ω 194 415 [zR 10 88, zI mv, zI x2, zI (bsA g mv d c).1, zL (bsA g mv d c).2.1, zU, zL (bsA g mv d c).2.2.2.1, zU, zI (bsA g mv d c).2.2.1, zI c, zU, zU, zU, zU, zU, zU, zU, zU] [] m' Q := by
      intro m' f' q e1 e2
      have eb : bsA g mv d (c + 1) = bsA g mv d c := by rw [bsA, if_neg q]
      have := next m' f' (by
        rw [eb, e1]
        exact fun z => ⟨(hB z).1, fun j j0 j1 => by rw [e2]; exact (hB z).2 j j0 j1⟩)
      rwa [eb] at this
    have look : (¬ (bsA g mv d c).1 = 0 → ¬ (bsA g mv d c).2.1 < wgA g mv (dyA g mv d c)) → zG Ω 194 286 [zR 10 88, zI mv, zI x2, zI (bsA g mv d c).1, zL (bsA g mv d c).2.1, zU, zL (bsA g mv d c).2.2.2.1, zU, zI (bsA g mv d c).2.2.1, zI c, zU, zI (wgA g mv (dyA g mv d c)), zI (sumA (otS g (dyA g mv d c)) (g 88 12).toNat), zU, zU, zU, zU, zU] [] m1 Q := by
      intro hle
      refine w_X10_search_286 (s_runIt (DG_vG (r := atA g) (d := dyA g mv d c) hg hr) (SP_IM s1 q1) fun m2 f2 x2' _ _ _ => ?_)
      have f2b : FB m m2 := FB_t f1 fun x j h => f2 x j (by omega)
      have p2 := (SP_f hs f2b).1
      show zG Ω 187 0 _ _ _ _
      refine w_X10_allYields_0 (s_allY_4D (rr := atA g) (dd := dyA g mv d c) hg hr p2 x2' (zk1_i ?_) (g 88 12).toNat 0 (by omega))
      refine w_X10_allCosts_0 (s_allC_4D (rr := atA g) (dd := dyA g mv d c) hg hwf hr (g 88 12).toNat 0 m2 (by omega) p2 x2' (fun j j0 j1 => (SP_f hs f2b).2 j j0 j1 |>.1.1) fun m3 f3 => zk1_i ?_)
      have f3b : FB m m3 := FB_t f2b fun x j h => f3 x j (by omega)
      simp only [zcmp_l, zcmp_e]
      have e83 : m3 88 83 = m 88 83 := by rw [f3 88 83 (by omega), f2 88 83 (by omega), o1 88 83 (by omega)]
      have e146 : ∀ j, m3 146 j = m 146 j := fun j => by rw [f3 146 j (by omega), f2 146 j (by omega), o1 146 j (by omega)]
      have q3 : ∀ j, 0 ≤ j → j < g 88 12 → m3 129 j = dyA g mv d c j := fun j j0 j1 => by rw [f3 129 j (by omega), f2 129 j (by omega)]; exact q1 j j0 j1
      have take : btR g mv (bsA g mv d c) (dyA g mv d c) → zG Ω 194 347 [zR 10 88, zI mv, zI x2, zI (bsA g mv d c).1, zL (bsA g mv d c).2.1, zU, zL (bsA g mv d c).2.2.2.1, zU, zI (bsA g mv d c).2.2.1, zI c, zU, zI (wgA g mv (dyA g mv d c)), zI (sumA (otS g (dyA g mv d c)) (g 88 12).toNat), zI (ylA g (dyA g mv d c)), zL (csA g (dyA g mv d c)), zU, zU, zU] [] m3 Q := by
        intro q
        have eb : bsA g mv d (c + 1) = (1, wgA g mv (dyA g mv d c), ylA g (dyA g mv d c), csA g (dyA g mv d c), sumA (otS g (dyA g mv d c)) (g 88 12).toNat, dyA g mv d c) := by
          rw [bsA, if_pos q]
        refine w_X10_search_347 (zif (fun z => absurd z (by decide)) fun _ => ?_)
        have f4 : FB m (zup m3 88 83 (sumA (otS g (dyA g mv d c)) (g 88 12).toNat)) := FB_t f3b fun x j h => by
          unfold zup
          rw [if_neg (by rintro ⟨rfl, rfl⟩; omega)]
        refine s_keep386 (c := c) (mv := mv) (d := d) hg (g 88 12).toNat 0 _ (by omega) (SP_f hs f4).1 (fun j j0 j1 => by rw [zup_c (by decide)]; exact q3 j j0 j1) (fun j a b => absurd a (by omega)) fun m5 o5 r5 => ?_
        have := next m5 (FB_t f4 fun x j h => o5 x j (by omega)) (by
          rw [eb]
          exact fun _ => ⟨by rw [o5 88 83 (by omega), zup_e rfl rfl], r5⟩)
        rw [eb] at this
        exact this
      have drop : ¬ btR g mv (bsA g mv d c) (dyA g mv d c) → zG Ω 194 351 [zR 10 88, zI mv, zI x2, zI (bsA g mv d c).1, zL (bsA g mv d c).2.1, zU, zL (bsA g mv d c).2.2.2.1, zU, zI (bsA g mv d c).2.2.1, zI c, zU, zI (wgA g mv (dyA g mv d c)), zI (sumA (otS g (dyA g mv d c)) (g 88 12).toNat), zI (ylA g (dyA g mv d c)), zL (csA g (dyA g mv d c)), zU, zU, zU] [] m3 Q := fun q => w_X10_search_351 (zif (fun _ => skip m3 f3b q e83 e146) fun z => absurd rfl z)
      refine zif (fun z => take (Or.inl z)) fun z0 => zif (fun z => take (Or.inr (Or.inl z))) fun z1 => zif (fun z => zif (fun y => take (Or.inr (Or.inr ⟨z, Or.inl y⟩))) fun y => zif (fun y2 => zif (fun y3 => take (Or.inr (Or.inr ⟨z, Or.inr ⟨y2, y3⟩⟩))) fun y3 => drop ?_) fun y2 => drop ?_) fun z => drop ?_
      · rintro (p | p | p)
        · exact z0 p
        · exact z1 p
        · rcases p.2 with t | t
          · exact y t
          · exact y3 t.2
      · rintro (p | p | p)
        · exact z0 p
        · exact z1 p
        · rcases p.2 with t | t
          · exact y t
          · exact y2 t.1
      · rintro (p | p | p)
        · exact z0 p
        · exact z1 p
        · exact z p.1
    refine w_X10_search_270 ?_
    simp only [zcmp_g]
    refine zif (fun z => look fun q => absurd z q) fun z => zif (fun y => skip m1 f1 ?_ (o1 88 83 (by omega)) fun j => o1 146 j (by omega)) fun y => look fun _ => y
    rintro (p | p | p)
    · exact z p
    · omega
    · omega
end L2
