section L2
variable {Ω : zΩ} {Q : List zV → zM → Prop} {g : zM}
theorem s_take_7 {mv d : Int} {b : Int → Int} (hg : LG g) : ∀ (r l : Nat) (m : zM), ((l + r : Nat) : Int) = g 88 12 → m 67 5 = g 88 12 → (∀ j, 0 ≤ j → j < g 88 12 → m 70 j = b j ∧ m (29 + 6 * j) 14 = atA g j) → (∀ j : Int, (l : Int) ≤ j → j < g 88 12 → m (29 + 6 * j) 13 = g 108 j) → (∀ j : Int, 0 ≤ j → j < (l : Int) → m (29 + 6 * j) 13 = b j) → m 67 10 = sumA (otS g b) l → (∀ m', (∀ x j, ¬ ((x = 67 ∧ j = 10) ∨ (29 ≤ x ∧ x < 29 + 6 * g 88 12 ∧ (x - 29) % 6 = 0 ∧ j = 13)) → m' x j = m x j) → (∀ j, 0 ≤ j → j < g 88 12 → m' (29 + 6 * j) 13 = b j) → m' 67 10 = sumA (otS g b) (g 88 12).toNat → Q [] m') → zG Ω 78 7 [zR 6 67, zI l, zU] [] m Q := by
  have hN := hg.2.2.1
  intro r
  induction r with
  | zero =>
    intro l m hl h5 hA hB hC h10 K
    refine w_X6_takeBest_7 (zif (fun h => absurd h (by omega)) fun _ => K m (fun _ _ _ => rfl) (fun j a b => hC j a (by omega)) ?_)
    rw [show (g 88 12).toNat = l by omega]; exact h10
  | succ r ih =>
    intro l m hl h5 hA hB hC h10 K
    have al := hA l (by omega) (by omega)
    have bl := hB l (by omega) (by omega)
    have sb := sumA_b (f := otS g b) (A := 0) (B := 1) l fun j _ _ => by
      unfold otS
      split
      · omega
      · split <;> omega
    have e : sumA (otS g b) (l + 1) = sumA (otS g b) l + otS g b l := rfl
    have next : ∀ v, v = sumA (otS g b) l + otS g b l → zG Ω 78 7 [zR 6 67, zI ((l : Int) + 1), zU] [] (zup (zup m 67 10 v) (29 + 6 * l) 13 (b l)) Q := by
      intro v hv
      have o : ∀ x j, ¬ ((x = 67 ∧ j = 10) ∨ (29 ≤ x ∧ x < 29 + 6 * g 88 12 ∧ (x - 29) % 6 = 0 ∧ j = 13)) → zup (zup m 67 10 v) (29 + 6 * l) 13 (b l) x j = m x j := fun x j h => by
        unfold zup
        rw [if_neg (by rintro ⟨rfl, rfl⟩; exact h (Or.inr (by omega))), if_neg (by rintro ⟨rfl, rfl⟩; exact h (Or.inl ⟨rfl, rfl⟩))]
      refine ih (l + 1) _ (by omega) (by rw [o _ _ (by omega)]; exact h5) (fun j j0 j1 => by rw [o _ _ (by omega), o _ _ (by omega)]; exact hA j j0 j1) (fun j j0 j1 => by rw [zup_c (by omega), zup_c (by omega)]; exact hB j (by omega) j1) (fun j j0 j1 => ?_) (by rw [zup_c (by omega), zup_e rfl rfl, e]; exact hv) fun m' o' => K m' fun x j h => (o' x j h).trans (o x j h)
      by_cases z : j = l
      · rw [z, zup_e rfl rfl]
      · rw [zup_c (by omega), zup_c (by omega)]; exact hC j j0 (by omega)
    refine w_X6_takeBest_7 (zif (fun _ => zin_of (by omega) (by omega) (zin_of (by omega) (by omega) ?_)) fun h => absurd (show (l : Int) < m 67 5 by omega) h)
    rw [show 30 + 6 * (l : Int) + (-1) = 29 + 6 * l by omega, al.1, h10, zw_i (x := (l : Int) + 1) (by omega) (by omega), zw_i (x := sumA (otS g b) l + 0) (by omega) (by omega), zw_i (x := sumA (otS g b) l + 1) (by omega) (by omega)]
    refine s_moved (g := g) al.2 bl (fun q => zk1_t (zin_of (by omega) (by omega) ?_)) fun q => zk1_f (zin_of (by omega) (by omega) ?_)
    · rw [al.1]
      refine next _ ?_
      unfold otS
      rw [if_neg (fun z => q (Or.inl z)), if_neg (fun z => q (Or.inr z))]
    · rw [al.1]
      refine next _ ?_
      unfold otS
      rcases q with z | z
      · rw [if_pos z]
      · rw [if_pos z, ite_self]
theorem s_go_15 {mv d : Int} (hg : LG g) (hr : RGd g) (hw : WG g) (hd : 0 ≤ d ∧ d ≤ 99) (hm : mv = 0 ∨ mv = 1) (hn : ∀ j, 0 ≤ j → j < g 88 12 → 1 ≤ nnA g mv d j) : ∀ (r c : Nat) (m : zM), c + r ≤ 2000 → m 67 11 = ((c + r : Nat) : Int) → SQ g mv d m → DQ g mv d c m → BQ g mv d c m → (∀ m', FS m m' → m' 67 11 = m 67 11 → SQ g mv d m' → BQ g mv d (c + r) m' → zG Ω 78 0 [zR 6 67, zU, zU] [] m' (fun r1 m1 => zk0 r1 (Q [zI 1] m1))) → zG Ω 71 15 [zR 6 67, zI c, zU, zU] [] m Q := by
  have hN := hg.2.2.1
  intro r
  induction r with
  | zero =>
    intro c m hc h11 hs hq hb K
    exact w_X6_goThrough_15 (zif (fun h => absurd h (by omega)) fun _ => K m FS_r rfl hs hb)
  | succ r ih =>
    intro c m hc h11 hs hq hb K
    have after : ∀ m', FS m m' → m' 67 11 = m 67 11 → DQ g mv d c m' → BQ g mv d (c + 1) m' → zG Ω 71 106 [zR 6 67, zI c, zU, zU] [] m' Q := by
      intro m' f1 e11 q1 b1
      have s1 := SQ_f hg hs f1
      refine w_X6_goThrough_106 (w_X6_stepRow_0 ?_)
      rw [s1.2.1.1, zw_i (x := g 88 12 - 1) (by omega) (by omega), zw_i (x := (c : Int) + 1) (by omega) (by omega)]
      have key := s_step_7 (Ω := Ω) (Q := fun r1 m1 => zk0 r1 (zG Ω 71 15 [zR 6 67, zI ((c : Int) + 1), zU, zU] [] m1 Q)) (mv := mv) (d := d) (c := c) hg hw hd (by omega) hn (g 88 12).toNat m' (by omega) s1 (fun j a b => q1 j a (by omega)) (fun j a b => absurd b (by omega)) (by rw [show (g 88 12).toNat - (g 88 12).toNat = 0 by omega]; rfl) fun m2 f2 e67 e70 q2 => ?_
      · rw [show (((g 88 12).toNat : Nat) : Int) - 1 = g 88 12 - 1 by omega] at key
        exact key
      · show zG Ω 71 15 _ _ _ _
        refine ih (c + 1) m2 (by omega) ?_ (SQ_f hg s1 f2) q2 ?_ fun m3 f3 e3 s3 b3 => ?_
        · rw [e67, e11, h11]; omega
        · unfold BQ at b1 ⊢
          rw [e67, e70]; exact b1
        · refine K m3 (FS_t f1 (FS_t f2 f3)) (e3.trans ((congrFun e67 11).trans e11)) s3 ?_
          rwa [show c + 1 + r = c + (r + 1) by omega] at b3
    have bb := bs_b (mv := mv) (d := d) hg hr hw c
    have wb := wg_b (mv := mv) (d := dyA g mv d c) hN hw
    have yb := yl_b (d := dyA g mv d c) hg hr
    have skip : m 67 7 < wgA g mv (dyA g mv d c) → BQ g mv d (c + 1) m := by
      intro h
      have h7 := hb.1
      have h1 : (bsA g mv d c).1 = 1 := by
        rcases bb.2.1 with z | z
        · rw [if_pos z] at h7; omega
        · exact z
      rw [if_neg (by omega)] at h7
      have eb : bsA g mv d (c + 1) = bsA g mv d c := by
        rw [bsA, if_neg]
        intro q
        rcases q with z | z | z
        · omega
        · omega
        · omega
      unfold BQ
      rw [eb]
      exact hb
    have light : ∀ w, w = wgA g mv (dyA g mv d c) → w < m 67 7 → zG Ω 55 0 [zR 5 65, zI 2000000000, zI 2000000000, zU] [] m (fun r10 m10 => zk1 r10 fun v10 => if v10 = 0 then (zG Ω 71 106 [zR 6 67, zI c, zU, zU] [] m10 Q) else (zG Ω 75 0 [zR 6 67, zU] [] (zup m10 67 7 w) (fun r11 m11 => zk0 r11 (zG Ω 71 106 [zR 6 67, zI c, zU, zU] [] m11 Q)))) := by
      intro w ew hlt
      refine s_body (c := c) hg hr hw hd hn hs hq hb ew ⟨fun _ => ?_, fun _ => Or.inl (by omega)⟩ after
      have h7 := hb.1
      rcases bb.2.1 with z | z
      · exact Or.inl z
      · rw [if_neg (by omega)] at h7
        exact Or.inr (Or.inl (by omega))
    have same : ∀ w, w = wgA g mv (dyA g mv d c) → ¬ w < m 67 7 → ¬ m 67 7 < w → zG Ω 55 0 [zR 5 65, zI (m 67 9), zI (m 67 8), zU] [] m (fun r10 m10 => zk1 r10 fun v10 => if v10 = 0 then (zG Ω 71 106 [zR 6 67, zI c, zU, zU] [] m10 Q) else (zG Ω 75 0 [zR 6 67, zU] [] (zup m10 67 7 w) (fun r11 m11 => zk0 r11 (zG Ω 71 106 [zR 6 67, zI c, zU, zU] [] m11 Q)))) := by
      intro w ew h1 h2
      have h7 := hb.1
      have hone : (bsA g mv d c).1 = 1 := by
        rcases bb.2.1 with z | z
        · rw [if_pos z] at h7; omega
        · exact z
      rw [if_neg (by omega)] at h7
      obtain ⟨b9, b8, _⟩ := hb.2 hone
      refine s_body (c := c) hg hr hw hd hn hs hq hb ew ⟨fun q => ?_, fun q => ?_⟩ after
      · rw [b9, b8] at q
        exact Or.inr (Or.inr ⟨by omega, q⟩)
      · rw [b9, b8]
        rcases q with z | z | z
        · omega
        · omega
        · exact z.2
    refine w_X6_goThrough_15 (zif (fun _ => ?_) fun h => absurd (show (c : Int) < m 67 11 by omega) h)
    rw [hs.2.1.2]
    refine zif (fun h0 => ?_) fun h0 => ?_
    · have ew : 0 = wgA g mv (dyA g mv d c) := by unfold wgA; rw [if_pos h0]
      refine zif (fun h1 => zif (fun h2 => absurd h2 (by omega)) fun _ => ?_) fun h1 => zif (fun h2 => after m FS_r rfl hq (skip (by omega))) fun h2 => ?_
      · rw [if_neg (by decide), if_neg (by decide)]
        exact light 0 ew h1
      · rw [if_pos rfl, if_pos rfl]
        exact same 0 ew h1 h2
    · have ew : sumA (wtS g (dyA g mv d c)) (g 88 12).toNat = wgA g mv (dyA g mv d c) := by unfold wgA; rw [if_neg h0]
      refine w_X6_weightOfMoved_0 (s_weight_4 hg hw hs hq (zk1_i ?_) (g 88 12).toNat 0 (by omega))
      refine zif (fun h1 => zif (fun h2 => absurd h2 (by omega)) fun _ => ?_) fun h1 => zif (fun h2 => after m FS_r rfl hq (skip (by omega))) fun h2 => ?_
      · rw [if_neg (by decide), if_neg (by decide)]
        exact light _ ew h1
      · rw [if_pos rfl, if_pos rfl]
        exact same _ ew h1 h2
/-- how many rows there are, none if a lord has no day -/
abbrev n0A (g : zM) (mv d : Int) : Int → Int := fun l => if 0 < nnA g mv d l then nnA g mv d l else 0
def pw101 : Nat → Int
  | 0 => 1
  | n + 1 => pw101 n * 101
theorem pw101_b : ∀ n : Nat, n ≤ 6 → 1 ≤ pw101 n ∧ pw101 n ≤ 1061520150601 := by
  intro n hn
  have : n = 0 ∨ n = 1 ∨ n = 2 ∨ n = 3 ∨ n = 4 ∨ n = 5 ∨ n = 6 := by omega
  rcases this with z | z | z | z | z | z | z <;> subst z <;> decide
theorem prdA_b {f : Int → Int} {N : Int} (h : ∀ j, 0 ≤ j → j < N → 0 ≤ f j ∧ f j ≤ 101) : ∀ n : Nat, (n : Int) ≤ N → 0 ≤ prdA f n ∧ prdA f n ≤ pw101 n := by
  intro n
  induction n with
  | zero => intro _; unfold prdA pw101; omega
  | succ n ih =>
    intro hn
    have a := ih (by omega)
    have b := h n (by omega) (by omega)
    unfold prdA pw101
    exact mul_b a.1 a.2 b.1 b.2
theorem s_within_4 {m : zM} {mv d : Int} (hg : LG g) (hw : WG g) (hd : 0 ≤ d ∧ d ≤ 99) (hs : SQ g mv d m) (K : Q [zI (if 0 < prdA (n0A g mv d) (g 88 12).toNat ∧ prdA (n0A g mv d) (g 88 12).toNat ≤ 2000 then 1 else 0)] (zup m 67 11 (if prdA (n0A g mv d) (g 88 12).toNat < 2000 then prdA (n0A g mv d) (g 88 12).toNat else 2000))) : ∀ (r l : Nat), l + r = (g 88 12).toNat → zG Ω 72 4 [zR 6 67, zL (prdA (n0A g mv d) l), zU, zI l] [] m Q := by
  have hN := hg.2.2.1
  have h5 := hs.2.1.1
  have nb : ∀ j, 0 ≤ j → j < g 88 12 → 0 ≤ n0A g mv d j ∧ n0A g mv d j ≤ 101 := by
    intro j j0 j1
    have lb := lw_b (mv := mv) (d := d) hw hd j0 j1
    unfold n0A
    split
    · rename_i z
      refine ⟨by omega, ?_⟩
      unfold nnA
      split <;> omega
    · omega
  intro r
  induction r with
  | zero =>
    intro l hl
    have pb := prdA_b nb l (by omega)
    have pp := pw101_b l (by omega)
    rw [show (g 88 12).toNat = l by omega] at K
    refine w_X6_isWithinBounds_4 (zif (fun h => absurd h (by omega)) fun _ => ?_)
    simp only [zcmp_g]
    have ez : zw (if prdA (n0A g mv d) l < 2000 then prdA (n0A g mv d) l else 2000) = if prdA (n0A g mv d) l < 2000 then prdA (n0A g mv d) l else 2000 := by
      split
      · exact zw_i (by omega) (by omega)
      · rfl
    rw [ez]
    refine zif (fun h1 => zif (fun h2 => ?_) fun h2 => ?_) fun h1 => ?_
    · rwa [if_neg (fun z => by omega)] at K
    · rwa [if_pos ⟨h1, by omega⟩] at K
    · rwa [if_neg (fun z => h1 z.1)] at K
  | succ r ih =>
    intro l hl
    have sl := (hs.2.2.2 l (by omega) (by omega)).1
    have lb := lw_b (mv := mv) (d := d) hw hd (l := l) (by omega) (by omega)
    have pb := prdA_b nb (l + 1) (by omega)
    have pp := pw101_b (l + 1) (by omega)
    have ef : (if 0 < (zw ((zw ((m 69 l) - (m 68 l))) + 1)) then (zw ((zw ((m 69 l) - (m 68 l))) + 1)) else 0) = n0A g mv d l := by
      rw [sl.1, sl.2]
      unfold n0A nnA fsA laA
      by_cases z : atA g l = 0
      · rw [if_pos z, if_pos z, if_pos z]; rfl
      · rw [if_neg z, if_neg z, if_neg z, zw_i (x := hiA g mv d l - lwA g mv d l) (by omega) (by omega), zw_i (by omega) (by omega)]
    refine w_X6_isWithinBounds_4 (zif (fun _ => zin_of (by omega) (by omega) (zin_of (by omega) (by omega) ?_)) fun h => absurd (show (l : Int) < m 67 5 by omega) h)
    rw [ef, zw_i (x := (l : Int) + 1) (by omega) (by omega)]
    have e : prdA (n0A g mv d) l * n0A g mv d l = prdA (n0A g mv d) (l + 1) := rfl
    rw [e, zwl_i (by omega) (by omega)]
    exact ih (l + 1) (by omega)
theorem s_sbegin_8 {mv d : Int} (hg : LG g) (hn : ∀ j, 0 ≤ j → j < g 88 12 → 1 ≤ nnA g mv d j) : ∀ (r l : Nat) (m : zM), ((l + r : Nat) : Int) = g 88 12 → SQ g mv d m → (∀ j : Int, 0 ≤ j → j < (l : Int) → m (30 + 6 * j) 5 = fsA g mv d j) → (∀ m', FS m m' → m' 67 = m 67 → (∀ j, 0 ≤ j → j < g 88 12 → m' (30 + 6 * j) 5 = fsA g mv d j) → Q [] m') → zG Ω 73 8 [zR 6 67, zI l] [] m Q := by
  have hN := hg.2.2.1
  intro r
  induction r with
  | zero =>
    intro l m hl hs hA K
    have h5 := hs.2.1.1
    exact w_X6_begin_8 (zif (fun h => absurd h (by omega)) fun _ => K m FS_r rfl fun j a b => hA j a (by omega))
  | succ r ih =>
    intro l m hl hs hA K
    have h5 := hs.2.1.1
    have sl := (hs.2.2.2 l (by omega) (by omega)).1
    refine w_X6_begin_8 (zif (fun _ => zin_of (by omega) (by omega) (zin_of (by omega) (by omega) ?_)) fun h => absurd (show (l : Int) < m 67 5 by omega) h)
    rw [sl.1, zw_i (x := (l : Int) + 1) (by omega) (by omega)]
    have f1 : FS m (zup m (30 + 6 * l) 5 (fsA g mv d l)) := FS_u FS_r (sq_2 (by omega))
    refine ih (l + 1) _ (by omega) (SQ_f hg hs f1) (fun j j0 j1 => ?_) fun m' f' e' => K m' (FS_t f1 f') (e'.trans (zup_row (by omega)))
    by_cases z : j = l
    · rw [z, zup_e rfl rfl]
    · rw [zup_c (by omega)]; exact hA j j0 (by omega)
end L2
