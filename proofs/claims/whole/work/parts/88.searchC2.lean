section L2
variable {Ω : zΩ} {Q : List zV → zM → Prop} {g : zM}
theorem s_moved {m : zM} {l x : Int} (h14 : m (29 + 6 * l) 14 = atA g l) (h13 : m (29 + 6 * l) 13 = g 108 l) (f : ¬ (atA g l = 0 ∨ x = g 108 l) → Q [zI 1] m) (n : atA g l = 0 ∨ x = g 108 l → Q [zI 0] m) : zG Ω 76 0 [zR 1 (29 + 6 * l), zI x] [] m Q := by
  refine w_X6_isMoved_0 ?_
  rw [h14, h13]
  exact zif (fun h => n (Or.inl h)) fun h => zif (fun h2 => n (Or.inr h2.symm)) fun h2 => f fun q => q.elim h fun z => h2 z.symm
theorem s_weight_4 {m : zM} {mv d c : Int} (hg : LG g) (hw : WG g) (hs : SQ g mv d m) (hq : DQ g mv d c m) (K : Q [zI (sumA (wtS g (dyA g mv d c)) (g 88 12).toNat)] m) : ∀ (r l : Nat), l + r = (g 88 12).toNat → zG Ω 77 4 [zR 6 67, zI (sumA (wtS g (dyA g mv d c)) l), zI l, zU] [] m Q := by
  have hN := hg.2.2.1
  have h5 := hs.2.1.1
  intro r
  induction r with
  | zero =>
    intro l hl
    refine w_X6_weightOfMoved_4 (zif (fun h => absurd h (by omega)) fun _ => ?_)
    rwa [show (g 88 12).toNat = l by omega] at K
  | succ r ih =>
    intro l hl
    have sl := (hs.2.2.2 l (by omega) (by omega)).2
    have cl := (hs.1.2.2.2.2.2 l (by omega) (by omega)).2.2.2.2.2
    have rl := (hs.1.2.2.2.1 l (by omega) (by omega)).2.2.2.1
    have wl := hw l (by omega) (by omega)
    have hn := ih (l + 1) (by omega)
    have e : sumA (wtS g (dyA g mv d c)) (l + 1) = sumA (wtS g (dyA g mv d c)) l + wtS g (dyA g mv d c) l := rfl
    rw [e, show ((l + 1 : Nat) : Int) = (l : Int) + 1 by omega] at hn
    have sb := sumA_b (f := wtS g (dyA g mv d c)) (A := 0) (B := 10) l fun j a b => by
      have := hw j (by omega) (by omega)
      unfold wtS
      split
      · omega
      · split <;> omega
    refine w_X6_weightOfMoved_4 (zif (fun _ => zin_of (by omega) (by omega) (zin_of (by omega) (by omega) ?_)) fun h => absurd (show (l : Int) < m 67 5 by omega) h)
    rw [show 30 + 6 * (l : Int) + (-1) = 29 + 6 * l by omega, hq l (by omega) (by omega), zw_i (x := (l : Int) + 1) (by omega) (by omega)]
    refine s_moved (g := g) sl.1 cl (fun q => zk1_t ?_) fun q => zk1_f ?_
    · have ew : wtS g (dyA g mv d c) l = 10 - g 98 l := by
        unfold wtS
        rw [if_neg (fun z => q (Or.inl z)), if_neg (fun z => q (Or.inr z))]
      rw [rl, zw_i (x := 10 - g 98 (l : Int)) (by omega) (by omega), zw_i (by omega) (by omega)]
      rwa [ew] at hn
    · have ew : wtS g (dyA g mv d c) l = 0 := by
        unfold wtS
        rcases q with z | z
        · rw [if_pos z]
        · rw [if_pos z, ite_self]
      rw [zw_i (by omega) (by omega)]
      rwa [ew] at hn
theorem s_keepRow_24 {mv d c : Int} (hg : LG g) : ∀ (r l : Nat) (m : zM), ((l + r : Nat) : Int) = g 88 12 → SQ g mv d m → DQ g mv d c m → (∀ j : Int, 0 ≤ j → j < (l : Int) → m 70 j = dyA g mv d c j) → (∀ m', (∀ x j, ¬ x = 70 → m' x j = m x j) → (∀ j, 0 ≤ j → j < g 88 12 → m' 70 j = dyA g mv d c j) → Q [] m') → zG Ω 75 24 [zR 6 67, zI l] [] m Q := by
  have hN := hg.2.2.1
  intro r
  induction r with
  | zero =>
    intro l m hl hs hq hA K
    have h5 := hs.2.1.1
    exact w_X6_keepRow_24 (zif (fun h => absurd h (by omega)) fun _ => K m (fun _ _ _ => rfl) fun j a b => hA j a (by omega))
  | succ r ih =>
    intro l m hl hs hq hA K
    have h5 := hs.2.1.1
    refine w_X6_keepRow_24 (zif (fun _ => zin_of (by omega) (by omega) (zin_of (by omega) (by omega) ?_)) fun h => absurd (show (l : Int) < m 67 5 by omega) h)
    rw [hq l (by omega) (by omega), zw_i (x := (l : Int) + 1) (by omega) (by omega)]
    have f1 : FS m (zup m 70 l (dyA g mv d c l)) := fun x j h => zup_c fun q => h (Or.inr (Or.inr (Or.inr (Or.inr (Or.inl q)))))
    refine ih (l + 1) _ (by omega) (SQ_f hg hs f1) (fun j j0 j1 => by rw [zup_c (by omega)]; exact hq j j0 j1) (fun j j0 j1 => ?_) fun m' o' => K m' fun x j h => (o' x j h).trans (zup_c h)
    by_cases e : j = l
    · rw [e, zup_e rfl rfl]
    · rw [zup_j e]; exact hA j j0 (by omega)
/-- the best so far, in the class -/
def BQ (g : zM) (mv d : Int) (c : Nat) (m : zM) : Prop := m 67 7 = (if (bsA g mv d c).1 = 0 then 2000000000 else (bsA g mv d c).2.1) ∧ ((bsA g mv d c).1 = 1 → m 67 9 = (bsA g mv d c).2.2.1 ∧ m 67 8 = (bsA g mv d c).2.2.2.1 ∧ ∀ j, 0 ≤ j → j < g 88 12 → m 70 j = (bsA g mv d c).2.2.2.2.2 j)
theorem SQ_IC {m : zM} {mv d c : Int} (hs : SQ g mv d m) (hq : DQ g mv d c m) : IC (DG g (atA g) (dyA g mv d c)) m := by
  refine IC_of hs.1 hs.2.2.1.1 hs.2.2.1.2.1 fun l l0 l1 => ?_
  have sl := (hs.2.2.2 l l0 l1).2
  refine ⟨sl.2.1, sl.2.2.1, sl.2.2.2, ?_⟩
  rw [hq l l0 l1]
  by_cases z : atA g l = 0
  · rw [if_pos z]; unfold dyA; rw [if_pos z]
  · rw [if_neg z]
theorem SQ_BE {m : zM} {mv d : Int} (hs : SQ g mv d m) : BE g m (m 0 7) :=
  ⟨hs.1.2.2.1, hs.1.2.2.2.1, hs.2.2.1.1, hs.2.2.1.2.1, hs.2.2.1.2.2, fun j j0 j1 => (hs.1.2.2.2.2.2 j j0 j1).2.2.2.2.1⟩
theorem dyA_pos {mv d c : Int} (hg : LG g) (hw : WG g) (hd : 0 ≤ d ∧ d ≤ 99) (hn : ∀ j, 0 ≤ j → j < g 88 12 → 1 ≤ nnA g mv d j) : ∀ l, 0 ≤ l → l < g 88 12 → ¬ atA g l = 0 → 0 ≤ dyA g mv d c l := by
  intro l l0 l1 q
  have lb := lw_b (mv := mv) (d := d) hw hd l0 l1
  have nl := hn l l0 l1
  have := Int.emod_nonneg (vvA (nnA g mv d) (g 88 12).toNat c ((g 88 12).toNat - 1 - l.toNat)) (show nnA g mv d l ≠ 0 by omega)
  unfold dyA
  rw [if_neg q]
  omega
theorem s_body {m : zM} {mv d : Int} {c : Nat} {y cc w : Int} (hg : LG g) (hr : RGd g) (hw : WG g) (hd : 0 ≤ d ∧ d ≤ 99) (hn : ∀ j, 0 ≤ j → j < g 88 12 → 1 ≤ nnA g mv d j) (hs : SQ g mv d m) (hq : DQ g mv d c m) (hb : BQ g mv d c m) (ew : w = wgA g mv (dyA g mv d c)) (hy : (ylA g (dyA g mv d c) < y ∨ (ylA g (dyA g mv d c) = y ∧ csA g (dyA g mv d c) < cc)) ↔ btR g mv (bsA g mv d c) (dyA g mv d c)) (K : ∀ m', FS m m' → m' 67 11 = m 67 11 → DQ g mv d c m' → BQ g mv d (c + 1) m' → zG Ω 71 106 [zR 6 67, zI c, zU, zU] [] m' Q) : zG Ω 55 0 [zR 5 65, zI y, zI cc, zU] [] m (fun r10 m10 => zk1 r10 fun v10 => if v10 = 0 then (zG Ω 71 106 [zR 6 67, zI c, zU, zU] [] m10 Q) else (zG Ω 75 0 [zR 6 67, zU] [] (zup m10 67 7 w) (fun r11 m11 => zk0 r11 (zG Ω 71 106 [zR 6 67, zI c, zU, zU] [] m11 Q)))) := by
  have hN := hg.2.2.1
  have hE := hs.1.2.1
  refine s_better (rr := atA g) (dd := dyA g mv d c) hg hr hE (dyA_pos hg hw hd hn) (SQ_IC hs hq) (SQ_BE hs) (fun m1 f1 t7 t8 q => zk1_t ?_) fun m1 f1 q => zk1_f ?_
  · have F1 := FS_z hE f1
    have e0 : ∀ j, m1 67 j = m 67 j := fun j => f1 67 j (by omega)
    have hq1 : DQ g mv d c m1 := fun l l0 l1 => by rw [f1 _ _ (by omega)]; exact hq l l0 l1
    refine w_X6_keepRow_0 ?_
    have z7 : zup m1 67 7 w 65 7 = ylA g (dyA g mv d c) := by rw [zup_c (by decide)]; exact t7
    have z8 : zup (zup m1 67 7 w) 67 9 (ylA g (dyA g mv d c)) 65 8 = csA g (dyA g mv d c) := by rw [zup_c (by decide), zup_c (by decide)]; exact t8
    rw [z7]
    try rw [z8]
    have z8' : zup m1 67 7 w 65 8 = csA g (dyA g mv d c) := by rw [zup_c (by decide)]; exact t8
    try rw [z8']
    have F2 : FS m (zup (zup (zup m1 67 7 w) 67 9 (ylA g (dyA g mv d c))) 67 8 (csA g (dyA g mv d c))) := FS_u (FS_u (FS_u F1 (by unfold sqY; omega)) (by unfold sqY; omega)) (by unfold sqY; omega)
    refine s_keepRow_24 (c := c) hg (g 88 12).toNat 0 _ (by omega) (SQ_f hg hs F2) (fun l l0 l1 => by rw [zup_c (by omega), zup_c (by omega), zup_c (by omega)]; exact hq1 l l0 l1) (fun j a b => absurd a (by omega)) fun m2 o2 r2 => ?_
    have eb : bsA g mv d (c + 1) = (1, wgA g mv (dyA g mv d c), ylA g (dyA g mv d c), csA g (dyA g mv d c), sumA (otS g (dyA g mv d c)) (g 88 12).toNat, dyA g mv d c) := by
      rw [bsA, if_pos (hy.mp q)]
    show zG Ω 71 106 _ _ _ _
    refine K m2 (FS_t F2 fun x j h => o2 x j fun z => h (Or.inr (Or.inr (Or.inr (Or.inr (Or.inl z)))))) ?_ (fun l l0 l1 => ?_) ⟨?_, fun _ => ⟨?_, ?_, ?_⟩⟩
    · rw [o2 67 11 (by omega), zup_j (by decide), zup_j (by decide), zup_j (by decide), e0]
    · rw [o2 _ _ (by omega), zup_c (by omega), zup_c (by omega), zup_c (by omega)]; exact hq1 l l0 l1
    · rw [eb, o2 67 7 (by omega), zup_j (by decide), zup_j (by decide), zup_e rfl rfl]; dsimp only; rw [if_neg (by decide)]; exact ew
    · rw [eb, o2 67 9 (by omega), zup_j (by decide), zup_e rfl rfl]
    · rw [eb, o2 67 8 (by omega), zup_e rfl rfl]
    · rw [eb]; exact r2
  · have F1 := FS_z hE f1
    have eb : bsA g mv d (c + 1) = bsA g mv d c := by rw [bsA, if_neg (fun z => q (hy.mpr z))]
    refine K m1 F1 (f1 67 11 (by omega)) (fun l l0 l1 => by rw [f1 _ _ (by omega)]; exact hq l l0 l1) ?_
    unfold BQ at hb ⊢
    rw [eb, f1 67 7 (by omega), f1 67 9 (by omega), f1 67 8 (by omega)]
    refine ⟨hb.1, fun z => ⟨(hb.2 z).1, (hb.2 z).2.1, fun j j0 j1 => ?_⟩⟩
    rw [f1 70 j (by omega)]
    exact (hb.2 z).2.2 j j0 j1
end L2
