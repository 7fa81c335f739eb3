theorem dyA_r {g : zM} {mv d c : Int} (hw : WG g) (hd : 0 ≤ d ∧ d ≤ 99) (hn : ∀ j, 0 ≤ j → j < g 88 12 → 1 ≤ nnA g mv d j) : ∀ l, 0 ≤ l → l < g 88 12 → -1 ≤ dyA g mv d c l ∧ dyA g mv d c l ≤ 60 := by
  intro l l0 l1
  have lb := lw_b (mv := mv) (d := d) hw hd l0 l1
  have nl := hn l l0 l1
  have h1 := Int.emod_nonneg (vvA (nnA g mv d) (g 88 12).toNat c ((g 88 12).toNat - 1 - l.toNat)) (show nnA g mv d l ≠ 0 by omega)
  have h2 := Int.emod_lt_of_pos (vvA (nnA g mv d) (g 88 12).toNat c ((g 88 12).toNat - 1 - l.toNat)) (show 0 < nnA g mv d l by omega)
  unfold dyA
  by_cases q : atA g l = 0
  · rw [if_pos q]; omega
  · rw [if_neg q]
    have e : nnA g mv d l = hiA g mv d l - lwA g mv d l + 1 := by unfold nnA; rw [if_neg q]
    omega
theorem bs_r {g : zM} {mv d : Int} (hw : WG g) (hd : 0 ≤ d ∧ d ≤ 99) (hn : ∀ j, 0 ≤ j → j < g 88 12 → 1 ≤ nnA g mv d j) : ∀ c : Nat, ∀ l, 0 ≤ l → l < g 88 12 → -1 ≤ (bsA g mv d c).2.2.2.2.2 l ∧ (bsA g mv d c).2.2.2.2.2 l ≤ 60 := by
  intro c
  induction c with
  | zero => intro l _ _; unfold bsA; dsimp only; omega
  | succ c ih =>
    intro l l0 l1
    rw [bsA]
    split
    · exact dyA_r hw hd hn l l0 l1
    · exact ih l l0 l1
theorem gS_x {g : zM} {mv d x : Int} (h : ¬ x = 108) : gS g mv d x = g x := by
  unfold gS
  split
  · exact gR_x h
  · rfl
theorem gS_8 {g : zM} {mv d l : Int} (h : ¬ (0 ≤ l ∧ l < g 88 12)) : gS g mv d 108 l = g 108 l := by
  unfold gS
  split
  · unfold gR; rw [if_neg (fun q => h q.2)]
  · rfl
theorem gS_r {g : zM} {mv d : Int} (hg : LG g) (hw : WG g) (hd : 0 ≤ d ∧ d ≤ 99) : ∀ l, 0 ≤ l → l < g 88 12 → -1 ≤ gS g mv d 108 l ∧ gS g mv d 108 l ≤ 60 := by
  intro l l0 l1
  unfold gS
  split
  · rename_i c
    unfold gR
    rw [if_pos ⟨rfl, l0, l1⟩]
    exact bs_r hw hd (okP_n hg.2.2.1.1 c.1) _ l l0 l1
  · exact (hw l l0 l1).2.1
/-- behind a search of both -/
theorem VI_S {S : Int → Int} {g m m1 m2 : zM} {mv d : Int} (hd : 0 ≤ d ∧ d ≤ 99) (hp : PG g m) (hg : LG g) (hr : RGd g) (hw : WG g) (he : EW g) (hc : CS g m) (hx : XT S m) (f1 : FX m m1) (h14 : m1 0 14 = 1) (c1 : CS (gS g mv d) m1) (k1 : m1 67 11 = lkA g mv d) (f2 : FT m1 m2) (hp2 : PG (gS g mv d) m2) (k2 : m2 88 78 = lkA g mv d) : VI S m2 := by
  have hN := hg.2.2.1
  have hS := hg.1.1
  have e9 := hc.1.2.1
  have e11 := hc.1.1
  have e88 : gS g mv d 88 = g 88 := gS_x (by decide)
  have lg : LG (gS g mv d) := LG_c (fun x x0 x1 _ => gS_x (by omega)) ⟨by rw [e88], by rw [e88]⟩ (by rw [e88]; exact hg.2.2.2.1) hg
  have a2 : ∀ x j, x < 88 → m2 x j = m1 x j := fun x j hx => f2 x j (by omega)
  have a1 : ∀ x j, xtY x j → ¬ (x = 67 ∧ j = 11) → ¬ (29 ≤ x ∧ x < 29 + 6 * m 0 9 ∧ (x - 29) % 6 = 0 ∧ j = 13) → m1 x j = m x j := fun x j c q1 q2 => f1 x j (fun q => by
    rcases q with q | q | q
    · exact rn_xt c q
    · exact q1 q
    · exact q2 q)
  have a0 : ∀ x j, xtY x j → ¬ (x = 67 ∧ j = 11) → ¬ (29 ≤ x ∧ x < 29 + 6 * m 0 9 ∧ (x - 29) % 6 = 0 ∧ j = 13) → ¬ x = 108 → ¬ (x = 88 ∧ j = 78) → m2 x j = m x j := fun x j c q1 q2 q3 q4 => by
    refine (f2 x j (fun q => ?_)).trans (a1 x j c q1 q2)
    rcases c with c | c | c | c | c | c | c | c | c | c | c | c | c | c | c | c <;> omega
  have hx' := hx
  obtain ⟨x1, ⟨t1, t2, t3⟩, x3, x4, x5, x6, x7, x8, x10, x11, x13⟩ := hx'
  refine ⟨gS g mv d, hp2, lg, RGd_c ⟨gS_x (by decide), gS_x (by decide), gS_x (by decide)⟩ ⟨by rw [e88], by rw [e88]⟩ (fun l l0 l1 => by rw [gS_x (by decide)]; exact hr.2.2.2 l l0 l1) hr, fun l l0 l1 => ?_, EW_c (fun x x0 x1 => gS_x (by omega)) he, ⟨CS_f lg c1 fun x j c => a2 x j (by unfold csY at c; omega), fun q => absurd q ?_⟩, ?_⟩
  · rw [e88] at l1
    rw [gS_x (x := 105) (by decide), gS_x (x := 106) (by decide), gS_x (x := 98) (by decide)]
    exact ⟨(hw l l0 l1).1, gS_r hg hw hd l l0 l1, (hw l l0 l1).2.2⟩
  · rw [a2 0 14 (by decide), h14]; decide
  · have m0 : ∀ j, (j = 7 ∨ j = 8 ∨ j = 9 ∨ j = 10 ∨ j = 12 ∨ j = 13) → m2 0 j = m 0 j := fun j hj => a0 0 j (xt_0 hj) (by omega) (by omega) (by omega) (by omega)
    have m88 : ∀ j, (j = 1 ∨ j = 26 ∨ j = 27 ∨ j = 41) → m2 88 j = m 88 j := fun j hj => a0 88 j (xt_88 (by omega)) (by omega) (by omega) (by omega) (by omega)
    have mr : ∀ x j, (x = 71 ∨ x = 89 ∨ x = 96 ∨ x = 90 ∨ x = 91 ∨ x = -2 ∨ x = 109) → m2 x j = m x j := fun x j q => a0 x j (by rcases q with q | q | q | q | q | q | q <;> subst q <;> simp [xtY]) (by omega) (by omega) (by omega) (by omega)
    have r90 : m2 90 = m 90 := funext fun j => mr _ _ (by omega)
    have r91 : m2 91 = m 91 := funext fun j => mr _ _ (by omega)
    have m11 : m2 1 1 = m 1 1 := a0 1 1 (by simp [xtY]) (by omega) (by omega) (by omega) (by omega)
    have m67 : m2 67 11 = m2 88 78 := by rw [a2 67 11 (by decide), k1, k2]
    unfold XT
    rw [m0 12 (by omega), m0 13 (by omega), m0 7 (by omega), m0 8 (by omega), m0 9 (by omega), m0 10 (by omega), m88 1 (by omega), m88 26 (by omega), m88 27 (by omega), m88 41 (by omega), m11, r90, r91]
    simp only [fun j => mr 71 j (by omega), fun j => mr 89 j (by omega), fun j => mr 96 j (by omega), fun j => mr (-2) j (by omega)]
    refine ⟨x1, ⟨t1, t2, t3⟩, m67, ?_, encA_f (fun j => mr 109 j (by omega)) _ _ x5, x6, fun l l0 l1 => ?_, fun l l0 l1 => ?_, fun k k0 k1 d d0 d1 => ?_, fun k k0 k1 => ?_, x13⟩
    · rw [← x4]
      rcases x6 with z | z <;> rw [z.1]
      · exact a0 _ _ (by simp [xtY]) (by omega) (by omega) (by omega) (by omega)
      · exact a0 _ _ (by simp [xtY]) (by omega) (by omega) (by omega) (by omega)
    · have al : ∀ j, (8 ≤ j ∧ j ≤ 13) → m2 (29 + 6 * l) j = m (29 + 6 * l) j := fun j hj => a0 _ _ (xt_l (by omega) l1 (Or.inr hj)) (by omega) (by omega) (by omega) (by omega)
      rw [al 8 (by omega), al 9 (by omega), al 10 (by omega), al 11 (by omega), al 12 (by omega), al 13 (by omega)]
      refine ⟨(x7 l l0 l1).1, ?_⟩
      rw [hp2 108 l (pr_r (by omega)), gS_8 (by omega), ← hp 108 l (pr_r (by omega))]
      exact (x7 l l0 l1).2
    · rw [a0 _ 0 (xt_l l0 l1 (Or.inl rfl)) (by omega) (by omega) (by omega) (by omega)]; exact x8 l l0 l1
    · rw [a0 _ _ (xt_h k0 k1) (by omega) (by omega) (by omega) (by omega)]; exact x10 k k0 k1 d d0 d1
    · rw [a0 _ _ (xt_7 k0 (by omega)) (by omega) (by omega) (by omega) (by omega)]; exact x11 k k0 k1
theorem PG_x {g m m' : zM} (h9 : m 0 9 ≤ 6) (h : PG g m) (a : FX m m') : PG g m' := fun x j p => (a x j (by
  intro s
  rcases p with p | p | p | p | p | p <;> rcases s with (s | s | s | s | s | s | s | s) | s | s <;> omega)).trans (h x j p)
section L2
variable {Ω : zΩ} {S : Int → Int} {m : zM} {N : Int → Int → zM → Prop}
theorem VI_plan (h : VI S m) (K : ∀ v m', VI S m' → N v v m') : zG Ω 113 0 [zR 9 0] [] m (fun r1 m1 => zk1 r1 fun v1 => zG Ω 195 0 [zR 10 88, zU] [] m1 (fun r2 m2 => zk1 r2 fun v2 => N v1 v2 m2)) := by
  obtain ⟨g, hp, hg, hr, hw, he, hc, hx⟩ := h
  have h9 : m 0 9 ≤ 6 := by rw [hc.1.1.2.1]; exact hg.2.2.1.2
  exact a_plan hg hr hw hc.1 fun m1 f1 h14 c1 k1 => zk1_i (s_planM hg he hr hw (PG_x h9 hp f1) fun m2 f2 p2 k2 => zk1_i (K _ _ (VI_S (by omega) hp hg hr hw he hc.1 hx f1 h14 c1 k1 f2 p2 k2)))
theorem VI_anew {d : Int} (h : VI S m) (K : ∀ v m', VI S m' → N v v m') : zG Ω 114 0 [zR 9 0, zI d] [] m (fun r1 m1 => zk1 r1 fun v1 => zG Ω 196 0 [zR 10 88, zI d, zU, zU] [] m1 (fun r2 m2 => zk1 r2 fun v2 => N v1 v2 m2)) := by
  obtain ⟨g, hp, hg, hr, hw, he, hc, hx⟩ := h
  have h9 : m 0 9 ≤ 6 := by rw [hc.1.1.2.1]; exact hg.2.2.1.2
  exact a_anew hg hr hw hc.1 (fun q => zk1_i (s_anewM hg he hr hw hp (fun _ => zk1_i (K _ _ (VI_yq hp hg hr hw he hc hx FY_r hc FQ_z))) fun y => absurd y q)) fun hd m1 f1 h14 c1 k1 => zk1_i (s_anewM hg he hr hw (PG_x h9 hp f1) (fun y => absurd hd y) fun _ m2 f2 p2 k2 => zk1_i (K _ _ (VI_S hd hp hg hr hw he hc.1 hx f1 h14 c1 k1 f2 p2 k2)))
end L2
