theorem PG_u {g m : zM} {x j v : Int} (h : PG g m) : PG (zup g x j v) (zup m x j v) := fun a b p => by
  unfold zup
  split
  · rfl
  · exact h a b p
theorem PG_o {g m : zM} {x j v : Int} (h : PG g m) (n : ¬ prA x j) : PG g (zup m x j v) := fun a b p => by
  unfold zup
  rw [if_neg (by rintro ⟨rfl, rfl⟩; exact n p)]
  exact h a b p
theorem PG_c {g m : zM} {x j v : Int} (h : PG g m) (n : x < 88) : PG g (zup m x j v) := PG_o h (by unfold prA; omega)
theorem PG_2 {g m : zM} {v : Int} (h : PG g m) : PG g (zup m 88 2 v) := PG_o h (by unfold prA; omega)
/-- a lord's papers, window, day: behind both -/
theorem VI_l {S : Int → Int} {g g' m m2 : zM} {l : Int} (hp : PG g' m2) (hg : LG g) (hr : RGd g) (hw : WG g) (he : EW g) (hc : CR g m) (hx : XT S m) (hb : 0 ≤ l ∧ l < g 88 12)
    (a : ∀ x j, ¬ (x = 29 + 6 * l ∧ 8 ≤ j ∧ j ≤ 13) → ¬ (x = 0 ∧ j = 14) → ¬ (x = 88 ∧ j = 2) → ¬ (103 ≤ x ∧ x ≤ 108 ∧ j = l) → m2 x j = m x j) (h14 : m2 0 14 = 1)
    (hl : m2 (29 + 6 * l) 8 = g' 103 l ∧ m2 (29 + 6 * l) 9 = g' 104 l ∧ m2 (29 + 6 * l) 10 = g' 105 l ∧ m2 (29 + 6 * l) 11 = g' 106 l ∧ m2 (29 + 6 * l) 12 = g' 107 l ∧ m2 (29 + 6 * l) 13 = g' 108 l)
    (e : ∀ x, ¬ (103 ≤ x ∧ x ≤ 108) → g' x = g x) (eo : ∀ x j, ¬ j = l → g' x j = g x j) (r7 : 0 ≤ g' 107 l ∧ g' 107 l ≤ 99) (r5 : (0 ≤ g' 105 l ∧ g' 105 l ≤ g' 106 l ∧ g' 106 l ≤ 60) ∧ (-1 ≤ g' 108 l ∧ g' 108 l ≤ 60)) : VI S m2 := by
  have e9 := hc.1.1.2.1
  have e11 := hc.1.1.1
  have hN := hg.2.2.1
  have hS := hg.1.1
  have e88 : g' 88 = g 88 := e 88 (by decide)
  refine ⟨g', hp, LG_c (fun x x0 x1 _ => e x (by omega)) ⟨by rw [e88], by rw [e88]⟩ (by rw [e88]; exact hg.2.2.2.1) hg, RGd_c ⟨e 93 (by decide), e 95 (by decide), e 110 (by decide)⟩ ⟨by rw [e88], by rw [e88]⟩ (fun k k0 k1 => ?_) hr, fun k k0 k1 => ?_, EW_c (fun x x0 x1 => e x (by omega)) he, ⟨CS_l hg hb hc.1 (fun x j c q => a x j (by unfold csY at c; omega) (by unfold csY at c; omega) (by unfold csY at c; omega) (by unfold csY at c; omega)) hl e eo, fun q => absurd q (by omega)⟩, XT_l (l := l) (by omega) (by omega) (by omega) hx (fun x j c q1 q2 => a x j (by omega) ?_ ?_ ?_)⟩
  · by_cases z : k = l
    · subst z; exact r7
    · rw [eo _ _ z]; exact hr.2.2.2 k k0 k1
  · rw [e88] at k1
    by_cases z : k = l
    · subst z
      rw [e 98 (by decide)]
      exact ⟨r5.1, r5.2, (hw k k0 k1).2.2⟩
    · rw [eo _ _ z, eo _ _ z, eo _ _ z, eo _ _ z]; exact hw k k0 k1
  · rcases c with c | c | c | c | c | c | c | c | c | c | c | c | c | c | c | c <;> omega
  · rcases c with c | c | c | c | c | c | c | c | c | c | c | c | c | c | c | c <;> omega
  · rcases c with c | c | c | c | c | c | c | c | c | c | c | c | c | c | c | c <;> omega
section L2
variable {Ω : zΩ} {S : Int → Int} {m : zM} {N : Int → Int → zM → Prop}
theorem VI_papers {l gv w : Int} (h : VI S m) (K : ∀ v m', VI S m' → N v v m') : zG Ω 104 0 [zR 9 0, zI l, zI gv, zI w] [] m (fun r1 m1 => zk1 r1 fun v1 => zG Ω 135 0 [zR 10 88, zI l, zI gv, zI w] [] m1 (fun r2 m2 => zk1 r2 fun v2 => N v1 v2 m2)) := by
  obtain ⟨g, hp, hg, hr, hw, he, hc, hx⟩ := h
  have e9 := hc.1.1.2.1
  have hN := hg.2.2.1
  have e12 : m 88 12 = g 88 12 := hp _ _ (by unfold prA; omega)
  refine s_papers (by omega) (fun ok => zk1_i (s_papersM ?_ (fun _ => zk1_i (K _ _ ?_)) fun q => absurd ?_ q)) fun no => zk1_i (s_papersM (by omega) (fun q => absurd (by rw [e9, ← e12]; exact q) no) fun _ => zk1_i (K _ _ (VI_yq hp hg hr hw he hc hx FY_r hc FQ_z)))
  · rw [zup_c (by omega), zup_c (by omega), zup_c (by omega)]; omega
  · have hb : 0 ≤ l ∧ l < g 88 12 := by omega
    have c8 := hc.1.2.2.2.2.2 l hb.1 hb.2
    refine VI_l (g' := zup (zup g 103 l gv) 104 l w) (l := l) (PG_u (PG_u (PG_2 (PG_c (PG_c (PG_c hp (by omega)) (by omega)) (by omega))))) hg hr hw he hc hx hb (fun x j h1 h2 h3 h4 => ?_) ?_ ?_ (fun x hx => by rw [zup_row (by omega), zup_row (by omega)]) (fun x j hj => by rw [zup_j hj, zup_j hj]) ?_ ?_
    · unfold zup
      rw [if_neg (by omega), if_neg (by omega), if_neg (by omega), if_neg (by omega), if_neg (by omega), if_neg (by omega)]
    · rw [zup_c (by omega), zup_c (by omega), zup_c (by omega), zup_s]
    · have q : ∀ j, zup (zup (zup (zup (zup (zup m (29 + 6 * l) 8 gv) (29 + 6 * l) 9 w) 0 14 1) 88 2 0) 103 l gv) 104 l w (29 + 6 * l) j = zup (zup m (29 + 6 * l) 8 gv) (29 + 6 * l) 9 w (29 + 6 * l) j := fun j => by
        rw [zup_c (by omega), zup_c (by omega), zup_c (by omega), zup_c (by omega)]
      simp only [q]
      refine ⟨?_, ?_, ?_, ?_, ?_, ?_⟩
      · rw [zup_j (by decide), zup_s, zup_c (by decide), zup_s]
      · rw [zup_s, zup_s]
      · rw [zup_j (by decide), zup_j (by decide), zup_c (by decide), zup_c (by decide)]; exact c8.2.2.1
      · rw [zup_j (by decide), zup_j (by decide), zup_c (by decide), zup_c (by decide)]; exact c8.2.2.2.1
      · rw [zup_j (by decide), zup_j (by decide), zup_c (by decide), zup_c (by decide)]; exact c8.2.2.2.2.1
      · rw [zup_j (by decide), zup_j (by decide), zup_c (by decide), zup_c (by decide)]; exact c8.2.2.2.2.2
    · rw [zup_c (by decide), zup_c (by decide)]; exact hr.2.2.2 l hb.1 hb.2
    · rw [zup_c (by decide), zup_c (by decide), zup_c (by decide), zup_c (by decide), zup_c (by decide), zup_c (by decide)]
      exact ⟨(hw l hb.1 hb.2).1, (hw l hb.1 hb.2).2.1⟩
  · rw [zup_c (a := 88) (by omega), zup_c (by omega), zup_c (by omega), e12, ← e9]; exact ok
theorem VI_window {l x y d : Int} (h : VI S m) (K : ∀ v m', VI S m' → N v v m') : zG Ω 105 0 [zR 9 0, zI l, zI x, zI y, zI d] [] m (fun r1 m1 => zk1 r1 fun v1 => zG Ω 136 0 [zR 10 88, zI l, zI x, zI y, zI d] [] m1 (fun r2 m2 => zk1 r2 fun v2 => N v1 v2 m2)) := by
  obtain ⟨g, hp, hg, hr, hw, he, hc, hx⟩ := h
  have e9 := hc.1.1.2.1
  have hN := hg.2.2.1
  have e12 : m 88 12 = g 88 12 := hp _ _ (by unfold prA; omega)
  refine s_window (by omega) (fun ok => zk1_i (s_windowM ?_ (fun _ => zk1_i (K _ _ ?_)) fun q => absurd ?_ q)) fun no => zk1_i (s_windowM (by omega) (fun q => absurd (by rw [e9, ← e12]; exact q) no) fun _ => zk1_i (K _ _ (VI_yq hp hg hr hw he hc hx FY_r hc FQ_z)))
  · rw [zup_c (by omega), zup_c (by omega), zup_c (by omega), zup_c (by omega)]; omega
  · have hb : 0 ≤ l ∧ l < g 88 12 := by omega
    have c8 := hc.1.2.2.2.2.2 l hb.1 hb.2
    refine VI_l (g' := zup (zup (zup g 105 l x) 106 l y) 107 l d) (l := l) (PG_u (PG_u (PG_u (PG_2 (PG_c (PG_c (PG_c (PG_c hp (by omega)) (by omega)) (by omega)) (by omega)))))) hg hr hw he hc hx hb (fun x j h1 h2 h3 h4 => ?_) ?_ ?_ (fun x hx => by rw [zup_row (by omega), zup_row (by omega), zup_row (by omega)]) (fun x j hj => by rw [zup_j hj, zup_j hj, zup_j hj]) ?_ ?_
    · unfold zup
      rw [if_neg (by omega), if_neg (by omega), if_neg (by omega), if_neg (by omega), if_neg (by omega), if_neg (by omega), if_neg (by omega), if_neg (by omega)]
    · rw [zup_c (by omega), zup_c (by omega), zup_c (by omega), zup_c (by omega), zup_s]
    · have q : ∀ j, zup (zup (zup (zup (zup (zup (zup (zup m (29 + 6 * l) 10 x) (29 + 6 * l) 11 y) (29 + 6 * l) 12 d) 0 14 1) 88 2 0) 105 l x) 106 l y) 107 l d (29 + 6 * l) j = zup (zup (zup m (29 + 6 * l) 10 x) (29 + 6 * l) 11 y) (29 + 6 * l) 12 d (29 + 6 * l) j := fun j => by
        rw [zup_c (by omega), zup_c (by omega), zup_c (by omega), zup_c (by omega), zup_c (by omega)]
      simp only [q]
      refine ⟨?_, ?_, ?_, ?_, ?_, ?_⟩
      · rw [zup_j (by decide), zup_j (by decide), zup_j (by decide), zup_c (by decide), zup_c (by decide), zup_c (by decide)]; exact c8.1
      · rw [zup_j (by decide), zup_j (by decide), zup_j (by decide), zup_c (by decide), zup_c (by decide), zup_c (by decide)]; exact c8.2.1
      · rw [zup_j (by decide), zup_j (by decide), zup_s, zup_c (by decide), zup_c (by decide), zup_s]
      · rw [zup_j (by decide), zup_s, zup_c (by decide), zup_s]
      · rw [zup_s, zup_s]
      · rw [zup_j (by decide), zup_j (by decide), zup_j (by decide), zup_c (by decide), zup_c (by decide), zup_c (by decide)]; exact c8.2.2.2.2.2
    · rw [zup_s]; omega
    · rw [zup_c (a := 105) (by decide), zup_c (a := 105) (by decide), zup_s, zup_c (a := 106) (by decide), zup_s, zup_c (by decide), zup_c (by decide), zup_c (by decide)]
      exact ⟨by omega, (hw l hb.1 hb.2).2.1⟩
  · rw [zup_c (a := 88) (by omega), zup_c (by omega), zup_c (by omega), zup_c (by omega), e12, ← e9]; exact ok
theorem VI_set {l d : Int} (h : VI S m) (K : ∀ v m', VI S m' → N v v m') : zG Ω 108 0 [zR 9 0, zI l, zI d] [] m (fun r1 m1 => zk1 r1 fun v1 => zG Ω 189 0 [zR 10 88, zI l, zI d] [] m1 (fun r2 m2 => zk1 r2 fun v2 => N v1 v2 m2)) := by
  obtain ⟨g, hp, hg, hr, hw, he, hc, hx⟩ := h
  have e9 := hc.1.1.2.1
  have hN := hg.2.2.1
  have e12 : m 88 12 = g 88 12 := hp _ _ (by unfold prA; omega)
  refine s_set (by omega) (fun ok => zk1_i (s_setM ?_ (fun _ => zk1_i (K _ _ ?_)) fun q => absurd ?_ q)) fun no => zk1_i (s_setM (by omega) (fun q => absurd (by rw [e9, ← e12]; exact q) no) fun _ => zk1_i (K _ _ (VI_yq hp hg hr hw he hc hx FY_r hc FQ_z)))
  · rw [zup_c (by omega), zup_c (by omega)]; omega
  · have hb : 0 ≤ l ∧ l < g 88 12 := by omega
    have c8 := hc.1.2.2.2.2.2 l hb.1 hb.2
    refine VI_l (g' := zup g 108 l d) (l := l) (PG_u (PG_2 (PG_c (PG_c hp (by omega)) (by omega)))) hg hr hw he hc hx hb (fun x j h1 h2 h3 h4 => ?_) ?_ ?_ (fun x hx => zup_row (by omega)) (fun x j hj => zup_j hj) ?_ ?_
    · unfold zup
      rw [if_neg (by omega), if_neg (by omega), if_neg (by omega), if_neg (by omega)]
    · rw [zup_c (by omega), zup_c (by omega), zup_s]
    · have q : ∀ j, zup (zup (zup (zup m (29 + 6 * l) 13 d) 0 14 1) 88 2 0) 108 l d (29 + 6 * l) j = zup m (29 + 6 * l) 13 d (29 + 6 * l) j := fun j => by
        rw [zup_c (by omega), zup_c (by omega), zup_c (by omega)]
      simp only [q]
      refine ⟨?_, ?_, ?_, ?_, ?_, ?_⟩
      · rw [zup_j (by decide), zup_c (by decide)]; exact c8.1
      · rw [zup_j (by decide), zup_c (by decide)]; exact c8.2.1
      · rw [zup_j (by decide), zup_c (by decide)]; exact c8.2.2.1
      · rw [zup_j (by decide), zup_c (by decide)]; exact c8.2.2.2.1
      · rw [zup_j (by decide), zup_c (by decide)]; exact c8.2.2.2.2.1
      · rw [zup_s, zup_s]
    · rw [zup_c (by decide)]; exact hr.2.2.2 l hb.1 hb.2
    · rw [zup_c (a := 105) (by decide), zup_c (a := 106) (by decide), zup_s]
      exact ⟨(hw l hb.1 hb.2).1, by omega⟩
  · rw [zup_c (a := 88) (by omega), zup_c (by omega), e12, ← e9]; exact ok
end L2
