/-! plan and anew, of the class -/
/-- g with another row of days -/
def gR (g : zM) (b : Int → Int) : zM := fun x j => if x = 108 ∧ 0 ≤ j ∧ j < g 88 12 then b j else g x j
theorem gR_x {g : zM} {b : Int → Int} {x : Int} (h : ¬ x = 108) : gR g b x = g x := by
  funext j
  unfold gR
  rw [if_neg (fun q => h q.1)]
theorem vl_R {g : zM} {b : Int → Int} {e : Int} {f : Int → Int} : vl (gR g b) e f = vl g e f := by
  unfold vl vM sgM nmM
  rw [gR_x (x := 123) (by decide), gR_x (x := 117) (by decide), gR_x (x := 116) (by decide), gR_x (x := 111) (by decide), gR_x (x := 114) (by decide), gR_x (x := 115) (by decide)]
theorem yc_R {g : zM} {b : Int → Int} : yc (gR g b) = yc g := by
  unfold yc
  rw [gR_x (x := 123) (by decide), gR_x (x := 117) (by decide)]
theorem ER_R {m g : zM} {E : Int} {b : Int → Int} (h : ER m E g) : ER m E (gR g b) := by
  unfold ER at h ⊢
  simp only [vl_R, yc_R, gR_x (g := g) (b := b) (x := 110) (by decide)]
  exact h
theorem LG_R {g : zM} {b : Int → Int} (h : LG g) : LG (gR g b) := by
  unfold LG at h ⊢
  rw [gR_x (x := 90) (by decide), gR_x (x := 91) (by decide), gR_x (x := 88) (by decide), gR_x (x := 97) (by decide), gR_x (x := 98) (by decide), gR_x (x := 99) (by decide), gR_x (x := 100) (by decide), gR_x (x := 101) (by decide), gR_x (x := 102) (by decide)]
  exact h
theorem CS_R {g m m' : zM} {b : Int → Int} (hg : LG g) (h : CS g m) (a : ∀ x j, csY x j → ¬ (29 ≤ x ∧ x ≤ 59 ∧ (x - 29) % 6 = 0 ∧ j = 13) → m' x j = m x j) (hb : ∀ l, 0 ≤ l → l < g 88 12 → m' (29 + 6 * l) 13 = b l) : CS (gR g b) m' := by
  have hN := hg.2.2.1
  have hS := hg.1.1
  obtain ⟨⟨h1, h2, h3⟩, h4, h5, h6, h7, h8⟩ := h
  have e7 : m' 0 7 = m 0 7 := a 0 7 (by unfold csY; omega) (by omega)
  unfold CS
  rw [gR_x (x := 88) (by decide), gR_x (x := 103) (by decide), gR_x (x := 104) (by decide), gR_x (x := 105) (by decide), gR_x (x := 106) (by decide), gR_x (x := 107) (by decide)]
  refine ⟨⟨(a _ _ (by unfold csY; omega) (by omega)).trans h1, (a _ _ (by unfold csY; omega) (by omega)).trans h2, (a _ _ (by unfold csY; omega) (by omega)).trans h3⟩, by rw [e7]; exact h4, by rw [e7]; exact ER_R (ER_f h5 fun x j x0 x1 => a x j (by unfold csY; omega) (by omega)), ?_, ?_, fun l l0 l1 => ?_⟩
  · have h6' := LF_f (m' := m') hN.2 h6 fun x j x0 x1 x2 x3 => a x j (Or.inr (Or.inr (Or.inr (Or.inr (Or.inl (by omega)))))) (by omega)
    unfold LF at h6' ⊢
    rw [gR_x (x := 88) (by decide), gR_x (x := 97) (by decide), gR_x (x := 98) (by decide), gR_x (x := 99) (by decide), gR_x (x := 100) (by decide), gR_x (x := 101) (by decide), gR_x (x := 102) (by decide), gR_x (x := 90) (by decide), gR_x (x := 91) (by decide)]
    exact h6'
  · unfold SC at h7 ⊢
    rw [gR_x (x := 88) (by decide), gR_x (x := 90) (by decide), gR_x (x := 91) (by decide), gR_x (x := 92) (by decide), gR_x (x := 93) (by decide), gR_x (x := 94) (by decide), gR_x (x := 95) (by decide), gR_x (x := 96) (by decide)]
    refine fun k k0 k1 => ⟨?_, fun d d0 d1 => ?_⟩
    · have := (h7 k k0 k1).1
      have st : ∀ y, 1 ≤ y → y ≤ 6 → csY (3 + 2 * k) y := fun y y0 y1 => Or.inr (Or.inr (Or.inl (by omega)))
      rw [a _ 1 (st 1 (by decide) (by decide)) (by omega), a _ 2 (st 2 (by decide) (by decide)) (by omega), a _ 3 (st 3 (by decide) (by decide)) (by omega), a _ 4 (st 4 (by decide) (by decide)) (by omega), a _ 5 (st 5 (by decide) (by decide)) (by omega), a _ 6 (st 6 (by decide) (by decide)) (by omega)]
      exact this
    · rw [a _ _ (Or.inr (Or.inr (Or.inr (Or.inl (by omega))))) (by omega)]
      exact (h7 k k0 k1).2 d d0 d1
  · have := h8 l l0 l1
    have st : ∀ y, y ≤ 13 → csY (29 + 6 * l) y := fun y y0 => Or.inr (Or.inr (Or.inr (Or.inr (Or.inl (by omega)))))
    rw [a _ 8 (st 8 (by decide)) (by omega), a _ 9 (st 9 (by decide)) (by omega), a _ 10 (st 10 (by decide)) (by omega), a _ 11 (st 11 (by decide)) (by omega), a _ 12 (st 12 (by decide)) (by omega), hb l l0 l1]
    refine ⟨this.1, this.2.1, this.2.2.1, this.2.2.2.1, this.2.2.2.2.1, ?_⟩
    unfold gR
    rw [if_pos ⟨rfl, l0, l1⟩]
def FX (m m' : zM) : Prop := ∀ x j, ¬ (rnY x j ∨ (x = 67 ∧ j = 11) ∨ (29 ≤ x ∧ x < 29 + 6 * m 0 9 ∧ (x - 29) % 6 = 0 ∧ j = 13)) → m' x j = m x j
theorem FX_t {m m' m'' : zM} (a : FX m m') (b : FX m' m'') : FX m m'' := fun x j h => (b x j (by rw [a 0 9 (by unfold rnY; omega)]; exact h)).trans (a x j h)
theorem FX_y {m m' : zM} (a : FY m m') : FX m m' := fun x j h => a x j fun q => h (Or.inl q)
theorem FX_s {m m' : zM} (a : FS m m') : FX m m' := fun x j h => a x j fun q => h (by
  rcases q with q | q | q | q | q | q | q
  · exact Or.inl (rn_1 q)
  · exact Or.inl (rn_3 q)
  · exact Or.inl (rn_5 (by omega))
  · by_cases z : j = 11
    · exact Or.inr (Or.inl ⟨q.1, z⟩)
    · exact Or.inl (rn_5 (by omega))
  · exact Or.inl (rn_5 (by omega))
  · exact Or.inl (rn_E (E := 76) (Or.inl rfl) (by omega))
  · exact Or.inl (rn_E (E := 82) (Or.inr rfl) (by omega)))
theorem vvA_0 {f : Int → Int} {N : Nat} : ∀ k : Nat, vvA f N 0 k = 0 := by
  intro k
  induction k with
  | zero => rfl
  | succ k ih => unfold vvA; rw [ih]; simp
theorem prd_inv {f : Int → Int} : ∀ n : Nat, (∀ j : Int, 0 ≤ j → j < (n : Int) → 0 ≤ f j) → 0 < prdA f n → ∀ j : Int, 0 ≤ j → j < (n : Int) → 0 < f j := by
  intro n
  induction n with
  | zero => intro _ _ j a b; omega
  | succ n ih =>
    intro h hp j a b
    unfold prdA at hp
    have fn := h n (by omega) (by omega)
    have f0 : ¬ f n = 0 := fun z => by rw [z, Int.mul_zero] at hp; omega
    have pp : 0 < prdA f n := by
      rcases Int.lt_or_le 0 (prdA f n) with z | z
      · exact z
      · have := Int.mul_nonneg (a := -(prdA f n)) (b := f n) (by omega) fn
        rw [Int.neg_mul] at this
        omega
    by_cases e : j = n
    · rw [e]; omega
    · exact ih (fun j a b => h j a (by omega)) pp j a (by omega)
theorem bs_mv {g : zM} {mv d : Int} : ∀ c : Nat, (bsA g mv d c).1 = 1 → (bsA g mv d c).2.2.2.2.1 = sumA (otS g (bsA g mv d c).2.2.2.2.2) (g 88 12).toNat := by
  intro c
  induction c with
  | zero => intro h; unfold bsA at h; dsimp only at h; omega
  | succ c ih =>
    intro h
    rw [bsA] at h ⊢
    split
    · rfl
    · rename_i q
      rw [if_neg q] at h
      exact ih h
theorem prdA_c {f f' : Int → Int} : ∀ n : Nat, (∀ j : Int, 0 ≤ j → j < (n : Int) → f' j = f j) → prdA f' n = prdA f n := by
  intro n
  induction n with
  | zero => intro _; rfl
  | succ n ih => intro h; unfold prdA; rw [ih fun j a b => h j a (by omega), h n (by omega) (by omega)]
abbrev PA (g : zM) (mv d : Int) : Int := prdA (n0A g mv d) (g 88 12).toNat
abbrev okP (g : zM) (mv d : Int) : Prop := 0 < PA g mv d ∧ PA g mv d ≤ 2000
abbrev BA' (g : zM) (mv d : Int) : zBs := bsA g mv d (PA g mv d).toNat
abbrev lkA (g : zM) (mv d : Int) : Int := if PA g mv d < 2000 then PA g mv d else 2000
theorem okP_n {g : zM} {mv d : Int} (hN : 0 ≤ g 88 12) (h : 0 < PA g mv d) : ∀ j, 0 ≤ j → j < g 88 12 → 1 ≤ nnA g mv d j := by
  intro j a b
  have := prd_inv (f := n0A g mv d) (g 88 12).toNat (fun j _ _ => by unfold n0A; split <;> omega) h j a (by omega)
  unfold n0A at this
  split at this <;> omega
section L2
variable {Ω : zΩ} {Q : List zV → zM → Prop} {g : zM}
theorem s_through {m : zM} {mv d : Int} (hg : LG g) (hr : RGd g) (hw : WG g) (hd : 0 ≤ d ∧ d ≤ 99) (hm : mv = 0 ∨ mv = 1) (hs : SQ g mv d m) (K1 : okP g mv d → ∀ m', FX m m' → m' 0 14 = m 0 14 → CS (gR g (BA' g mv d).2.2.2.2.2) m' → m' 67 11 = lkA g mv d → m' 67 9 = (BA' g mv d).2.2.1 → m' 67 10 = (BA' g mv d).2.2.2.2.1 → Q [zI 1] m') (K0 : ¬ okP g mv d → ∀ m', FX m m' → m' 0 14 = m 0 14 → CS g m' → m' 67 11 = lkA g mv d → Q [zI 0] m') : zG Ω 71 0 [zR 6 67, zU, zU, zU] [] m Q := by
  have hN := hg.2.2.1
  refine w_X6_goThrough_0 (w_X6_isWithinBounds_0 (s_within_4 hg hw hd hs ?_ (g 88 12).toNat 0 (by omega)))
  have f1 : FS m (zup m 67 11 (lkA g mv d)) := FS_u FS_r (Or.inr (Or.inr (Or.inr (Or.inl (by omega)))))
  have s1 := SQ_f hg hs f1
  by_cases hp : okP g mv d
  · rw [if_pos hp]
    have hn := okP_n hN.1 hp.1
    refine zk1_t (w_X6_begin_0 ?_)
    have f2 : FS m (zup (zup m 67 11 (lkA g mv d)) 67 7 2000000000) := FS_u f1 (Or.inr (Or.inr (Or.inr (Or.inl (by omega)))))
    refine s_sbegin_8 hg hn (g 88 12).toNat 0 _ (by omega) (SQ_f hg hs f2) (fun j a b => absurd a (by omega)) fun m2 g2 e67 d2 => ?_
    show zG Ω 71 15 _ _ _ _
    have f3 := FS_t f2 g2
    have el : lkA g mv d = PA g mv d := by unfold lkA; split <;> omega
    have e11 : m2 67 11 = PA g mv d := by rw [e67, zup_j (by decide), zup_e rfl rfl]; exact el
    refine s_go_15 (mv := mv) (d := d) hg hr hw hd hm hn (PA g mv d).toNat 0 m2 (by omega) (by rw [e11]; omega) (SQ_f hg hs f3) (fun l l0 l1 => ?_) ⟨?_, fun z => ?_⟩ fun m3 f4 e113 s3 b3 => ?_
    · rw [d2 l l0 l1]
      show _ = dyA g mv d 0 l
      unfold dyA fsA
      rw [vvA_0]
      simp
    · rw [e67, zup_e rfl rfl]; unfold bsA; rw [if_pos rfl]
    · unfold bsA at z; dsimp only at z; omega
    · rw [Nat.zero_add] at b3
      have bb := (bs_b (mv := mv) (d := d) hg hr hw (PA g mv d).toNat).1 (by omega)
      obtain ⟨q9, q8, q70⟩ := b3.2 bb
      have f5 := FS_t f3 f4
      refine w_X6_takeBest_0 ?_
      have h5 := s3.2.1.1
      refine s_take_7 (mv := mv) (d := d) (b := (BA' g mv d).2.2.2.2.2) hg (g 88 12).toNat 0 _ (by omega) (by rw [zup_j (by decide)]; exact h5) (fun j j0 j1 => ?_) (fun j j0 j1 => ?_) (fun j a b => absurd a (by omega)) (zup_e rfl rfl) fun m4 o4 r4 t4 => ?_
      · rw [zup_c (by decide), zup_c (by omega)]
        exact ⟨q70 j j0 j1, (s3.2.2.2 j j0 j1).2.1⟩
      · rw [zup_c (by omega)]
        exact (s3.1.2.2.2.2.2 j (by omega) j1).2.2.2.2.2
      · have o4' : ∀ x j, ¬ (x = 67 ∧ j = 10) → ¬ (29 ≤ x ∧ x < 29 + 6 * g 88 12 ∧ (x - 29) % 6 = 0 ∧ j = 13) → m4 x j = m3 x j := fun x j a b => by
          rw [o4 x j (fun q => q.elim a b)]
          unfold zup
          rw [if_neg a]
        have f6 : FX m m4 := FX_t (FX_s f5) fun x j h => o4' x j (fun q => h (Or.inl (rn_5 (by omega)))) fun q => h (Or.inr (Or.inr (by rw [s3.1.1.2.1]; exact q)))
        show Q [zI 1] m4
        refine K1 hp m4 f6 ?_ (CS_R hg s3.1 (fun x j c q => o4' x j (by rintro ⟨rfl, rfl⟩; unfold csY at c; omega) (fun y => q (by omega))) r4) ?_ ?_ ?_
        · rw [o4' _ _ (by omega) (by omega)]
          exact f5 0 14 (by unfold sqY; omega)
        · rw [o4' _ _ (by omega) (by omega), e113, e11, el]
        · rw [o4' _ _ (by omega) (by omega)]; exact q9
        · rw [t4]; exact (bs_mv _ bb).symm
  · rw [if_neg hp]
    exact zk1_f (K0 hp _ (FX_s f1) (f1 0 14 (by unfold sqY; omega)) s1.1 (zup_e rfl rfl))
theorem s_openC {m : zM} {mv d : Int} (hg : LG g) (hw : WG g) (hm : mv = 0 ∨ mv = 1) (hc : CS g m) (K : ∀ m', FY m m' → SQ g mv d m' → m' 0 14 = 1 → Q [] m') : zG Ω 122 0 [zR 9 0, zI d, zI mv] [] m Q := by
  have hN := hg.2.2.1
  have hE := hc.2.1
  refine w_X9_openSearch_0 ⟨by omega, ?_⟩
  rw [hc.1.2.1, hc.1.2.2]
  refine s_prepC hg hE hc.2.2.1 hc.2.2.2.1 fun m1 f1 a3 a4 a5 al => ?_
  have y1 := FY_k hE f1
  have c1 := CS_y hg hc y1
  have n7 : m1 0 7 = m 0 7 := y1 0 7 (by unfold rnY; omega)
  show zG Ω 69 0 _ _ _ _
  refine w_X6_open_0 (zbl_of (by omega) (by omega) ?_)
  rw [c1.1.2.1, if_neg (by omega)]
  have y2 : FY m1 (zup (zup m1 67 5 (g 88 12)) 67 6 mv) := FY_u (FY_u FY_r (rn_5 (by omega))) (rn_5 (by omega))
  have o67 : ∀ x j, ¬ x = 67 → zup (zup m1 67 5 (g 88 12)) 67 6 mv x j = m1 x j := fun x j h => by rw [zup_c h, zup_c h]
  refine s_open_18 hg hm hw (g 88 12).toNat 0 _ (by omega) (by omega) (by rw [zup_j (by decide), zup_e rfl rfl]) (zup_e rfl rfl) (fun j j0 j1 => ?_) (fun j a b => absurd a (by omega)) fun m2 o2 r2 => ?_
  · have c := c1.2.2.2.2.2 j j0 j1
    rw [o67 _ _ (by omega), o67 _ _ (by omega), o67 _ _ (by omega), o67 _ _ (by omega)]
    exact ⟨(al j j0 j1).1, c.2.2.1, c.2.2.2.1, c.2.2.2.2.2⟩
  · have o3 : ∀ x j, ¬ (67 ≤ x ∧ x ≤ 69) → ¬ x = 0 → zup m2 0 14 1 x j = m1 x j := fun x j h h0 => by
      rw [zup_c h0, o2 x j (by omega), o67 x j (by omega)]
    have y3 : FY m (zup m2 0 14 1) := FY_u (FY_t y1 (FY_t y2 fun x j h => o2 x j fun q => h (rn_5 (by omega)))) (Or.inr (Or.inr (Or.inr (Or.inr (Or.inr (Or.inr (Or.inr ⟨rfl, rfl⟩)))))))
    show Q [] (zup m2 0 14 1)
    have n73 : zup m2 0 14 1 0 7 = m 0 7 := y3 0 7 (by unfold rnY; omega)
    refine K _ y3 ⟨CS_y hg hc y3, ⟨?_, ?_⟩, ⟨?_, ?_, ?_⟩, fun l l0 l1 => ⟨?_, ?_⟩⟩ (zup_e rfl rfl)
    · rw [zup_c (by decide), o2 _ _ (by omega), zup_j (by decide), zup_e rfl rfl]
    · rw [zup_c (by decide), o2 _ _ (by omega), zup_e rfl rfl]
    · rw [o3 _ _ (by omega) (by omega), n73]; exact a3
    · rw [o3 _ _ (by omega) (by omega)]; exact a4
    · rw [o3 _ _ (by omega) (by omega)]; exact a5
    · rw [zup_c (by decide), zup_c (by decide)]; exact r2 l l0 l1
    · rw [o3 _ _ (by omega) (by omega), o3 _ _ (by omega) (by omega), o3 _ _ (by omega) (by omega), o3 _ _ (by omega) (by omega)]
      exact al l l0 l1
abbrev gS (g : zM) (mv d : Int) : zM := if okP g mv d then gR g (BA' g mv d).2.2.2.2.2 else g
theorem a_plan {m : zM} (hg : LG g) (hr : RGd g) (hw : WG g) (hc : CS g m) (K : ∀ m', FX m m' → m' 0 14 = 1 → CS (gS g 0 0) m' → m' 67 11 = lkA g 0 0 → Q [zI (if okP g 0 0 then (BA' g 0 0).2.2.1 else -1)] m') : zG Ω 113 0 [zR 9 0] [] m Q := by
  unfold gS at K
  refine w_X9_plan_0 (s_openC (mv := 0) (d := 0) hg hw (Or.inl rfl) hc fun m1 y1 s1 e1 => ?_)
  show zG Ω 71 0 _ _ _ _
  refine s_through hg hr hw (by omega) (Or.inl rfl) s1 (fun hp m2 f2 e2 c2 l2 q9 q10 => zk1_t ?_) fun hp m2 f2 e2 c2 l2 => zk1_f ?_
  · rw [if_pos hp, if_pos hp] at K
    rw [q9]
    exact K m2 (FX_t (FX_y y1) f2) (e2.trans e1) c2 l2
  · rw [if_neg hp, if_neg hp] at K
    exact K m2 (FX_t (FX_y y1) f2) (e2.trans e1) c2 l2
theorem a_anew {m : zM} {d : Int} (hg : LG g) (hr : RGd g) (hw : WG g) (hc : CS g m) (K0 : ¬ (0 ≤ d ∧ d ≤ 99) → Q [zI (-1)] m) (K : 0 ≤ d ∧ d ≤ 99 → ∀ m', FX m m' → m' 0 14 = 1 → CS (gS g 1 d) m' → m' 67 11 = lkA g 1 d → Q [zI (if okP g 1 d then (BA' g 1 d).2.2.2.2.1 else -1)] m') : zG Ω 114 0 [zR 9 0, zI d] [] m Q := by
  unfold gS at K
  refine w_X9_anew_0 (b_within (fun hd => s_openC (mv := 1) (d := d) hg hw (Or.inr rfl) hc fun m1 y1 s1 e1 => ?_) fun hd => K0 hd)
  have K := K hd
  show zG Ω 71 0 _ _ _ _
  refine s_through hg hr hw hd (Or.inr rfl) s1 (fun hp m2 f2 e2 c2 l2 q9 q10 => zk1_t ?_) fun hp m2 f2 e2 c2 l2 => zk1_f ?_
  · rw [if_pos hp, if_pos hp] at K
    rw [q10]
    exact K m2 (FX_t (FX_y y1) f2) (e2.trans e1) c2 l2
  · rw [if_neg hp, if_neg hp] at K
    exact K m2 (FX_t (FX_y y1) f2) (e2.trans e1) c2 l2
end L2
