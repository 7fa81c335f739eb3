/-! what edicts want: values, wants, who is ahead; of the reference -/
def vM (g : zM) (e : Int) (f : Int → Int) : Int := evA (sgM g) (nmM g) f (g 117 e).toNat (g 116 e) []
def xwf (g : zM) (e : Int) : Prop := 0 ≤ g 116 e ∧ (0 ≤ g 117 e ∧ g 117 e ≤ 96) ∧ wfA g (g 117 e).toNat (g 116 e) []
def vl (g : zM) (e : Int) (f : Int → Int) : Int := if e = 0 then (if g 123 4 = 0 then 1 else vM g 0 f) else if e = 1 then (if g 123 5 = 0 then Int.tdiv (f 15) 10 else vM g 1 f) else if e = 2 then (if g 123 6 = 0 then 10 else vM g 2 f) else if e = 3 then (if g 123 7 = 0 then 0 else vM g 3 f) else (if g 123 8 = 0 then f 13 else vM g e f)
def yc (g : zM) : Nat := if g 123 8 = 0 then 1 else if g 117 5 = 0 then 1 else if g 117 6 = 0 then 2 else 3
theorem yc_b (g : zM) : 1 ≤ yc g ∧ yc g ≤ 3 := by unfold yc; split <;> (try split) <;> (try split) <;> omega
/-- the edicts' knots are in order -/
def EW (g : zM) : Prop := (∀ e, 0 ≤ e → e ≤ 3 → ¬ g 123 (4 + e) = 0 → xwf g e) ∧ (¬ g 123 8 = 0 → ¬ g 117 4 = 0 ∧ (g 117 5 = 0 → g 117 6 = 0) ∧ ∀ e, 4 ≤ e → e ≤ 6 → ¬ g 117 e = 0 → xwf g e)
/-- stations, lords, year are as they can be -/
def LG (g : zM) : Prop := vroad (g 90) (g 91) (g 88 4) ∧ 1 ≤ g 88 4 ∧ (0 ≤ g 88 12 ∧ g 88 12 ≤ 6) ∧ (0 ≤ g 88 3 ∧ g 88 3 ≤ 9999) ∧ ∀ l, 0 ≤ l → l < g 88 12 → (1 ≤ g 97 l ∧ g 97 l < g 88 4) ∧ (0 ≤ g 98 l ∧ g 98 l ≤ 9) ∧ (0 ≤ g 99 l ∧ g 99 l ≤ 999) ∧ (1 ≤ g 100 l ∧ g 100 l ≤ 999) ∧ (0 ≤ g 101 l ∧ g 101 l ≤ 99) ∧ (0 ≤ g 102 l ∧ g 102 l ≤ 99)
theorem fA_bd {g : zM} {l lt : Int} (h : LG g) (h0 : 0 ≤ l) (h1 : l < g 88 12) (ht : 0 ≤ lt ∧ lt ≤ 100) (c : Int) : bdA (fA g l lt c) := by
  obtain ⟨a, b, d, e, f⟩ := h
  have f := f l h0 h1
  have q := farF_b a 22 (g 97 l) 0 (by omega) f.1.2 (Int.le_refl _) (by omega)
  unfold fA bdA
  split
  · omega
  split
  · omega
  split
  · omega
  split
  · omega
  split
  · omega
  split
  · omega
  split
  · omega
  split
  · omega
  · omega
abbrev wtA (g : zM) (l : Int) : Int := coA (vl g 1 (fA g l 0))
abbrev rmA (g : zM) (l : Int) : Int := coA (vl g 2 (fA g l 0))
abbrev fnA (g : zM) (l lt : Int) : Int := coA (vl g 3 (fA g l lt))
abbrev atA (g : zM) (l : Int) : Int := if vl g 0 (fA g l 0) = 0 then 0 else 1
abbrev ahG (g : zM) (a b : Int) : Int := ahA (fun k => vl g (4 + k) (fA g a 0)) (fun k => vl g (4 + k) (fA g b 0)) (zb (a < b)) (yc g) 0
section L2
variable {Ω : zΩ} {Q : List zV → zM → Prop} {g m : zM}
theorem s_valueOf {e l lt : Int} (hg : LG g) (he : 0 ≤ e ∧ e < 7) (hl : 0 ≤ l ∧ l < g 88 12) (ht : 0 ≤ lt ∧ lt ≤ 100) (hx : xwf g e) (hp : PG g m) (K : ∀ m', FE m m' → Q [zL (vM g e (fA g l lt))] m') : zG Ω 168 0 [zR 10 88, zI e, zI l, zI lt, zU, zU, zU, zU, zU] [] m Q := by
  have hl6 := hg.2.2.1
  have hh := (hg.2.2.2.2 l hl.1 hl.2).1
  refine w_X10_valueOf_0 ?_
  have fe : FE m (zup m 88 57 0) := FE_u FE_r (by omega)
  refine s_value_11 (F := g 116 e) hg.1 hg.2.1 he (by omega) (by omega) ⟨rfl, hx.1⟩ (fun c _ _ => fA_bd hg hl.1 hl.2 ht c) (g 117 e).toNat 0 0 [] [] _ (PG_e hp fe) (zup_e rfl rfl) (Int.le_refl _) (by have := hx.2.1; omega) (by have := hx.2.1; omega) (by rw [Int.add_zero]; exact hx.2.2) trivial (fun x h => by cases h) (fun x h => by cases h) (Or.inl rfl) fun m' f' => ?_
  rw [Int.add_zero]
  exact K m' (FE_t fe f')
theorem s_within9 {x : Int} (K : Q [zI (coA x)] m) : zG Ω 169 0 [zL x, zU] [] m Q := by
  refine w_X10_within_0 ?_
  simp only [zcmp_l, zcmp_g]
  unfold coA at K
  refine zif (fun h => ?_) fun h => zif (fun h2 => ?_) fun h2 => ?_
  · rwa [if_pos h] at K
  · rwa [if_neg h, if_pos h2] at K
  · rw [if_neg h, if_neg h2] at K
    rwa [zw_i (by omega) (by omega)]
theorem s_attends {l : Int} (hg : LG g) (hw : EW g) (hl : 0 ≤ l ∧ l < g 88 12) (hp : PG g m) (K : ∀ m', FE m m' → Q [zI (atA g l)] m') : zG Ω 170 0 [zR 10 88, zI l] [] m Q := by
  have e4 := hp 123 4 (by unfold prA; omega)
  refine w_X10_attends_0 ?_
  rw [e4]
  refine zif (fun h => ?_) fun h => ?_
  · have : atA g l = 1 := by
      unfold atA vl
      rw [if_pos rfl, if_pos h, if_neg (by decide)]
    have K := K m FE_r
    rwa [this] at K
  · have hv : vl g 0 (fA g l 0) = vM g 0 (fA g l 0) := by unfold vl; rw [if_pos rfl, if_neg h]
    refine s_valueOf hg (by omega) hl (by omega) (hw.1 0 (by omega) (by omega) h) hp fun m' f' => zk2_i ?_
    have K := K m' f'
    unfold atA at K
    rw [hv] at K
    simp only [zcmp_e]
    refine zif (fun q => ?_) fun q => ?_
    · rwa [if_pos q] at K
    · rwa [if_neg q] at K
theorem s_bearersOf {l : Int} (hg : LG g) (hw : EW g) (hl : 0 ≤ l ∧ l < g 88 12) (hp : PG g m) (K : ∀ m', FE m m' → Q [zI (wtA g l)] m') : zG Ω 171 0 [zR 10 88, zI l] [] m Q := by
  have hl6 := hg.2.2.1
  have hf := hg.2.2.2.2 l hl.1 hl.2
  have e5 := hp 123 5 (by unfold prA; omega)
  refine w_X10_bearersOf_0 ?_
  rw [e5, hp 100 l (by unfold prA; omega)]
  refine zif (fun h => zin_of (by omega) (by omega) (s_within9 (zk1_i ?_))) fun h => ?_
  · have e : wtA g l = coA (Int.tdiv (g 100 l) 10) := by
      have f15 : fA g l 0 15 = g 100 l := by unfold fA; simp
      unfold wtA vl
      rw [if_neg (by decide), if_pos rfl, if_pos h, f15]
    have b : 0 ≤ Int.tdiv (g 100 l) 10 ∧ Int.tdiv (g 100 l) 10 ≤ 999 := by
      rw [Int.tdiv_eq_ediv_of_nonneg (by omega)]
      omega
    rw [zw_i (by omega) (by omega), ← e]
    exact K m FE_r
  · have hv : vl g 1 (fA g l 0) = vM g 1 (fA g l 0) := by unfold vl; rw [if_neg (by decide), if_pos rfl, if_neg h]
    refine s_valueOf hg (by omega) hl (by omega) (hw.1 1 (by omega) (by omega) h) hp fun m' f' => zk2_i (s_within9 (zk1_i ?_))
    rw [← hv]
    exact K m' f'
theorem s_roomOf {l : Int} (hg : LG g) (hw : EW g) (hl : 0 ≤ l ∧ l < g 88 12) (hp : PG g m) (K : ∀ m', FE m m' → Q [zI (rmA g l)] m') : zG Ω 172 0 [zR 10 88, zI l] [] m Q := by
  have e6 := hp 123 6 (by unfold prA; omega)
  refine w_X10_roomOf_0 ?_
  rw [e6]
  refine zif (fun h => s_within9 (zk1_i ?_)) fun h => ?_
  · have hv : vl g 2 (fA g l 0) = 10 := by unfold vl; rw [if_neg (by decide), if_neg (by decide), if_pos rfl, if_pos h]
    rw [← hv]
    exact K m FE_r
  · have hv : vl g 2 (fA g l 0) = vM g 2 (fA g l 0) := by unfold vl; rw [if_neg (by decide), if_neg (by decide), if_pos rfl, if_neg h]
    refine s_valueOf hg (by omega) hl (by omega) (hw.1 2 (by omega) (by omega) h) hp fun m' f' => zk2_i (s_within9 (zk1_i ?_))
    rw [← hv]
    exact K m' f'
theorem s_fineOf {l lt : Int} (hg : LG g) (hw : EW g) (hl : 0 ≤ l ∧ l < g 88 12) (ht : 0 ≤ lt ∧ lt ≤ 100) (hp : PG g m) (K : ∀ m', FE m m' → Q [zI (fnA g l lt)] m') : zG Ω 173 0 [zR 10 88, zI l, zI lt] [] m Q := by
  have e7 := hp 123 7 (by unfold prA; omega)
  refine w_X10_fineOf_0 ?_
  rw [e7]
  refine zif (fun h => ?_) fun h => ?_
  · have hv : fnA g l lt = 0 := by
      unfold fnA vl
      rw [if_neg (by decide), if_neg (by decide), if_neg (by decide), if_pos rfl, if_pos h]
      rfl
    rw [← hv]
    exact K m FE_r
  · have hv : vl g 3 (fA g l lt) = vM g 3 (fA g l lt) := by unfold vl; rw [if_neg (by decide), if_neg (by decide), if_neg (by decide), if_pos rfl, if_neg h]
    refine s_valueOf hg (by omega) hl ht (hw.1 3 (by omega) (by omega) h) hp fun m' f' => zk2_i (s_within9 (zk1_i ?_))
    rw [← hv]
    exact K m' f'
theorem s_isAhead_53 {a b : Int} (hg : LG g) (hw : EW g) (ha : 0 ≤ a ∧ a < g 88 12) (hb : 0 ≤ b ∧ b < g 88 12) (h8 : ¬ g 123 8 = 0) : ∀ (r : Nat) (k : Int) (m : zM), k + r = 3 → 0 ≤ k → PG g m → (∀ m', FE m m' → Q [zI (ahA (fun k => vl g (4 + k) (fA g a 0)) (fun k => vl g (4 + k) (fA g b 0)) (zb (a < b)) (yc g - k.toNat) k)] m') → zG Ω 175 53 [zR 10 88, zI a, zI b, zI (4 + k), zU, zU, zU, zU] [] m Q := by
  have hw8 := hw.2 h8
  have yb := yc_b g
  have hy : ∀ k : Int, 0 ≤ k → k ≤ 2 → (g 117 (4 + k) = 0 ↔ ¬ k < yc g) := by
    intro k k0 k1
    unfold yc
    rw [if_neg h8]
    have : k = 0 ∨ k = 1 ∨ k = 2 := by omega
    rcases this with z | z | z
    · subst z
      refine ⟨fun q => absurd q hw8.1, fun q => absurd (show (0 : Int) < ((if g 117 5 = 0 then 1 else if g 117 6 = 0 then 2 else 3 : Nat) : Int) from ?_) q⟩
      split <;> (try split) <;> omega
    · subst z
      show g 117 5 = 0 ↔ _
      by_cases q : g 117 5 = 0
      · rw [if_pos q]; simp [q]
      · rw [if_neg q]; simp [q]; split <;> omega
    · subst z
      show g 117 6 = 0 ↔ _
      by_cases q : g 117 5 = 0
      · rw [if_pos q]; simp [hw8.2.1 q]
      · rw [if_neg q]
        by_cases q' : g 117 6 = 0
        · rw [if_pos q']; simp [q']
        · rw [if_neg q']; simp [q']
  have hve : ∀ (k : Int) (f : Int → Int), 0 ≤ k → k ≤ 2 → vl g (4 + k) f = vM g (4 + k) f := fun k f k0 k1 => by
    unfold vl
    rw [if_neg (by omega), if_neg (by omega), if_neg (by omega), if_neg (by omega), if_neg h8]
  intro r
  induction r with
  | zero =>
    intro k m hk h0 hp K
    have K := K m FE_r
    rw [show yc g - k.toNat = 0 by omega] at K
    unfold ahA at K
    refine w_X10_isAhead_53 (zif (fun h => absurd h (by omega)) fun _ => zif (fun h => ?_) fun h => ?_)
    · rwa [zb_t h] at K
    · rwa [zb_f h] at K
  | succ r ih =>
    intro k m hk h0 hp K
    have ek := hp 117 (4 + k) (by unfold prA; omega)
    have hyk := hy k h0 (by omega)
    refine w_X10_isAhead_53 (zif (fun _ => zin_of (by omega) (by omega) ?_) fun h => absurd (show 4 + k < 7 by omega) h)
    rw [ek, zw_i (x := 4 + k + 1) (by omega) (by omega), Int.add_assoc]
    refine zif (fun h => ?_) fun h => ?_
    · have := hyk.mp h
      refine ih (k + 1) m (by omega) (by omega) hp fun m' f' => ?_
      have K := K m' f'
      rw [show yc g - k.toNat = 0 by omega] at K
      rw [show yc g - (k + 1).toNat = 0 by omega]
      exact K
    · have hlt : k < yc g := by
        by_cases q : k < yc g
        · exact q
        · exact absurd (hyk.mpr q) h
      have hx := hw8.2.2 (4 + k) (by omega) (by omega) h
      refine s_valueOf hg (by omega) ha (by omega) hx hp fun m1 f1 => zk2_i (s_valueOf hg (by omega) hb (by omega) hx (PG_e hp f1) fun m2 f2 => zk2_i ?_)
      have f := FE_t f1 f2
      rw [← hve k _ h0 (by omega), ← hve k _ h0 (by omega)]
      simp only [zcmp_e, zcmp_l]
      rw [show yc g - k.toNat = (yc g - (k + 1).toNat) + 1 by omega] at K
      unfold ahA at K
      refine zif (fun q => ?_) fun q => zif (fun q2 => ?_) fun q2 => ?_
      · rw [if_pos q] at K
        exact ih (k + 1) m2 (by omega) (by omega) (PG_e hp f) fun m' f' => K m' (FE_t f f')
      · rw [if_neg q, if_pos q2] at K; exact K m2 f
      · rw [if_neg q, if_neg q2] at K; exact K m2 f
theorem s_isAhead {a b : Int} (hg : LG g) (hw : EW g) (ha : 0 ≤ a ∧ a < g 88 12) (hb : 0 ≤ b ∧ b < g 88 12) (hp : PG g m) (K : ∀ m', FE m m' → Q [zI (ahG g a b)] m') : zG Ω 175 0 [zR 10 88, zI a, zI b, zU, zU, zU, zU, zU] [] m Q := by
  have hl6 := hg.2.2.1
  have e8 := hp 123 8 (by unfold prA; omega)
  refine w_X10_isAhead_0 ?_
  rw [e8, hp 98 a (by unfold prA; omega), hp 98 b (by unfold prA; omega)]
  refine zif (fun h => ?_) fun h => ?_
  · have f13 : ∀ l, fA g l 0 13 = g 98 l := fun l => by unfold fA; simp
    have e : ahG g a b = if g 98 a = g 98 b then zb (a < b) else if g 98 a < g 98 b then 1 else 0 := by
      have ey : yc g = 1 := by unfold yc; rw [if_pos h]
      unfold ahG
      rw [ey]
      unfold ahA ahA
      have ev : ∀ f, vl g (4 + 0) f = f 13 := fun f => by
        unfold vl
        rw [if_neg (by decide), if_neg (by decide), if_neg (by decide), if_neg (by decide), if_pos h]
      rw [ev, ev, f13, f13]
    have K := K m FE_r
    rw [e] at K
    refine zin_of (by omega) (by omega) (zin_of (by omega) (by omega) (zif (fun q => ?_) fun q => zin_of (by omega) (by omega) (zin_of (by omega) (by omega) (zif (fun q2 => zif (fun q3 => ?_) fun q3 => ?_) fun q2 => ?_))))
    · rwa [if_neg (by omega), if_pos q] at K
    · rwa [if_pos q2, zb_t q3] at K
    · rwa [if_pos q2, zb_f q3] at K
    · rwa [if_neg q2, if_neg q] at K
  · exact s_isAhead_53 hg hw ha hb h 3 0 m (by omega) (by omega) hp K
end L2
