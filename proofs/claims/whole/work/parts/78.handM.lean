/-! the reference's row at hand, and what it answers of it -/
abbrev rwA (g : zM) : Int → Int := fun l => if g 108 l < 0 then 0 else atA g l
abbrev HG (g : zM) : zM := DG g (rwA g) (g 108)
theorem HG_x {g : zM} {x : Int} (h : ¬ (125 ≤ x ∧ x ≤ 129)) : HG g x = g x := DG_x h
abbrev SS (g : zM) : zM := dysA (HG g) 100
def FQ (m m' : zM) : Prop := ∀ x j, ¬ ((124 ≤ x ∧ x ≤ 142) ∨ (x = 88 ∧ (j = 2 ∨ j = 57 ∨ j = 76 ∨ j = 77))) → m' x j = m x j
theorem FQ_r {m : zM} : FQ m m := fun _ _ _ => rfl
theorem FQ_t {m m' m'' : zM} (a : FQ m m') (b : FQ m' m'') : FQ m m'' := fun x j h => (b x j h).trans (a x j h)
theorem FQ_e {m m' : zM} (a : FE m m') : FQ m m' := fun x j h => a x j (by omega)
theorem FQ_p {m m' : zM} (a : FP m m') : FQ m m' := fun x j h => a x j (by omega)
theorem FQ_2 {m m' : zM} (a : FM2 m m') : FQ m m' := fun x j h => a x j (by omega)
theorem FQ_u {m m' : zM} {x j v : Int} (a : FQ m m') (hx : (124 ≤ x ∧ x ≤ 142) ∨ (x = 88 ∧ (j = 2 ∨ j = 57 ∨ j = 76 ∨ j = 77))) : FQ m (zup m' x j v) := fun x' j' h => by
  unfold zup
  rw [if_neg (by rintro ⟨rfl, rfl⟩; exact h hx)]
  exact a x' j' h
theorem PG_q {g m m' : zM} (h : PG g m) (a : FQ m m') : PG g m' := fun x j p => (a x j (by unfold prA at p; omega)).trans (h x j p)
abbrev lateA (g s : zM) (l : Int) : Int := if s 138 l < (if s 137 l < 0 then 100 else if g 107 l < s 137 l then s 137 l - g 107 l else 0) then (if s 137 l < 0 then 100 else if g 107 l < s 137 l then s 137 l - g 107 l else 0) - s 138 l else 0
abbrev ccA (g : zM) : Int → Int := fun l => if rwA g l = 0 then 0 else SS g 135 l + fnA g l (lateA g (SS g) l)
section L2
variable {Ω : zΩ} {Q : List zV → zM → Prop} {g : zM}
theorem s_hand_6 (hg : LG g) (hw : EW g) : ∀ (r : Nat) (l : Int) (m : zM), l + r = g 88 12 → 0 ≤ l → PG g m → (∀ j, 0 ≤ j → j < l → m 125 j = rwA g j ∧ m 129 j = g 108 j) → (∀ m', (∀ x j, ¬ (x = 124 ∨ x = 125 ∨ x = 129 ∨ (x = 88 ∧ j = 57)) → m' x j = m x j) → (∀ j, 0 ≤ j → j < g 88 12 → m' 125 j = rwA g j ∧ m' 129 j = g 108 j) → zG Ω 184 0 [zR 10 88, zU, zU, zU] [] m' (fun r1 m1 => zk0 r1 (Q [] m1))) → zG Ω 186 6 [zR 10 88, zI l] [] m Q := by
  have hN := hg.2.2.1
  intro r
  induction r with
  | zero =>
    intro l m hl h0 hp hA K
    have e12 := hp 88 12 (by unfold prA; omega)
    exact w_X10_atHand_6 (zif (fun h => absurd h (by omega)) fun _ => K m (fun _ _ _ => rfl) fun j a b => hA j a (by omega))
  | succ r ih =>
    intro l m hl h0 hp hA K
    have e12 := hp 88 12 (by unfold prA; omega)
    have next : ∀ (m2 : zM) (v : Int), FE m m2 → v = rwA g l → zG Ω 186 6 [zR 10 88, zI (l + 1)] [] (zup (zup m2 125 l v) 129 l (g 108 l)) Q := by
      intro m2 v f2 hv
      have o : ∀ x j, ¬ (x = 124 ∨ x = 125 ∨ x = 129 ∨ (x = 88 ∧ j = 57)) → zup (zup m2 125 l v) 129 l (g 108 l) x j = m x j := fun x j h => by
        rw [zup_c (by omega), zup_c (by omega)]; exact f2 x j (by omega)
      refine ih (l + 1) _ (by omega) (by omega) (fun x j p => (o x j (by unfold prA at p; omega)).trans (hp x j p)) (fun j a b => ?_) fun m' o' => K m' fun x j h => (o' x j h).trans (o x j h)
      by_cases e : j = l
      · subst e
        rw [zup_c (by decide), zup_e rfl rfl, zup_e rfl rfl]
        exact ⟨hv, rfl⟩
      · rw [zup_c (by decide), zup_j e, zup_j e, zup_c (by decide), f2 125 j (by omega), f2 129 j (by omega)]
        exact hA j a (by omega)
    refine w_X10_atHand_6 (zif (fun _ => zin_of (by omega) (by omega) ?_) fun h => absurd (show l < m 88 12 by omega) h)
    rw [hp 108 l (by unfold prA; omega), zw_i (x := l + 1) (by omega) (by omega)]
    refine zif (fun h => zin_of (by omega) (by omega) (zin_of (by omega) (by omega) (zin_of (by omega) (by omega) (next m 0 FE_r ?_)))) fun h => s_attends hg hw (by omega) hp fun m2 f2 => zk1_i ?_
    · unfold rwA; rw [if_pos h]
    · have e8 := PG_e hp f2 108 l (by unfold prA; omega)
      rw [e8]
      refine zif (fun q => zin_of (by omega) (by omega) (zin_of (by omega) (by omega) (zin_of (by omega) (by omega) (next m2 0 f2 ?_)))) fun q => zin_of (by omega) (by omega) (zin_of (by omega) (by omega) (zin_of (by omega) (by omega) (next m2 1 f2 ?_)))
      · unfold rwA; rw [if_neg h, q]
      · unfold rwA; rw [if_neg h]
        unfold atA at q ⊢
        split
        · rename_i z; rw [if_pos z] at q; exact absurd rfl q
        · rfl
theorem s_atHand {m : zM} (hg : LG g) (hw : EW g) (hr : RGd g) (hp : PG g m) (K : ∀ m', FQ m m' → PG g m' → RX (HG g) (SS g) m' → PM (HG g) (SS g) m' → RG (HG g) (SS g) m' → NM (HG g) m' 100 → (∀ j, 0 ≤ j → j < g 88 12 → m' 125 j = rwA g j) → Q [] m') : zG Ω 186 0 [zR 10 88, zU] [] m Q := by
  have hN := hg.2.2.1
  have e12 : HG g 88 12 = g 88 12 := rfl
  refine w_X10_atHand_0 (s_prepare hg hw hp fun m1 f1 r1 => ?_)
  show zG Ω 186 6 _ _ _ _
  refine s_hand_6 hg hw (g 88 12).toNat 0 m1 (by omega) (by omega) (PG_p hp f1) (fun j a b => absurd a (by omega)) fun m2 o2 r2 => ?_
  have p2 : PG g m2 := fun x j p => (o2 x j (by unfold prA at p; omega)).trans (PG_p hp f1 x j p)
  have im : IM (HG g) m2 := by
    refine ⟨fun x j h => ?_, fun l l0 l1 => ?_⟩
    · rw [p2 x j (by unfold prA; omega), HG_x (by omega)]
    · rw [e12] at l1
      have a := r1 l l0 l1
      have b := r2 l l0 l1
      rw [o2 126 l (by omega), o2 127 l (by omega), o2 128 l (by omega), a.1, a.2.1, a.2.2, b.1, b.2]
      simp [DG]
  have f2 : FQ m m2 := fun x j h => (o2 x j (by omega)).trans (f1 x j (by omega))
  refine s_runIt (DG_vG hg hr) im fun m3 f3 a b c d => ?_
  refine K m3 (FQ_t f2 (FQ_2 f3)) (PG_q p2 (FQ_2 f3)) a b c d fun j j0 j1 => ?_
  rw [f3 125 j (by omega)]
  exact (r2 j j0 j1).1
theorem SS_BA (hg : LG g) (hr : RGd g) : BA (HG g) (SS g) 600 600 := dysA_BA (DG_vG hg hr) 100 (Nat.le_refl _)
theorem s_allY_4 {m : zM} (hg : LG g) (hr : RGd g) (hp : PG g m) (hx : RX (HG g) (SS g) m) (K : Q [zI (sumA (SS g 134) (g 88 12).toNat)] m) : ∀ (r l : Nat), l + r = (g 88 12).toNat → zG Ω 187 4 [zR 10 88, zI (sumA (SS g 134) l), zI l] [] m Q := by
  have hN := hg.2.2.1
  have e12 : HG g 88 12 = g 88 12 := rfl
  have em := hp 88 12 (by unfold prA; omega)
  have hb := SS_BA hg hr
  intro r
  induction r with
  | zero =>
    intro l hl
    refine w_X10_allYields_4 (zif (fun h => absurd h (by omega)) fun _ => ?_)
    rwa [show (g 88 12).toNat = l by omega] at K
  | succ r ih =>
    intro l hl
    have rl := hx.1 l (by omega) (by omega)
    unfold RLm at rl
    have bl := hb.1 l (by omega) (by omega)
    unfold LB at bl
    have sb := sumA_b (f := SS g 134) (A := 0) (B := 600) l fun j a b => by
      have := hb.1 j (by omega) (by omega)
      unfold LB at this
      omega
    refine w_X10_allYields_4 (zif (fun _ => zin_of (by omega) (by omega) ?_) fun h => absurd (show (l : Int) < m 88 12 by omega) h)
    rw [rl.2.2.1, zw_i (x := (l : Int) + 1) (by omega) (by omega), zw_i (by omega) (by omega)]
    exact ih (l + 1) (by omega)
theorem s_late {m : zM} {l : Int} (hg : LG g) (hr : RGd g) (hp : PG g m) (hx : RX (HG g) (SS g) m) (hl : 0 ≤ l ∧ l < g 88 12) (K : 0 ≤ lateA g (SS g) l ∧ lateA g (SS g) l ≤ 100 → Q [zI (lateA g (SS g) l)] m) : zG Ω 185 0 [zR 10 88, zI l, zU] [] m Q := by
  have hN := hg.2.2.1
  have e12 : HG g 88 12 = g 88 12 := rfl
  have rl := hx.1 l (by omega) (by omega)
  unfold RLm at rl
  have bl := (SS_BA hg hr).1 l (by omega) (by omega)
  unfold LB at bl
  have hd := hr.2.2.2 l hl.1 hl.2
  have e7 := hp 107 l (by unfold prA; omega)
  generalize hss : SS g = s at *
  unfold lateA at K
  refine w_X10_lateOf_0 (zin_of (by omega) (by omega) ?_)
  rw [rl.2.2.2.2.2.1, rl.2.2.2.2.2.2, e7]
  refine zif (fun h => zin_of (by omega) (by omega) ?_) fun h => zin_of (by omega) (by omega) (zin_of (by omega) (by omega) (zif (fun h2 => zin_of (by omega) (by omega) (zin_of (by omega) (by omega) (zin_of (by omega) (by omega) ?_))) fun h2 => zin_of (by omega) (by omega) ?_))
  · rw [if_pos h] at K
    refine zif (fun q => zin_of (by omega) (by omega) ?_) fun q => ?_
    · rw [if_pos q] at K
      rw [zw_i (by omega) (by omega)]
      exact K (by omega)
    · rw [if_neg q] at K; exact K (by omega)
  · rw [if_neg h, if_pos h2] at K
    rw [zw_i (x := s 137 l - g 107 l) (by omega) (by omega)]
    refine zif (fun q => zin_of (by omega) (by omega) ?_) fun q => ?_
    · rw [if_pos q] at K
      rw [zw_i (by omega) (by omega)]
      exact K (by omega)
    · rw [if_neg q] at K; exact K (by omega)
  · rw [if_neg h, if_neg h2] at K
    refine zif (fun q => absurd q (by omega)) fun q => ?_
    rw [if_neg q] at K; exact K (by omega)
theorem s_allC_4 (hg : LG g) (hw : EW g) (hr : RGd g) : ∀ (r l : Nat) (m : zM), l + r = (g 88 12).toNat → PG g m → RX (HG g) (SS g) m → (∀ j, 0 ≤ j → j < g 88 12 → m 125 j = rwA g j) → (∀ m', FE m m' → Q [zI (sumA (ccA g) (g 88 12).toNat)] m') → zG Ω 188 4 [zR 10 88, zI (sumA (ccA g) l), zI l] [] m Q := by
  have hN := hg.2.2.1
  have e12 : HG g 88 12 = g 88 12 := rfl
  have hb := SS_BA hg hr
  have cb : ∀ j, 0 ≤ j → j < g 88 12 → 0 ≤ ccA g j ∧ ccA g j ≤ 16898310 := by
    intro j j0 j1
    have := hb.1 j (by omega) (by omega)
    unfold LB at this
    have := coA_b (vl g 3 (fA g j (lateA g (SS g) j)))
    unfold ccA fnA
    split <;> omega
  intro r
  induction r with
  | zero =>
    intro l m hl hp hx h5 K
    have em := hp 88 12 (by unfold prA; omega)
    refine w_X10_allCosts_4 (zif (fun h => absurd h (by omega)) fun _ => ?_)
    have K := K m FE_r
    rwa [show (g 88 12).toNat = l by omega] at K
  | succ r ih =>
    intro l m hl hp hx h5 K
    have em := hp 88 12 (by unfold prA; omega)
    have rl := hx.1 l (by omega) (by omega)
    unfold RLm at rl
    have bl := hb.1 l (by omega) (by omega)
    unfold LB at bl
    have cl := cb l (by omega) (by omega)
    have sb := sumA_b (f := ccA g) (A := 0) (B := 16898310) l fun j a b => cb j (by omega) (by omega)
    refine w_X10_allCosts_4 (zif (fun _ => zin_of (by omega) (by omega) ?_) fun h => absurd (show (l : Int) < m 88 12 by omega) h)
    rw [h5 l (by omega) (by omega), rl.2.2.2.1, zw_i (x := (l : Int) + 1) (by omega) (by omega)]
    have hs : sumA (ccA g) (l + 1) = sumA (ccA g) l + ccA g l := rfl
    refine zif (fun q => ?_) fun q => zin_of (by omega) (by omega) (s_late hg hr hp hx (by omega) fun hlt => zk1_i (s_fineOf hg hw (by omega) hlt hp fun m1 f1 => zk1_i ?_))
    · have ec : ccA g l = 0 := by unfold ccA; rw [if_pos q]
      rw [zw_i (by omega) (by omega)]
      rw [ec] at hs
      have := ih (l + 1) m (by omega) hp hx h5 K
      rw [hs] at this
      exact this
    · have ec : ccA g l = SS g 135 l + fnA g l (lateA g (SS g) l) := by unfold ccA; rw [if_neg q]
      rw [← ec, zw_i (x := ccA g l) (by omega) (by omega), zw_i (by omega) (by omega), ← hs]
      exact ih (l + 1) m1 (by omega) (PG_e hp f1) (RX_eq hx (fun x j a b _ => f1 x j (by omega)) fun _ _ _ _ _ => rfl) (fun j a b => (f1 125 j (by omega)).trans (h5 j a b)) fun m' f' => K m' (FE_t f1 f')
abbrev jdA (g : zM) (w : Int) : Int := if w = 0 then sumA (SS g 134) (g 88 12).toNat else if w = 1 then sumA (ccA g) (g 88 12).toNat else if w = 2 then sumA (arA (SS g)) (g 88 12).toNat else if w = 3 then maxA (SS g 137) (g 88 12).toNat else -1
theorem s_judge_46 {m : zM} {w : Int} (hg : LG g) (hr : RGd g) (hp : PG g m) (hx : RX (HG g) (SS g) m) (K : Q [zI (if w = 2 then sumA (arA (SS g)) (g 88 12).toNat else maxA (SS g 137) (g 88 12).toNat)] m) : ∀ (r l : Nat), l + r = (g 88 12).toNat → zG Ω 190 46 [zR 10 88, zI w, zI (sumA (arA (SS g)) l), zI (maxA (SS g 137) l), zI l] [] m Q := by
  have hN := hg.2.2.1
  have e12 : HG g 88 12 = g 88 12 := rfl
  have em := hp 88 12 (by unfold prA; omega)
  intro r
  induction r with
  | zero =>
    intro l hl
    rw [show (g 88 12).toNat = l by omega] at K
    refine w_X10_judge_46 (zif (fun h => absurd h (by omega)) fun _ => zif (fun q => ?_) fun q => ?_)
    · rwa [if_pos q] at K
    · rwa [if_neg q] at K
  | succ r ih =>
    intro l hl
    have rl := hx.1 l (by omega) (by omega)
    unfold RLm at rl
    have sb := sumA_b (f := arA (SS g)) (A := 0) (B := 1) l fun j a b => by unfold arA; split <;> omega
    have hn := ih (l + 1) (by omega)
    have h1 : sumA (arA (SS g)) (l + 1) = sumA (arA (SS g)) l + (if SS g 137 (l : Int) < 0 then 0 else 1) := rfl
    have h2 : maxA (SS g 137) (l + 1) = if maxA (SS g 137) l < SS g 137 (l : Int) then SS g 137 (l : Int) else maxA (SS g 137) l := rfl
    rw [h1, h2, show ((l + 1 : Nat) : Int) = (l : Int) + 1 by omega] at hn
    refine w_X10_judge_46 (zif (fun _ => zin_of (by omega) (by omega) ?_) fun h => absurd (show (l : Int) < m 88 12 by omega) h)
    rw [rl.2.2.2.2.2.1, zw_i (x := (l : Int) + 1) (by omega) (by omega), zw_i (x := sumA (arA (SS g)) l + 0) (by omega) (by omega), zw_i (x := sumA (arA (SS g)) l + 1) (by omega) (by omega)]
    refine zif (fun q => zin_of (by omega) (by omega) (zif (fun q2 => zin_of (by omega) (by omega) ?_) fun q2 => ?_)) fun q => zin_of (by omega) (by omega) (zif (fun q2 => zin_of (by omega) (by omega) ?_) fun q2 => ?_)
    · rwa [if_pos q, if_pos q2] at hn
    · rwa [if_pos q, if_neg q2] at hn
    · rwa [if_neg q, if_pos q2] at hn
    · rwa [if_neg q, if_neg q2] at hn
theorem s_judgeM {m : zM} {w : Int} (hg : LG g) (hw : EW g) (hr : RGd g) (hp : PG g m) (K : ∀ m', FQ m m' → Q [zI (jdA g w)] m') : zG Ω 190 0 [zR 10 88, zI w, zU, zU, zU] [] m Q := by
  have hN := hg.2.2.1
  have f0 : FQ m (zup m 88 2 0) := FQ_u FQ_r (by omega)
  have none : w < 0 ∨ 3 < w → Q [zI (-1)] (zup m 88 2 0) := fun h => by
    have K := K _ f0
    unfold jdA at K
    rwa [if_neg (by omega), if_neg (by omega), if_neg (by omega), if_neg (by omega)] at K
  refine w_X10_judge_0 (zif (fun h => none (Or.inl h)) fun h => zif (fun h2 => none (Or.inr h2)) fun h2 => s_atHand hg hw hr (PG_q hp f0) fun m1 f1 p1 x1 _ _ _ r1 => ?_)
  have f1 := FQ_t f0 f1
  unfold jdA at K
  show if w = 0 then _ else _
  refine zif (fun q => w_X10_allYields_0 (s_allY_4 hg hr p1 x1 (zk1_i ?_) (g 88 12).toNat 0 (by omega))) fun q => ?_
  · have K := K m1 f1
    rwa [if_pos q] at K
  refine zif (fun q1 => w_X10_allCosts_0 (s_allC_4 hg hw hr (g 88 12).toNat 0 m1 (by omega) p1 x1 r1 fun m2 f2 => zk1_i ?_)) fun q1 => s_judge_46 hg hr p1 x1 ?_ (g 88 12).toNat 0 (by omega)
  · have K := K m2 (FQ_t f1 (FQ_e f2))
    rwa [if_neg q, if_pos q1] at K
  · have K := K m1 f1
    rw [if_neg q, if_neg q1] at K
    by_cases z : w = 2
    · rw [if_pos z] at K ⊢; exact K
    · rw [if_neg z, if_pos (by omega)] at K
      rw [if_neg z]; exact K
end L2
