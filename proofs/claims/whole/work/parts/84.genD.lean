/-! the same for any row of days: rr who runs, dd his day -/
abbrev SD (g : zM) (rr dd : Int → Int) : zM := dysA (DG g rr dd) 100
abbrev ccD (g : zM) (rr dd : Int → Int) : Int → Int := fun l => if rr l = 0 then 0 else SD g rr dd 135 l + fnA g l (lateA g (SD g rr dd) l)
def fiD (g : zM) (rr dd : Int → Int) : Int → Int := fun l => if rr l = 0 then 0 else fnA g l (lateA g (SD g rr dd) l)
theorem ccA_sumD {g : zM} {rr dd : Int → Int} (n : Nat) : sumA (SD g rr dd 135) n + sumA (fiD g rr dd) n = sumA (ccD g rr dd) n := by
  rw [sumA_add]
  refine sumA_same n fun j a b => ?_
  unfold ccD fiD
  by_cases h : rr j = 0
  · rw [if_pos h, if_pos h]
    have : SD g rr dd 135 j = 0 := dysA_oo (show DG g rr dd 125 j = 0 from h) 100
    rw [this]; rfl
  · rw [if_neg h, if_neg h]
section L2
variable {Ω : zΩ} {Q : List zV → zM → Prop} {g : zM} {rr dd : Int → Int}
theorem SS_BAD (hg : LG g) (hr : RGd g) : BA (DG g rr dd) (SD g rr dd) 600 600 := dysA_BA (DG_vG hg hr) 100 (Nat.le_refl _)
theorem s_allY_4D {m : zM} (hg : LG g) (hr : RGd g) (hp : PG g m) (hx : RX (DG g rr dd) (SD g rr dd) m) (K : Q [zI (sumA (SD g rr dd 134) (g 88 12).toNat)] m) : ∀ (r l : Nat), l + r = (g 88 12).toNat → zG Ω 187 4 [zR 10 88, zI (sumA (SD g rr dd 134) l), zI l] [] m Q := by
  have hN := hg.2.2.1
  have e12 : DG g rr dd 88 12 = g 88 12 := rfl
  have em := hp 88 12 (by unfold prA; omega)
  have hb := SS_BAD (rr := rr) (dd := dd) hg hr
  intro r
  induction r with
  | zero =>
    intro l hl
    refine w_X10_allYields_4 (zif (fun h => absurd h (by omega)) fun _ => ?_)
    rwa [show (g 88 12).toNat = l by omega] at K
  | succ r ih =>
    intro l hl
    have rl := hx.1 l (by omega) (by omega)
    unfold RLm at rl
    have bl := hb.1 l (by omega) (by omega)
    unfold LB at bl
    have sb := sumA_b (f := SD g rr dd 134) (A := 0) (B := 600) l fun j a b => by
      have := hb.1 j (by omega) (by omega)
      unfold LB at this
      omega
    refine w_X10_allYields_4 (zif (fun _ => zin_of (by omega) (by omega) ?_) fun h => absurd (show (l : Int) < m 88 12 by omega) h)
    rw [rl.2.2.1, zw_i (x := (l : Int) + 1) (by omega) (by omega), zw_i (by omega) (by omega)]
    exact ih (l + 1) (by omega)
theorem s_lateD {m : zM} {l : Int} (hg : LG g) (hr : RGd g) (hp : PG g m) (hx : RX (DG g rr dd) (SD g rr dd) m) (hl : 0 ≤ l ∧ l < g 88 12) (K : 0 ≤ lateA g (SD g rr dd) l ∧ lateA g (SD g rr dd) l ≤ 100 → Q [zI (lateA g (SD g rr dd) l)] m) : zG Ω 185 0 [zR 10 88, zI l, zU] [] m Q := by
  have hN := hg.2.2.1
  have e12 : DG g rr dd 88 12 = g 88 12 := rfl
  have rl := hx.1 l (by omega) (by omega)
  unfold RLm at rl
  have bl := (SS_BAD (rr := rr) (dd := dd) hg hr).1 l (by omega) (by omega)
  unfold LB at bl
  have hd := hr.2.2.2 l hl.1 hl.2
  have e7 := hp 107 l (by unfold prA; omega)
  generalize hss : SD g rr dd = s at hx rl bl K
  unfold lateA at K
  refine w_X10_lateOf_0 (zin_of (by omega) (by omega) ?_)
  rw [rl.2.2.2.2.2.1, rl.2.2.2.2.2.2, e7]
  refine zif (fun h => zin_of (by omega) (by omega) ?_) fun h => zin_of (by omega) (by omega) (zin_of (by omega) (by omega) (zif (fun h2 => zin_of (by omega) (by omega) (zin_of (by omega) (by omega) (zin_of (by omega) (by omega) ?_))) fun h2 => zin_of (by omega) (by omega) ?_))
  · rw [if_pos h] at K
    refine zif (fun q => zin_of (by omega) (by omega) ?_) fun q => ?_
    · rw [if_pos q] at K
      rw [zw_i (by omega) (by omega)]
      exact K (by omega)
    · rw [if_neg q] at K; exact K (by omega)
  · rw [if_neg h, if_pos h2] at K
    rw [zw_i (x := s 137 l - g 107 l) (by omega) (by omega)]
    refine zif (fun q => zin_of (by omega) (by omega) ?_) fun q => ?_
    · rw [if_pos q] at K
      rw [zw_i (by omega) (by omega)]
      exact K (by omega)
    · rw [if_neg q] at K; exact K (by omega)
  · rw [if_neg h, if_neg h2] at K
    refine zif (fun q => absurd q (by omega)) fun q => ?_
    rw [if_neg q] at K; exact K (by omega)
theorem s_allC_4D (hg : LG g) (hw : EW g) (hr : RGd g) : ∀ (r l : Nat) (m : zM), l + r = (g 88 12).toNat → PG g m → RX (DG g rr dd) (SD g rr dd) m → (∀ j, 0 ≤ j → j < g 88 12 → m 125 j = rr j) → (∀ m', FE m m' → Q [zI (sumA (ccD g rr dd) (g 88 12).toNat)] m') → zG Ω 188 4 [zR 10 88, zI (sumA (ccD g rr dd) l), zI l] [] m Q := by
  have hN := hg.2.2.1
  have e12 : DG g rr dd 88 12 = g 88 12 := rfl
  have hb := SS_BAD (rr := rr) (dd := dd) hg hr
  have cb : ∀ j, 0 ≤ j → j < g 88 12 → 0 ≤ ccD g rr dd j ∧ ccD g rr dd j ≤ 16898310 := by
    intro j j0 j1
    have := hb.1 j (by omega) (by omega)
    unfold LB at this
    have := coA_b (vl g 3 (fA g j (lateA g (SD g rr dd) j)))
    unfold ccD fnA
    split <;> omega
  intro r
  induction r with
  | zero =>
    intro l m hl hp hx h5 K
    have em := hp 88 12 (by unfold prA; omega)
    refine w_X10_allCosts_4 (zif (fun h => absurd h (by omega)) fun _ => ?_)
    have K := K m FE_r
    rwa [show (g 88 12).toNat = l by omega] at K
  | succ r ih =>
    intro l m hl hp hx h5 K
    have em := hp 88 12 (by unfold prA; omega)
    have rl := hx.1 l (by omega) (by omega)
    unfold RLm at rl
    have bl := hb.1 l (by omega) (by omega)
    unfold LB at bl
    have cl := cb l (by omega) (by omega)
    have sb := sumA_b (f := ccD g rr dd) (A := 0) (B := 16898310) l fun j a b => cb j (by omega) (by omega)
    refine w_X10_allCosts_4 (zif (fun _ => zin_of (by omega) (by omega) ?_) fun h => absurd (show (l : Int) < m 88 12 by omega) h)
    rw [h5 l (by omega) (by omega), rl.2.2.2.1, zw_i (x := (l : Int) + 1) (by omega) (by omega)]
    have hs : sumA (ccD g rr dd) (l + 1) = sumA (ccD g rr dd) l + ccD g rr dd l := rfl
    refine zif (fun q => ?_) fun q => zin_of (by omega) (by omega) (s_lateD hg hr hp hx (by omega) fun hlt => zk1_i (s_fineOf hg hw (by omega) hlt hp fun m1 f1 => zk1_i ?_))
    · have ec : ccD g rr dd l = 0 := by unfold ccD; rw [if_pos q]
      rw [zw_i (by omega) (by omega)]
      rw [ec] at hs
      have := ih (l + 1) m (by omega) hp hx h5 K
      rw [hs] at this
      exact this
    · have ec : ccD g rr dd l = SD g rr dd 135 l + fnA g l (lateA g (SD g rr dd) l) := by unfold ccD; rw [if_neg q]
      rw [← ec, zw_i (x := ccD g rr dd l) (by omega) (by omega), zw_i (by omega) (by omega), ← hs]
      exact ih (l + 1) m1 (by omega) (PG_e hp f1) (RX_eq hx (fun x j a b _ => f1 x j (by omega)) fun _ _ _ _ _ => rfl) (fun j a b => (f1 125 j (by omega)).trans (h5 j a b)) fun m' f' => K m' (FE_t f1 f')
end L2
def ELD (g : zM) (rr dd : Int → Int) (m : zM) (l : Int) : Prop := m (30 + 6 * l) 13 = lateA g (SD g rr dd) l ∧ m (30 + 6 * l) 14 = fnA g l (lateA g (SD g rr dd) l) ∧ m (30 + 6 * l) 9 = SD g rr dd 135 l + fnA g l (lateA g (SD g rr dd) l)
section L2
variable {Ω : zΩ} {Q : List zV → zM → Prop} {g : zM} {rr dd : Int → Int}
theorem s_finC_2D {E : Int} (hg : LG g) (hr : RGd g) (hE : E = 76 ∨ E = 82) : ∀ (r l : Nat) (m : zM), ((l + r : Nat) : Int) = g 88 12 → ER m E g → LF m g → m 65 3 = E → m 65 4 = g 88 12 → m 65 5 = g 88 3 → (∀ j, 0 ≤ j → j < g 88 12 → m (30 + 6 * j) 5 = (if rr j = 0 then -1 else dd j) ∧ (rr j = 0 ∨ 0 ≤ dd j) ∧ m (30 + 6 * j) 12 = SD g rr dd 137 j ∧ m (30 + 6 * j) 11 = SD g rr dd 138 j ∧ m (29 + 6 * j) 12 = g 107 j) → (∀ j : Int, (l : Int) ≤ j → j < g 88 12 → m (30 + 6 * j) 9 = SD g rr dd 135 j) → (∀ j : Int, 0 ≤ j → j < (l : Int) → ¬ rr j = 0 → ELD g rr dd m j) → m 65 8 = sumA (SD g rr dd 135) (g 88 12).toNat + sumA (fiD g rr dd) l → (∀ m', FF E m m' → (∀ j, 0 ≤ j → j < g 88 12 → ¬ rr j = 0 → ELD g rr dd m' j) → m' 65 8 = sumA (ccD g rr dd) (g 88 12).toNat → Q [] m') → zG Ω 58 2 [zR 5 65, zI l, zU] [] m Q := by
  have hN := hg.2.2.1
  have hb := SS_BAD (rr := rr) (dd := dd) hg hr
  have hvG := DG_vG (r := rr) (d := dd) hg hr
  have cb := cost_b hvG hb (by omega)
  intro r
  induction r with
  | zero =>
    intro l m hl he hf h3 h4 h5 hA hB hC h8 K
    refine w_X5_finish_2 (zif (fun h => absurd h (by omega)) fun _ => K m (fun _ _ _ => rfl) (fun j a b => hC j a (by omega)) ?_)
    rw [h8, show (g 88 12).toNat = l by omega, ccA_sumD]
  | succ r ih =>
    intro l m hl he hf h3 h4 h5 hA hB hC h8 K
    have al := hA l (by omega) (by omega)
    have bl := hb.1 l (by omega) (by show (l : Int) < g 88 12; omega)
    unfold LB at bl
    have e97 : DG g rr dd 97 (l : Int) = g 97 l := rfl
    have hh := (hg.2.2.2.2 l (by omega) (by omega)).1
    have fb : ∀ n : Nat, (n : Int) ≤ g 88 12 → 0 ≤ sumA (fiD g rr dd) n ∧ sumA (fiD g rr dd) n ≤ 9999 * n := fun n hn => by
      have := sumA_b (f := fiD g rr dd) (A := 0) (B := 9999) n fun j a b => by
        have := coA_b (vl g 3 (fA g j (lateA g (SD g rr dd) j)))
        unfold fiD fnA
        split <;> omega
      omega
    have hs : sumA (fiD g rr dd) (l + 1) = sumA (fiD g rr dd) l + fiD g rr dd l := rfl
    refine w_X5_finish_2 (zif (fun _ => zin_of (by omega) (by omega) ?_) fun h => absurd (show (l : Int) < m 65 4 by omega) h)
    rw [al.1, zw_i (x := (l : Int) + 1) (by omega) (by omega)]
    by_cases q : rr l = 0
    · rw [if_pos q, if_pos rfl]
      have ef : fiD g rr dd l = 0 := by unfold fiD; rw [if_pos q]
      refine ih (l + 1) m (by omega) he hf h3 h4 h5 hA (fun j a b => hB j (by omega) b) (fun j a b hj => ?_) (by rw [hs, ef, Int.add_zero]; exact h8) K
      by_cases e : j = l
      · rw [e] at hj; exact absurd q hj
      · exact hC j a (by omega) hj
    · have hd : 0 ≤ dd (l : Int) := by
        rcases al.2.1 with z | z
        · exact absurd z q
        · exact z
      rw [if_neg q, if_neg (by omega)]
      refine s_lateC (g := g) (s := SD g rr dd) (by omega) al.2.2.1 al.2.2.2.1 al.2.2.2.2 bl.2.2.2.2.2.2 (by omega) (hr.2.2.2 l (by omega) (by omega)) fun hlt => zk1_i ?_
      generalize hlt' : lateA g (SD g rr dd) (l : Int) = lt at hlt
      have F1 : FF E m (zup m (30 + 6 * l) 13 lt) := fun x j h => by
        unfold zup
        rw [if_neg (by rintro ⟨rfl, rfl⟩; exact h (Or.inl (by omega)))]
      have q3 : zup m (30 + 6 * (l : Int)) 13 lt 65 3 = E := by rw [F1 _ _ (by omega)]; exact h3
      have q5 : zup m (30 + 6 * (l : Int)) 13 lt 65 5 = g 88 3 := by rw [F1 _ _ (by omega)]; exact h5
      rw [q3, q5, zup_e rfl rfl, show 30 + 6 * (l : Int) + (-1) = 29 + 6 * l by omega]
      refine ⟨by omega, s_coinsG (e := 3) hg hE (ER_f he fun x j a b => F1 x j (by omega)) (LF_f hN.2 hf fun x j a b c d => F1 x j (by omega)) (by omega) hlt (by omega) fun m2 f2 => zk1_i ?_⟩
      have fn := coA_b (vl g 3 (fA g l lt))
      have efn : fnA g l lt = coA (vl g 3 (fA g l lt)) := rfl
      rw [← efn] at fn ⊢
      rw [zup_e rfl rfl]
      refine w_X5_charge_0 ?_
      have e9 : zup m2 (30 + 6 * (l : Int)) 14 (fnA g l lt) (30 + 6 * l) 9 = SD g rr dd 135 l := by
        rw [zup_j (by decide), f2 _ _ (by omega), zup_j (by decide)]
        exact hB l (by omega) (by omega)
      have e8 : zup m2 (30 + 6 * (l : Int)) 14 (fnA g l lt) 65 8 = sumA (SD g rr dd 135) (g 88 12).toNat + sumA (fiD g rr dd) l := by
        rw [zup_c (by omega), f2 _ _ (by omega), zup_c (by omega)]
        exact h8
      have sbl := fb l (by omega)
      have cbx : 0 ≤ sumA (SD g rr dd 135) (g 88 12).toNat ∧ sumA (SD g rr dd 135) (g 88 12).toNat ≤ 102000000 := cb
      rw [e9, zup_c (by omega), e8, zw_i (x := SD g rr dd 135 l + fnA g l lt) (by omega) (by omega), zw_i (x := sumA (SD g rr dd 135) (g 88 12).toNat + sumA (fiD g rr dd) l + fnA g l lt) (by omega) (by omega)]
      have F4 : FF E m (zup (zup (zup m2 (30 + 6 * (l : Int)) 14 (fnA g l lt)) (30 + 6 * l) 9 (SD g rr dd 135 l + fnA g l lt)) 65 8 (sumA (SD g rr dd 135) (g 88 12).toNat + sumA (fiD g rr dd) l + fnA g l lt)) := by
        intro x j h
        have u : ∀ (f : zM) (y v : Int), (y = 9 ∨ y = 13 ∨ y = 14) → zup f (30 + 6 * (l : Int)) y v x j = f x j := fun f y v hy => by
          unfold zup
          rw [if_neg (by rintro ⟨rfl, rfl⟩; exact h (Or.inl (by omega)))]
        have u8 : ∀ (f : zM) (v : Int), zup f 65 8 v x j = f x j := fun f v => by
          unfold zup
          rw [if_neg (by rintro ⟨rfl, rfl⟩; exact h (Or.inr (Or.inl ⟨rfl, rfl⟩)))]
        rw [u8, u _ 9 _ (by omega), u _ 14 _ (by omega), f2 x j (fun q => h (Or.inr (Or.inr q))), u _ 13 _ (by omega)]
      have new9 : ∀ j : Int, 0 ≤ j → j < g 88 12 → ¬ j = l → ∀ y, zup (zup (zup m2 (30 + 6 * (l : Int)) 14 (fnA g l lt)) (30 + 6 * l) 9 (SD g rr dd 135 l + fnA g l lt)) 65 8 (sumA (SD g rr dd 135) (g 88 12).toNat + sumA (fiD g rr dd) l + fnA g l lt) (30 + 6 * j) y = m (30 + 6 * j) y := fun j j0 j1 hj y => by
        rw [zup_c (by omega), zup_c (by omega), zup_c (by omega), f2 _ _ (by omega), zup_c (by omega)]
      have newl : ELD g rr dd (zup (zup (zup m2 (30 + 6 * (l : Int)) 14 (fnA g l lt)) (30 + 6 * l) 9 (SD g rr dd 135 l + fnA g l lt)) 65 8 (sumA (SD g rr dd 135) (g 88 12).toNat + sumA (fiD g rr dd) l + fnA g l lt)) l := by
        unfold ELD
        rw [hlt']
        refine ⟨?_, ?_, ?_⟩
        · rw [zup_c (by omega), zup_j (by decide), zup_j (by decide), f2 _ _ (by omega), zup_e rfl rfl]
        · rw [zup_c (by omega), zup_j (by decide), zup_e rfl rfl]
        · rw [zup_c (by omega), zup_e rfl rfl]
      have n8 : zup (zup (zup m2 (30 + 6 * (l : Int)) 14 (fnA g l lt)) (30 + 6 * l) 9 (SD g rr dd 135 l + fnA g l lt)) 65 8 (sumA (SD g rr dd 135) (g 88 12).toNat + sumA (fiD g rr dd) l + fnA g l lt) 65 8 = sumA (SD g rr dd 135) (g 88 12).toNat + sumA (fiD g rr dd) (l + 1) := by
        have ef : fiD g rr dd l = fnA g l lt := by unfold fiD; rw [if_neg q, hlt']
        rw [zup_e rfl rfl, hs, ef]
        omega
      generalize zup (zup (zup m2 (30 + 6 * (l : Int)) 14 (fnA g l lt)) (30 + 6 * l) 9 (SD g rr dd 135 l + fnA g l lt)) 65 8 (sumA (SD g rr dd 135) (g 88 12).toNat + sumA (fiD g rr dd) l + fnA g l lt) = m4 at *
      show zG Ω 58 2 _ _ _ _
      refine ih (l + 1) m4 (by omega) (ER_f he fun x j a b => F4 x j (by omega)) (LF_f hN.2 hf fun x j a b c d => F4 x j (by omega)) ((F4 _ _ (by omega)).trans h3) ((F4 _ _ (by omega)).trans h4) ((F4 _ _ (by omega)).trans h5) (fun j j0 j1 => ?_) (fun j a b => ?_) (fun j a b hj => ?_) n8 fun m' f' => K m' (FF_t F4 f')
      · rw [F4 _ 5 (by omega), F4 _ 12 (by omega), F4 _ 11 (by omega), F4 _ 12 (by omega)]
        exact hA j j0 j1
      · rw [new9 j (by omega) b (by omega)]
        exact hB j (by omega) b
      · by_cases e : j = l
        · rw [e]; exact newl
        · have := hC j a (by omega) hj
          unfold ELD at this ⊢
          rw [new9 j a (by omega) e, new9 j a (by omega) e, new9 j a (by omega) e]
          exact this
end L2
