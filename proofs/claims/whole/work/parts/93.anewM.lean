section L2
variable {Ω : zΩ} {Q : List zV → zM → Prop} {g : zM}
/-- what anew needs to go on from: the rows of the lords before l, or none such -/
abbrev AN (g : zM) (d : Int) (l : Int) (m : zM) : Prop := ∀ j : Int, 0 ≤ j → j < l → (m 125 j = atA g j ∧ m 143 j = lwA g 1 d j ∧ m 144 j = hiA g 1 d j ∧ m 145 j = g 108 j) ∧ 1 ≤ nnA g 1 d j
def FA (m m' : zM) : Prop := ∀ x j, ¬ (x = 124 ∨ x = 125 ∨ (143 ≤ x ∧ x ≤ 145) ∨ (x = 88 ∧ j = 57)) → m' x j = m x j
theorem FA_t {m m' m'' : zM} (a : FA m m') (b : FA m' m'') : FA m m'' := fun x j h => (b x j h).trans (a x j h)
theorem PG_a {g m m' : zM} (h : PG g m) (a : FA m m') : PG g m' := fun x j p => (a x j (by unfold prA at p; omega)).trans (h x j p)
theorem s_anew_19 {d : Int} (hg : LG g) (hwf : EW g) (hw : WG g) (hd : 0 ≤ d ∧ d ≤ 99) : ∀ (r l : Nat) (m : zM), ((l + r : Nat) : Int) = g 88 12 → PG g m → AN g d l m → (∀ m', FA m m' → AN g d (g 88 12) m' → zG Ω 194 0 [zR 10 88, zI 1, zU, zU, zU, zU, zU, zU, zU, zU, zU, zU, zU, zU, zU, zU, zU, zU] [] m' (fun r1 m1 => zk1 r1 fun v1 => if v1 < 0 then (Q [zI (-1)] m1) else (Q [zI (m1 88 83)] m1))) → (∀ (j : Int) (m' : zM), 0 ≤ j → j < g 88 12 → nnA g 1 d j ≤ 0 → FA m m' → Q [zI (-1)] (zup m' 88 78 0)) → zG Ω 196 19 [zR 10 88, zI d, zI l, zU] [] m Q := by
  have hN := hg.2.2.1
  intro r
  induction r with
  | zero =>
    intro l m hl hp hA K K0
    have em := hp 88 12 (by unfold prA; omega)
    refine w_X10_anew_19 (zif (fun h => absurd h (by omega)) fun _ => K m (fun _ _ _ => rfl) ?_)
    rwa [show g 88 12 = ((l : Nat) : Int) by omega]
  | succ r ih =>
    intro l m hl hp hA K K0
    have em := hp 88 12 (by unfold prA; omega)
    have wl := hw l (by omega) (by omega)
    refine w_X10_anew_19 (zif (fun _ => s_attends hg hwf (by omega) hp fun m2 f2 => zk1_i (zin_of (by omega) (by omega) (zbl_of ?_ ?_ (zin_of (by omega) (by omega) ?_)))) fun h => absurd (show (l : Int) < m 88 12 by omega) h)
    · unfold atA; split <;> omega
    · unfold atA; split <;> omega
    have p2 := PG_e hp f2
    rw [p2 105 l (by unfold prA; omega), p2 106 l (by unfold prA; omega), p2 108 l (by unfold prA; omega)]
    have oM : ∀ a b, FA m (zup (zup (zup (zup m2 125 l (atA g l)) 143 l a) 144 l b) 145 l (g 108 l)) := fun a b x j h => by
      rw [zup_c (by omega), zup_c (by omega), zup_c (by omega), zup_c (by omega), f2 x j (by omega)]
    have go : ∀ a b, a = lwA g 1 d l → b = hiA g 1 d l → 1 ≤ nnA g 1 d l → zG Ω 196 170 [zR 10 88, zI d, zI l, zU] [] (zup (zup (zup (zup m2 125 l (atA g l)) 143 l a) 144 l b) 145 l (g 108 l)) Q := by
      intro a b ha hb hnn
      refine w_X10_anew_170 ?_
      rw [zw_i (by omega) (by omega)]
      refine ih (l + 1) _ (by omega) (PG_a hp (oM a b)) (fun j j0 j1 => ?_) (fun m' f' => K m' (FA_t (oM a b) f')) fun j m' j0 j1 hj f' => K0 j m' j0 j1 hj (FA_t (oM a b) f')
      by_cases e : j = l
      · subst e
        simp (disch := omega) only [zup_c, zup_e]
        exact ⟨⟨trivial, ha, hb, trivial⟩, hnn⟩
      · have := hA j j0 (by omega)
        simp (disch := omega) only [zup_c, zup_j]
        rw [f2 125 j (by omega), f2 143 j (by omega), f2 144 j (by omega), f2 145 j (by omega)]
        exact this
    have fin : ∀ a b, a = lwA g 1 d l → b = hiA g 1 d l → (if zup m2 125 l (atA g l) 125 l = 0 then zG Ω 196 170 [zR 10 88, zI d, zI l, zU] [] (zup (zup (zup (zup m2 125 l (atA g l)) 143 l a) 144 l b) 145 l (g 108 l)) Q else (zin l 6 (zin l 6 (if b < a then Q [zI (-1)] (zup (zup (zup (zup (zup m2 125 l (atA g l)) 143 l a) 144 l b) 145 l (g 108 l)) 88 78 0) else zG Ω 196 170 [zR 10 88, zI d, zI l, zU] [] (zup (zup (zup (zup m2 125 l (atA g l)) 143 l a) 144 l b) 145 l (g 108 l)) Q)))) := by
      intro a b ha hb
      rw [zup_e rfl rfl]
      refine zif (fun q => go a b ha hb ?_) fun q => zin_of (by omega) (by omega) (zin_of (by omega) (by omega) (zif (fun z => ?_) fun z => go a b ha hb ?_))
      · unfold nnA; rw [if_pos q]; omega
      · exact K0 l _ (by omega) (by omega) (by unfold nnA; rw [if_neg q]; omega) (oM a b)
      · unfold nnA; rw [if_neg q]; omega
    have far : ¬ (0 ≤ g 108 (l : Int) ∧ g 108 (l : Int) < d) → zG Ω 196 61 [zR 10 88, zI d, zI l, zU] [] (zup m2 125 l (atA g l)) Q := by
      intro hng
      have eh : g 106 (l : Int) = hiA g 1 d l := by unfold hiA; rw [if_neg (by decide), if_neg hng]
      have c5 : ∀ x, ¬ x = 125 → zup m2 125 l (atA g l) x l = m2 x l := fun x h => zup_c h
      refine w_X10_anew_61 ?_
      rw [c5 105 (by decide), c5 106 (by decide), c5 108 (by decide), p2 105 l (by unfold prA; omega), p2 106 l (by unfold prA; omega), p2 108 l (by unfold prA; omega), if_pos rfl]
      refine zin_of (by omega) (by omega) (zif (fun z => ?_) fun z => ?_)
      · have ea : g 105 (l : Int) = lwA g 1 d l := by unfold lwA; rw [if_neg (by decide), if_neg hng, if_pos z]
        have := fin (g 105 l) (g 106 l) ea eh
        rw [if_pos rfl]
        repeat refine zin_of (by omega) (by omega) ?_
        rw [zup_e rfl rfl, zup_e rfl rfl, zup_e rfl rfl]
        rw [zup_e (f := m2) rfl rfl] at this
        exact this
      · have ea : d = lwA g 1 d l := by unfold lwA; rw [if_neg (by decide), if_neg hng, if_neg z]
        have := fin d (g 106 l) ea eh
        rw [if_pos rfl]
        repeat refine zin_of (by omega) (by omega) ?_
        rw [zup_e rfl rfl, zup_e rfl rfl, zup_e rfl rfl]
        rw [zup_e (f := m2) rfl rfl] at this
        exact this
    refine zif (fun h => far (by omega)) fun h => zin_of (by omega) (by omega) (zif (fun h2 => ?_) fun h2 => far (by omega))
    have ea : g 108 (l : Int) = lwA g 1 d l := by unfold lwA; rw [if_neg (by decide), if_pos ⟨by omega, h2⟩]
    have eb : g 108 (l : Int) = hiA g 1 d l := by unfold hiA; rw [if_neg (by decide), if_pos ⟨by omega, h2⟩]
    have := fin (g 108 l) (g 108 l) ea eb
    rw [if_neg (by decide)]
    refine zin_of (by omega) (by omega) (zin_of (by omega) (by omega) ?_)
    rw [if_neg (by decide)]
    repeat refine zin_of (by omega) (by omega) ?_
    rw [zup_e (f := zup (zup m2 125 l (atA g l)) 143 l (g 108 l)) rfl rfl, zup_e (f := zup m2 125 l (atA g l)) (k := 143) rfl rfl]
    exact this
theorem s_anewM {m : zM} {d : Int} (hg : LG g) (hwf : EW g) (hr : RGd g) (hw : WG g) (hp : PG g m) (K0 : ¬ (0 ≤ d ∧ d ≤ 99) → Q [zI (-1)] (zup m 88 2 0)) (K : 0 ≤ d ∧ d ≤ 99 → ∀ m', FT m m' → PG (gS g 1 d) m' → m' 88 78 = lkA g 1 d → Q [zI (if okP g 1 d then (BA' g 1 d).2.2.2.2.1 else -1)] m') : zG Ω 196 0 [zR 10 88, zI d, zU, zU] [] m Q := by
  have hN := hg.2.2.1
  unfold gS at K
  have o0 : ∀ x j, ¬ (x = 88 ∧ j = 2) → zup m 88 2 0 x j = m x j := fun x j h => by
    unfold zup
    rw [if_neg h]
  have p0 : PG g (zup m 88 2 0) := fun x j p => (o0 x j (by unfold prA at p; omega)).trans (hp x j p)
  refine w_X10_anew_0 (b_isIn (fun hd => ?_) fun hd => K0 hd)
  have K := K hd
  refine s_anew_19 hg hwf hw hd (g 88 12).toNat 0 _ (by omega) p0 (fun j a b => absurd b (by omega)) (fun m1 f1 a1 => ?_) fun j m1 j0 j1 hj f1 => ?_
  · have F1 : FT m m1 := fun x j h => (f1 x j (by omega)).trans (o0 x j (by omega))
    refine s_searchM (mv := 1) (d := d) hg hwf hr hw hd (fun j j0 j1 => (a1 j j0 j1).2) ⟨PG_a p0 f1, fun l l0 l1 => (a1 l l0 l1).1⟩ (fun q m2 f2 p2 e2 => zk1_i ?_) fun q m2 f2 p2 e2 e83 => zk1_i ?_
    · rw [if_neg q, if_neg q] at K
      exact zif (fun _ => K m2 (FT_t F1 f2) p2 e2) fun z => absurd (show (-1 : Int) < 0 by decide) z
    · rw [if_pos q, if_pos q] at K
      have bb : 0 ≤ (BA' g 1 d).2.2.1 := (bs_b (mv := 1) (d := d) hg hr hw (PA g 1 d).toNat).2.2.2.1.1
      refine zif (fun z => absurd z (by omega)) fun _ => ?_
      rw [e83]
      exact K m2 (FT_t F1 f2) p2 e2
  · have e0 := PA_0 (mv := 1) (d := d) j0 j1 hj
    have nok : ¬ okP g 1 d := fun q => by unfold okP at q; omega
    rw [if_neg nok, if_neg nok] at K
    have o1 : ∀ x j, ¬ (x = 88 ∧ j = 78) → zup m1 88 78 0 x j = m1 x j := fun x j h => by
      unfold zup
      rw [if_neg h]
    refine K _ (fun x j h => (o1 x j (by omega)).trans ((f1 x j (by omega)).trans (o0 x j (by omega)))) (fun x j p => (o1 x j (by unfold prA at p; omega)).trans (PG_a p0 f1 x j p)) ?_
    rw [zup_e rfl rfl]
    unfold lkA
    rw [e0]; rfl
end L2
