/-! the class: row at hand -/
def SC (g m : zM) : Prop := ∀ k, 0 ≤ k → k < g 88 4 → (m (3 + 2 * k) 1 = g 90 k ∧ m (3 + 2 * k) 2 = g 91 k ∧ m (3 + 2 * k) 3 = g 92 k ∧ m (3 + 2 * k) 4 = g 93 k ∧ m (3 + 2 * k) 5 = g 94 k ∧ m (3 + 2 * k) 6 = g 95 k) ∧ ∀ d, 0 ≤ d → d < 100 → m (3 + 2 * k + 1) d = g 96 (100 * k + d)
/-- the class holds what g gives -/
def CS (g m : zM) : Prop := (m 1 1 = g 88 4 ∧ m 0 9 = g 88 12 ∧ m 0 11 = g 88 3) ∧ (m 0 7 = 76 ∨ m 0 7 = 82) ∧ ER m (m 0 7) g ∧ LF m g ∧ SC g m ∧ ∀ l, 0 ≤ l → l < g 88 12 → m (29 + 6 * l) 8 = g 103 l ∧ m (29 + 6 * l) 9 = g 104 l ∧ m (29 + 6 * l) 10 = g 105 l ∧ m (29 + 6 * l) 11 = g 106 l ∧ m (29 + 6 * l) 12 = g 107 l ∧ m (29 + 6 * l) 13 = g 108 l
abbrev rnY (x j : Int) : Prop := (3 ≤ x ∧ x ≤ 25 ∧ x % 2 = 1 ∧ 8 ≤ j ∧ j ≤ 10) ∨ (29 ≤ x ∧ x ≤ 59 ∧ (x - 29) % 6 = 0 ∧ 14 ≤ j ∧ j ≤ 16) ∨ (30 ≤ x ∧ x ≤ 60 ∧ (x - 30) % 6 = 0 ∧ 5 ≤ j ∧ j ≤ 15) ∨ (30 ≤ x ∧ x ≤ 64 ∧ 1 ≤ (x - 30) % 6 ∧ (x - 30) % 6 ≤ 4) ∨ (65 ≤ x ∧ x ≤ 70 ∧ ¬ (x = 67 ∧ j = 11)) ∨ x = 81 ∨ x = 87 ∨ (x = 0 ∧ j = 14)
def FY (m m' : zM) : Prop := ∀ x j, ¬ rnY x j → m' x j = m x j
theorem FY_r {m : zM} : FY m m := fun _ _ _ => rfl
theorem FY_t {m m' m'' : zM} (a : FY m m') (b : FY m' m'') : FY m m'' := fun x j h => (b x j h).trans (a x j h)
theorem FY_u {m m' : zM} {x j v : Int} (a : FY m m') (hx : rnY x j) : FY m (zup m' x j v) := fun x' j' h => by
  unfold zup
  rw [if_neg (by rintro ⟨rfl, rfl⟩; exact h hx)]
  exact a x' j' h
theorem rn_1 {x j : Int} (h : 3 ≤ x ∧ x ≤ 25 ∧ x % 2 = 1 ∧ 8 ≤ j ∧ j ≤ 10) : rnY x j := Or.inl h
theorem rn_2 {x j : Int} (h : 29 ≤ x ∧ x ≤ 59 ∧ (x - 29) % 6 = 0 ∧ 14 ≤ j ∧ j ≤ 16) : rnY x j := Or.inr (Or.inl h)
theorem rn_3 {x j : Int} (h : 30 ≤ x ∧ x ≤ 60 ∧ (x - 30) % 6 = 0 ∧ 5 ≤ j ∧ j ≤ 15) : rnY x j := Or.inr (Or.inr (Or.inl h))
theorem rn_4 {x j : Int} (h : 30 ≤ x ∧ x ≤ 64 ∧ 1 ≤ (x - 30) % 6 ∧ (x - 30) % 6 ≤ 4) : rnY x j := Or.inr (Or.inr (Or.inr (Or.inl h)))
theorem rn_5 {x j : Int} (h : 65 ≤ x ∧ x ≤ 70 ∧ ¬ (x = 67 ∧ j = 11)) : rnY x j := Or.inr (Or.inr (Or.inr (Or.inr (Or.inl h))))
theorem rn_E {E x j : Int} (hE : E = 76 ∨ E = 82) (h : x = E + 5) : rnY x j := by
  rcases hE with e | e
  · exact Or.inr (Or.inr (Or.inr (Or.inr (Or.inr (Or.inl (by omega))))))
  · exact Or.inr (Or.inr (Or.inr (Or.inr (Or.inr (Or.inr (Or.inl (by omega)))))))
theorem FY_k {E : Int} {m m' : zM} (hE : E = 76 ∨ E = 82) (a : FK E m m') : FY m m' := fun x j h => a x j fun q => h (by
  rcases q with q | q | q | q
  · exact rn_E hE q
  · exact rn_5 (by omega)
  · exact rn_5 (by omega)
  · exact rn_2 q)
theorem FY_rr {m m' : zM} (a : FR m m') : FY m m' := fun x j h => a x j fun q => h (by
  rcases q with q | q | q | q
  · exact rn_3 (by omega)
  · exact rn_4 q
  · exact rn_1 q
  · exact rn_5 (by omega))
theorem FY_c {m m' : zM} (a : FC m m') : FY m m' := fun x j h => a x j fun q => h (by
  rcases q with q | q | q
  · exact rn_3 (by omega)
  · exact rn_1 q
  · exact rn_5 (by omega))
theorem FY_ff {E : Int} {m m' : zM} (hE : E = 76 ∨ E = 82) (a : FF E m m') : FY m m' := fun x j h => a x j fun q => h (by
  rcases q with q | q | q
  · exact rn_3 (by omega)
  · exact rn_5 (by omega)
  · exact rn_E hE q)
theorem FY_v {E : Int} {m m' : zM} (hE : E = 76 ∨ E = 82) (a : FV E m m') : FY m m' := fun x j h => a x j fun q => h (rn_E hE q)
/-- cells of the class that say what is given -/
abbrev csY (x j : Int) : Prop := (x = 1 ∧ j = 1) ∨ (x = 0 ∧ (j = 7 ∨ j = 9 ∨ j = 11)) ∨ (3 ≤ x ∧ x ≤ 25 ∧ x % 2 = 1 ∧ 1 ≤ j ∧ j ≤ 6) ∨ (4 ≤ x ∧ x ≤ 26 ∧ x % 2 = 0) ∨ (29 ≤ x ∧ x ≤ 59 ∧ (x - 29) % 6 = 0 ∧ j ≤ 13) ∨ (76 ≤ x ∧ x ≤ 80) ∨ (82 ≤ x ∧ x ≤ 86)
theorem CS_f {g m m' : zM} (hg : LG g) (h : CS g m) (a : ∀ x j, csY x j → m' x j = m x j) : CS g m' := by
  have hN := hg.2.2.1
  have hS := hg.1.1
  obtain ⟨⟨h1, h2, h3⟩, h4, h5, h6, h7, h8⟩ := h
  have e7 : m' 0 7 = m 0 7 := a 0 7 (by unfold csY; omega)
  refine ⟨⟨(a _ _ (by unfold csY; omega)).trans h1, (a _ _ (by unfold csY; omega)).trans h2, (a _ _ (by unfold csY; omega)).trans h3⟩, by rw [e7]; exact h4, by rw [e7]; exact ER_f h5 fun x j x0 x1 => a x j (by unfold csY; omega), LF_f hN.2 h6 fun x j x0 x1 x2 x3 => a x j (by unfold csY; omega), fun k k0 k1 => ⟨?_, fun d d0 d1 => ?_⟩, fun l l0 l1 => ?_⟩
  · have := (h7 k k0 k1).1
    rw [a _ 1 (by unfold csY; omega), a _ 2 (by unfold csY; omega), a _ 3 (by unfold csY; omega), a _ 4 (by unfold csY; omega), a _ 5 (by unfold csY; omega), a _ 6 (by unfold csY; omega)]
    exact this
  · rw [a _ _ (by unfold csY; omega)]
    exact (h7 k k0 k1).2 d d0 d1
  · have := h8 l l0 l1
    rw [a _ 8 (by unfold csY; omega), a _ 9 (by unfold csY; omega), a _ 10 (by unfold csY; omega), a _ 11 (by unfold csY; omega), a _ 12 (by unfold csY; omega), a _ 13 (by unfold csY; omega)]
    exact this
theorem cs_rn {x j : Int} (c : csY x j) : ¬ rnY x j := by
  intro s
  rcases c with c | c | c | c | c | c | c <;> rcases s with s | s | s | s | s | s | s | s <;> omega
theorem CS_y {g m m' : zM} (hg : LG g) (h : CS g m) (a : FY m m') : CS g m' := CS_f hg h fun x j c => a x j (cs_rn c)
theorem IC_of {g m : zM} {r d : Int → Int} (h : CS g m) (h3 : m 65 3 = m 0 7) (h4 : m 65 4 = g 88 12) (hl : ∀ l, 0 ≤ l → l < g 88 12 → m (29 + 6 * l) 15 = wtA g l ∧ m (29 + 6 * l) 16 = rmA g l ∧ m 66 l = tuA g (g 88 12).toNat l ∧ m (30 + 6 * l) 5 = (if r l = 0 then -1 else d l)) : IC (DG g r d) m := by
  obtain ⟨⟨c1, c2, c3⟩, c4, c5, c6, c7, c8⟩ := h
  have E : ∀ x, ¬ (125 ≤ x ∧ x ≤ 129) → DG g r d x = g x := fun x h => DG_x h
  unfold IC
  rw [E 88 (by omega), E 110 (by omega), E 90 (by omega), E 91 (by omega), E 92 (by omega), E 93 (by omega), E 94 (by omega), E 95 (by omega), E 96 (by omega), E 97 (by omega), E 101 (by omega), E 102 (by omega), E 103 (by omega), E 104 (by omega), E 107 (by omega), h3]
  refine ⟨⟨c1, h4⟩, ⟨c4, c5.1⟩, c7, fun l l0 l1 => ?_⟩
  have a := hl l l0 l1
  have b := c6 l l0 l1
  have c := c8 l l0 l1
  rw [show 30 + 6 * l + (-1) = 29 + 6 * l by omega]
  refine ⟨⟨b.2.1, b.2.2.2.2.2.2.1, b.2.2.2.2.2.2.2, c.1, c.2.1, c.2.2.2.2.1, a.1.trans (by simp [DG]), a.2.1.trans (by simp [DG])⟩, a.2.2.2.trans (by simp [DG]), a.2.2.1.trans (by simp [DG])⟩
/-- the class's record is that of the row at hand -/
def REC (g m : zM) : Prop := (∀ l, 0 ≤ l → l < g 88 12 → m (30 + 6 * l) 5 = (if rwA g l = 0 then -1 else g 108 l) ∧ (¬ rwA g l = 0 → m (30 + 6 * l) 12 = SS g 137 l ∧ m (30 + 6 * l) 11 = SS g 138 l ∧ m (30 + 6 * l) 10 = SS g 136 l ∧ EL g m l)) ∧ NC (HG g) m 100 ∧ (∀ k, 1 ≤ k → k < g 88 4 → m (3 + 2 * k) 9 = SS g 140 k ∧ m (3 + 2 * k) 10 = SS g 141 k) ∧ (m 65 7 = sumA (SS g 134) (g 88 12).toNat ∧ m 65 8 = sumA (ccA g) (g 88 12).toNat ∧ m 65 9 = sumA (arA (SS g)) (g 88 12).toNat ∧ m 65 10 = maxA (SS g 137) (g 88 12).toNat)
section L2
variable {Ω : zΩ} {Q : List zV → zM → Prop} {g : zM}
theorem s_handC_29 (hg : LG g) (hrow : ∀ l, 0 ≤ l → l < g 88 12 → -1 ≤ g 108 l) : ∀ (r : Nat) (l : Int) (m : zM), l + r = g 88 12 → 0 ≤ l → m 0 9 = g 88 12 → (∀ j, 0 ≤ j → j < g 88 12 → m (29 + 6 * j) 14 = atA g j ∧ m (29 + 6 * j) 13 = g 108 j) → (∀ j, 0 ≤ j → j < l → m (30 + 6 * j) 5 = (if rwA g j = 0 then -1 else g 108 j)) → (∀ m', (∀ x j, ¬ (30 ≤ x ∧ x ≤ 60 ∧ (x - 30) % 6 = 0 ∧ j = 5) → m' x j = m x j) → (∀ j, 0 ≤ j → j < g 88 12 → m' (30 + 6 * j) 5 = (if rwA g j = 0 then -1 else g 108 j)) → zG Ω 54 0 [zR 5 65, zU, zU] [] m' (fun r1 m1 => zk0 r1 (Q [] (zup m1 0 14 0)))) → zG Ω 121 29 [zR 9 0, zI l] [] m Q := by
  have hN := hg.2.2.1
  intro r
  induction r with
  | zero =>
    intro l m hl h0 h9 hA hB K
    exact w_X9_runRowAtHand_29 (zif (fun h => absurd h (by omega)) fun _ => K m (fun _ _ _ => rfl) fun j a b => hB j a (by omega))
  | succ r ih =>
    intro l m hl h0 h9 hA hB K
    have al := hA l h0 (by omega)
    have rl := hrow l h0 (by omega)
    have next : ∀ v, v = (if rwA g l = 0 then -1 else g 108 l) → zG Ω 121 29 [zR 9 0, zI (l + 1)] [] (zup m (30 + 6 * l) 5 v) Q := by
      intro v hv
      refine ih (l + 1) _ (by omega) (by omega) (by rw [zup_c (by omega)]; exact h9) (fun j a b => ?_) (fun j a b => ?_) fun m' o' => K m' fun x j h => (o' x j h).trans ?_
      · rw [zup_c (by omega), zup_c (by omega)]; exact hA j a b
      · by_cases e : j = l
        · rw [e, zup_e rfl rfl]; exact hv
        · rw [zup_c (by omega)]; exact hB j a (by omega)
      · unfold zup
        rw [if_neg (by rintro ⟨rfl, rfl⟩; omega)]
    refine w_X9_runRowAtHand_29 (zif (fun _ => zin_of (by omega) (by omega) (zin_of (by omega) (by omega) ?_)) fun h => absurd (show l < m 0 9 by omega) h)
    rw [al.1, al.2, zw_i (x := l + 1) (by omega) (by omega)]
    refine zif (fun q => next _ ?_) fun q => zin_of (by omega) (by omega) (next _ ?_)
    · unfold rwA
      rw [q, ite_self, if_pos rfl]
    · unfold rwA
      by_cases z : g 108 l < 0
      · rw [if_pos z, if_pos rfl]; omega
      · rw [if_neg z, if_neg q]
theorem s_handC {m : zM} (hg : LG g) (hr : RGd g) (hrow : ∀ l, 0 ≤ l → l < g 88 12 → -1 ≤ g 108 l) (hc : CS g m) (hrec : m 0 14 = 0 → REC g m) (K : ∀ m', FY m m' → CS g m' → REC g m' → m' 0 14 = 0 → Q [] m') : zG Ω 121 0 [zR 9 0, zU] [] m Q := by
  have hN := hg.2.2.1
  have hS := hg.1.1
  refine w_X9_runRowAtHand_0 (zif (fun h => K m FY_r hc (hrec h) h) fun h => ⟨by have := hc.2.1; omega, ?_⟩)
  rw [hc.1.2.1, hc.1.2.2]
  refine s_prepC hg hc.2.1 hc.2.2.1 hc.2.2.2.1 fun m1 f1 a3 a4 a5 al => ?_
  have y1 := FY_k hc.2.1 f1
  have c1 := CS_y hg hc y1
  have e7 : m1 0 7 = m 0 7 := y1 0 7 (by unfold rnY; omega)
  show zG Ω 121 29 _ _ _ _
  refine s_handC_29 hg hrow (g 88 12).toNat 0 m1 (by omega) (by omega) c1.1.2.1 (fun j j0 j1 => ⟨(al j j0 j1).1, (c1.2.2.2.2.2 j j0 j1).2.2.2.2.2⟩) (fun j a b => absurd a (by omega)) fun m2 o2 d2 => ?_
  have y2 : FY m m2 := FY_t y1 fun x j h => o2 x j fun q => h (rn_3 (by omega))
  have c2 := CS_y hg hc y2
  have hv := DG_vG (r := rwA g) (d := g 108) hg hr
  have hday : ∀ l, 0 ≤ l → l < HG g 88 12 → ¬ HG g 125 l = 0 → 0 ≤ HG g 129 l := by
    intro l l0 l1 q
    have q : ¬ rwA g l = 0 := q
    show 0 ≤ g 108 l
    unfold rwA at q
    by_cases z : g 108 l < 0
    · rw [if_pos z] at q; exact absurd rfl q
    · omega
  have i2 : IC (HG g) m2 := IC_of c2 (by rw [o2 65 3 (by omega), a3, o2 0 7 (by omega), e7]) (by rw [o2 65 4 (by omega)]; exact a4) fun l l0 l1 => by
    have := al l l0 l1
    rw [o2 _ 15 (by omega), o2 _ 16 (by omega), o2 66 l (by omega)]
    exact ⟨this.2.1, this.2.2.1, this.2.2.2, d2 l l0 l1⟩
  refine w_X5_keepRecord_0 (s_beginC hv hday i2 fun m3 f3 r3 => ?_)
  show zG Ω 54 6 _ _ _ _
  refine s_keepC_6 hv hday 100 0 m3 (by omega) (IC_f hv i2 f3) r3 (fun l d _ _ q => absurd q (by omega)) fun m4 f4 i4 r4 n4 => w_X5_finish_0 ?_
  have y4 : FY m m4 := FY_t y2 (FY_t (FY_c f3) (FY_rr f4))
  have c4 := CS_y hg hc y4
  have e74 : m4 0 7 = m 0 7 := y4 0 7 (by unfold rnY; omega)
  have k4 : ∀ x j, (x = 65 ∧ 3 ≤ j ∧ j ≤ 5) ∨ (30 ≤ x ∧ x ≤ 60 ∧ (x - 30) % 6 = 0 ∧ j = 5) → m4 x j = m2 x j := fun x j q => (f4 x j (by omega)).trans (f3 x j (by omega))
  have s8 := r4.2.2.2.1
  refine s_finC_2 (E := m 0 7) hg hr hc.2.1 (g 88 12).toNat 0 m4 (by omega) (by rw [← e74]; exact c4.2.2.1) c4.2.2.2.1 (by rw [k4 65 3 (by omega), o2 65 3 (by omega)]; exact a3) (by rw [k4 65 4 (by omega), o2 65 4 (by omega)]; exact a4) (by rw [k4 65 5 (by omega), o2 65 5 (by omega)]; exact a5) (fun j j0 j1 => ?_) (fun j j0 j1 => ?_) (fun j a b => absurd a (by omega)) (by rw [s8]; show _ = _ + 0; rw [Int.add_zero]; rfl) fun m5 f5 el5 t5 => ?_
  · have cl := r4.1 j j0 j1
    rw [k4 _ 5 (by omega), d2 j j0 j1]
    refine ⟨rfl, ?_, cl.2.2.2.2.2.2.1, cl.2.2.2.2.2.1, (c4.2.2.2.2.2 j j0 j1).2.2.2.2.1⟩
    by_cases z : rwA g j = 0
    · exact Or.inl z
    · exact Or.inr (hday j j0 j1 z)
  · exact (r4.1 j (by omega) j1).2.2.2.1
  · have y5 : FY m (zup m5 0 14 0) := FY_u (FY_t y4 (FY_ff hc.2.1 f5)) (by unfold rnY; omega)
    have z5 : ∀ x j, ¬ x = 0 → zup m5 0 14 0 x j = m5 x j := fun x j h => zup_c h
    show Q [] (zup m5 0 14 0)
    have hE := hc.2.1
    refine K _ y5 (CS_y hg hc y5) ⟨fun l l0 l1 => ⟨?_, fun q => ?_⟩, fun l d l0 l1 hd => ?_, fun k k0 k1 => ?_, ?_⟩ rfl
    · rw [z5 _ _ (by omega), f5 _ _ (by omega), k4 _ 5 (by omega)]
      exact d2 l l0 l1
    · have cl := r4.1 l l0 l1
      have el := el5 l l0 l1 q
      unfold EL at el ⊢
      rw [z5 _ 12 (by omega), z5 _ 11 (by omega), z5 _ 10 (by omega), z5 _ 13 (by omega), z5 _ 14 (by omega), z5 _ 9 (by omega), f5 _ 12 (by omega), f5 _ 11 (by omega), f5 _ 10 (by omega)]
      exact ⟨cl.2.2.2.2.2.2.1, cl.2.2.2.2.2.1, cl.2.2.2.2.1, el⟩
    · have := n4 l d l0 l1 hd
      have l1' : l < g 88 12 := l1
      unfold NQ at this ⊢
      rw [z5 _ _ (by omega), z5 _ _ (by omega), z5 _ _ (by omega), z5 _ _ (by omega), f5 _ _ (by omega), f5 _ _ (by omega), f5 _ _ (by omega), f5 _ _ (by omega)]
      exact this
    · have := r4.2.1 k k0 k1
      rw [z5 _ _ (by omega), z5 _ _ (by omega), f5 _ _ (by omega), f5 _ _ (by omega)]
      exact this
    · have t := r4.2.2
      unfold CT at t
      rw [z5 _ _ (by omega), z5 _ _ (by omega), z5 _ _ (by omega), z5 _ _ (by omega), f5 65 7 (by omega), f5 65 9 (by omega), f5 65 10 (by omega)]
      exact ⟨t.1, t5, t.2.2.1, t.2.2.2.1⟩
end L2
