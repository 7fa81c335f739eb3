/-! compared is a bit for each bracket in the class (72, 2); the rows above speak of a row 74: what both say is the same -/
theorem bit_na : ∀ a b : Fin 12, (Int32.ofInt (zshl 1 (a.1 : Int)) ^^^ Int32.ofInt (-1)) &&& Int32.ofInt (zshl 1 (b.1 : Int)) = if b = a then 0 else Int32.ofInt (zshl 1 (b.1 : Int)) := by decide +kernel
theorem zmask_an {M k k' : Int} (h0 : 0 ≤ k) (h1 : k < 12) (h2 : 0 ≤ k') (h3 : k' < 12) : zand (zand M (zxor (zshl 1 k) (-1))) (zshl 1 k') = 0 ↔ (k' = k ∨ zand M (zshl 1 k') = 0) := by
  obtain ⟨a, rfl⟩ := Int.eq_ofNat_of_zero_le h0
  obtain ⟨b, rfl⟩ := Int.eq_ofNat_of_zero_le h2
  unfold zand zxor
  rw [i32_0, i32_0, Int32.ofInt_toInt, Int32.ofInt_toInt, Int32.and_assoc]
  have := bit_na ⟨a, by omega⟩ ⟨b, by omega⟩
  dsimp only at this
  rw [this]
  by_cases e : b = a
  · subst e
    rw [if_pos rfl, Int32.and_zero]
    exact ⟨fun _ => Or.inl rfl, fun _ => rfl⟩
  · rw [if_neg (fun q => e (by cases q; rfl))]
    exact ⟨fun h => Or.inr h, fun h => h.elim (fun q => absurd (Int.ofNat.inj q) e) id⟩
def VO (μ a : zM) : Prop := ∀ x j, ¬ x = 74 → ¬ (x = 72 ∧ j = 2) → μ x j = a x j
def VB (μ a : zM) : Prop := VO μ a ∧ ∀ j, 0 ≤ j → j ≤ a 72 8 → j ≤ 8 → (zand (μ 72 2) (zshl 1 j) = 0 ↔ a 74 j = 0)
theorem VO_u {μ a : zM} {x j v : Int} (h : VO μ a) : VO (zup μ x j v) (zup a x j v) := fun y i h1 h2 => by
  unfold zup
  by_cases c : y = x ∧ i = j
  · rw [if_pos c, if_pos c]
  · rw [if_neg c, if_neg c]; exact h y i h1 h2
theorem VO_lr {μ a : zM} {v j w : Int} (h : VO μ a) : VO (zup μ 72 2 v) (zup a 74 j w) := fun y i h1 h2 => by
  unfold zup
  rw [if_neg h2, if_neg (fun q => h1 q.1)]
  exact h y i h1 h2
theorem VO_if {c d : Prop} [Decidable c] [Decidable d] {p q p' q' : zM} (e : c ↔ d) (f : d → VO p q) (g : ¬ d → VO p' q') : VO (if c then p else p') (if d then q else q') := by
  by_cases h : d
  · rw [if_pos h, if_pos (e.mpr h)]; exact f h
  · rw [if_neg h, if_neg (fun z => h (e.mp z))]; exact g h
theorem VB_if {c d : Prop} [Decidable c] [Decidable d] {p q p' q' : zM} (e : c ↔ d) (f : d → VB p q) (g : ¬ d → VB p' q') : VB (if c then p else p') (if d then q else q') := by
  by_cases h : d
  · rw [if_pos h, if_pos (e.mpr h)]; exact f h
  · rw [if_neg h, if_neg (fun z => h (e.mp z))]; exact g h
theorem VB_keep {μ a μ' a' : zM} (h : VB μ a) (o : VO μ' a') (e2 : μ' 72 2 = μ 72 2) (e74 : ∀ j, a' 74 j = a 74 j) (e8 : a' 72 8 ≤ a 72 8) : VB μ' a' := ⟨o, fun j j0 j1 j2 => by rw [e2, e74]; exact h.2 j j0 (by omega) j2⟩
theorem VO_add {μ a : zM} {E s v : Int} (hE : E = 76 ∨ E = 82) (h : VO μ a) : VO (addF μ E s v) (addF a E s v) := by
  unfold addF
  rw [h E 11 (by omega) (by omega)]
  exact VO_u (VO_u (VO_u h))
theorem VO_bg {μ a : zM} {E w : Int} (hE : E = 76 ∨ E = 82) (h : VO μ a) : VO (bgF μ E w) (bgF a E w) := by
  unfold bgF
  rw [h E 11 (by omega) (by omega)]
  exact VO_if Iff.rfl (fun _ => VO_if Iff.rfl (fun _ => VO_u (VO_u h)) fun _ => VO_u (VO_u (VO_u h))) fun _ => VO_u h
theorem VO_fn {μ a : zM} {E w : Int} (hE : E = 76 ∨ E = 82) (h : VO μ a) : VO (fnF μ E w) (fnF a E w) := by
  unfold fnF
  rw [h E 11 (by omega) (by omega)]
  exact VO_if Iff.rfl (fun _ => VO_u h) fun _ => h
theorem VO_ku {μ a : zM} {E : Int} (hE : E = 76 ∨ E = 82) (h : VO μ a) : VO (kuF μ E) (kuF a E) := by
  unfold kuF
  rw [h E 5 (by omega) (by omega)]
  exact VO_u h
theorem VO_off {μ a : zM} {s : Int} (h : VO μ a) : VO (offF μ s) (offF a s) := by
  unfold offF
  rw [h 72 7 (by decide) (by decide)]
  exact VO_u (VO_u h)
theorem VO_fail {μ a : zM} {k : Int} (h : VO μ a) : VO (failF μ k) (failF a k) := by
  unfold failF
  rw [h 75 4 (by decide) (by decide)]
  exact VO_u (VO_u h)
theorem VO_wr {E b : Int} (hE : E = 76 ∨ E = 82) : ∀ (k : Nat) (μ a : zM), VO μ a → VO (wrF E b k μ) (wrF E b k a) := by
  intro k
  induction k with
  | zero => intro μ a h; exact h
  | succ k ih =>
    intro μ a h
    unfold wrF
    rw [h 73 (k : Int) (by decide) (by omega)]
    exact VO_if Iff.rfl (fun _ => h) fun _ => ih _ _ (VO_u (VO_add hE h))
theorem bg_74 {a : zM} {E w x j : Int} (h : ¬ (E ≤ x ∧ x ≤ E + 4)) : bgF a E w x j = a x j := by
  unfold bgF
  split
  · split
    · rw [zup_c (by omega), zup_c (by omega)]
    · rw [zup_c (by omega), zup_c (by omega), zup_c (by omega)]
  · rw [zup_c (by omega)]
theorem fn_74 {a : zM} {E w x j : Int} (h : ¬ (E ≤ x ∧ x ≤ E + 4)) : fnF a E w x j = a x j := by
  unfold fnF
  split
  · rw [zup_c (by omega)]
  · rfl
theorem VB_fail {μ a : zM} {k : Int} (h : VB μ a) : VB (failF μ k) (failF a k) :=
  VB_keep h (VO_fail h.1) (by unfold failF; rw [zup_j (by decide), zup_j (by decide)]) (fun j => by unfold failF; rw [zup_c (by decide), zup_c (by decide)]) (by unfold failF; rw [zup_j (by decide), zup_j (by decide)]; exact Int.le_refl _)
theorem VB_be {μ a : zM} {E : Int} (hE : E = 76 ∨ E = 82) (h : VO μ a) : VB (beR μ E) (beF a E) := by
  unfold beR beF
  rw [h 72 6 (by decide) (by decide)]
  refine ⟨VO_u (VO_u (VO_lr (VO_u (VO_u (VO_bg hE h))))), fun j j0 j1 j2 => ?_⟩
  have e8 : zup (zup (zup (zup (zup (bgF a E (a 72 6)) 72 7 0) 72 8 0) 74 0 0) 72 9 1) 72 4 4 72 8 = 0 := by
    rw [zup_j (by decide), zup_j (by decide), zup_c (by decide), zup_e rfl rfl]
  rw [e8] at j1
  have j3 : j = 0 := by omega
  subst j3
  have r2 : zup (zup (zup (zup (zup (bgF μ E (a 72 6)) 72 7 0) 72 8 0) 72 2 0) 72 9 1) 72 4 4 72 2 = 0 := by
    rw [zup_j (by decide), zup_j (by decide), zup_e rfl rfl]
  have r74 : zup (zup (zup (zup (zup (bgF a E (a 72 6)) 72 7 0) 72 8 0) 74 0 0) 72 9 1) 72 4 4 74 0 = 0 := by
    rw [zup_c (by decide), zup_c (by decide), zup_e rfl rfl]
  rw [r2, r74]
  exact ⟨fun _ => rfl, fun _ => zmask_0 (Int.le_refl 0) (by decide)⟩
theorem VB_tw {μ a : zM} {E k : Int} (hE : E = 76 ∨ E = 82) (h : VB μ a) : VB (twR μ E k) (twF a E k) := by
  have o := h.1
  unfold twR twF
  rw [o 72 5 (by decide) (by decide), o E 4 (by omega) (by omega)]
  refine VB_if Iff.rfl (fun _ => VB_fail h) fun _ => VB_if Iff.rfl (fun _ => VB_fail h) fun _ => VB_if Iff.rfl (fun _ => ?_) fun _ => VB_be hE (VO_u (VO_u (VO_u o)))
  exact VB_keep h (VO_u (VO_u (VO_u (VO_u o)))) (by rw [zup_j (by decide), zup_j (by decide), zup_c (by omega), zup_j (by decide)]) (fun j => by rw [zup_c (by decide), zup_c (by decide), zup_c (by omega), zup_c (by decide)]) (by rw [zup_j (by decide), zup_j (by decide), zup_c (by omega), zup_j (by decide)]; exact Int.le_refl _)
theorem VB_tn {μ a : zM} {E k : Int} (hE : E = 76 ∨ E = 82) (h : VB μ a) : VB (tnF μ E k) (tnF a E k) := by
  have o := h.1
  unfold tnF
  rw [o 72 6 (by decide) (by decide), o 75 5 (by decide) (by decide)]
  refine VB_if Iff.rfl (fun _ => VB_fail h) fun _ => VB_if Iff.rfl (fun _ => VB_fail h) fun _ => ?_
  have se : ∀ (m : zM) (w v x j : Int), ¬ x = E → seF m E w v x j = m x j := fun m w v x j hx => by
    unfold seF
    split
    · exact zup_c hx
    · split
      · exact zup_c hx
      · split
        · exact zup_c hx
        · exact zup_c hx
  have os : VO (seF μ E (a 72 6) (a 75 5)) (seF a E (a 72 6) (a 75 5)) := by
    unfold seF
    exact VO_if Iff.rfl (fun _ => VO_u o) fun _ => VO_if Iff.rfl (fun _ => VO_u o) fun _ => VO_if Iff.rfl (fun _ => VO_u o) fun _ => VO_u o
  exact VB_keep h (VO_u os) (by rw [zup_j (by decide)]; exact se _ _ _ _ _ (by omega)) (fun j => by rw [zup_c (by decide)]; exact se _ _ _ _ _ (by omega)) (by rw [zup_j (by decide), se _ _ _ _ _ (by omega)]; exact Int.le_refl _)
theorem VB_ts {μ a : zM} {k : Int} (h : VB μ a) : VB (tsF μ k) (tsF a k) := by
  unfold tsF
  exact VB_if Iff.rfl (fun _ => VB_keep h (VO_u h.1) (zup_j (by decide)) (fun j => zup_c (by decide)) (by rw [zup_j (by decide)]; exact Int.le_refl _)) fun _ => VB_fail h
theorem too_v {μ a : zM} {E k : Int} (hE : E = 76 ∨ E = 82) (o : VO μ a) : tooR μ E k ↔ tooR a E k := by
  unfold tooR
  rw [o 72 6 (by decide) (by decide), o 72 8 (by decide) (by decide), o E 5 (by omega) (by omega), o 75 5 (by decide) (by decide)]
theorem VB_td {μ a : zM} {E k : Int} (hE : E = 76 ∨ E = 82) (h : VB μ a) (h8 : 0 ≤ a 72 8 ∧ a 72 8 ≤ 8) : VB (tdR μ E k) (tdF a E k) := by
  have o := h.1
  have e8 : μ 72 8 = a 72 8 := o _ _ (by decide) (by decide)
  have ku2 : ∀ m : zM, ∀ x j, ¬ x = E → kuF m E x j = m x j := fun m x j hx => by unfold kuF; exact zup_c hx
  unfold tdR tdF
  refine VB_if (by rw [o 72 9 (by decide) (by decide)]) (fun _ => VB_fail h) fun _ => VB_if (too_v hE o) (fun _ => VB_fail h) fun ht => VB_if (by rw [o 72 6 (by decide) (by decide)]) (fun _ => VB_fail h) fun _ => VB_if Iff.rfl (fun k36 => ?_) fun _ => VB_if Iff.rfl (fun _ => ?_) fun _ => VB_if Iff.rfl (fun _ => ?_) fun _ => ?_
  · have t8 : a 72 8 < 8 := by unfold tooR at ht; omega
    rw [e8]
    refine ⟨VO_u (VO_lr (VO_u (VO_off o))), fun j j0 j1 j2 => ?_⟩
    have q8 : zup (zup (zup (offF a 36) 72 8 (a 72 8 + 1)) 74 (a 72 8 + 1) 0) 72 9 1 72 8 = a 72 8 + 1 := by
      rw [zup_j (by decide), zup_c (by decide), zup_e rfl rfl]
    rw [q8] at j1
    have r2 : zup (zup (zup (offF μ 36) 72 8 (a 72 8 + 1)) 72 2 (zand (μ 72 2) (zxor (zshl 1 (a 72 8 + 1)) (-1)))) 72 9 1 72 2 = zand (μ 72 2) (zxor (zshl 1 (a 72 8 + 1)) (-1)) := by
      rw [zup_j (by decide), zup_e rfl rfl]
    rw [r2, zmask_an (by omega) (by omega) j0 (by omega)]
    by_cases e : j = a 72 8 + 1
    · have r74 : zup (zup (zup (offF a 36) 72 8 (a 72 8 + 1)) 74 (a 72 8 + 1) 0) 72 9 1 74 j = 0 := by
        rw [zup_c (by decide), zup_e rfl e]
      rw [r74]
      exact ⟨fun _ => rfl, fun _ => Or.inl e⟩
    · have r74 : zup (zup (zup (offF a 36) 72 8 (a 72 8 + 1)) 74 (a 72 8 + 1) 0) 72 9 1 74 j = a 74 j := by
        rw [zup_c (by decide), zup_j e, zup_c (by decide)]
        unfold offF
        rw [zup_c (by decide), zup_c (by decide)]
      rw [r74]
      have hs := h.2 j j0 (by omega) j2
      exact ⟨fun q => q.elim (fun z => absurd z e) hs.mp, fun q => Or.inr (hs.mpr q)⟩
  · refine VB_keep h (VO_u (VO_off (VO_ku hE o))) ?_ (fun j => ?_) ?_
    · unfold offF
      rw [zup_j (by decide), zup_j (by decide), zup_c (by decide)]; exact ku2 _ _ _ (by omega)
    · unfold offF
      rw [zup_c (by decide), zup_c (by decide), zup_c (by decide)]; exact ku2 _ _ _ (by omega)
    · unfold offF
      rw [zup_j (by decide), zup_j (by decide), zup_c (by decide), ku2 _ _ _ (by omega)]; exact Int.le_refl _
  · refine VB_keep h (VO_u (VO_off (VO_ku hE o))) ?_ (fun j => ?_) ?_
    · unfold offF
      rw [zup_j (by decide), zup_j (by decide), zup_c (by decide)]; exact ku2 _ _ _ (by omega)
    · unfold offF
      rw [zup_c (by decide), zup_c (by decide), zup_c (by decide)]; exact ku2 _ _ _ (by omega)
    · unfold offF
      rw [zup_j (by decide), zup_j (by decide), zup_c (by decide), ku2 _ _ _ (by omega)]; exact Int.le_refl _
  · rw [o 75 5 (by decide) (by decide)]
    refine VB_keep h (VO_u (VO_add hE (VO_ku hE o))) ?_ (fun j => ?_) ?_
    · unfold addF
      rw [zup_j (by decide), zup_c (by omega), zup_c (by omega), zup_c (by omega)]; exact ku2 _ _ _ (by omega)
    · unfold addF
      rw [zup_c (by decide), zup_c (by omega), zup_c (by omega), zup_c (by omega)]; exact ku2 _ _ _ (by omega)
    · unfold addF
      rw [zup_j (by decide), zup_c (by omega), zup_c (by omega), zup_c (by omega), ku2 _ _ _ (by omega)]; exact Int.le_refl _
theorem VB_te {μ a : zM} {E k : Int} (hE : E = 76 ∨ E = 82) (h : VB μ a) : VB (teR μ E k) (teF a E k) := by
  have o := h.1
  have wv := VO_wr (b := 1) hE (a 72 7).toNat μ a o
  have wm := fun (m : zM) (x j : Int) => wrF_o (b := 1) hE (a 72 7).toNat m x j
  unfold teR teF
  rw [o 72 8 (by decide) (by decide), o 72 7 (by decide) (by decide), o 72 6 (by decide) (by decide), wv 72 7 (by decide) (by decide), wv 72 8 (by decide) (by decide)]
  refine VB_if Iff.rfl (fun _ => ?_) fun _ => VB_if Iff.rfl (fun _ => VB_fail h) fun _ => VB_if Iff.rfl (fun _ => VB_be hE (VO_u (VO_u (VO_fn hE wv)))) fun _ => ?_
  · refine VB_keep h (VO_u (VO_u wv)) ?_ (fun j => ?_) ?_
    · rw [zup_j (by decide), zup_j (by decide)]; exact wm _ _ _ (by omega)
    · rw [zup_c (by decide), zup_c (by decide)]; exact wm _ _ _ (by omega)
    · rw [zup_e rfl rfl, wm _ _ _ (by omega)]; omega
  · refine VB_keep h (VO_u (VO_fn hE wv)) ?_ (fun j => ?_) ?_
    · rw [zup_j (by decide), fn_74 (by omega)]; exact wm _ _ _ (by omega)
    · rw [zup_c (by decide), fn_74 (by omega)]; exact wm _ _ _ (by omega)
    · rw [zup_j (by decide), fn_74 (by omega), wm _ _ _ (by omega)]; exact Int.le_refl _
theorem VB_tg {μ a : zM} {E k : Int} (hE : E = 76 ∨ E = 82) (h : VB μ a) (h8 : 0 ≤ a 72 8 ∧ a 72 8 ≤ 8) : VB (tgR μ E k) (tgF a E k) := by
  have o := h.1
  have e8 : μ 72 8 = a 72 8 := o _ _ (by decide) (by decide)
  unfold tgR tgF
  refine VB_if Iff.rfl (fun _ => VB_te hE h) fun _ => VB_if ?_ (fun _ => VB_fail h) fun _ => VB_if (too_v hE o) (fun _ => VB_fail h) fun _ => ?_
  · rw [e8]
    exact and_congr Iff.rfl (not_congr (h.2 _ h8.1 (Int.le_refl _) h8.2))
  have os : VO (sg1F μ E k) (sg1F a E k) := by
    unfold sg1F
    rw [o 72 7 (by decide) (by decide)]
    exact VO_off (VO_wr hE _ _ _ (VO_ku hE o))
  have sg : ∀ (m : zM) (x j : Int), ¬ (x = 72 ∧ j = 7) → ¬ x = 73 → ¬ (E ≤ x ∧ x ≤ E + 4) → sg1F m E k x j = m x j := fun m x j z1 z2 z3 => by
    unfold sg1F offF
    rw [show zup (zup (wrF E (bdS k) (m 72 7).toNat (kuF m E)) 73 (wrF E (bdS k) (m 72 7).toNat (kuF m E) 72 7) k) 72 7 (wrF E (bdS k) (m 72 7).toNat (kuF m E) 72 7 + 1) x j = zup (wrF E (bdS k) (m 72 7).toNat (kuF m E)) 73 (wrF E (bdS k) (m 72 7).toNat (kuF m E) 72 7) k x j from by unfold zup; exact if_neg z1, zup_c z2, wrF_o hE _ _ _ _ (by omega)]
    unfold kuF
    exact zup_c (by omega)
  have s2 : sg1F μ E k 72 2 = μ 72 2 := sg _ _ _ (by decide) (by decide) (by omega)
  have s74 : ∀ j, sg1F a E k 74 j = a 74 j := fun j => sg _ _ _ (by omega) (by decide) (by omega)
  have s8 : sg1F a E k 72 8 = a 72 8 := sg _ _ _ (by decide) (by decide) (by omega)
  unfold sg2R sg2F
  by_cases c : bdS k ≤ 4
  · rw [if_pos c, if_pos c, e8]
    refine ⟨VO_u (VO_u (VO_lr os)), fun j j0 j1 j2 => ?_⟩
    rw [zup_j (by decide), zup_j (by decide), zup_c (by decide), s8] at j1
    rw [zup_j (by decide), zup_j (by decide), zup_e rfl rfl, zup_c (by decide), zup_c (by decide)]
    have hs := h.2 j j0 j1 j2
    by_cases c4 : bdS k = 4
    · rw [if_pos c4, if_pos c4, zmask_or h8.1 (by omega) j0 (by omega)]
      by_cases e : j = a 72 8
      · rw [zup_e rfl e]
        exact ⟨fun q => absurd e q.1, fun q => absurd q (by decide)⟩
      · rw [zup_j e, s74]
        exact ⟨fun q => hs.mp q.2, fun q => ⟨e, hs.mpr q⟩⟩
    · rw [if_neg c4, if_neg c4, zmask_an h8.1 (by omega) j0 (by omega)]
      by_cases e : j = a 72 8
      · rw [zup_e rfl e]
        exact ⟨fun _ => rfl, fun _ => Or.inl e⟩
      · rw [zup_j e, s74]
        exact ⟨fun q => q.elim (fun z => absurd z e) hs.mp, fun q => Or.inr (hs.mpr q)⟩
  · rw [if_neg c, if_neg c]
    refine VB_keep h (VO_u (VO_u os)) ?_ (fun j => ?_) ?_
    · rw [zup_j (by decide), zup_j (by decide)]; exact s2
    · rw [zup_c (by decide), zup_c (by decide)]; exact s74 j
    · rw [zup_j (by decide), zup_j (by decide), s8]; exact Int.le_refl _
theorem VB_tk {μ a : zM} {E k : Int} (hE : E = 76 ∨ E = 82) (h : VB μ a) (h8 : a 72 4 = 4 ∨ a 72 4 = 5 → 0 ≤ a 72 8 ∧ a 72 8 ≤ 8) : VB (tkR μ E k) (tkF a E k) := by
  unfold tkR tkF
  rw [h.1 72 4 (by decide) (by decide)]
  exact VB_if Iff.rfl (fun _ => VB_tw hE h) fun _ => VB_if Iff.rfl (fun _ => VB_tn hE h) fun _ => VB_if Iff.rfl (fun z => VB_td hE h (h8 (Or.inl z))) fun _ => VB_if Iff.rfl (fun z => VB_tg hE h (h8 (Or.inr z))) fun _ => VB_ts h
/-- the next token read -/
theorem VB_tok {μ μ2 a : zM} (h : VB μ a) (f : FG μ μ2) : ∃ a2, VB μ2 a2 ∧ FG a a2 ∧ ∀ j, a2 75 j = μ2 75 j := by
  refine ⟨fun x j => if x = 75 then μ2 75 j else a x j, ⟨fun x j h1 h2 => ?_, fun j j0 j1 j2 => ?_⟩, fun x j hx => ?_, fun j => if_pos rfl⟩
  · by_cases e : x = 75
    · show μ2 x j = (if x = 75 then μ2 75 j else a x j)
      rw [if_pos e, e]
    · show μ2 x j = (if x = 75 then μ2 75 j else a x j)
      rw [if_neg e, f x j (by omega)]; exact h.1 x j h1 h2
  · have j1 : j ≤ (if (72 : Int) = 75 then μ2 75 8 else a 72 8) := j1
    rw [if_neg (by decide)] at j1
    show zand (μ2 72 2) (zshl 1 j) = 0 ↔ (if (74 : Int) = 75 then μ2 75 j else a 74 j) = 0
    rw [if_neg (by decide), f 72 2 (by omega)]
    exact h.2 j j0 j1 j2
  · by_cases e : x = 75
    · show (if x = 75 then μ2 75 j else a x j) = a x j
      rw [if_pos e, e, f 75 j (by omega)]
      exact h.1 75 j (by decide) (by omega)
    · exact if_neg e
/-- any memory has its like -/
theorem VB_of (μ : zM) : VB μ (fun x j => if x = 74 then (if zand (μ 72 2) (zshl 1 j) = 0 then 0 else 1) else μ x j) := by
  refine ⟨fun x j h1 h2 => (if_neg h1).symm, fun j j0 j1 j2 => ?_⟩
  show _ ↔ (if (74 : Int) = 74 then (if zand (μ 72 2) (zshl 1 j) = 0 then (0 : Int) else 1) else μ 74 j) = 0
  rw [if_pos rfl]
  by_cases c : zand (μ 72 2) (zshl 1 j) = 0
  · rw [if_pos c]; exact ⟨fun _ => rfl, fun _ => c⟩
  · rw [if_neg c]; exact ⟨fun q => absurd q c, fun q => absurd q (by decide)⟩
theorem R1_v {a a' u u0 : zM} {E : Int} (hE : E = 76 ∨ E = 82) (f : VO a' a) (h : R1 a' E u0 u) : R1 a E u0 u := by
  obtain ⟨h1, h2, h3, h4⟩ := h
  have g : ∀ x j, ¬ x = 74 → ¬ (x = 72 ∧ j = 2) → a x j = a' x j := fun x j p q => (f x j p q).symm
  have e5 : a E 5 = a' E 5 := g _ _ (by omega) (by omega)
  have e11 : a E 11 = a' E 11 := g _ _ (by omega) (by omega)
  have af : AF E a' a := ⟨fun j _ => g _ _ (by omega) (by omega), g _ _ (by omega) (by omega), fun j _ => ⟨g _ _ (by omega) (by omega), g _ _ (by omega) (by omega)⟩, fun j => ⟨g _ _ (by omega) (by omega), g _ _ (by omega) (by omega)⟩⟩
  unfold R1
  rw [e5, e11]
  exact ⟨h1, h2, cdR_g (Int.le_refl _) (fun i _ _ => ⟨g _ _ (by omega) (by omega), g _ _ (by omega) (by omega)⟩) (fun i _ _ => ⟨rfl, rfl, rfl⟩) h3, RBd_f (Int.le_refl _) af UF_r h4⟩
