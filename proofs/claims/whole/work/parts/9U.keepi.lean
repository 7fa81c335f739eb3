/-! the invariant is kept -/
theorem BI_fg {a a' : zM} {E k : Int} (hE : E = 76 ∨ E = 82) (f : FG a a') (h : BI a E k) : BI a' E k := by
  have e : ∀ x j, ¬ x = 75 → a' x j = a x j := fun x j hx => f x j (fun q => hx q.1)
  have eE : ∀ j, a' E j = a E j := fun j => e E j (by omega)
  have e72 : ∀ j, a' 72 j = a 72 j := fun j => e 72 j (by decide)
  unfold BI CW at h ⊢
  simp only [eE, e72]
  obtain ⟨h1, h2, h3, h4, h5⟩ := h
  refine ⟨h1, h2, h3, h4, h5.elim Or.inl fun q => Or.inr ⟨q.1, q.2.1, q.2.2.1, ?_⟩⟩
  obtain ⟨W, w1, w2⟩ := q.2.2.2
  exact ⟨W, stk_f (fun j => e 73 j (by decide)) W w1, w2⟩
theorem wr_CW {E b : Int} {m : zM} {W : List Int} (hE : E = 76 ∨ E = 82) (hb : 1 ≤ b) (h : CW m W) : wrF E b (m 72 7).toNat m 72 7 = (popW b W).length ∧ wrF E b (m 72 7).toNat m E 11 + (popW b W).length = m E 11 + W.length ∧ CW (wrF E b (m 72 7).toNat m) (popW b W) := by
  obtain ⟨h1, h2, h3, h4⟩ := h
  have e : (m 72 7).toNat = W.length := by omega
  rw [e]
  obtain ⟨q1, q2⟩ := wrF_W (b := b) hE W m h1 h2
  have q3 := wrF_7 (b := b) hE W.length m h2
  have q8 := wrF_o (b := b) hE W.length m 72 8 (by omega)
  refine ⟨q1, by omega, q2, q1, fun s hs => h3 s (popW_mem W s hs), ?_⟩
  rw [popW_op hb, q8]
  exact h4
theorem BI_s {a : zM} {E k kd : Int} (hE : E = 76 ∨ E = 82) (h : BI a E k) (h1 : tkF a E kd 72 10 = 0) : BI (tkF a E kd) E (k + 1) := by
  have bad : ∀ {P : Prop} {c : Int}, ¬ c = 0 → failF a c 72 10 = 0 → P := fun {P c} hc y => by rw [fl_c.1] at y; exact absurd y hc
  obtain ⟨h3, h4, h5, h11, hb⟩ := h
  have n72 : ¬ E = 72 := by omega
  unfold tkF at h1 ⊢
  split at h1
  · rename_i d1
    rw [if_pos d1]
    replace hb : a E 11 = 7 + a E 5 := by
      rcases hb with q | q
      · exact q.2
      · exfalso; omega
    unfold twF at h1 ⊢
    split at h1
    · exact bad (by decide) h1
    rename_i c1
    rw [if_neg c1]
    split at h1
    · exact bad (by decide) h1
    rename_i c2
    rw [if_neg c2]
    split at h1
    · rename_i c3
      rw [if_pos c3]
      obtain ⟨q5, q6, q72, qE4, qE, qx⟩ := tw_c (m := a) (k := kd) (v := zor (a 72 5) (zshl 1 kd)) hE _ rfl
      generalize zup (zup (zup a 72 5 (zor (a 72 5) (zshl 1 kd))) E 4 (a E 4 + 1)) 72 6 kd = m1 at *
      have y : ∀ x j, ¬ (x = 72 ∧ j = 4) → zup m1 72 4 2 x j = m1 x j := fun x j hx => by unfold zup; rw [if_neg hx]
      have y4 : zup m1 72 4 2 72 4 = 2 := zup_s _ _ _ _
      unfold BI
      rw [y 72 3 (by omega), y E 4 (by omega), y E 5 (by omega), y E 11 (by omega), y4, y 72 6 (by omega), q72 3 (by decide) (by decide), qE4, qE 5 (by decide), qE 11 (by decide), q6]
      exact ⟨h3, by omega, h5, h11, Or.inl ⟨by omega, hb⟩⟩
    · rename_i c3
      rw [if_neg c3]
      obtain ⟨q5, q6, q72, qE4, qE, qx⟩ := tw_c (m := a) (k := kd) (v := zor (a 72 5) (zshl 1 kd)) hE _ rfl
      generalize zup (zup (zup a 72 5 (zor (a 72 5) (zshl 1 kd))) E 4 (a E 4 + 1)) 72 6 kd = m1 at *
      obtain ⟨p4, p7, p8, p9, p74, p72, pE, _⟩ := be_c hE q6
      unfold BI
      rw [p72 3 (by decide) (by decide) (by decide) (by decide), pE 4 (by decide), pE 5 (by decide), pE 11 (by decide), p4, p72 6 (by decide) (by decide) (by decide) (by decide), p7, p8, q72 3 (by decide) (by decide), qE4, qE 5 (by decide), qE 11 (by decide), q6]
      exact ⟨h3, by omega, h5, h11, Or.inr ⟨by omega, by omega, by omega, [], trivial, p7, fun s hs => absurd hs List.not_mem_nil, p8.symm⟩⟩
  rename_i d1
  rw [if_neg d1]
  split at h1
  · rename_i d2
    rw [if_pos d2]
    replace hb : a E 11 = 7 + a E 5 ∧ 3 ≤ a 72 6 ∧ a 72 6 ≤ 6 := by
      rcases hb with q | q
      · omega
      · exfalso; omega
    unfold tnF at h1 ⊢
    split at h1
    · exact bad (by decide) h1
    rename_i c1
    rw [if_neg c1]
    split at h1
    · exact bad (by decide) h1
    rename_i c2
    rw [if_neg c2]
    obtain ⟨q4, q72, qv, qE, qx⟩ := se_c (m := a) (v := a 75 5) hE hb.2 _ rfl
    unfold BI
    rw [q72 3 (by decide), qE 4 (by omega), qE 5 (by omega), qE 11 (by omega), q4]
    exact ⟨h3, by omega, h5, h11, Or.inl ⟨by omega, hb.1⟩⟩
  rename_i d2
  rw [if_neg d2]
  split at h1
  · rename_i d4
    rw [if_pos d4]
    replace hb : (7 ≤ a 72 6 ∧ a 72 6 ≤ 14) ∧ a E 11 + a 72 7 = 7 + a E 5 + a 72 8 ∧ (0 ≤ a 72 8 ∧ a 72 8 ≤ 8) ∧ ∃ W, CW a W := by
      rcases hb with q | q
      · exfalso; omega
      · exact ⟨by omega, q.2⟩
    obtain ⟨hw, hs, h8, W, W1, W2, W3, W4⟩ := hb
    unfold tdF at h1 ⊢
    split at h1
    · exact bad (by decide) h1
    rename_i c1
    rw [if_neg c1]
    split at h1
    · exact bad (by decide) h1
    rename_i c2
    rw [if_neg c2]
    split at h1
    · exact bad (by decide) h1
    rename_i c3
    rw [if_neg c3]
    split at h1
    · rename_i c4
      rw [if_pos c4]
      obtain ⟨q1, q2, q3, q4, q5, q6, q7, q8, q9⟩ := op_c (m := a) _ rfl
      unfold BI
      rw [q6 3 (by decide) (by decide) (by decide), q9 E 4 (by omega) (by omega) (by omega), q9 E 5 (by omega) (by omega) (by omega), q9 E 11 (by omega) (by omega) (by omega), q6 4 (by decide) (by decide) (by decide), q6 6 (by decide) (by decide) (by decide), q3, q4]
      rw [W2] at q1 q2
      refine ⟨h3, by omega, h5, h11, Or.inr ⟨by omega, by omega, ⟨by omega, by unfold tooR at c2; omega⟩, 36 :: W, ⟨q1, stk_lt (n := W.length) (fun j hj => q2 j (by omega)) W (Int.le_refl _) W1⟩, by rw [q3, List.length_cons]; omega, fun s hs => ?_, ?_⟩⟩
      · rcases List.mem_cons.1 hs with t | t
        · exact Or.inl t
        · exact W3 s t
      · rw [q4]
        show ((if (36 : Int) = 36 then opW W + 1 else opW W : Nat) : Int) = _
        rw [if_pos rfl]; omega
    rename_i c4
    rw [if_neg c4]
    have un : ∀ s v, okW s → ¬ s = 36 → BI (zup (offF (kuF a E) s) 72 9 v) E (k + 1) := fun s v ok n36 => by
      obtain ⟨q1, q2, q3, q4, q5, q6, q7, q8⟩ := un_c (m := a) (s := s) (v := v) hE _ rfl
      unfold BI
      rw [q5 3 (by decide) (by decide), q7 4 (by decide), q6, q7 11 (by decide), q5 4 (by decide) (by decide), q5 6 (by decide) (by decide), q3, q5 8 (by decide) (by decide)]
      rw [W2] at q1 q2
      refine ⟨h3, by omega, by unfold tooR at c2; omega, h11, Or.inr ⟨by omega, by omega, h8, s :: W, ⟨q1, stk_lt (n := W.length) (fun j hj => q2 j (by omega)) W (Int.le_refl _) W1⟩, by rw [q3, List.length_cons]; omega, fun t ht => ?_, ?_⟩⟩
      · rcases List.mem_cons.1 ht with y | y
        · rw [y]; exact ok
        · exact W3 t y
      · rw [q5 8 (by decide) (by decide)]
        show ((if s = 36 then opW W + 1 else opW W : Nat) : Int) = _
        rw [if_neg n36]; exact W4
    split at h1
    · rename_i c5
      rw [if_pos c5]
      exact un 23 1 (Or.inr (Or.inr (by omega))) (by decide)
    rename_i c5
    rw [if_neg c5]
    split at h1
    · rename_i c6
      rw [if_pos c6]
      exact un 35 0 (Or.inr (Or.inl rfl)) (by decide)
    rename_i c6
    rw [if_neg c6]
    obtain ⟨q1, q2, q3, q4, q5, q6, q7, q8, q9⟩ := lf_c (m := a) (s := kd) (v := if kd = 2 then a 75 5 else 0) hE _ rfl
    unfold BI CW
    rw [q2 3 (by decide), q5 4 (by decide) (by decide), q3, q4, q1, q2 6 (by decide), q2 7 (by decide), q2 8 (by decide)]
    exact ⟨h3, by omega, by unfold tooR at c2; omega, by omega, Or.inr ⟨by unfold tooR at c2; omega, by omega, h8, W, stk_f (fun j => q9 73 j (by decide) (by omega) (by omega) (by omega)) W W1, W2, W3, W4⟩⟩
  rename_i d4
  rw [if_neg d4]
  split at h1
  · rename_i d5
    rw [if_pos d5]
    replace hb : (7 ≤ a 72 6 ∧ a 72 6 ≤ 13) ∧ a E 11 + a 72 7 = 7 + a E 5 + a 72 8 ∧ (0 ≤ a 72 8 ∧ a 72 8 ≤ 8) ∧ ∃ W, CW a W := by
      rcases hb with q | q
      · exfalso; omega
      · exact ⟨by omega, q.2⟩
    obtain ⟨hw, hs, h8, W, hW⟩ := hb
    have hWl := hW.2.1
    unfold tgF at h1 ⊢
    split at h1
    · rename_i c1
      rw [if_pos c1]
      obtain ⟨r7, r11, rW⟩ := wr_CW (b := 1) hE (Int.le_refl _) hW
      have ro := fun x j => wrF_o (b := 1) hE (a 72 7).toNat a x j
      unfold teF at h1 ⊢
      generalize wrF E 1 (a 72 7).toNat a = w at *
      have w3 := ro 72 3 (by omega)
      have w4 := ro 72 4 (by omega)
      have w6 := ro 72 6 (by omega)
      have w8 := ro 72 8 (by omega)
      have wE4 := ro E 4 (by omega)
      have wE5 := ro E 5 (by omega)
      have pl := popW_1 W hW.2.2.1
      have plen := popW_len 1 W
      split at h1
      · rename_i c2
        rw [if_pos c2]
        obtain ⟨q1, q2, q3, q4⟩ := cl_c (w := w) (x := if 0 < w 72 7 - 1 then w 72 7 - 1 else 0) (y := w 72 8 - 1) _ rfl
        rcases pl with pl | ⟨W', pl, po⟩
        · exfalso
          have := hW.2.2.2
          rw [pl.2] at this
          omega
        rw [pl, List.length_cons] at r7 r11 plen
        rw [pl] at rW
        have e7 : (if 0 < w 72 7 - 1 then w 72 7 - 1 else 0) = W'.length := by split <;> omega
        rw [e7] at q1
        rw [e7]
        rw [e7] at q2 q3 q4
        generalize zup (zup w 72 7 (W'.length : Int)) 72 8 (w 72 8 - 1) = m1 at *
        unfold BI CW
        rw [q3 3 (by decide) (by decide), q4 E 4 n72, q4 E 5 n72, q4 E 11 n72, q3 4 (by decide) (by decide), q3 6 (by decide) (by decide), q1, q2, w3, w4, w6, w8, wE4, wE5]
        refine ⟨h3, by omega, h5, by omega, Or.inr ⟨by omega, by omega, by omega, W', stk_f (fun j => q4 73 j (by decide)) W' rW.1.2, rfl, fun s hs => rW.2.2.1 s (List.mem_cons_of_mem _ hs), ?_⟩⟩
        have := hW.2.2.2
        rw [po] at this
        omega
      rename_i c2
      rw [if_neg c2]
      split at h1
      · exact bad (by decide) h1
      rename_i c3
      rw [if_neg c3]
      have h80 : a 72 8 = 0 := by omega
      have pn : popW 1 W = [] := by
        rcases pl with pl | ⟨W', pl, po⟩
        · exact pl.1
        · exfalso
          have := hW.2.2.2
          rw [po] at this
          omega
      clear pl
      rw [pn, List.length_nil] at r7 r11
      obtain ⟨f4, fx⟩ := fn_c (w := w) (k := a 72 6) hE hw.2
      split at h1
      · rename_i c4
        rw [if_pos c4]
        generalize fnF w E (a 72 6) = v at *
        have q : zup (zup v 72 4 1) 72 6 (a 72 6 + 1) 72 6 = a 72 6 + 1 := zup_s _ _ _ _
        have qo : ∀ x j, ¬ (x = 72 ∧ (j = 4 ∨ j = 6)) → zup (zup v 72 4 1) 72 6 (a 72 6 + 1) x j = v x j := fun x j hx => by
          unfold zup
          rw [if_neg (by omega), if_neg (by omega)]
        obtain ⟨p4, p7, p8, p9, p74, p72, pE, _⟩ := be_c (m := zup (zup v 72 4 1) 72 6 (a 72 6 + 1)) hE q
        unfold BI
        rw [p72 3 (by decide) (by decide) (by decide) (by decide), pE 4 (by decide), pE 5 (by decide), pE 11 (by decide), p4, p72 6 (by decide) (by decide) (by decide) (by decide), p7, p8, q, qo 72 3 (by omega), qo E 4 (by omega), qo E 5 (by omega), qo E 11 (by omega), fx 72 3 (by omega), fx E 4 (by omega), fx E 5 (by omega), fx E 11 (by omega), w3, wE4, wE5]
        exact ⟨h3, by omega, h5, by omega, Or.inr ⟨by omega, by omega, by omega, [], trivial, p7, fun s hs => absurd hs List.not_mem_nil, p8.symm⟩⟩
      · rename_i c4
        rw [if_neg c4]
        generalize fnF w E (a 72 6) = v at *
        have qo : ∀ x j, ¬ (x = 72 ∧ j = 4) → zup v 72 4 1 x j = v x j := fun x j hx => by unfold zup; rw [if_neg hx]
        have q4 : zup v 72 4 1 72 4 = 1 := zup_s _ _ _ _
        unfold BI
        rw [qo 72 3 (by omega), qo E 4 (by omega), qo E 5 (by omega), qo E 11 (by omega), q4, fx 72 3 (by omega), fx E 4 (by omega), fx E 5 (by omega), fx E 11 (by omega), w3, wE4, wE5]
        exact ⟨h3, by omega, h5, by omega, Or.inl ⟨by omega, by omega⟩⟩
    rename_i c1
    rw [if_neg c1]
    split at h1
    · exact bad (by decide) h1
    rename_i c2
    rw [if_neg c2]
    split at h1
    · exact bad (by decide) h1
    rename_i c3
    rw [if_neg c3]
    obtain ⟨ok, n36, n35, n23, n2, bw, bb⟩ := bdS_ok c1
    obtain ⟨k5, ko⟩ := ku_c (m := a) (E := E)
    have k7 := ko 72 7 (by omega)
    have hWk : CW (kuF a E) W := ⟨stk_f (fun j => ko 73 j (by omega)) W hW.1, k7.trans hW.2.1, hW.2.2.1, (ko 72 8 (by omega)).symm ▸ hW.2.2.2⟩
    obtain ⟨r7, r11, rW⟩ := wr_CW (b := bdS kd) hE (by omega) hWk
    have ro := fun x j => wrF_o (b := bdS kd) hE (a 72 7).toNat (kuF a E) x j
    rw [k7] at r7 r11 rW
    obtain ⟨q1, q2, q3, q4, q5, q6, q7, q8⟩ := sg_c (m := a) (E := E) (k := kd) (v := if bdS kd < 4 then 1 else 0) rfl _ rfl
    generalize wrF E (bdS kd) (a 72 7).toNat (kuF a E) = w at *
    have plen := popW_len (bdS kd) W
    have w3 := (ro 72 3 (by omega)).trans (ko 72 3 (by omega))
    have w6 := (ro 72 6 (by omega)).trans (ko 72 6 (by omega))
    have w8 := (ro 72 8 (by omega)).trans (ko 72 8 (by omega))
    have wE4 := (ro E 4 (by omega)).trans (ko E 4 (by omega))
    have wE5 := (ro E 5 (by omega)).trans k5
    have kE11 := ko E 11 (by omega)
    unfold BI
    rw [q6 3 (by decide) (by decide) (by decide), q8 E 4 (by omega) (by omega) (by omega), q8 E 5 (by omega) (by omega) (by omega), q8 E 11 (by omega) (by omega) (by omega), q4, q6 6 (by decide) (by decide) (by decide), q3, q6 8 (by decide) (by decide) (by decide), w3, w6, w8, wE4, wE5]
    rw [r7] at q1 q2
    refine ⟨h3, by omega, by unfold tooR at c3; omega, by omega, Or.inr ⟨by omega, by omega, h8, kd :: popW (bdS kd) W, ⟨q1, stk_lt (n := (popW (bdS kd) W).length) (fun j hj => q2 j (by omega)) _ (Int.le_refl _) rW.1⟩, by rw [q3, r7, List.length_cons]; omega, fun s hs => ?_, ?_⟩⟩
    · rcases List.mem_cons.1 hs with t | t
      · rw [t]; exact ok
      · exact rW.2.2.1 s t
    · rw [q6 8 (by decide) (by decide) (by decide), w8]
      show ((if kd = 36 then opW (popW (bdS kd) W) + 1 else opW (popW (bdS kd) W) : Nat) : Int) = _
      rw [if_neg n36, popW_op (by omega)]
      exact hW.2.2.2
  rename_i d5
  rw [if_neg d5]
  replace hb : a E 11 = 7 + a E 5 := by
    rcases hb with q | q
    · exact q.2
    · exfalso; omega
  unfold tsF at h1 ⊢
  split at h1
  · rename_i c1
    rw [if_pos c1]
    have qo : ∀ x j, ¬ (x = 72 ∧ j = 4) → zup a 72 4 1 x j = a x j := fun x j hx => by unfold zup; rw [if_neg hx]
    have q4 : zup a 72 4 1 72 4 = 1 := zup_s _ _ _ _
    unfold BI
    rw [qo 72 3 (by omega), qo E 4 (by omega), qo E 5 (by omega), qo E 11 (by omega), q4]
    exact ⟨h3, by omega, h5, h11, Or.inl ⟨by omega, hb⟩⟩
  · exact bad (by decide) h1
