/-! the class's reader: a token taken. k its kind, m 75 5 its number, m 75 4 its place -/
abbrev tooR (m : zM) (E k : Int) : Prop := 14 ≤ m 72 6 ∨ (k = 36 ∧ 8 ≤ m 72 8) ∨ (¬ k = 36 ∧ (96 ≤ m E 5 ∨ (k = 2 ∧ 99999 < m 75 5)))
abbrev canR (k : Int) : Prop := sdA k ∨ k = 23 ∨ k = 31 ∨ k = 36
def kuF (m : zM) (E : Int) : zM := zup m E 5 (m E 5 + 1)
def twF (m : zM) (E k : Int) : zM := if k < 3 ∨ 11 < k then failF m 1 else if ¬ zand (m 72 5) (zshl 1 k) = 0 then failF m 3 else if k ≤ 6 then zup (zup (zup (zup m 72 5 (zor (m 72 5) (zshl 1 k))) E 4 (m E 4 + 1)) 72 6 k) 72 4 2 else beF (zup (zup (zup m 72 5 (zor (m 72 5) (zshl 1 k))) E 4 (m E 4 + 1)) 72 6 k) E
abbrev hiN (w : Int) : Int := if w = 3 then 24 else if w = 5 then 9 else 99
abbrev loN (w : Int) : Int := if w = 6 then 0 else 1
def seF (m : zM) (E w v : Int) : zM := if w = 3 then zup m E 0 v else if w = 4 then zup m E 1 v else if w = 5 then zup m E 2 v else zup m E 3 v
def tnF (m : zM) (E k : Int) : zM := if ¬ k = 2 then failF m 1 else if ¬ (loN (m 72 6) ≤ m 75 5 ∧ m 75 5 ≤ hiN (m 72 6)) then failF m 2 else zup (seF m E (m 72 6) (m 75 5)) 72 4 3
def tsF (m : zM) (k : Int) : zM := if k = 39 then zup m 72 4 1 else failF m 1
def tdF (m : zM) (E k : Int) : zM := if ¬ canR k ∨ (k = 23 ∧ m 72 9 = 0) then failF m 1 else if tooR m E k then failF m 2 else if k = 20 ∧ ¬ m 72 6 = 10 then failF m 4 else if k = 36 then zup (zup (zup (offF m 36) 72 8 (m 72 8 + 1)) 74 (m 72 8 + 1) 0) 72 9 1 else if k = 23 then zup (offF (kuF m E) 23) 72 9 1 else if k = 31 then zup (offF (kuF m E) 35) 72 9 0 else zup (addF (kuF m E) E k (if k = 2 then m 75 5 else 0)) 72 4 5
def twR (m : zM) (E k : Int) : zM := if k < 3 ∨ 11 < k then failF m 1 else if ¬ zand (m 72 5) (zshl 1 k) = 0 then failF m 3 else if k ≤ 6 then zup (zup (zup (zup m 72 5 (zor (m 72 5) (zshl 1 k))) E 4 (m E 4 + 1)) 72 6 k) 72 4 2 else beR (zup (zup (zup m 72 5 (zor (m 72 5) (zshl 1 k))) E 4 (m E 4 + 1)) 72 6 k) E
def tdR (m : zM) (E k : Int) : zM := if ¬ canR k ∨ (k = 23 ∧ m 72 9 = 0) then failF m 1 else if tooR m E k then failF m 2 else if k = 20 ∧ ¬ m 72 6 = 10 then failF m 4 else if k = 36 then zup (zup (zup (offF m 36) 72 8 (m 72 8 + 1)) 72 2 (zand (m 72 2) (zxor (zshl 1 (m 72 8 + 1)) (-1)))) 72 9 1 else if k = 23 then zup (offF (kuF m E) 23) 72 9 1 else if k = 31 then zup (offF (kuF m E) 35) 72 9 0 else zup (addF (kuF m E) E k (if k = 2 then m 75 5 else 0)) 72 4 5
section L2
variable {Ω : zΩ} {Q : List zV → zM → Prop} {m : zM}
theorem e_too {E k : Int} {A B : zM → Prop} (hE : E = 76 ∨ E = 82) (h3 : m 72 3 = E) (f : tooR m E k → B m) (n : ¬ tooR m E k → A m) : zG Ω 37 0 [zR 3 72, zI k] [] m (fun r m1 => zk1 r fun v => if v = 0 then A m1 else B m1) := by
  refine w_X3_isTooMuch_0 ?_
  rw [h3]
  refine zif (fun z => zif (fun y => zif (fun w => zk1_f (n ?_)) fun w => zk1_t (f ?_)) fun y => ⟨by omega, zif (fun w => zif (fun t => zif (fun s => zk1_t (f ?_)) fun s => zk1_f (n ?_)) fun t => zk1_f (n ?_)) fun w => zk1_t (f ?_)⟩) fun z => zk1_t (f (Or.inl (by omega)))
  · unfold tooR; omega
  · unfold tooR; omega
  · unfold tooR; omega
  · unfold tooR; omega
  · unfold tooR; omega
  · unfold tooR; omega
theorem e_word {E k : Int} (hE : E = 76 ∨ E = 82) (h3 : m 72 3 = E) (h4 : 0 ≤ m E 4 ∧ m E 4 ≤ 1000) (K : Q [] (twR m E k)) : zG Ω 30 0 [zR 3 72, zI k] [] m Q := by
  unfold twR at K
  refine w_X3_takeWord_0 (zif (fun z => e_fail ?_) fun z => zif (fun y => e_fail ?_) fun y => zif (fun w => ?_) fun w => e_fail ?_)
  · rwa [if_pos (Or.inl z)] at K
  · rwa [if_pos (Or.inr y)] at K
  · rw [if_neg (by omega), if_neg (fun t => t w)] at K
    rw [h3]
    have e4 : zup m 72 5 (zor (m 72 5) (zshl 1 k)) E 4 = m E 4 := zup_c (by omega)
    rw [e4, zw_i (by omega) (by omega)]
    refine ⟨by omega, zif (fun t => ?_) fun t => ?_⟩
    · rw [if_neg (by omega)] at K
      refine e_beginE hE (by rw [zup_j (by decide), zup_c (by omega), zup_j (by decide)]; exact h3) (by rw [zup_e rfl rfl]; omega) K
    · rwa [if_pos (by omega)] at K
  · rwa [if_neg (by omega), if_pos w] at K
theorem e_number {E k : Int} (hE : E = 76 ∨ E = 82) (h3 : m 72 3 = E) (h6 : 3 ≤ m 72 6 ∧ m 72 6 ≤ 6) (K : Q [] (tnF m E k)) : zG Ω 31 0 [zR 3 72, zI k] [] m Q := by
  unfold tnF at K
  have most : ∀ {Q' : List zV → zM → Prop}, Q' [zI (hiN (m 72 6))] m → zG Ω 32 0 [zR 3 72] [] m Q' := fun {Q'} h => by
    unfold hiN at h
    refine w_X3_mostOfWord_0 (zif (fun z => ?_) fun z => zif (fun y => ?_) fun y => ?_)
    · rwa [if_pos z] at h
    · rwa [if_neg z, if_pos y] at h
    · rwa [if_neg z, if_neg y] at h
  have sett : ∀ {Q' : List zV → zM → Prop} {v : Int}, Q' [] (seF m E (m 72 6) v) → zG Ω 7 0 [zR 0 E, zI (m 72 6), zI v] [] m Q' := fun {Q' v} h => by
    unfold seF at h
    refine w_X0_settle_0 (zif (fun z => ?_) fun z => zif (fun y => ?_) fun y => zif (fun x => ?_) fun x => ?_)
    · rwa [if_pos z] at h
    · rwa [if_neg z, if_pos y] at h
    · rwa [if_neg z, if_neg y, if_pos x] at h
    · rwa [if_neg z, if_neg y, if_neg x] at h
  refine w_X3_takeNumber_0 (zif (fun z => ?_) fun z => e_fail ?_)
  · rw [if_neg (fun t => t z)] at K
    refine zif (fun y => most (zk1_i (b_within (fun w => ⟨by omega, ?_⟩) fun w => e_fail ?_))) fun y => most (zk1_i (b_within (fun w => ⟨by omega, ?_⟩) fun w => e_fail ?_))
    · have el : loN (m 72 6) = 0 := by unfold loN; rw [if_pos y]
      rw [if_neg (fun t => t (by rw [el]; exact w))] at K
      rw [h3]
      exact sett K
    · have el : loN (m 72 6) = 0 := by unfold loN; rw [if_pos y]
      rwa [if_pos (fun t => w (by rw [el] at t; exact t))] at K
    · have el : loN (m 72 6) = 1 := by unfold loN; rw [if_neg y]
      rw [if_neg (fun t => t (by rw [el]; exact w))] at K
      rw [h3]
      exact sett K
    · have el : loN (m 72 6) = 1 := by unfold loN; rw [if_neg y]
      rwa [if_pos (fun t => w (by rw [el] at t; exact t))] at K
  · rwa [if_pos z] at K
theorem e_semi {k : Int} (K : Q [] (tsF m k)) : zG Ω 33 0 [zR 3 72, zI k] [] m Q := by
  unfold tsF at K
  refine w_X3_takeSemicolon_0 (zif (fun z => ?_) fun z => e_fail ?_)
  · rwa [if_pos z] at K
  · rwa [if_neg z] at K
theorem e_can {k : Int} {A B : zM → Prop} (f : canR k → B m) (n : ¬ canR k → A m) : zG Ω 35 0 [zI k] [] m (fun r m1 => zk1 r fun v => if v = 0 then A m1 else B m1) := by
  refine w_X3_canBegin_0 (b_side (fun z => zk1_t (f (Or.inl z))) fun z => zif (fun y => zk1_t (f (Or.inr (Or.inl y)))) fun y => zif (fun w => zk1_t (f (Or.inr (Or.inr (Or.inl w))))) fun w => zif (fun t => zk1_t (f (Or.inr (Or.inr (Or.inr t))))) fun t => zk1_f (n fun q => ?_))
  rcases q with q | q | q | q
  · exact z q
  · exact y q
  · exact w q
  · exact t q
theorem e_side {E k : Int} (hE : E = 76 ∨ E = 82) (h3 : m 72 3 = E) (h7 : 0 ≤ m 72 7 ∧ m 72 7 < 112) (h8 : 0 ≤ m 72 8 ∧ m 72 8 ≤ 8) (h11 : 0 ≤ m E 11 ∧ m E 11 < 112) (h5 : 0 ≤ m E 5 ∧ m E 5 ≤ 96) (K : Q [] (tdR m E k)) : zG Ω 36 0 [zR 3 72, zI k] [] m Q := by
  unfold tdR at K
  have bad : (¬ canR k ∨ (k = 23 ∧ m 72 9 = 0)) → zG Ω 36 20 [zR 3 72, zU] [] m Q := fun z => by
    rw [if_pos z] at K
    exact w_X3_takeSide_20 (e_fail (w_X3_takeSide_204 K))
  have good : ¬ (¬ canR k ∨ (k = 23 ∧ m 72 9 = 0)) → zG Ω 36 28 [zR 3 72, zI k] [] m Q := fun z => by
    rw [if_neg z] at K
    refine w_X3_takeSide_28 (e_too hE h3 (fun y => e_fail (w_X3_takeSide_204 ?_)) fun y => ?_)
    · rwa [if_pos y] at K
    rw [if_neg y] at K
    have rest : ¬ (k = 20 ∧ ¬ m 72 6 = 10) → zG Ω 36 67 [zR 3 72, zI k] [] m Q := fun w => by
      rw [if_neg w] at K
      have k5 : zw (m E 5 + 1) = m E 5 + 1 := zw_i (by omega) (by omega)
      have k3 : kuF m E 72 3 = E := by unfold kuF; rw [zup_c (by omega)]; exact h3
      have k7 : kuF m E 72 7 = m 72 7 := by unfold kuF; exact zup_c (by omega)
      have k11 : kuF m E E 11 = m E 11 := by unfold kuF; exact zup_j (by decide)
      have k55 : kuF m E 75 5 = m 75 5 := by unfold kuF; exact zup_c (by omega)
      refine w_X3_takeSide_67 (zif (fun t => ?_) fun t => zif (fun s => w_X3_takeSide_114 ⟨by omega, ?_⟩) fun s => zif (fun u => w_X3_takeSide_114 ⟨by omega, ?_⟩) fun u => ⟨by omega, ?_⟩)
      · rw [if_pos t] at K
        have t8 : m 72 8 < 8 := by unfold tooR at y; omega
        refine e_off h7 ?_
        have e8 : offF m 36 72 8 = m 72 8 := by unfold offF; rw [zup_j (by decide), zup_c (by decide)]
        show zG Ω 203 0 [zR 3 72, zI 0] [] (zup (offF m 36) 72 8 (zw (offF m 36 72 8 + 1))) _
        rw [e8, zw_i (by omega) (by omega)]
        have n2 : zup (offF m 36) 72 8 (m 72 8 + 1) 72 2 = m 72 2 := by unfold offF; rw [zup_j (by decide), zup_j (by decide), zup_c (by decide)]
        have n8 : zup (offF m 36) 72 8 (m 72 8 + 1) 72 8 = m 72 8 + 1 := zup_e rfl rfl
        refine w_X3_noteCompared_0 ?_
        rw [if_pos rfl, n2, n8]
        exact w_X3_takeSide_204 K
      · rw [if_neg t, if_pos s] at K
        rw [h3, k5, if_pos s]
        refine e_off (m := kuF m E) (by rw [k7]; exact h7) ?_
        show if k = 23 then _ else _
        rw [if_pos s]
        exact w_X3_takeSide_204 K
      · rw [if_neg t, if_neg s, if_pos u] at K
        rw [h3, k5, if_neg s]
        refine e_off (m := kuF m E) (by rw [k7]; exact h7) ?_
        show if k = 23 then _ else _
        rw [if_neg s]
        exact w_X3_takeSide_204 K
      · rw [if_neg t, if_neg s, if_neg u] at K
        rw [h3, k5]
        have k3' : zup m E 5 (m E 5 + 1) 72 3 = E := k3
        have k55' : zup m E 5 (m E 5 + 1) 75 5 = m 75 5 := k55
        rw [k3', k55']
        refine ⟨by omega, zif (fun v => ?_) fun v => ?_⟩
        · rw [if_pos v] at K
          exact e_add (m := kuF m E) (by rw [k11]; exact h11) (w_X3_takeSide_204 K)
        · rw [if_neg v] at K
          exact e_add (m := kuF m E) (by rw [k11]; exact h11) (w_X3_takeSide_204 K)
    refine zif (fun w => zif (fun t => rest fun q => q.2 t) fun t => e_fail (w_X3_takeSide_204 ?_)) fun w => rest fun q => w q.1
    rwa [if_pos ⟨w, t⟩] at K
  refine w_X3_takeSide_0 (e_can (fun z => zif (fun y => zif (fun w => bad (Or.inr ⟨y, w⟩)) fun w => good fun q => q.elim (fun t => t z) fun t => w t.2) fun y => good fun q => q.elim (fun t => t z) fun t => y t.1) fun z => bad (Or.inl z))
end L2
