def tkF (m : zM) (E k : Int) : zM := if m 72 4 = 1 then twF m E k else if m 72 4 = 2 then tnF m E k else if m 72 4 = 4 then tdF m E k else if m 72 4 = 5 then tgF m E k else tsF m k
def tkR (m : zM) (E k : Int) : zM := if m 72 4 = 1 then twR m E k else if m 72 4 = 2 then tnF m E k else if m 72 4 = 4 then tdR m E k else if m 72 4 = 5 then tgR m E k else tsF m k
/-- the reader's numbers are as they can be -/
def KR (m : zM) (E : Int) : Prop := m 72 3 = E ∧ (0 ≤ m E 4 ∧ m E 4 ≤ 1000) ∧ (0 ≤ m E 5 ∧ m E 5 ≤ 96) ∧ (0 ≤ m E 11 ∧ 0 ≤ m 72 7 ∧ 0 ≤ m 72 8 ∧ m 72 8 ≤ 8) ∧ m E 11 + m 72 7 = 7 + m E 5 + m 72 8 ∧ (m 72 4 = 1 ∨ (m 72 4 = 2 ∧ 3 ≤ m 72 6 ∧ m 72 6 ≤ 6) ∨ m 72 4 = 3 ∨ (m 72 4 = 4 ∧ 7 ≤ m 72 6 ∧ m 72 6 ≤ 14) ∨ (m 72 4 = 5 ∧ 7 ≤ m 72 6 ∧ m 72 6 ≤ 13)) ∧ (m 72 7 = 0 ∨ m 72 4 = 4 ∨ m 72 4 = 5)
def wnF (m : zM) (E w v : Int) : zM := fnF (addF (bgF m E w) E 2 v) E w
def cl0F (m : zM) (E : Int) : zM := zup (zup (zup (zup (zup (zup (zup m E 0 8) E 1 24) E 2 3) E 3 2) E 4 0) E 5 0) E 11 0
def cl1F (m : zM) (E : Int) : zM := fnF (addF (addF (addF (bgF (wnF (cl0F m E) E 7 1) E 8) E 15 0) E 2 10) E 33 0) E 8
def clF (m : zM) (E : Int) : zM := fnF (addF (bgF (wnF (wnF (cl1F m E) E 9 10) E 10 0) E 11) E 13 0) E 11
theorem addF_11 {m : zM} {E s v : Int} : addF m E s v E 11 = m E 11 + 1 := zup_e rfl rfl
theorem bgF_11 {m : zM} {E w : Int} : bgF m E w E 11 = m E 11 := by
  unfold bgF
  split
  · split
    · rw [zup_c (by omega), zup_c (by omega)]
    · rw [zup_j (by decide), zup_c (by omega), zup_c (by omega)]
  · rw [zup_j (by decide)]
theorem fnF_11 {m : zM} {E w : Int} : fnF m E w E 11 = m E 11 := by
  unfold fnF
  split
  · rw [zup_c (by omega)]
  · rfl
theorem wnF_11 {m : zM} {E w v : Int} : wnF m E w v E 11 = m E 11 + 1 := by
  unfold wnF
  rw [fnF_11, addF_11, bgF_11]
section L2
variable {Ω : zΩ} {Q : List zV → zM → Prop} {m : zM}
theorem e_wn {E w v : Int} (hw : 7 ≤ w ∧ w ≤ 13) (h : 0 ≤ m E 11 ∧ m E 11 < 112) (K : Q [] (wnF m E w v)) : zG Ω 2 0 [zR 0 E, zI w, zI v] [] m Q :=
  w_X0_writeNumber_0 (e_begin (by omega) (e_add (by rw [bgF_11]; exact h) (e_finish (by omega) K)))
theorem e_clear {E : Int} (K : Q [] (clF m E)) : zG Ω 1 0 [zR 0 E] [] m Q := by
  have c0 : cl0F m E E 11 = 0 := zup_e rfl rfl
  have c1 : cl1F m E E 11 = 4 := by
    unfold cl1F
    rw [fnF_11, addF_11, addF_11, addF_11, bgF_11, wnF_11, c0]; rfl
  refine w_X0_clear_0 (e_wn (m := cl0F m E) (by omega) (by rw [c0]; omega) (e_begin (by omega) (e_add (by rw [bgF_11, wnF_11, c0]; omega) (e_add (by rw [addF_11, bgF_11, wnF_11, c0]; omega) (e_add (by rw [addF_11, addF_11, bgF_11, wnF_11, c0]; omega) (e_finish (by omega) (e_wn (m := cl1F m E) (by omega) (by rw [c1]; omega) (e_wn (by omega) (by rw [wnF_11, c1]; omega) (e_begin (by omega) (e_add (by rw [bgF_11, wnF_11, wnF_11, c1]; omega) (e_finish (by omega) K)))))))))))
end L2
