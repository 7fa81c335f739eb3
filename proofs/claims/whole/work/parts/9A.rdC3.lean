def teF (m : zM) (E k : Int) : zM := if k = 37 ∧ 0 < m 72 8 then zup (zup (wrF E 1 (m 72 7).toNat m) 72 7 (if 0 < wrF E 1 (m 72 7).toNat m 72 7 - 1 then wrF E 1 (m 72 7).toNat m 72 7 - 1 else 0)) 72 8 (wrF E 1 (m 72 7).toNat m 72 8 - 1) else if 0 < m 72 8 ∨ (¬ k = 39 ∧ (¬ k = 38 ∨ m 72 6 < 11)) then failF m 1 else if k = 38 then beF (zup (zup (fnF (wrF E 1 (m 72 7).toNat m) E (m 72 6)) 72 4 1) 72 6 (m 72 6 + 1)) E else zup (fnF (wrF E 1 (m 72 7).toNat m) E (m 72 6)) 72 4 1
def sg1F (m : zM) (E k : Int) : zM := offF (wrF E (bdS k) (m 72 7).toNat (kuF m E)) k
def sg2F (m : zM) (E k : Int) : zM := if bdS k ≤ 4 then zup (sg1F m E k) 74 (m 72 8) (if bdS k = 4 then 1 else 0) else sg1F m E k
def tgF (m : zM) (E k : Int) : zM := if bdS k = 0 then teF m E k else if bdS k = 4 ∧ ¬ m 74 (m 72 8) = 0 then failF m 1 else if tooR m E k then failF m 2 else zup (zup (sg2F m E k) 72 9 (if bdS k < 4 then 1 else 0)) 72 4 4
def teR (m : zM) (E k : Int) : zM := if k = 37 ∧ 0 < m 72 8 then zup (zup (wrF E 1 (m 72 7).toNat m) 72 7 (if 0 < wrF E 1 (m 72 7).toNat m 72 7 - 1 then wrF E 1 (m 72 7).toNat m 72 7 - 1 else 0)) 72 8 (wrF E 1 (m 72 7).toNat m 72 8 - 1) else if 0 < m 72 8 ∨ (¬ k = 39 ∧ (¬ k = 38 ∨ m 72 6 < 11)) then failF m 1 else if k = 38 then beR (zup (zup (fnF (wrF E 1 (m 72 7).toNat m) E (m 72 6)) 72 4 1) 72 6 (m 72 6 + 1)) E else zup (fnF (wrF E 1 (m 72 7).toNat m) E (m 72 6)) 72 4 1
def sg2R (m : zM) (E k : Int) : zM := if bdS k ≤ 4 then zup (sg1F m E k) 72 2 (if bdS k = 4 then zor (m 72 2) (zshl 1 (m 72 8)) else zand (m 72 2) (zxor (zshl 1 (m 72 8)) (-1))) else sg1F m E k
def tgR (m : zM) (E k : Int) : zM := if bdS k = 0 then teR m E k else if bdS k = 4 ∧ ¬ zand (m 72 2) (zshl 1 (m 72 8)) = 0 then failF m 1 else if tooR m E k then failF m 2 else zup (zup (sg2R m E k) 72 9 (if bdS k < 4 then 1 else 0)) 72 4 4
/-- writing leaves all but the code, its size and the number of those that wait -/
theorem wrF_o {E b : Int} (hE : E = 76 ∨ E = 82) : ∀ (k : Nat) (m : zM) (x j : Int), ¬ (x = E + 1 ∨ x = E + 2 ∨ (x = E ∧ j = 11) ∨ (x = 72 ∧ j = 7)) → wrF E b k m x j = m x j := by
  intro k
  induction k with
  | zero => intro m x j _; rfl
  | succ k ih =>
    intro m x j h
    unfold wrF
    split
    · rfl
    · rw [ih _ x j h]
      unfold addF zup
      rw [if_neg (by omega), if_neg (by omega), if_neg (by omega), if_neg (by omega)]
theorem wrF_7 {E b : Int} (hE : E = 76 ∨ E = 82) : ∀ (k : Nat) (m : zM), m 72 7 = k → 0 ≤ wrF E b k m 72 7 ∧ wrF E b k m 72 7 ≤ k ∧ wrF E b k m E 11 + wrF E b k m 72 7 = m E 11 + k := by
  intro k
  induction k with
  | zero => intro m h; unfold wrF; omega
  | succ k ih =>
    intro m h
    unfold wrF
    split
    · omega
    · have e7 : zup (addF m E (m 73 (k : Int)) 0) 72 7 k 72 7 = k := zup_e rfl rfl
      have e11 : zup (addF m E (m 73 (k : Int)) 0) 72 7 k E 11 = m E 11 + 1 := by
        unfold addF
        rw [zup_c (by omega), zup_e rfl rfl]
      have := ih _ e7
      omega
section L2
variable {Ω : zΩ} {Q : List zV → zM → Prop} {m : zM}
theorem e_endSide {E k : Int} (hE : E = 76 ∨ E = 82) (h3 : m 72 3 = E) (h7 : 0 ≤ m 72 7 ∧ m 72 7 ≤ 112) (h0 : 0 ≤ m E 11) (h1 : m E 11 + m 72 7 ≤ 112) (h8 : 0 ≤ m 72 8 ∧ m 72 8 ≤ 8) (h6 : 7 ≤ m 72 6 ∧ m 72 6 ≤ 13) (K : Q [] (teR m E k)) : zG Ω 39 0 [zR 3 72, zI k] [] m Q := by
  have wo := fun x j => wrF_o (b := 1) hE (m 72 7).toNat m x j
  have w7 := wrF_7 (b := 1) hE (m 72 7).toNat m (by omega)
  have w8 : wrF E 1 (m 72 7).toNat m 72 8 = m 72 8 := wo 72 8 (by omega)
  have w3 : wrF E 1 (m 72 7).toNat m 72 3 = E := (wo 72 3 (by omega)).trans h3
  have w6 : wrF E 1 (m 72 7).toNat m 72 6 = m 72 6 := wo 72 6 (by omega)
  unfold teR at K
  have fn6 : fnF (wrF E 1 (m 72 7).toNat m) E (m 72 6) 72 6 = m 72 6 := by
    unfold fnF
    rw [if_pos (by omega), zup_c (by omega)]; exact w6
  have fn3 : fnF (wrF E 1 (m 72 7).toNat m) E (m 72 6) 72 3 = E := by
    unfold fnF
    rw [if_pos (by omega), zup_c (by omega)]; exact w3
  have stop : ¬ (k = 37 ∧ 0 < m 72 8) → 0 < m 72 8 ∨ (¬ k = 39 ∧ (¬ k = 38 ∨ m 72 6 < 11)) → zG Ω 29 0 [zR 3 72, zI 1] [] m (fun r1 m1 => zk0 r1 (Q [] m1)) := fun a b => by
    rw [if_neg a, if_pos b] at K
    exact e_fail K
  have fin : ¬ (k = 37 ∧ 0 < m 72 8) → ¬ (0 < m 72 8 ∨ (¬ k = 39 ∧ (¬ k = 38 ∨ m 72 6 < 11))) → zG Ω 43 0 [zR 3 72, zI 1, zU] [] m (fun r2 m2 => zk0 r2 (0 ≤ m2 72 3 ∧ (zG Ω 5 0 [zR 0 (m2 72 3), zI (m2 72 6)] [] m2 (fun r3 m3 => zk0 r3 (if k = 38 then (zG Ω 34 0 [zR 3 72] [] (zup (zup m3 72 4 1) 72 6 (zw ((m3 72 6) + 1))) (fun r4 m4 => zk0 r4 (Q [] m4))) else (Q [] (zup m3 72 4 1))))))) := fun a b => by
    rw [if_neg a, if_neg b] at K
    refine e_write hE h3 h7 h0 h1 ?_
    show 0 ≤ wrF E 1 (m 72 7).toNat m 72 3 ∧ zG Ω 5 0 [zR 0 (wrF E 1 (m 72 7).toNat m 72 3), zI (wrF E 1 (m 72 7).toNat m 72 6)] [] (wrF E 1 (m 72 7).toNat m) _
    rw [w3, w6]
    refine ⟨by omega, e_finish (by omega) ?_⟩
    show if k = 38 then _ else _
    rw [fn6, zw_i (x := m 72 6 + 1) (by omega) (by omega)]
    refine zif (fun z => ?_) fun z => ?_
    · rw [if_pos z] at K
      exact e_beginE hE (by rw [zup_j (by decide), zup_j (by decide)]; exact fn3) (by rw [zup_e rfl rfl]; omega) K
    · rwa [if_neg z] at K
  refine w_X3_takeEndOfSide_0 (zif (fun z => zif (fun y => ?_) fun y => zif (fun w => absurd w y) fun _ => zif (fun w => absurd w (by omega)) fun w => zif (fun t => absurd t (by omega)) fun t => stop (by omega) (by omega)) fun z => zif (fun y => stop (by omega) (by omega)) fun y => zif (fun w => fin (by omega) (by omega)) fun w => zif (fun t => zif (fun s => stop (by omega) (by omega)) fun s => fin (by omega) (by omega)) fun t => stop (by omega) (by omega))
  rw [if_pos ⟨z, y⟩] at K
  refine e_write hE h3 h7 h0 h1 ?_
  show Q [] _
  rw [zw_i (x := wrF E 1 (m 72 7).toNat m 72 7 - 1) (by omega) (by omega), zw_i (x := wrF E 1 (m 72 7).toNat m 72 8 - 1) (by omega) (by omega)]
  exact K
theorem e_sign {E k : Int} (hE : E = 76 ∨ E = 82) (h3 : m 72 3 = E) (h7 : 0 ≤ m 72 7 ∧ m 72 7 ≤ 111) (h0 : 0 ≤ m E 11) (h1 : m E 11 + m 72 7 ≤ 112) (h8 : 0 ≤ m 72 8 ∧ m 72 8 ≤ 8) (h6 : 7 ≤ m 72 6 ∧ m 72 6 ≤ 13) (h5 : 0 ≤ m E 5 ∧ m E 5 ≤ 96) (K : Q [] (tgR m E k)) : zG Ω 38 0 [zR 3 72, zI k, zU] [] m Q := by
  unfold tgR at K
  have k3 : kuF m E 72 3 = E := by unfold kuF; rw [zup_c (by omega)]; exact h3
  have k7 : kuF m E 72 7 = m 72 7 := by unfold kuF; exact zup_c (by omega)
  have k8 : kuF m E 72 8 = m 72 8 := by unfold kuF; exact zup_c (by omega)
  have k11 : kuF m E E 11 = m E 11 := by unfold kuF; exact zup_j (by decide)
  have wo := fun x j => wrF_o (b := bdS k) hE (m 72 7).toNat (kuF m E) x j
  have w7 := wrF_7 (b := bdS k) hE (m 72 7).toNat (kuF m E) (by rw [k7]; omega)
  have w8 : sg1F m E k 72 8 = m 72 8 := by
    unfold sg1F offF
    rw [zup_j (by decide), zup_c (by decide), wo 72 8 (by omega)]
    exact k8
  have s2 : sg1F m E k 72 2 = m 72 2 := by
    unfold sg1F offF
    rw [zup_j (by decide), zup_c (by decide), wo 72 2 (by omega)]
    unfold kuF
    exact zup_c (by omega)
  have bb : bdS k = 0 ∨ bdS k = 1 ∨ bdS k = 2 ∨ bdS k = 4 ∨ bdS k = 5 ∨ bdS k = 6 := by
    unfold bdS
    repeat' split
    all_goals decide
  have main : ¬ bdS k = 0 → ¬ (bdS k = 4 ∧ ¬ zand (m 72 2) (zshl 1 (m 72 8)) = 0) → zG Ω 37 0 [zR 3 72, zI k] [] m (fun r2 m2 => zk1 r2 fun v2 => if v2 = 0 then (0 ≤ m2 72 3 ∧ (zG Ω 43 0 [zR 3 72, zI (bdS k), zU] [] (zup m2 (m2 72 3) 5 (zw ((m2 (m2 72 3) 5) + 1))) (fun r3 m3 => zk0 r3 (zG Ω 42 0 [zR 3 72, zI k] [] m3 (fun r4 m4 => zk0 r4 (if 4 < bdS k then (if bdS k < 4 then (Q [] (zup (zup m4 72 9 1) 72 4 4)) else (Q [] (zup (zup m4 72 9 0) 72 4 4))) else (if bdS k = 4 then (zG Ω 203 0 [zR 3 72, zI 1] [] m4 (fun r6 m6 => zk0 r6 (if bdS k < 4 then (Q [] (zup (zup m6 72 9 1) 72 4 4)) else (Q [] (zup (zup m6 72 9 0) 72 4 4))))) else (zG Ω 203 0 [zR 3 72, zI 0] [] m4 (fun r5 m5 => zk0 r5 (if bdS k < 4 then (Q [] (zup (zup m5 72 9 1) 72 4 4)) else (Q [] (zup (zup m5 72 9 0) 72 4 4)))))))))))) else (zG Ω 29 0 [zR 3 72, zI 2] [] m2 (fun r7 m7 => zk0 r7 (Q [] m7)))) := fun a b => by
    rw [if_neg a, if_neg b] at K
    refine e_too hE h3 (fun z => e_fail ?_) fun z => ?_
    · rwa [if_pos z] at K
    · rw [if_neg z] at K
      rw [h3, zw_i (x := m E 5 + 1) (by omega) (by omega)]
      refine ⟨by omega, e_write (m := kuF m E) hE k3 (by rw [k7]; omega) (by rw [k11]; exact h0) (by rw [k11, k7]; exact h1) ?_⟩
      rw [k7]
      show zG Ω 42 0 _ _ _ _
      refine e_off (by omega) ?_
      show if 4 < bdS k then _ else _
      have s1 : offF (wrF E (bdS k) (m 72 7).toNat (kuF m E)) k = sg1F m E k := rfl
      rw [s1]
      unfold sg2R at K
      refine zif (fun y => ?_) fun y => ?_
      · rw [if_neg (by omega), if_neg (by omega)] at K
        rw [if_neg (by omega)]
        exact K
      · rw [if_pos (by omega)] at K
        refine zif (fun w => w_X3_noteCompared_0 ?_) fun w => w_X3_noteCompared_0 ?_
        · rw [if_neg (by decide), s2, w8]
          rw [if_pos w, if_neg (by omega)] at K
          show if bdS k < 4 then _ else _
          rw [if_neg (by omega)]
          exact K
        · rw [if_pos rfl, s2, w8]
          rw [if_neg w, if_pos (by omega)] at K
          show if bdS k < 4 then _ else _
          rw [if_pos (by omega)]
          exact K
  refine w_X3_takeSign_0 (e_bond (zk1_i (zif (fun z => ?_) fun z => zif (fun y => w_X3_isCompared_0 (zif (fun w => zk1_f (main z fun t => t.2 w)) fun w => zk1_t (e_fail ?_))) fun y => main z fun t => y t.1)))
  · rw [if_pos z] at K
    exact e_endSide hE h3 (by omega) h0 h1 h8 h6 K
  · rwa [if_neg z, if_pos ⟨y, w⟩] at K
end L2
