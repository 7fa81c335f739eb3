/-! the class's reader: what each of its methods does to the memory, exactly. E = m 72 3: the edicts that are written -/
def addF (m : zM) (E s v : Int) : zM := zup (zup (zup m (E + 1) (m E 11) s) (E + 2) (m E 11) v) E 11 (m E 11 + 1)
def ycF (w : Int) : Int := if w - 11 + 1 < 3 then w - 11 + 1 else 3
def bgF (m : zM) (E w : Int) : zM := if w ≤ 13 then (if w < 11 then zup (zup m (E + 3) (w - 7) (m E 11)) (E + 4) (w - 7) (m E 11) else zup (zup (zup m (E + 3) (w - 7) (m E 11)) (E + 4) (w - 7) (m E 11)) E 12 (ycF w)) else zup m E 12 (ycF w)
def fnF (m : zM) (E w : Int) : zM := if w ≤ 13 then zup m (E + 4) (w - 7) (m E 11) else m
def failF (m : zM) (k : Int) : zM := zup (zup m 72 10 k) 72 11 (m 75 4)
def offF (m : zM) (s : Int) : zM := zup (zup m 73 (m 72 7) s) 72 7 (m 72 7 + 1)
section L2
variable {Ω : zΩ} {Q : List zV → zM → Prop} {m : zM}
theorem e_add {E s v : Int} (h : 0 ≤ m E 11 ∧ m E 11 < 112) (K : Q [] (addF m E s v)) : zG Ω 6 0 [zR 0 E, zI s, zI v] [] m Q := by
  refine w_X0_add_0 (zif (fun _ => zin_of h.1 (by omega) ?_) fun z => absurd h.2 z)
  have e1 : zup m (E + 1) (m E 11) s E 11 = m E 11 := zup_c (by omega)
  rw [e1]
  refine zin_of h.1 (by omega) ?_
  have e2 : zup (zup m (E + 1) (m E 11) s) (E + 2) (m E 11) v E 11 = m E 11 := by rw [zup_c (by omega)]; exact e1
  rw [e2, zw_i (by omega) (by omega)]
  exact K
theorem e_place {w : Int} {A B : zM → Prop} (f : 7 ≤ w ∧ w ≤ 13 → B m) (n : ¬ (7 ≤ w ∧ w ≤ 13) → A m) : zG Ω 3 0 [zI w] [] m (fun r m1 => zk1 r fun v => if v = 0 then A m1 else B m1) :=
  w_X0_isPlace_0 (zif (fun z => zk1_f (n (by omega))) fun z => zif (fun y => zk1_t (f (by omega))) fun y => zk1_f (n (by omega)))
theorem e_begin {E w : Int} (hw : 7 ≤ w ∧ w ≤ 14) (K : Q [] (bgF m E w)) : zG Ω 4 0 [zR 0 E, zI w] [] m Q := by
  unfold bgF ycF at K
  refine w_X0_begin_0 ?_
  rw [zw_i (x := w - 7) (by omega) (by omega), zw_i (x := w - 11) (by omega) (by omega), zw_i (x := w - 11 + 1) (by omega) (by omega)]
  refine e_place (fun z => ?_) fun z => ?_
  · rw [if_pos z.2] at K
    have e1 : zup m (E + 3) (w - 7) (m E 11) E 11 = m E 11 := zup_c (by omega)
    rw [e1]
    refine zin_of (by omega) (by omega) (zin_of (by omega) (by omega) (zif (fun y => ?_) fun y => ?_))
    · rwa [if_pos y] at K
    · rwa [if_neg y] at K
  · rw [if_neg (by omega)] at K
    exact zif (fun y => absurd y (by omega)) fun _ => K
theorem e_finish {E w : Int} (hw : 7 ≤ w ∧ w ≤ 14) (K : Q [] (fnF m E w)) : zG Ω 5 0 [zR 0 E, zI w] [] m Q := by
  unfold fnF at K
  refine w_X0_finish_0 ?_
  rw [zw_i (x := w - 7) (by omega) (by omega)]
  refine e_place (fun z => zin_of (by omega) (by omega) ?_) fun z => ?_
  · rwa [if_pos z.2] at K
  · rwa [if_neg (by omega)] at K
theorem e_fail {k : Int} (K : Q [] (failF m k)) : zG Ω 29 0 [zR 3 72, zI k] [] m Q := w_X3_fail_0 K
theorem e_off {s : Int} (h : 0 ≤ m 72 7 ∧ m 72 7 < 112) (K : Q [] (offF m s)) : zG Ω 42 0 [zR 3 72, zI s] [] m Q := by
  refine w_X3_putOff_0 (zif (fun _ => zin_of h.1 (by omega) ?_) fun z => absurd h.2 z)
  rw [zw_i (by omega) (by omega)]
  exact K
/-- how tightly a sign binds; 0: it is none -/
def bdS (k : Int) : Int := if k = 21 then 1 else if k = 22 then 2 else if 24 ≤ k ∧ k ≤ 29 then 4 else if k = 30 ∨ k = 31 then 5 else if 32 ≤ k ∧ k ≤ 34 then 6 else 0
def bdW (k : Int) : Int := if k = 23 then 3 else if k = 35 then 7 else bdS k
theorem e_bond {k : Int} (K : Q [zI (bdS k)] m) : zG Ω 40 0 [zI k] [] m Q := by
  have g : ∀ c v, k = c → bdS c = v → Q [zI v] m := fun c v e1 e2 => by rw [e1, e2] at K; exact K
  refine w_X3_bondOf_0 (zif (fun z => g 21 1 z rfl) fun z1 => zif (fun z => g 22 2 z rfl) fun z2 => zif (fun z => g 23 0 z rfl) fun z3 => zif (fun z => g 24 4 z rfl) fun z4 => zif (fun z => g 25 4 z rfl) fun z5 => zif (fun z => g 26 4 z rfl) fun z6 => zif (fun z => g 27 4 z rfl) fun z7 => zif (fun z => g 28 4 z rfl) fun z8 => zif (fun z => g 29 4 z rfl) fun z9 => zif (fun z => g 30 5 z rfl) fun z10 => zif (fun z => g 31 5 z rfl) fun z11 => zif (fun z => g 32 6 z rfl) fun z12 => zif (fun z => g 33 6 z rfl) fun z13 => zif (fun z => g 34 6 z rfl) fun z14 => ?_)
  have : bdS k = 0 := by
    unfold bdS
    rw [if_neg z1, if_neg z2, if_neg (by omega), if_neg (by omega), if_neg (by omega)]
  rwa [this] at K
theorem e_bondW {k : Int} (K : Q [zI (bdW k)] m) : zG Ω 41 0 [zI k] [] m Q := by
  unfold bdW at K
  refine w_X3_bondOfWaiting_0 (zif (fun z => ?_) fun z1 => zif (fun z => ?_) fun z2 => ?_)
  · rwa [if_pos z] at K
  · rwa [if_neg z1, if_pos z] at K
  · rw [if_neg z1, if_neg z2] at K
    exact e_bond (zk1_i K)
/-- signs that wait are written as long as they bind as tightly as b -/
def wrF (E b : Int) : Nat → zM → zM
  | 0, m => m
  | k + 1, m => if bdW (m 73 (k : Int)) < b then m else wrF E b k (zup (addF m E (m 73 (k : Int)) 0) 72 7 (k : Int))
theorem e_write_7 {E b : Int} (hE : E = 76 ∨ E = 82) : ∀ (k : Nat) (m : zM), m 72 3 = E → (k : Int) ≤ 112 → 0 ≤ m E 11 → m E 11 + k ≤ 112 → Q [] (wrF E b k m) → zG Ω 43 7 [zR 3 72, zI b, zI ((k : Int) - 1)] [] m Q := by
  intro k
  induction k with
  | zero =>
    intro m h3 hk h0 h1 K
    exact w_X3_writeWaiting_7 (zif (fun _ => K) fun z => absurd (show ((0 : Nat) : Int) - 1 < 0 by omega) z)
  | succ k ih =>
    intro m h3 hk h0 h1 K
    have ek : ((k + 1 : Nat) : Int) - 1 = k := by omega
    rw [ek]
    unfold wrF at K
    refine w_X3_writeWaiting_7 (zif (fun z => absurd z (by omega)) fun _ => zin_of (by omega) (by omega) (e_bondW (zk1_i (zif (fun z => ?_) fun z => ⟨by omega, zin_of (by omega) (by omega) ?_⟩))))
    · rwa [if_pos z] at K
    · rw [if_neg z] at K
      rw [h3]
      refine e_add (by omega) ?_
      show zG Ω 43 7 _ _ _ _
      rw [zw_i (x := (k : Int) + (-1)) (by omega) (by omega), show (k : Int) + (-1) = (k : Int) - 1 by omega]
      have e3 : zup (addF m E (m 73 (k : Int)) 0) 72 7 k 72 3 = E := by
        unfold addF
        rw [zup_j (by decide), zup_c (by omega), zup_c (by omega), zup_c (by omega)]
        exact h3
      have e11 : zup (addF m E (m 73 (k : Int)) 0) 72 7 k E 11 = m E 11 + 1 := by
        unfold addF
        rw [zup_c (by omega), zup_e rfl rfl]
      exact ih _ e3 (by omega) (by rw [e11]; omega) (by rw [e11]; omega) K
theorem e_write {E b : Int} (hE : E = 76 ∨ E = 82) (h3 : m 72 3 = E) (h7 : 0 ≤ m 72 7 ∧ m 72 7 ≤ 112) (h0 : 0 ≤ m E 11) (h1 : m E 11 + m 72 7 ≤ 112) (K : Q [] (wrF E b (m 72 7).toNat m)) : zG Ω 43 0 [zR 3 72, zI b, zU] [] m Q := by
  refine w_X3_writeWaiting_0 ?_
  rw [zw_i (by omega) (by omega)]
  have := e_write_7 (Ω := Ω) (Q := Q) (b := b) hE (m 72 7).toNat m h3 (by omega) h0 (by omega) K
  rw [show (((m 72 7).toNat : Nat) : Int) - 1 = m 72 7 - 1 by omega] at this
  exact this
/-- the first lines of beginExpression -/
def beF (m : zM) (E : Int) : zM := zup (zup (zup (zup (zup (bgF m E (m 72 6)) 72 7 0) 72 8 0) 74 0 0) 72 9 1) 72 4 4
/-- the same, as the class does it: compared is a bit for each bracket -/
def beR (m : zM) (E : Int) : zM := zup (zup (zup (zup (zup (bgF m E (m 72 6)) 72 7 0) 72 8 0) 72 2 0) 72 9 1) 72 4 4
theorem e_beginE {E : Int} (hE : E = 76 ∨ E = 82) (h3 : m 72 3 = E) (hw : 7 ≤ m 72 6 ∧ m 72 6 ≤ 14) (K : Q [] (beR m E)) : zG Ω 34 0 [zR 3 72] [] m Q := by
  refine w_X3_beginExpression_0 ⟨by omega, ?_⟩
  rw [h3]
  exact e_begin hw K
end L2
