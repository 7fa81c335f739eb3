/-! the reference's reader: small effects -/
def wroF (u : zM) (k : Int) : zM := zup (zup u 88 26 k) 88 27 (u 88 32)
def groF (u : zM) (k v : Int) : zM := zup (zup (zup (zup (zup u 88 42 (u 88 42 + 1)) 111 (96 + u 88 42) k) 112 (96 + u 88 42) (-1)) 113 (96 + u 88 42) (-1)) 114 (96 + u 88 42) v
def donF (u : zM) (a : Int) : zM := zup (zup (zup (zup u 115 (96 + u 88 43) a) 88 43 (u 88 43 + 1)) 120 (u 88 48) a) 88 48 (u 88 48 + 1)
def waiF (u : zM) (k a : Int) : zM := zup (zup (zup u 118 (u 88 46) k) 119 (u 88 46) a) 88 46 (u 88 46 + 1)
def droF (u : zM) : zM := zup u 88 48 (u 88 48 - 1)
def wtM (k : Int) : Int := if k = 100 then 0 else if k = 15 then 1 else if k = 14 then 2 else if k = 13 then 3 else if k < 7 then 4 else if k < 9 then 5 else if k < 12 then 6 else 7
/-- the knot a of one side, of two sides, done -/
def un1F (u : zM) (a : Int) : zM := donF (zup (droF u) 112 a (u 120 (u 88 48 - 1))) a
def bi1F (u : zM) (a : Int) : zM := donF (zup (droF (zup (droF u) 113 a (u 120 (u 88 48 - 1)))) 112 a (u 120 (u 88 48 - 2))) a
/-- the last that waits, place k, done -/
def bn1F (u : zM) (k : Int) : zM := if u 118 k = 12 ∨ u 118 k = 13 then un1F (zup u 88 46 k) (u 119 k) else bi1F (zup u 88 46 k) (u 119 k)
def bnF (b : Int) : Nat → zM → zM
  | 0, u => u
  | k + 1, u => if wtM (u 118 (k : Int)) < b then u else bnF b k (bn1F u k)
section L2
variable {Ω : zΩ} {Q : List zV → zM → Prop} {u : zM}
theorem r_wrong {k : Int} (K : Q [zI 0] (wroF u k)) : zG Ω 137 0 [zR 10 88, zI k] [] u Q := w_X10_wrong_0 K
theorem r_grown {k v : Int} (h : 0 ≤ u 88 42 ∧ u 88 42 ≤ 96) (K0 : u 88 42 = 96 → Q [zI (-1)] (wroF u 2)) (K : u 88 42 < 96 → Q [zI (96 + u 88 42)] (groF u k v)) : zG Ω 146 0 [zR 10 88, zI k, zI v, zU] [] u Q := by
  refine w_X10_grown_0 (zif (fun z => r_wrong (zk1_i (K0 z))) fun z => ?_)
  rw [zw_i (x := 96 + u 88 42) (by omega) (by omega), zw_i (x := u 88 42 + 1) (by omega) (by omega)]
  exact zin_of (by omega) (by omega) (zin_of (by omega) (by omega) (zin_of (by omega) (by omega) (zin_of (by omega) (by omega) (K (by omega)))))
theorem r_done {a : Int} (h : 0 ≤ u 88 43 ∧ u 88 43 < 96) (h48 : 0 ≤ u 88 48 ∧ u 88 48 < 120) (K : Q [] (donF u a)) : zG Ω 147 0 [zR 10 88, zI a] [] u Q := by
  refine w_X10_done_0 ?_
  rw [zw_i (x := 96 + u 88 43) (by omega) (by omega), zw_i (x := u 88 43 + 1) (by omega) (by omega), zw_i (x := u 88 48 + 1) (by omega) (by omega)]
  exact zin_of (by omega) (by omega) (zin_of (by omega) (by omega) K)
theorem r_drop (h48 : 1 ≤ u 88 48 ∧ u 88 48 ≤ 120) (K : Q [zI (u 120 (u 88 48 - 1))] (droF u)) : zG Ω 148 0 [zR 10 88] [] u Q := by
  refine w_X10_drop_0 ?_
  rw [zw_i (x := u 88 48 - 1) (by omega) (by omega)]
  exact zin_of (by omega) (by omega) K
theorem r_wait {k a : Int} (h46 : 0 ≤ u 88 46 ∧ u 88 46 < 120) (K : Q [] (waiF u k a)) : zG Ω 150 0 [zR 10 88, zI k, zI a] [] u Q := by
  refine w_X10_waitFor_0 (zin_of (by omega) (by omega) (zin_of (by omega) (by omega) ?_))
  rw [zw_i (by omega) (by omega)]
  exact K
theorem r_weight {k : Int} (K : Q [zI (wtM k)] u) : zG Ω 145 0 [zI k] [] u Q := by
  unfold wtM at K
  refine w_X10_weight_0 (zif (fun z => ?_) fun z1 => ?_)
  · rwa [if_pos z] at K
  rw [if_neg z1] at K
  refine zif (fun z => ?_) fun z1 => ?_
  · rwa [if_pos z] at K
  rw [if_neg z1] at K
  refine zif (fun z => ?_) fun z1 => ?_
  · rwa [if_pos z] at K
  rw [if_neg z1] at K
  refine zif (fun z => ?_) fun z1 => ?_
  · rwa [if_pos z] at K
  rw [if_neg z1] at K
  refine zif (fun z => ?_) fun z1 => ?_
  · rwa [if_pos z] at K
  rw [if_neg z1] at K
  refine zif (fun z => ?_) fun z1 => ?_
  · rwa [if_pos z] at K
  rw [if_neg z1] at K
  refine zif (fun z => ?_) fun z1 => ?_
  · rwa [if_pos z] at K
  rwa [if_neg z1] at K
/-- one turn of bind's loop -/
theorem r_bind1 {b : Int} {k : Nat} (h46 : u 88 46 = (k : Int) + 1) (hk : (k : Int) + 1 ≤ 120) (h43 : 0 ≤ u 88 43 ∧ u 88 43 < 96) (h48 : (if u 118 k = 12 ∨ u 118 k = 13 then 1 else 2) ≤ u 88 48 ∧ u 88 48 ≤ 119) (h119 : 0 ≤ u 119 k ∧ u 119 k < 192) (K0 : wtM (u 118 k) < b → Q [] u) (K : ¬ wtM (u 118 k) < b → zG Ω 149 0 [zR 10 88, zI b, zU] [] (bn1F u k) Q) : zG Ω 149 0 [zR 10 88, zI b, zU] [] u Q := by
  have wk : zw (u 88 46 - 1) = k := by rw [h46, zw_i (by omega) (by omega)]; omega
  refine w_X10_bind_0 (zif (fun _ => ?_) fun z => absurd (show 0 < u 88 46 by omega) z)
  rw [wk]
  refine zin_of (by omega) (by omega) (r_weight (zk1_i (zif (fun z => K0 z) fun z => ?_)))
  rw [wk]
  have K := K z
  unfold bn1F at K
  have p43 : zup u 88 46 k 88 43 = u 88 43 := zup_j (by decide)
  have p48 : zup u 88 46 k 88 48 = u 88 48 := zup_j (by decide)
  have one : (u 118 k = 12 ∨ u 118 k = 13) → zG Ω 148 0 [zR 10 88] [] (zup u 88 46 k) (fun r2 m2 => zk1 r2 fun v2 => zin (u 119 k) 192 (zG Ω 147 0 [zR 10 88, zI (u 119 k)] [] (zup m2 112 (u 119 k) v2) (fun r3 m3 => zk0 r3 (zG Ω 149 0 [zR 10 88, zI b, zU] [] m3 Q)))) := fun y => by
    rw [if_pos y] at K h48
    refine r_drop (by rw [p48]; omega) (zk1_i (zin_of (by omega) (by omega) (r_done ?_ ?_ K)))
    · unfold droF
      rw [zup_c (by decide), zup_j (by decide), p43]; exact h43
    · unfold droF
      rw [zup_c (by decide), zup_e rfl rfl, p48]; omega
  refine zin_of (by omega) (by omega) (zin_of (by omega) (by omega) (zif (fun y => one (Or.inl y)) fun y => zin_of (by omega) (by omega) (zif (fun w => one (Or.inr w)) fun w => ?_)))
  have ny : ¬ (u 118 k = 12 ∨ u 118 k = 13) := fun t => t.elim y w
  rw [if_neg ny] at K h48
  refine r_drop (by rw [p48]; omega) (zk1_i (zin_of (by omega) (by omega) (r_drop ?_ (zk1_i (zin_of (by omega) (by omega) (r_done ?_ ?_ ?_))))))
  · unfold droF
    rw [zup_c (by decide), zup_e rfl rfl, p48]; omega
  · unfold droF
    rw [zup_c (by decide), zup_j (by decide), zup_c (by decide), zup_j (by decide), p43]; exact h43
  · unfold droF
    rw [zup_c (by decide), zup_e rfl rfl, zup_c (by decide), zup_e rfl rfl, p48]; omega
  · have e2 : zup (droF (zup u 88 46 (k : Int))) 113 (u 119 k) (zup u 88 46 (k : Int) 120 (zup u 88 46 (k : Int) 88 48 - 1)) 120 (zup (droF (zup u 88 46 (k : Int))) 113 (u 119 k) (zup u 88 46 (k : Int) 120 (zup u 88 46 (k : Int) 88 48 - 1)) 88 48 - 1) = zup u 88 46 (k : Int) 120 (zup u 88 46 (k : Int) 88 48 - 2) := by
      unfold droF
      rw [zup_c (by decide), zup_c (by decide), zup_c (k := 113) (by decide), zup_e rfl rfl]
      congr 1
      omega
    rw [e2]
    exact K
end L2
