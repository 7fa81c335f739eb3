/-! LEVEL 2, FIRST ROWS: the small questions -/
/-- 1 or 0 -/
def zb (c : Prop) [Decidable c] : Int := if c then 1 else 0
theorem zb_t {c : Prop} [Decidable c] (h : c) : zb c = 1 := if_pos h
theorem zb_f {c : Prop} [Decidable c] (h : ¬ c) : zb c = 0 := if_neg h
theorem zb_01 (c : Prop) [Decidable c] : zb c = 0 ∨ zb c = 1 := by unfold zb; split; exact Or.inr rfl; exact Or.inl rfl
theorem zb_0 {c : Prop} [Decidable c] : zb c = 0 ↔ ¬ c := by unfold zb; split <;> simp [*]
/-- in a tree: a branch both ways, an index, a truth, a divisor -/
theorem zif {c A B : Prop} [Decidable c] (f : c → A) (g : ¬ c → B) : if c then A else B := by split; exact f ‹_›; exact g ‹_›
theorem zin_of {i : Int} {n : Nat} {P : Prop} (h0 : 0 ≤ i) (h1 : i < (n : Int)) (p : P) : zin i n P := zin_iff.mpr ⟨⟨h0, h1⟩, p⟩
theorem zbl_of {x : Int} {P : Prop} (h0 : 0 ≤ x) (h1 : x ≤ 1) (p : P) : zbl x P := zbl_iff.mpr ⟨⟨h0, h1⟩, p⟩
theorem zdv_of {y : Int} {P : Prop} (h : ¬ y = 0) (p : P) : zdv y P := zdv_iff.mpr ⟨h, p⟩
/-- a truth comes back and is asked for -/
theorem zk1_t {A B : Prop} (h : B) : zk1 [zI 1] (fun v => if v = 0 then A else B) := by
  show if (1 : Int) = 0 then A else B
  rw [if_neg (by decide)]; exact h
theorem zk1_f {A B : Prop} (h : A) : zk1 [zI 0] (fun v => if v = 0 then A else B) := by
  show if (0 : Int) = 0 then A else B
  rw [if_pos rfl]; exact h
/-- a reference comes back; a station's number and its cell -/
theorem zk3_i {e : Nat} {x : Int} {P : Int → Prop} (h : P x) : zk3 e [zR e x] P := by
  show zqb (Nat.beq e e) (P x)
  rw [zbq]
  exact h
theorem zs_n {p : Int} : (3 + 2 * p - 3) / 2 = p := by omega
theorem zs_2 {p : Int} : (30 + 6 * p - 30) / 6 = p := by omega
theorem zs_e {p q : Int} : 3 + 2 * p = 3 + 2 * q ↔ p = q := by omega
section L2
variable {Ω : zΩ} {m : zM} {Q : List zV → zM → Prop}
theorem s_within {v lo hi : Int} (h : Q [zI (zb (lo ≤ v ∧ v ≤ hi))] m) : zG Ω 118 0 [zI v, zI lo, zI hi] [] m Q := by
  refine w_X9_within_0 (zif (fun h1 => ?_) fun h1 => zif (fun h2 => ?_) fun h2 => ?_)
  · rwa [zb_f (by omega)] at h
  · rwa [zb_f (by omega)] at h
  · rwa [zb_t (by omega)] at h
theorem s_isIn {v lo hi : Int} (h : Q [zI (zb (lo ≤ v ∧ v ≤ hi))] m) : zG Ω 128 0 [zI v, zI lo, zI hi] [] m Q := by
  refine w_X10_isIn_0 (zif (fun h1 => ?_) fun h1 => zif (fun h2 => ?_) fun h2 => ?_)
  · rwa [zb_f (by omega)] at h
  · rwa [zb_f (by omega)] at h
  · rwa [zb_t (by omega)] at h
theorem s_hasLord {v : Int} (h : Q [zI (zb (0 ≤ v ∧ v < m 0 9))] m) : zG Ω 119 0 [zR 9 0, zI v] [] m Q := by
  refine w_X9_hasLord_0 (zif (fun h1 => ?_) fun h1 => zif (fun h2 => ?_) fun h2 => ?_)
  · rwa [zb_f (by omega)] at h
  · rwa [zb_t (by omega)] at h
  · rwa [zb_f (by omega)] at h
theorem s_has {v : Int} (h : Q [zI (zb (0 ≤ v ∧ v < m 1 1))] m) : zG Ω 45 0 [zR 4 1, zI v] [] m Q := by
  refine w_X4_has_0 (zif (fun h1 => ?_) fun h1 => zif (fun h2 => ?_) fun h2 => ?_)
  · rwa [zb_f (by omega)] at h
  · rwa [zb_t (by omega)] at h
  · rwa [zb_f (by omega)] at h
theorem s_hasWay {v : Int} (h : Q [zI (zb (0 < v ∧ v < m 1 1))] m) : zG Ω 46 0 [zR 4 1, zI v] [] m Q := by
  refine w_X4_hasWay_0 (zif (fun h1 => zif (fun h2 => ?_) fun h2 => ?_) fun h1 => ?_)
  · rwa [zb_t (by omega)] at h
  · rwa [zb_f (by omega)] at h
  · rwa [zb_f (by omega)] at h
theorem s_isStation {v : Int} (h : Q [zI (zb (0 ≤ v ∧ v < m 88 4))] m) : zG Ω 127 0 [zR 10 88, zI v] [] m Q := by
  refine w_X10_isStation_0 (zif (fun h1 => ?_) fun h1 => zif (fun h2 => ?_) fun h2 => ?_)
  · rwa [zb_f (by omega)] at h
  · rwa [zb_t (by omega)] at h
  · rwa [zb_f (by omega)] at h
theorem s_isLord {v : Int} (h : Q [zI (zb (0 ≤ v ∧ v < m 88 12))] m) : zG Ω 133 0 [zR 10 88, zI v] [] m Q := by
  refine w_X10_isLord_0 (zif (fun h1 => ?_) fun h1 => zif (fun h2 => ?_) fun h2 => ?_)
  · rwa [zb_f (by omega)] at h
  · rwa [zb_t (by omega)] at h
  · rwa [zb_f (by omega)] at h
/-- the same as branches -/
theorem b_within {v lo hi : Int} {A B : zM → Prop} (f : lo ≤ v ∧ v ≤ hi → B m) (g : ¬ (lo ≤ v ∧ v ≤ hi) → A m) : zG Ω 118 0 [zI v, zI lo, zI hi] [] m (fun r m1 => zk1 r fun v => if v = 0 then A m1 else B m1) := by
  refine s_within ?_
  by_cases hc : lo ≤ v ∧ v ≤ hi
  · rw [zb_t hc]; exact zk1_t (f hc)
  · rw [zb_f hc]; exact zk1_f (g hc)
theorem b_isIn {v lo hi : Int} {A B : zM → Prop} (f : lo ≤ v ∧ v ≤ hi → B m) (g : ¬ (lo ≤ v ∧ v ≤ hi) → A m) : zG Ω 128 0 [zI v, zI lo, zI hi] [] m (fun r m1 => zk1 r fun v => if v = 0 then A m1 else B m1) := by
  refine s_isIn ?_
  by_cases hc : lo ≤ v ∧ v ≤ hi
  · rw [zb_t hc]; exact zk1_t (f hc)
  · rw [zb_f hc]; exact zk1_f (g hc)
theorem b_hasLord {v : Int} {A B : zM → Prop} (f : 0 ≤ v ∧ v < m 0 9 → B m) (g : ¬ (0 ≤ v ∧ v < m 0 9) → A m) : zG Ω 119 0 [zR 9 0, zI v] [] m (fun r m1 => zk1 r fun v => if v = 0 then A m1 else B m1) := by
  refine s_hasLord ?_
  by_cases hc : 0 ≤ v ∧ v < m 0 9
  · rw [zb_t hc]; exact zk1_t (f hc)
  · rw [zb_f hc]; exact zk1_f (g hc)
theorem b_has {v : Int} {A B : zM → Prop} (f : 0 ≤ v ∧ v < m 1 1 → B m) (g : ¬ (0 ≤ v ∧ v < m 1 1) → A m) : zG Ω 45 0 [zR 4 1, zI v] [] m (fun r m1 => zk1 r fun v => if v = 0 then A m1 else B m1) := by
  refine s_has ?_
  by_cases hc : 0 ≤ v ∧ v < m 1 1
  · rw [zb_t hc]; exact zk1_t (f hc)
  · rw [zb_f hc]; exact zk1_f (g hc)
theorem b_hasWay {v : Int} {A B : zM → Prop} (f : 0 < v ∧ v < m 1 1 → B m) (g : ¬ (0 < v ∧ v < m 1 1) → A m) : zG Ω 46 0 [zR 4 1, zI v] [] m (fun r m1 => zk1 r fun v => if v = 0 then A m1 else B m1) := by
  refine s_hasWay ?_
  by_cases hc : 0 < v ∧ v < m 1 1
  · rw [zb_t hc]; exact zk1_t (f hc)
  · rw [zb_f hc]; exact zk1_f (g hc)
theorem b_isStation {v : Int} {A B : zM → Prop} (f : 0 ≤ v ∧ v < m 88 4 → B m) (g : ¬ (0 ≤ v ∧ v < m 88 4) → A m) : zG Ω 127 0 [zR 10 88, zI v] [] m (fun r m1 => zk1 r fun v => if v = 0 then A m1 else B m1) := by
  refine s_isStation ?_
  by_cases hc : 0 ≤ v ∧ v < m 88 4
  · rw [zb_t hc]; exact zk1_t (f hc)
  · rw [zb_f hc]; exact zk1_f (g hc)
theorem b_isLord {v : Int} {A B : zM → Prop} (f : 0 ≤ v ∧ v < m 88 12 → B m) (g : ¬ (0 ≤ v ∧ v < m 88 12) → A m) : zG Ω 133 0 [zR 10 88, zI v] [] m (fun r m1 => zk1 r fun v => if v = 0 then A m1 else B m1) := by
  refine s_isLord ?_
  by_cases hc : 0 ≤ v ∧ v < m 88 12
  · rw [zb_t hc]; exact zk1_t (f hc)
  · rw [zb_f hc]; exact zk1_f (g hc)
/-- papers, set, window: of the class, of the reference -/
theorem s_papers {l g w : Int} (h9 : m 0 9 ≤ 6) (f : (0 ≤ l ∧ l < m 0 9) ∧ (0 ≤ g ∧ g ≤ 99) ∧ (0 ≤ w ∧ w ≤ 99) → Q [zI 1] (zup (zup (zup m (29 + 6 * l) 8 g) (29 + 6 * l) 9 w) 0 14 1)) (n : ¬ ((0 ≤ l ∧ l < m 0 9) ∧ (0 ≤ g ∧ g ≤ 99) ∧ (0 ≤ w ∧ w ≤ 99)) → Q [zI 0] m) : zG Ω 104 0 [zR 9 0, zI l, zI g, zI w] [] m Q := by
  refine w_X9_papers_0 (b_hasLord (fun h1 => b_within (fun h2 => b_within (fun h3 => zin_of (by omega) (by omega) (zin_of (by omega) (by omega) (f ⟨h1, h2, h3⟩))) fun h3 => n (by omega)) fun h2 => n (by omega)) fun h1 => n (by omega))
theorem s_papersM {l g w : Int} (h9 : m 88 12 ≤ 6) (f : (0 ≤ l ∧ l < m 88 12) ∧ (0 ≤ g ∧ g ≤ 99) ∧ (0 ≤ w ∧ w ≤ 99) → Q [zI 1] (zup (zup (zup m 88 2 0) 103 l g) 104 l w)) (n : ¬ ((0 ≤ l ∧ l < m 88 12) ∧ (0 ≤ g ∧ g ≤ 99) ∧ (0 ≤ w ∧ w ≤ 99)) → Q [zI 0] (zup m 88 2 0)) : zG Ω 135 0 [zR 10 88, zI l, zI g, zI w] [] m Q := by
  have e : zup m 88 2 0 88 12 = m 88 12 := rfl
  refine w_X10_papers_0 (b_isLord (fun h1 => b_isIn (fun h2 => b_isIn (fun h3 => ?_) fun h3 => n (by omega)) fun h2 => n (by omega)) fun h1 => n (by omega))
  rw [e] at h1
  exact zin_of (by omega) (by omega) (zin_of (by omega) (by omega) (f ⟨h1, h2, h3⟩))
/-- year, of the class -/
theorem s_year {y : Int} (h : Q [zI (zb (0 ≤ y ∧ y ≤ 9999))] (if 0 ≤ y ∧ y ≤ 9999 then zup (zup m 0 11 y) 0 14 1 else m)) : zG Ω 99 0 [zR 9 0, zI y] [] m Q := by
  refine w_X9_year_0 (s_within ?_)
  show if zb (0 ≤ y ∧ y ≤ 9999) = 0 then _ else _
  by_cases hc : 0 ≤ y ∧ y ≤ 9999
  · rw [zb_t hc, if_pos hc] at h
    rw [zb_t hc]
    exact h
  · rw [zb_f hc, if_neg hc] at h
    rw [zb_f hc]
    exact h
/-- year, of the reference -/
theorem s_yearM {y : Int} (h : Q [zI (zb (0 ≤ y ∧ y ≤ 9999))] (if 0 ≤ y ∧ y ≤ 9999 then zup (zup m 88 2 0) 88 3 y else zup m 88 2 0)) : zG Ω 126 0 [zR 10 88, zI y] [] m Q := by
  refine w_X10_year_0 (zif (fun h1 => ?_) fun h1 => zif (fun h2 => ?_) fun h2 => ?_)
  · rwa [zb_f (by omega), if_neg (by omega)] at h
  · rwa [zb_f (by omega), if_neg (by omega)] at h
  · rwa [zb_t (by omega), if_pos (by omega)] at h
/-- a station by its number; is it the city -/
theorem s_stOf {a : Int} (h0 : 0 ≤ a) (h1 : a < m 1 1) (h12 : m 1 1 ≤ 12) (h : Q [zR 7 (3 + 2 * a)] m) : zG Ω 204 0 [zR 4 1, zI a] [] m Q :=
  w_X4_stationOf_0 (b_has (fun _ => zif (fun _ => zin_of h0 (by omega) h) fun q => absurd (show a < 12 by omega) q) fun q => absurd ⟨h0, h1⟩ q)
theorem b_city {k : Int} {A B : zM → Prop} (f : k = 0 → B m) (n : ¬ k = 0 → A m) : zG Ω 205 0 [zR 7 (3 + 2 * k)] [] m (fun r m1 => zk1 r fun v => if v = 0 then A m1 else B m1) := by
  refine w_X7_isCity_0 ?_
  rw [zs_n]
  exact zif (fun h => zk1_t (f h)) fun h => zk1_f (n h)
end L2
