/-! the reference's tokens -/
theorem isWd_len {tx : Int → Int} {b : Int} : ∀ (w : List Int) (a : Int), isWd tx a b w → b = a + w.length := by
  intro w
  induction w with
  | nil => intro a h; unfold isWd at h; simp; omega
  | cons c w ih =>
    intro a h
    have := ih (a + 1) h.2.2
    rw [List.length_cons]
    omega
theorem isWd_uniq {tx : Int → Int} {b : Int} : ∀ (w w' : List Int) (a : Int), isWd tx a b w → isWd tx a b w' → w = w' := by
  intro w
  induction w with
  | nil =>
    intro w' a h h'
    cases w' with
    | nil => rfl
    | cons c w' => unfold isWd at h h'; omega
  | cons c w ih =>
    intro w' a h h'
    cases w' with
    | nil => unfold isWd at h h'; omega
    | cons c' w' =>
      have := ih w' (a + 1) h.2.2 h'.2.2
      rw [this, ← h.2.1, ← h'.2.1]
theorem fdWd_none {tx : Int → Int} {a b : Int} : ∀ (ws : List (List Int)) (i : Int), (∀ w ∈ ws, ¬ isWd tx a b w) → fdWd tx a b ws i 1 := by
  intro ws
  induction ws with
  | nil => intro i _; rfl
  | cons w ws ih => intro i h; exact Or.inr ⟨h w List.mem_cons_self, ih (i + 1) fun w' hw => h w' (List.mem_cons_of_mem _ hw)⟩
theorem fdWd_find {tx : Int → Int} {a b : Int} {w : List Int} (h : isWd tx a b w) : ∀ (ws : List (List Int)) (i : Int), w ∈ ws → fdWd tx a b ws i (i + ws.idxOf w) := by
  intro ws
  induction ws with
  | nil => intro i hm; cases hm
  | cons w' ws ih =>
    intro i hm
    by_cases e : w' = w
    · subst e
      left
      refine ⟨h, ?_⟩
      rw [List.idxOf_cons_self]
      simp
    · right
      refine ⟨fun q => e (isWd_uniq _ _ _ q h), ?_⟩
      have hm' : w ∈ ws := by
        rcases List.mem_cons.mp hm with z | z
        · exact absurd z.symm e
        · exact z
      have := ih (i + 1) hm'
      have eb : (w' == w) = false := by
        simp only [beq_eq_false_iff_ne, ne_eq]
        exact e
      rw [List.idxOf_cons, eb]
      show fdWd tx a b ws (i + 1) (i + ((ws.idxOf w + 1 : Nat) : Int))
      rw [show i + ((ws.idxOf w + 1 : Nat) : Int) = i + 1 + (ws.idxOf w : Nat) by omega]
      exact this
/-- the words in the reference's order -/
def wdsM : List (List Int) := [[109, 97, 114, 99, 104], [110, 101, 119, 115], [104, 111, 108, 100], [112, 97, 121], [97, 116, 116, 101, 110, 100], [98, 101, 97, 114, 101, 114, 115], [114, 111, 111, 109], [102, 105, 110, 101], [121, 105, 101, 108, 100], [111, 114], [97, 110, 100], [110, 111, 116], [121, 101, 97, 114], [114, 97, 110, 107], [119, 111, 114, 116, 104], [109, 101, 110], [104, 111, 117, 115, 101], [104, 111, 117, 114, 115], [103, 117, 110, 115], [119, 111, 109, 101, 110], [108, 97, 116, 101]]
/-- the reference's number of a word, by the class's -/
def wrA (k : Int) : Int := if k ≤ 11 then k - 3 else if k ≤ 20 then k else k - 12
theorem wds_map : ∀ r : Fin 21, wrA (3 + (wdsA.idxOf (wdsM.getD r.1 []) : Nat)) = (r.1 : Int) ∧ wdsM.getD r.1 [] ∈ wdsA := by decide
theorem wds_sub : ∀ w ∈ wdsA, w ∈ wdsM := by decide
def spells (m : zM) (at_ : Int) : List Int → Prop
  | [] => m 109 at_ = 32
  | c :: w => m 109 at_ = c ∧ ¬ c = 32 ∧ spells m (at_ + 1) w
def encA (m : zM) (at_ : Int) : List (List Int) → Prop
  | [] => at_ = 110
  | w :: ws => spells m at_ w ∧ encA m (at_ + w.length + 1) ws
theorem encA_b {m : zM} : ∀ (ws : List (List Int)) (p : Int), encA m p ws → p + ws.length ≤ 110 := by
  intro ws
  induction ws with
  | nil => intro p h; unfold encA at h; simp; omega
  | cons w ws ih =>
    intro p h
    have := ih _ h.2
    rw [List.length_cons]
    omega
/-- the reference's tape holds the text -/
def TM (tx : Int → Int) (n : Int) (m : zM) : Prop := m 88 28 = n ∧ (0 ≤ n ∧ n ≤ 600) ∧ (∀ i, 0 ≤ i → i < n → (0 ≤ tx i ∧ tx i ≤ 255) ∧ m 89 i = tx i) ∧ encA m 0 wdsM
section L2
variable {Ω : zΩ} {Q : List zV → zM → Prop} {tx : Int → Int} {n : Int} {m : zM}
theorem s_wat_57 {a b r p N : Int} (ha : 0 ≤ a) (hb : b ≤ n) (hn : n ≤ 600) (ht : ∀ i, 0 ≤ i → i < n → m 89 i = tx i) (hp : 0 ≤ p ∧ p + N + 1 ≤ 110) (hr : 0 ≤ r ∧ r ≤ 21) (hN : 0 ≤ N) : ∀ (w : List Int) (i : Int), 0 ≤ i → i + w.length = N → a + N = b → spells m (p + i) w → (isWd tx (a + i) b w → Q [zI r] m) → (¬ isWd tx (a + i) b w → zG Ω 138 5 [zR 10 88, zI a, zI b, zI (r + 1), zI (p + N + 1), zU, zU, zU] [] m Q) → zG Ω 138 57 [zR 10 88, zI a, zI b, zI r, zI p, zI N, zI 1, zI i] [] m Q := by
  intro w
  induction w with
  | nil =>
    intro i i0 hi hab hs K1 K0
    simp at hi
    refine w_X10_wordAt_57 (zif (fun z => absurd z (by omega)) fun _ => zif (fun z => absurd z (by decide)) fun _ => K1 ?_)
    show a + i = b
    omega
  | cons c w ih =>
    intro i i0 hi hab hs K1 K0
    rw [List.length_cons] at hi
    refine w_X10_wordAt_57 (zif (fun _ => zif (fun z => absurd z (by decide)) fun _ => ?_) fun z => absurd (show i < N by omega) z)
    rw [zw_i (x := p + i) (by omega) (by omega), zw_i (x := a + i) (by omega) (by omega), hs.1, ht (a + i) (by omega) (by omega), zw_i (x := i + 1) (by omega) (by omega)]
    refine zin_of (by omega) (by omega) (zin_of (by omega) (by omega) (zif (fun z => ?_) fun z => ?_))
    · refine ih (i + 1) (by omega) (by omega) hab (by rw [← Int.add_assoc]; exact hs.2.2) (fun q => K1 ⟨by omega, z.symm, ?_⟩) fun q => K0 fun t => q ?_
      · rw [Int.add_assoc]; exact q
      · rw [← Int.add_assoc]; exact t.2.2
    · have K0 := K0 fun t => z t.2.1.symm
      have fin : zG Ω 138 5 [zR 10 88, zI a, zI b, zI (zw (r + 1)), zI (zw (p + (zw (N + 1)))), zU, zU, zU] [] m Q := by
        rw [zw_i (x := r + 1) (by omega) (by omega), zw_i (x := N + 1) (by omega) (by omega), zw_i (by omega) (by omega), ← Int.add_assoc]
        exact K0
      exact w_X10_wordAt_57 (zif (fun _ => zif (fun _ => zif (fun _ => fin) fun y => absurd rfl y) fun y => absurd rfl y) fun _ => zif (fun _ => fin) fun y => absurd rfl y)
theorem s_wat_18 {a b r p : Int} {w : List Int} (ha : 0 ≤ a) (hab : a ≤ b) (hb : b ≤ n) (hn : n ≤ 600) (ht : ∀ i, 0 ≤ i → i < n → m 89 i = tx i) (hp : 0 ≤ p ∧ p + w.length + 1 ≤ 110) (hr : 0 ≤ r ∧ r ≤ 21) (hw : spells m p w) (K1 : isWd tx a b w → Q [zI r] m) (K0 : ¬ isWd tx a b w → zG Ω 138 5 [zR 10 88, zI a, zI b, zI (r + 1), zI (p + w.length + 1), zU, zU, zU] [] m Q) : ∀ (w' : List Int) (i : Int), 0 ≤ i → i + w'.length = w.length → spells m (p + i) w' → zG Ω 138 18 [zR 10 88, zI a, zI b, zI r, zI p, zI i, zU, zU] [] m Q := by
  intro w'
  induction w' with
  | nil =>
    intro i i0 hi hs
    simp at hi
    have hs : m 109 (p + i) = 32 := hs
    refine w_X10_wordAt_18 ?_
    rw [zw_i (x := p + i) (by omega) (by omega), hs, if_pos rfl, zw_i (x := b - a) (by omega) (by omega)]
    refine zin_of (by omega) (by omega) (zif (fun z => ?_) fun z => ?_)
    · rw [hi]
      exact s_wat_57 ha hb hn ht (by omega) hr (by omega) w 0 (by omega) (by omega) (by omega) (by rw [Int.add_zero]; exact hw) (by rw [Int.add_zero]; exact K1) (by rw [Int.add_zero]; exact K0)
    · have K0 := K0 fun t => z (by have := isWd_len w a t; omega)
      have fin : zG Ω 138 5 [zR 10 88, zI a, zI b, zI (zw (r + 1)), zI (zw (p + (zw (i + 1)))), zU, zU, zU] [] m Q := by
        rw [zw_i (x := r + 1) (by omega) (by omega), zw_i (x := i + 1) (by omega) (by omega), zw_i (by omega) (by omega), ← Int.add_assoc, hi]
        exact K0
      exact w_X10_wordAt_57 (zif (fun _ => zif (fun _ => zif (fun _ => fin) fun y => absurd rfl y) fun y => absurd rfl y) fun _ => zif (fun _ => fin) fun y => absurd rfl y)
  | cons c w' ih =>
    intro i i0 hi hs
    rw [List.length_cons] at hi
    refine w_X10_wordAt_18 ?_
    rw [zw_i (x := p + i) (by omega) (by omega), hs.1, if_neg hs.2.1, zw_i (x := i + 1) (by omega) (by omega)]
    exact zin_of (by omega) (by omega) (ih (i + 1) (by omega) (by omega) (by rw [← Int.add_assoc]; exact hs.2.2))
theorem s_wat_5 {a b : Int} (ha : 0 ≤ a) (hab : a ≤ b) (hb : b ≤ n) (hn : n ≤ 600) (ht : ∀ i, 0 ≤ i → i < n → m 89 i = tx i) : ∀ (ws : List (List Int)) (r p : Int), 0 ≤ p → 0 ≤ r → r + ws.length ≤ 21 → encA m p ws → (∀ j : Nat, j < ws.length → isWd tx a b (ws.getD j []) → Q [zI (r + j)] m) → ((∀ w ∈ ws, ¬ isWd tx a b w) → Q [zI (-1)] m) → zG Ω 138 5 [zR 10 88, zI a, zI b, zI r, zI p, zU, zU, zU] [] m Q := by
  intro ws
  induction ws with
  | nil =>
    intro r p p0 r0 hl he K1 K0
    have he : p = 110 := he
    exact w_X10_wordAt_5 (zif (fun z => absurd z (by omega)) fun _ => K0 fun w hw => by cases hw)
  | cons w ws ih =>
    intro r p p0 r0 hl he K1 K0
    have hb' := encA_b ws _ he.2
    rw [List.length_cons] at hl
    refine w_X10_wordAt_5 (zif (fun _ => ?_) fun z => absurd (show p < 110 by omega) z)
    refine s_wat_18 (w := w) ha hab hb hn ht (by omega) (by omega) he.1 (fun q => ?_) (fun q => ?_) w 0 (by omega) (by omega) (by rw [Int.add_zero]; exact he.1)
    · have := K1 0 (by simp) q
      rwa [show r + ((0 : Nat) : Int) = r by omega] at this
    · refine ih (r + 1) (p + w.length + 1) (by omega) (by omega) (by omega) he.2 (fun j hj t => ?_) fun t => K0 fun w' hw' => ?_
      · have := K1 (j + 1) (by rw [List.length_cons]; omega) t
        rwa [show r + ((j + 1 : Nat) : Int) = r + 1 + (j : Int) by omega] at this
      · rcases List.mem_cons.mp hw' with z | z
        · rw [z]; exact q
        · exact t w' z
theorem s_wordAt {a b : Int} (h : TM tx n m) (ha : 0 ≤ a) (hab : a ≤ b) (hb : b ≤ n) (K : ∀ k, wkA tx a b k → Q [zI (if k = 1 then -1 else wrA k)] m) : zG Ω 138 0 [zR 10 88, zI a, zI b, zU, zU, zU, zU, zU] [] m Q := by
  refine w_X10_wordAt_0 (s_wat_5 ha hab hb h.2.1.2 (fun i i0 i1 => (h.2.2.1 i i0 i1).2) wdsM 0 0 (by omega) (by omega) (by decide) h.2.2.2 (fun j hj t => ?_) fun t => ?_)
  · have hj : j < 21 := hj
    obtain ⟨e1, e2⟩ := wds_map ⟨j, hj⟩
    have K := K _ (fdWd_find t wdsA 3 e2)
    rw [if_neg (by omega), e1] at K
    rw [Int.zero_add]
    exact K
  · have K := K 1 (fdWd_none wdsA 3 fun w hw => t w (wds_sub w hw))
    rwa [if_pos rfl] at K
end L2
