/-! the reference's knots as they are read (the scratch half, from 96 on): running the code moves the knots that wait -/
def stB (u : zM) (a : Int) (ids mid : List Int) : Prop := ¬ a ∈ ids ∧ ((u 111 a = 0 ∧ bdA (u 114 a) ∧ mid = a :: ids) ∨ (u 111 a = 16 ∧ (0 ≤ u 114 a ∧ u 114 a ≤ 8) ∧ mid = a :: ids) ∨ ((u 111 a = 12 ∨ u 111 a = 13) ∧ ∃ c t, ids = c :: t ∧ u 112 a = c ∧ mid = a :: t) ∨ (((1 ≤ u 111 a ∧ u 111 a ≤ 11) ∨ u 111 a = 14 ∨ u 111 a = 15) ∧ ∃ b c t, ids = b :: c :: t ∧ u 113 a = b ∧ u 112 a = c ∧ mid = a :: t))
def rnB (u : zM) : Nat → Int → List Int → List Int → Prop
  | 0, _, ids, ids' => ids' = ids
  | n + 1, q, ids, ids' => ∃ mid, stB u (u 115 q) ids mid ∧ rnB u n (q + 1) mid ids'
theorem rnB_app {u : zM} : ∀ (n : Nat) (q : Int) (ids mid ids' : List Int), rnB u n q ids mid → stB u (u 115 (q + n)) mid ids' → rnB u (n + 1) q ids ids' := by
  intro n
  induction n with
  | zero =>
    intro q ids mid ids' h hs
    have h : mid = ids := h
    subst h
    rw [show q + ((0 : Nat) : Int) = q by omega] at hs
    exact ⟨ids', hs, rfl⟩
  | succ n ih =>
    intro q ids mid ids' h hs
    obtain ⟨m1, h1, h2⟩ := h
    refine ⟨m1, h1, ih (q + 1) m1 mid ids' h2 ?_⟩
    rwa [show q + 1 + (n : Int) = q + ((n + 1 : Nat) : Int) by omega]
theorem stB_f {u u' : zM} {a : Int} {ids mid : List Int} (e : ∀ x, 111 ≤ x → x ≤ 114 → u' x a = u x a) (h : stB u a ids mid) : stB u' a ids mid := by
  unfold stB at h ⊢
  rw [e 111 (by decide) (by decide), e 112 (by decide) (by decide), e 113 (by decide) (by decide), e 114 (by decide) (by decide)]
  exact h
theorem rnB_f {u u' : zM} : ∀ (n : Nat) (q : Int) (ids ids' : List Int), (∀ i, q ≤ i → i < q + n → u' 115 i = u 115 i ∧ ∀ x, 111 ≤ x → x ≤ 114 → u' x (u 115 i) = u x (u 115 i)) → rnB u n q ids ids' → rnB u' n q ids ids' := by
  intro n
  induction n with
  | zero => intro q ids ids' _ h; exact h
  | succ n ih =>
    intro q ids ids' e h
    obtain ⟨mid, h1, h2⟩ := h
    have eq := e q (by omega) (by omega)
    refine ⟨mid, ?_, ih (q + 1) mid ids' (fun i i0 i1 => e i (by omega) (by omega)) h2⟩
    rw [eq.1]
    exact stB_f eq.2 h1
/-- what is kept of them is in order -/
theorem wf_of {u g : zM} : ∀ (n : Nat) (q : Int) (ids ids' : List Int), 96 ≤ q → q + n ≤ 192 → (∀ i, q ≤ i → i < q + n → (96 ≤ u 115 i ∧ u 115 i < 192) ∧ g 115 (i - 96) = u 115 i - 96 ∧ g 111 (u 115 i - 96) = u 111 (u 115 i) ∧ g 112 (u 115 i - 96) = u 112 (u 115 i) - 96 ∧ g 113 (u 115 i - 96) = u 113 (u 115 i) - 96 ∧ g 114 (u 115 i - 96) = u 114 (u 115 i)) → rnB u n q ids ids' → ids'.length = 1 → wfA g n (q - 96) (ids.map fun x => x - 96) := by
  intro n
  induction n with
  | zero =>
    intro q ids ids' h0 h1 e h hl
    have h : ids' = ids := h
    show (ids.map fun x => x - 96).length = 1
    rw [List.length_map, ← h]
    exact hl
  | succ n ih =>
    intro q ids ids' h0 h1 e h hl
    obtain ⟨mid, hs, hr⟩ := h
    obtain ⟨b, e5, e1, e2, e3, e4⟩ := e q (by omega) (by omega)
    have nx := ih (q + 1) mid ids' (by omega) (by omega) (fun i i0 i1 => e i (by omega) (by omega)) hr hl
    rw [show q + 1 - 96 = q - 96 + 1 by omega] at nx
    unfold wfA
    rw [e5, e1, e2, e3, e4]
    refine ⟨by omega, by omega, fun z => hs.1 ?_, ?_⟩
    · obtain ⟨x, hx, hxe⟩ := List.mem_map.mp z
      have : x = u 115 q := by omega
      rw [← this]; exact hx
    · rcases hs.2 with ⟨k0, kb, rfl⟩ | ⟨k0, kb, rfl⟩ | ⟨k0, c, t, rfl, kc, rfl⟩ | ⟨k0, b', c, t, rfl, kb, kc, rfl⟩
      · exact Or.inl ⟨k0, kb, nx⟩
      · exact Or.inr (Or.inl ⟨k0, kb, nx⟩)
      · exact Or.inr (Or.inr (Or.inl ⟨k0, c - 96, t.map fun x => x - 96, rfl, by rw [kc], nx⟩))
      · exact Or.inr (Or.inr (Or.inr ⟨k0, b' - 96, c - 96, t.map fun x => x - 96, rfl, by rw [kb], by rw [kc], nx⟩))
/-- signs that wait, the last first: those that are not yet written when b binds -/
def popW (b : Int) : List Int → List Int
  | [] => []
  | s :: W => if bdW s < b then s :: W else popW b W
theorem popW_len (b : Int) : ∀ W : List Int, (popW b W).length ≤ W.length := by
  intro W
  induction W with
  | nil => exact Nat.le_refl _
  | cons s W ih =>
    unfold popW
    split
    · exact Nat.le_refl _
    · exact Nat.le_trans ih (by rw [List.length_cons]; omega)
theorem stk_f {m m' : zM} {c : Int} (e : ∀ j, m' c j = m c j) : ∀ t : List Int, stk m c t → stk m' c t := by
  intro t
  induction t with
  | nil => intro _; trivial
  | cons a t ih => intro h; exact ⟨(e _).trans h.1, ih h.2⟩
theorem wrF_W {E b : Int} (hE : E = 76 ∨ E = 82) : ∀ (W : List Int) (m : zM), stk m 73 W → m 72 7 = W.length → wrF E b W.length m 72 7 = (popW b W).length ∧ stk (wrF E b W.length m) 73 (popW b W) := by
  intro W
  induction W with
  | nil => intro m _ h; exact ⟨h, trivial⟩
  | cons s W ih =>
    intro m hs h
    have e1 : m 73 (W.length : Int) = s := hs.1
    have ew : wrF E b (s :: W).length m = if bdW (m 73 (W.length : Int)) < b then m else wrF E b W.length (zup (addF m E (m 73 (W.length : Int)) 0) 72 7 W.length) := rfl
    rw [ew, e1]
    unfold popW
    by_cases z : bdW s < b
    · rw [if_pos z, if_pos z]
      exact ⟨h, hs⟩
    · rw [if_neg z, if_neg z]
      refine ih _ (stk_f (fun j => ?_) W hs.2) (zup_e rfl rfl)
      unfold addF
      rw [zup_c (by decide), zup_c (by omega), zup_c (by omega), zup_c (by omega)]
