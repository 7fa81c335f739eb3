/-! wordBetween: the word's number -/
def spC (i : Int) : List Int → Prop
  | [] => zwch i = 32
  | c :: w => zwch i = c ∧ (97 ≤ c ∧ c ≤ 122) ∧ spC (i + 1) w
def enC (i : Int) : List (List Int) → Prop
  | [] => i = 110
  | w :: ws => spC i w ∧ enC (i + w.length + 1) ws
theorem enC_b : ∀ (ws : List (List Int)) (i : Int), enC i ws → i + ws.length ≤ 110 := by
  intro ws
  induction ws with
  | nil => intro i h; have h : i = 110 := h; simp; omega
  | cons w ws ih =>
    intro i h
    have := ih _ h.2
    rw [List.length_cons]
    omega
def spB (i : Int) : List Int → Bool
  | [] => decide (zwch i = 32)
  | c :: w => decide (zwch i = c ∧ (97 ≤ c ∧ c ≤ 122)) && spB (i + 1) w
def enB (i : Int) : List (List Int) → Bool
  | [] => decide (i = 110)
  | w :: ws => spB i w && enB (i + w.length + 1) ws
theorem spB_ok : ∀ (w : List Int) (i : Int), spB i w = true → spC i w := by
  intro w
  induction w with
  | nil => intro i h; exact (of_decide_eq_true (show decide (zwch i = 32) = true from h) : zwch i = 32)
  | cons c w ih =>
    intro i h
    have h : (decide (zwch i = c ∧ (97 ≤ c ∧ c ≤ 122)) && spB (i + 1) w) = true := h
    rw [Bool.and_eq_true] at h
    have h1 := of_decide_eq_true h.1
    exact ⟨h1.1, h1.2, ih _ h.2⟩
theorem enB_ok : ∀ (ws : List (List Int)) (i : Int), enB i ws = true → enC i ws := by
  intro ws
  induction ws with
  | nil => intro i h; exact (of_decide_eq_true (show decide (i = 110) = true from h) : i = 110)
  | cons w ws ih =>
    intro i h
    have h : (spB i w && enB (i + w.length + 1) ws) = true := h
    rw [Bool.and_eq_true] at h
    exact ⟨spB_ok w i h.1, ih _ h.2⟩
theorem enC_0 : enC 0 wdsA := enB_ok _ _ (by decide +kernel)
section L3
variable {Ω : zΩ} {Q : List zV → zM → Prop} {tx : Int → Int} {n a b : Int} {m : zM}
theorem wb_0 (HP : ZPr Ω) {x3 : Int} (h3 : 0 ≤ x3 ∧ x3 ≤ 100) : ∀ (w : List Int) (i x4 : Int), spC i w → 0 ≤ i → i + w.length < 110 → 0 ≤ x4 → x4 + w.length ≤ 1000 → zG Ω 91 11 [zR 8 75, zI a, zI b, zI (x3 + 1), zI a, zI 1, zI (i + w.length + 1), zU] [] m Q → zG Ω 91 11 [zR 8 75, zI a, zI b, zI x3, zI x4, zI 0, zI i, zU] [] m Q := by
  intro w
  induction w with
  | nil =>
    intro i x4 hs i0 i1 h4 h5 K
    simp at i1 K
    have hs : zwch i = 32 := hs
    refine w_X8_wordBetween_11 HP (zif (fun _ => zin_of i0 (by omega) ?_) fun z => absurd i1 z)
    rw [hs, zw_i (x := x3 + 1) (by omega) (by omega), zw_i (x := i + 1) (by omega) (by omega)]
    exact zif (fun _ => zif (fun _ => K) fun z => absurd rfl z) fun z => absurd rfl z
  | cons c w ih =>
    intro i x4 hs i0 i1 h4 h5 K
    rw [List.length_cons] at i1 h5 K
    refine w_X8_wordBetween_11 HP (zif (fun _ => zin_of i0 (by omega) ?_) fun z => absurd (by omega) z)
    rw [hs.1, zw_i (x := x4 + 1) (by omega) (by omega), zw_i (x := i + 1) (by omega) (by omega)]
    have hc := hs.2.1
    refine zif (fun z => absurd z (by omega)) fun _ => zif (fun _ => ih (i + 1) (x4 + 1) hs.2.2 (by omega) (by omega) (by omega) (by omega) ?_) fun z => absurd rfl z
    rw [show i + 1 + (w.length : Int) + 1 = i + ((w.length + 1 : Nat) : Int) + 1 by omega]
    exact K
theorem wb_1 (HP : ZPr Ω) (ht : TC tx n m) {x3 : Int} (h3 : 0 ≤ x3 ∧ x3 ≤ 100) (hb : b ≤ n) : ∀ (w : List Int) (i x4 : Int), spC i w → 0 ≤ i → i + w.length < 110 → 0 ≤ x4 → x4 + w.length ≤ 1000 → (isWd tx x4 b w → Q [zI x3] m) → (¬ isWd tx x4 b w → zG Ω 91 11 [zR 8 75, zI a, zI b, zI (x3 + 1), zI a, zI 1, zI (i + w.length + 1), zU] [] m Q) → zG Ω 91 11 [zR 8 75, zI a, zI b, zI x3, zI x4, zI 1, zI i, zU] [] m Q := by
  intro w
  induction w with
  | nil =>
    intro i x4 hs i0 i1 h4 h5 K1 K0
    simp at i1 K0
    have hs : zwch i = 32 := hs
    refine w_X8_wordBetween_11 HP (zif (fun _ => zin_of i0 (by omega) ?_) fun z => absurd i1 z)
    rw [hs, zw_i (x := x3 + 1) (by omega) (by omega), zw_i (x := i + 1) (by omega) (by omega)]
    exact zif (fun _ => zif (fun z => absurd z (by decide)) fun _ => zif (fun z => K1 z) fun z => K0 z) fun z => absurd rfl z
  | cons c w ih =>
    intro i x4 hs i0 i1 h4 h5 K1 K0
    rw [List.length_cons] at i1 h5 K0
    have hc := hs.2.1
    have e : i + 1 + (w.length : Int) + 1 = i + ((w.length + 1 : Nat) : Int) + 1 := by omega
    refine w_X8_wordBetween_11 HP (zif (fun _ => zin_of i0 (by omega) ?_) fun z => absurd (by omega) z)
    rw [hs.1, zw_i (x := x4 + 1) (by omega) (by omega), zw_i (x := i + 1) (by omega) (by omega)]
    have no : ¬ isWd tx x4 b (c :: w) → zG Ω 91 11 [zR 8 75, zI a, zI b, zI x3, zI (x4 + 1), zI 0, zI (i + 1), zU] [] m Q := fun q => wb_0 HP h3 w (i + 1) (x4 + 1) hs.2.2 (by omega) (by omega) (by omega) (by omega) (by rw [e]; exact K0 q)
    refine zif (fun z => absurd z (by omega)) fun _ => zif (fun z => absurd z (by decide)) fun _ => zif (fun z => ?_) fun z => no (fun q => z q.1)
    have tb := ht.2.2 x4 h4 (by omega)
    refine s_signAt ht h4 (zk1_i ?_)
    have es : scA tx n x4 = if tx x4 < 128 then tx x4 else tx x4 - 256 := if_pos (by omega)
    rw [es]
    refine zif (fun y => ?_) fun y => no fun q => y ?_
    · have ec : tx x4 = c := by
        by_cases t : tx x4 < 128
        · rwa [if_pos t] at y
        · rw [if_neg t] at y; omega
      exact ih (i + 1) (x4 + 1) hs.2.2 (by omega) (by omega) (by omega) (by omega) (fun q => K1 ⟨z, ec, q⟩) fun q => by
        rw [e]
        exact K0 fun t => q t.2.2
    · rw [q.2.1, if_pos (by omega)]
theorem WB_of (HP : ZPr Ω) : WBs Ω := by
  intro m Q tx n a b ht ha hab hb K
  have hn := ht.2.1
  have main : ∀ (ws : List (List Int)) (i k : Int), enC i ws → 0 ≤ i → 0 ≤ k → k + ws.length ≤ 100 → (∀ w, w ∈ ws → w.length ≤ 10) → (∀ r, fdWd tx a b ws k r → Q [zI r] m) → zG Ω 91 11 [zR 8 75, zI a, zI b, zI k, zI a, zI 1, zI i, zU] [] m Q := by
    intro ws
    induction ws with
    | nil =>
      intro i k hi i0 k0 k1 hw C
      have hi : i = 110 := hi
      exact w_X8_wordBetween_11 HP (zif (fun z => absurd z (by omega)) fun _ => C 1 rfl)
    | cons w ws ih =>
      intro i k hi i0 k0 k1 hw C
      rw [List.length_cons] at k1
      have b1 := enC_b ws _ hi.2
      have wl := hw w (List.mem_cons_self ..)
      refine wb_1 HP ht (by omega) hb w i a hi.1 i0 (by omega) ha (by omega) (fun q => C k (Or.inl ⟨q, rfl⟩)) fun q => ih _ _ hi.2 (by omega) (by omega) (by omega) (fun v hv => hw v (List.mem_cons_of_mem _ hv)) fun r hr => C r (Or.inr ⟨q, hr⟩)
  exact w_X8_wordBetween_0 (main wdsA 0 3 enC_0 (by decide) (by decide) (by decide) (by decide) K)
end L3
