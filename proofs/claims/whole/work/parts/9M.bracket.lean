/-! brackets over the core of an expression -/
theorem rW_lt {u u' : zM} {n : Int} (e : ∀ c j, (c = 118 ∨ c = 119) → j < n → u' c j = u c j) : ∀ (W N : List Int), (W.length : Int) ≤ n → rW u W N → rW u' W N := by
  intro W
  induction W with
  | nil => intro N _ h; cases N with
    | nil => trivial
    | cons x N => exact h
  | cons s W ih =>
    intro N hn h
    cases N with
    | nil => exact h
    | cons x N =>
      rw [List.length_cons] at hn
      exact ⟨(e 118 _ (by decide) (by omega)).trans h.1, (e 119 _ (by decide) (by omega)).trans h.2.1, ih N (by omega) h.2.2⟩
/-- a bracket opens -/
theorem EC_o {a a' u u' : zM} {E F K O x : Int} {W N H : List Int} (h : EC a E u F K O W N H) (hx : x < 96 + K)
    (a73 : a' 73 W.length = 36) (a73' : ∀ j, ¬ j = (W.length : Int) → a' 73 j = a 73 j) (a7 : a' 72 7 = a 72 7 + 1) (a5 : a' E 5 = a E 5) (a11 : a' E 11 = a E 11)
    (ac : ∀ j, a' (E + 1) j = a (E + 1) j ∧ a' (E + 2) j = a (E + 2) j)
    (p46 : u' 88 46 = u 88 46 + 1) (p42 : u' 88 42 = u 88 42) (p43 : u' 88 43 = u 88 43) (p48 : u' 88 48 = u 88 48)
    (p118 : u' 118 W.length = 100) (p119 : u' 119 W.length = x) (pw : ∀ c j, (c = 118 ∨ c = 119) → ¬ j = (W.length : Int) → u' c j = u c j)
    (pf : ∀ c j, ((111 ≤ c ∧ c ≤ 115) ∨ c = 120) → u' c j = u c j) :
    EC a' E u' F K O (36 :: W) (x :: N) H := by
  have hwl := h.wl
  have hwu := h.wu
  unfold EC
  refine ⟨⟨a73, stk_lt (n := W.length) (fun j hj => a73' j (by omega)) W (Int.le_refl _) h.w⟩, by rw [a7, List.length_cons]; omega, by rw [p46, List.length_cons]; omega, ⟨p118, p119, rW_lt (n := W.length) (fun c j hc hj => pw c j hc (by omega)) W N (Int.le_refl _) h.r⟩, stk_f (fun j => pf _ _ (by decide)) H h.hs, p48.trans h.hl, by rw [p42]; exact h.k, (a5.trans h.ka).trans p42.symm, p43.trans h.o, a11.trans h.oa, ?_, h.fo, ?_, ⟨⟨Or.inl rfl, hx⟩, fun y => absurd rfl y, ?_⟩, h.hr⟩
  · exact cdR_g (Int.le_refl _) (fun i _ _ => ac _) (fun i _ _ => ⟨pf _ _ (by decide), pf _ _ (by decide), pf _ _ (by decide)⟩) h.cd
  · exact rnB_f _ _ _ _ (fun i _ _ => ⟨pf _ _ (by decide), fun c c1 c2 => pf c _ (by omega)⟩) h.rn
  · refine ndW_g (Int.le_refl _) W N (fun y _ _ _ => ⟨pf _ _ (by decide), pf _ _ (by decide), fun hn => hn, fun hn i i1 i2 => ?_⟩) h.nd
    rw [pf 115 i (by decide)]; exact hn i i1 i2
