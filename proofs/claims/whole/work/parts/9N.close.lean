/-! a bracket closes; nothing of the core is touched -/
theorem EC_c {a a' u u' : zM} {E F K O x : Int} {W N H : List Int} (h : EC a E u F K O (36 :: W) (x :: N) H)
    (a73 : ∀ j, a' 73 j = a 73 j) (a7 : a' 72 7 = a 72 7 - 1) (a5 : a' E 5 = a E 5) (a11 : a' E 11 = a E 11)
    (ac : ∀ j, a' (E + 1) j = a (E + 1) j ∧ a' (E + 2) j = a (E + 2) j)
    (p46 : u' 88 46 = u 88 46 - 1) (p42 : u' 88 42 = u 88 42) (p43 : u' 88 43 = u 88 43) (p48 : u' 88 48 = u 88 48)
    (pf : ∀ c j, ((111 ≤ c ∧ c ≤ 115) ∨ c = 118 ∨ c = 119 ∨ c = 120) → u' c j = u c j) :
    EC a' E u' F K O W N H := by
  have hwl := h.wl
  have hwu := h.wu
  rw [List.length_cons] at hwl hwu
  unfold EC
  refine ⟨stk_f a73 W h.w.2, by omega, by omega, rW_f (fun c j h1 h2 => pf c j (by omega)) W N h.r.2.2, stk_f (fun j => pf _ _ (by decide)) H h.hs, p48.trans h.hl, by rw [p42]; exact h.k, (a5.trans h.ka).trans p42.symm, p43.trans h.o, a11.trans h.oa, ?_, h.fo, ?_, ?_, h.hr⟩
  · exact cdR_g (Int.le_refl _) (fun i _ _ => ac _) (fun i _ _ => ⟨pf _ _ (by decide), pf _ _ (by decide), pf _ _ (by decide)⟩) h.cd
  · exact rnB_f _ _ _ _ (fun i _ _ => ⟨pf _ _ (by decide), fun c c1 c2 => pf c _ (by omega)⟩) h.rn
  · refine ndW_g (Int.le_refl _) W N (fun y _ _ _ => ⟨pf _ _ (by decide), pf _ _ (by decide), fun hn => hn, fun hn i i1 i2 => ?_⟩) h.nd.2.2
    rw [pf 115 i (by decide)]; exact hn i i1 i2
/-- cells that EC does not speak of may change -/
theorem EC_f {a a' u u' : zM} {E F K O : Int} {W N H : List Int} (h : EC a E u F K O W N H)
    (a73 : ∀ j, a' 73 j = a 73 j) (a7 : a' 72 7 = a 72 7) (a5 : a' E 5 = a E 5) (a11 : a' E 11 = a E 11)
    (ac : ∀ j, a' (E + 1) j = a (E + 1) j ∧ a' (E + 2) j = a (E + 2) j)
    (p46 : u' 88 46 = u 88 46) (p42 : u' 88 42 = u 88 42) (p43 : u' 88 43 = u 88 43) (p48 : u' 88 48 = u 88 48)
    (pf : ∀ c j, ((111 ≤ c ∧ c ≤ 115) ∨ c = 118 ∨ c = 119 ∨ c = 120) → u' c j = u c j) :
    EC a' E u' F K O W N H := by
  unfold EC
  refine ⟨stk_f a73 W h.w, a7.trans h.wl, p46.trans h.wu, rW_f (fun c j h1 h2 => pf c j (by omega)) W N h.r, stk_f (fun j => pf _ _ (by decide)) H h.hs, p48.trans h.hl, by rw [p42]; exact h.k, (a5.trans h.ka).trans p42.symm, p43.trans h.o, a11.trans h.oa, ?_, h.fo, ?_, ?_, h.hr⟩
  · exact cdR_g (Int.le_refl _) (fun i _ _ => ac _) (fun i _ _ => ⟨pf _ _ (by decide), pf _ _ (by decide), pf _ _ (by decide)⟩) h.cd
  · exact rnB_f _ _ _ _ (fun i _ _ => ⟨pf _ _ (by decide), fun c c1 c2 => pf c _ (by omega)⟩) h.rn
  · refine ndW_g (Int.le_refl _) W N (fun y _ _ _ => ⟨pf _ _ (by decide), pf _ _ (by decide), fun hn => hn, fun hn i i1 i2 => ?_⟩) h.nd
    rw [pf 115 i (by decide)]; exact hn i i1 i2
