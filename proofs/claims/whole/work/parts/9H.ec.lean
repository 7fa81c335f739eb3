/-! the core of an expression, and one turn of bind over it -/
def EC (a : zM) (E : Int) (u : zM) (F K O : Int) (W N H : List Int) : Prop := (stk a 73 W) ∧ (a 72 7 = W.length) ∧ (u 88 46 = W.length) ∧ (rW u W N) ∧ (stk u 120 H) ∧ (u 88 48 = H.length) ∧ (K ≤ u 88 42) ∧ (a E 5 = u 88 42) ∧ (u 88 43 = O) ∧ (a E 11 = O + 7) ∧ (cdR a E u K O) ∧ (0 ≤ F ∧ F ≤ O) ∧ (rnB u (O - F).toNat (96 + F) [] H) ∧ (ndW u K O H W N) ∧ (∀ y, y ∈ H → 96 ≤ y ∧ y < 96 + K)
theorem EC.w {a : zM} {E : Int} {u : zM} {F K O : Int} {W N H : List Int} (h : EC a E u F K O W N H) : stk a 73 W := h.1
theorem EC.wl {a : zM} {E : Int} {u : zM} {F K O : Int} {W N H : List Int} (h : EC a E u F K O W N H) : a 72 7 = W.length := h.2.1
theorem EC.wu {a : zM} {E : Int} {u : zM} {F K O : Int} {W N H : List Int} (h : EC a E u F K O W N H) : u 88 46 = W.length := h.2.2.1
theorem EC.r {a : zM} {E : Int} {u : zM} {F K O : Int} {W N H : List Int} (h : EC a E u F K O W N H) : rW u W N := h.2.2.2.1
theorem EC.hs {a : zM} {E : Int} {u : zM} {F K O : Int} {W N H : List Int} (h : EC a E u F K O W N H) : stk u 120 H := h.2.2.2.2.1
theorem EC.hl {a : zM} {E : Int} {u : zM} {F K O : Int} {W N H : List Int} (h : EC a E u F K O W N H) : u 88 48 = H.length := h.2.2.2.2.2.1
theorem EC.k {a : zM} {E : Int} {u : zM} {F K O : Int} {W N H : List Int} (h : EC a E u F K O W N H) : K ≤ u 88 42 := h.2.2.2.2.2.2.1
theorem EC.ka {a : zM} {E : Int} {u : zM} {F K O : Int} {W N H : List Int} (h : EC a E u F K O W N H) : a E 5 = u 88 42 := h.2.2.2.2.2.2.2.1
theorem EC.o {a : zM} {E : Int} {u : zM} {F K O : Int} {W N H : List Int} (h : EC a E u F K O W N H) : u 88 43 = O := h.2.2.2.2.2.2.2.2.1
theorem EC.oa {a : zM} {E : Int} {u : zM} {F K O : Int} {W N H : List Int} (h : EC a E u F K O W N H) : a E 11 = O + 7 := h.2.2.2.2.2.2.2.2.2.1
theorem EC.cd {a : zM} {E : Int} {u : zM} {F K O : Int} {W N H : List Int} (h : EC a E u F K O W N H) : cdR a E u K O := h.2.2.2.2.2.2.2.2.2.2.1
theorem EC.fo {a : zM} {E : Int} {u : zM} {F K O : Int} {W N H : List Int} (h : EC a E u F K O W N H) : 0 ≤ F ∧ F ≤ O := h.2.2.2.2.2.2.2.2.2.2.2.1
theorem EC.rn {a : zM} {E : Int} {u : zM} {F K O : Int} {W N H : List Int} (h : EC a E u F K O W N H) : rnB u (O - F).toNat (96 + F) [] H := h.2.2.2.2.2.2.2.2.2.2.2.2.1
theorem EC.nd {a : zM} {E : Int} {u : zM} {F K O : Int} {W N H : List Int} (h : EC a E u F K O W N H) : ndW u K O H W N := h.2.2.2.2.2.2.2.2.2.2.2.2.2.1
theorem EC.hr {a : zM} {E : Int} {u : zM} {F K O : Int} {W N H : List Int} (h : EC a E u F K O W N H) : ∀ y, y ∈ H → 96 ≤ y ∧ y < 96 + K := h.2.2.2.2.2.2.2.2.2.2.2.2.2.2
theorem stk_lt {m m' : zM} {c n : Int} (e : ∀ j : Int, j < n → m' c j = m c j) : ∀ t : List Int, (t.length : Int) ≤ n → stk m c t → stk m' c t := by
  intro t
  induction t with
  | nil => intro _ _; trivial
  | cons a t ih =>
    intro hn h
    rw [List.length_cons] at hn
    exact ⟨(e _ (by omega)).trans h.1, ih (by omega) h.2⟩
theorem EC_s {a u u' : zM} {E F K O s x : Int} {W N H t : List Int} (hE : E = 76 ∨ E = 82) (h : EC a E u F K O (s :: W) (x :: N) H) (h36 : ¬ s = 36)
    (p46 : u' 88 46 = W.length) (p42 : u' 88 42 = u 88 42) (p43 : u' 88 43 = u 88 43 + 1) (p48 : u' 88 48 = t.length + 1)
    (p120 : u' 120 t.length = x) (p120' : ∀ j, ¬ j = (t.length : Int) → u' 120 j = u 120 j)
    (p115 : u' 115 (96 + u 88 43) = x) (p115' : ∀ j, ¬ j = 96 + u 88 43 → u' 115 j = u 115 j)
    (pk : ∀ c j, (c = 112 ∨ c = 113) → ¬ j = x → u' c j = u c j)
    (pf : ∀ c j, (c = 111 ∨ c = 114 ∨ c = 118 ∨ c = 119) → u' c j = u c j)
    (hst : stk u 120 t) (hsub : ∀ y, y ∈ t → y ∈ H) (hB : stB u' x H (x :: t)) :
    EC (zup (addF a E s 0) 72 7 W.length) E u' F K (O + 1) W N (x :: t) := by
  obtain ⟨⟨hok, _⟩, hnd, hrest⟩ := h.nd
  obtain ⟨hx, h111, h114, hxH, hxN, hxO⟩ := hnd h36
  have ho := h.o
  have hoa := h.oa
  have hfo := h.fo
  rw [ho] at p115 p115' p43
  have e73 : ∀ j, zup (addF a E s 0) 72 7 W.length 73 j = a 73 j := by
    intro j; rcases hE with z | z <;> subst z <;> simp [addF, zup]
  have eE : ∀ j, ¬ j = 11 → zup (addF a E s 0) 72 7 W.length E j = a E j := by
    intro j hj; rcases hE with z | z <;> subst z <;> simp [addF, zup, hj]
  have e11 : zup (addF a E s 0) 72 7 W.length E 11 = a E 11 + 1 := by
    rcases hE with z | z <;> subst z <;> simp [addF, zup]
  have e1 : zup (addF a E s 0) 72 7 W.length (E + 1) (a E 11) = s := by
    rcases hE with z | z <;> subst z <;> simp [addF, zup]
  have ec : ∀ j, ¬ j = a E 11 → zup (addF a E s 0) 72 7 W.length (E + 1) j = a (E + 1) j ∧ zup (addF a E s 0) 72 7 W.length (E + 2) j = a (E + 2) j := by
    intro j hj; rcases hE with z | z <;> subst z <;> simp [addF, zup, hj]
  have e7O : 7 + O = a E 11 := by omega
  have hne : ∀ i, 96 ≤ i → i < 96 + O → ¬ u 115 i = x := hxO
  unfold EC
  refine ⟨stk_f e73 W h.w.2, zup_s _ _ _ _, p46, rW_f (fun c j h1 h2 => pf c j (by omega)) W N h.r.2.2, ⟨p120, stk_lt (n := t.length) (fun j hj => p120' j (by omega)) t (Int.le_refl _) hst⟩, by rw [p48, List.length_cons]; omega, by rw [p42]; exact h.k, ((eE 5 (by decide)).trans h.ka).trans p42.symm, p43, by rw [e11]; omega, ?_, by omega, ?_, ?_, ?_⟩
  · refine cdR_s (cdR_g (Int.le_refl _) (fun i h0 h1 => ec _ (by omega)) (fun i h0 h1 => ⟨p115' _ (by omega), pf _ _ (by omega), pf _ _ (by omega)⟩) h.cd) ?_ ?_ ?_
    · rw [p115]; exact hx
    · rw [p115, e7O, e1, pf 111 x (by omega), pf 114 x (by omega), h111, h114, wmp_s hok h36]
    · intro z; rw [e7O, e1] at z; unfold okW at hok; omega
  · have en : (O + 1 - F).toNat = (O - F).toNat + 1 := by omega
    rw [en]
    refine rnB_app _ _ [] H _ (rnB_f _ _ _ _ (fun i h0 h1 => ⟨p115' i (by omega), fun c c1 c2 => ?_⟩) h.rn) ?_
    · have hi := hne i (by omega) (by omega)
      by_cases z : c = 112 ∨ c = 113
      · exact pk c _ z hi
      · exact pf c _ (by omega)
    · have eq : 96 + F + ((O - F).toNat : Int) = 96 + O := by omega
      rw [eq, p115]; exact hB
  · refine ndW_g (Int.le_refl _) W N (fun y hy y1 y2 => ⟨pf _ _ (by omega), pf _ _ (by omega), fun hn hm => ?_, fun hn i i1 i2 => ?_⟩) hrest
    · have hyx : ¬ y = x := fun q => hxN (q ▸ hy)
      rcases List.mem_cons.1 hm with q | q
      · exact hyx q
      · exact hn (hsub y q)
    · have hyx : ¬ x = y := fun q => hxN (q ▸ hy)
      by_cases z : i = 96 + O
      · rw [z, p115]; exact hyx
      · rw [p115' i z]; exact hn i i1 (by omega)
  · intro y hy
    rcases List.mem_cons.1 hy with q | q
    · rw [q]; exact hx
    · exact h.hr y (hsub y q)
