/-! a leaf over the core of an expression -/
theorem EC_l {a a' u u' : zM} {E F K O k v : Int} {W N H : List Int} (h : EC a E u F K O W N H)
    (hk : (k = 0 ∧ bdA v) ∨ (k = 16 ∧ 0 ≤ v ∧ v ≤ 8)) (hK : 0 ≤ K)
    (a73 : ∀ j, a' 73 j = a 73 j) (a7 : a' 72 7 = a 72 7) (a5 : a' E 5 = K + 1) (a11 : a' E 11 = O + 8)
    (a1 : a' (E + 1) (7 + O) = sgK k v) (a2 : k = 0 → a' (E + 2) (7 + O) = v) (ac : ∀ j, ¬ j = 7 + O → a' (E + 1) j = a (E + 1) j ∧ a' (E + 2) j = a (E + 2) j)
    (p46 : u' 88 46 = u 88 46) (p42 : u' 88 42 = K + 1) (p43 : u' 88 43 = O + 1) (p48 : u' 88 48 = u 88 48 + 1)
    (p120 : u' 120 (u 88 48) = 96 + K) (p120' : ∀ j, ¬ j = u 88 48 → u' 120 j = u 120 j)
    (p115 : u' 115 (96 + O) = 96 + K) (p115' : ∀ j, ¬ j = 96 + O → u' 115 j = u 115 j)
    (p111 : u' 111 (96 + K) = k) (p114 : u' 114 (96 + K) = v)
    (pk : ∀ c j, 111 ≤ c → c ≤ 114 → ¬ j = 96 + K → u' c j = u c j)
    (pf : ∀ c j, (c = 118 ∨ c = 119) → u' c j = u c j) :
    EC a' E u' F (K + 1) (O + 1) W N ((96 + K) :: H) := by
  have hl := h.hl
  have hfo := h.fo
  have hcd := h.cd
  rw [hl] at p120 p120' p48
  unfold EC
  refine ⟨stk_f a73 W h.w, a7.trans h.wl, p46.trans h.wu, rW_f (fun c j h1 h2 => pf c j (by omega)) W N h.r, ⟨p120, stk_lt (n := H.length) (fun j hj => p120' j (by omega)) H (Int.le_refl _) h.hs⟩, by rw [p48, List.length_cons]; omega, by omega, a5.trans p42.symm, p43, by omega, ?_, by omega, ?_, ?_, ?_⟩
  · refine cdR_s (cdR_g (K := K) (by omega) (fun i h0 h1 => ac _ (by omega)) (fun i h0 h1 => ?_) hcd) ?_ ?_ ?_
    · have hi := (hcd i h0 h1).1
      exact ⟨p115' _ (by omega), pk _ _ (by decide) (by decide) (by omega), pk _ _ (by decide) (by decide) (by omega)⟩
    · rw [p115]; omega
    · rw [p115, a1, p111, p114]
    · intro z
      rw [p115, p114]
      rcases hk with q | q
      · exact a2 q.1
      · rw [a1, q.1] at z
        have : sgK 16 v = 12 + v := rfl
        omega
  · have en : (O + 1 - F).toNat = (O - F).toNat + 1 := by omega
    rw [en]
    refine rnB_app _ _ [] H _ (rnB_f _ _ _ _ (fun i h0 h1 => ⟨p115' i (by omega), fun c c1 c2 => pk c _ c1 c2 ?_⟩) h.rn) ?_
    · have hi := (hcd (i - 96) (by omega) (by omega)).1
      have e : 96 + (i - 96) = i := by omega
      rw [e] at hi; omega
    · have eq : 96 + F + ((O - F).toNat : Int) = 96 + O := by omega
      rw [eq, p115]
      refine ⟨fun y => ?_, ?_⟩
      · have := h.hr _ y; omega
      · rw [p111, p114]
        rcases hk with q | q
        · exact Or.inl ⟨q.1, q.2, rfl⟩
        · exact Or.inr (Or.inl ⟨q.1, q.2, rfl⟩)
  · refine ndW_g (by omega) W N (fun y hy y1 y2 => ⟨pk _ _ (by decide) (by decide) (by omega), pk _ _ (by decide) (by decide) (by omega), fun hn hm => ?_, fun hn i i1 i2 => ?_⟩) h.nd
    · rcases List.mem_cons.1 hm with q | q
      · omega
      · exact hn q
    · by_cases z : i = 96 + O
      · rw [z, p115]; omega
      · rw [p115' i z]; exact hn i i1 (by omega)
  · intro y hy
    rcases List.mem_cons.1 hy with q | q
    · omega
    · have := h.hr y q; omega
