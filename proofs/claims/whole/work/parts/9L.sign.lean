/-! a sign that waits, a bracket, over the core of an expression -/
theorem ndW_lt {u : zM} {K O : Int} {H : List Int} : ∀ (W N : List Int), ndW u K O H W N → ∀ y, y ∈ N → y < 96 + K := by
  intro W
  induction W with
  | nil => intro N h y hy; cases N with
    | nil => exact absurd hy (List.not_mem_nil)
    | cons x N => exact absurd h (fun q => q)
  | cons s W ih =>
    intro N h y hy
    cases N with
    | nil => exact absurd h (fun q => q)
    | cons x N =>
      rcases List.mem_cons.1 hy with q | q
      · rw [q]; exact h.1.2
      · exact ih N h.2.2 y q
theorem EC_w {a a' u u' : zM} {E F K O s : Int} {W N H : List Int} (h : EC a E u F K O W N H)
    (hok : okW s) (h36 : ¬ s = 36) (hK : 0 ≤ K)
    (a73 : a' 73 W.length = s) (a73' : ∀ j, ¬ j = (W.length : Int) → a' 73 j = a 73 j) (a7 : a' 72 7 = a 72 7 + 1) (a5 : a' E 5 = K + 1) (a11 : a' E 11 = a E 11)
    (ac : ∀ j, a' (E + 1) j = a (E + 1) j ∧ a' (E + 2) j = a (E + 2) j)
    (p46 : u' 88 46 = u 88 46 + 1) (p42 : u' 88 42 = K + 1) (p43 : u' 88 43 = u 88 43) (p48 : u' 88 48 = u 88 48)
    (p118 : u' 118 W.length = wmp s) (p119 : u' 119 W.length = 96 + K) (pw : ∀ c j, (c = 118 ∨ c = 119) → ¬ j = (W.length : Int) → u' c j = u c j)
    (p111 : u' 111 (96 + K) = wmp s) (p114 : u' 114 (96 + K) = 0)
    (pk : ∀ c j, 111 ≤ c → c ≤ 114 → ¬ j = 96 + K → u' c j = u c j)
    (pf : ∀ c j, (c = 115 ∨ c = 120) → u' c j = u c j) (hr : rW u' W N) :
    EC a' E u' F (K + 1) O (s :: W) ((96 + K) :: N) H := by
  have hcd := h.cd
  have hfo := h.fo
  have hwl := h.wl
  have hwu := h.wu
  have hoa := h.oa
  unfold EC
  refine ⟨⟨a73, stk_lt (n := W.length) (fun j hj => a73' j (by omega)) W (Int.le_refl _) h.w⟩, by rw [a7, List.length_cons]; omega, by rw [p46, List.length_cons]; omega, ⟨p118, p119, hr⟩, stk_f (fun j => pf _ _ (by decide)) H h.hs, p48.trans h.hl, by omega, a5.trans p42.symm, p43.trans h.o, a11.trans hoa, ?_, hfo, ?_, ⟨⟨hok, by omega⟩, fun _ => ⟨by omega, p111, p114, fun y => ?_, fun y => ?_, fun i i1 i2 => ?_⟩, ?_⟩, ?_⟩
  · refine cdR_g (K := K) (by omega) (fun i h0 h1 => ac _) (fun i h0 h1 => ?_) hcd
    have hi := (hcd i h0 h1).1
    exact ⟨pf _ _ (by decide), pk _ _ (by decide) (by decide) (by omega), pk _ _ (by decide) (by decide) (by omega)⟩
  · refine rnB_f _ _ _ _ (fun i h0 h1 => ⟨pf _ _ (by decide), fun c c1 c2 => pk c _ c1 c2 ?_⟩) h.rn
    have hi := (hcd (i - 96) (by omega) (by omega)).1
    have e : 96 + (i - 96) = i := by omega
    rw [e] at hi; omega
  · have := h.hr _ y; omega
  · have := ndW_lt W N h.nd _ y; omega
  · rw [pf 115 i (by decide)]
    have hi := (hcd (i - 96) (by omega) (by omega)).1
    have e : 96 + (i - 96) = i := by omega
    rw [e] at hi; omega
  · refine ndW_g (by omega) W N (fun y hy y1 y2 => ⟨pk _ _ (by decide) (by decide) (by omega), pk _ _ (by decide) (by decide) (by omega), fun hn => hn, fun hn i i1 i2 => ?_⟩) h.nd
    rw [pf 115 i (by decide)]; exact hn i i1 i2
  · intro y hy
    have := h.hr y hy; omega
