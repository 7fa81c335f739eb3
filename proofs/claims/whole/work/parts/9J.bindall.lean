/-! bind whole -/
section L3
variable {Ω : zΩ} {u : zM} {Q : List zV → zM → Prop}
theorem r_bind0 {b : Int} {k : Nat} (h46 : u 88 46 = (k : Int) + 1) (hk : (k : Int) + 1 ≤ 120) (z : wtM (u 118 k) < b) (K : Q [] u) : zG Ω 149 0 [zR 10 88, zI b, zU] [] u Q := by
  have wk : zw (u 88 46 - 1) = k := by rw [h46, zw_i (by omega) (by omega)]; omega
  refine w_X10_bind_0 (zif (fun _ => ?_) fun z => absurd (show 0 < u 88 46 by omega) z)
  rw [wk]
  exact zin_of (by omega) (by omega) (r_weight (zk1_i (zif (fun _ => K) fun y => absurd z y)))
theorem r_bindE {b : Int} (h46 : u 88 46 = 0) (K : Q [] u) : zG Ω 149 0 [zR 10 88, zI b, zU] [] u Q := by
  exact w_X10_bind_0 (zif (fun y => absurd y (by omega)) fun _ => K)
end L3
/-- signs among those that wait -/
def cnW : List Int → Nat
  | [] => 0
  | s :: W => if s = 36 then cnW W else cnW W + 1
def frB (u u' : zM) : Prop := ∀ c j, ¬ c = 112 → ¬ c = 113 → ¬ c = 115 → ¬ c = 120 → (c = 88 → ¬ j = 43 ∧ ¬ j = 46 ∧ ¬ j = 48) → u' c j = u c j
theorem bn1_fr {u : zM} {k : Int} : frB u (bn1F u k) := by
  intro c j h1 h2 h3 h4 h5
  unfold bn1F
  by_cases h88 : c = 88
  · obtain ⟨h6, h7, h8⟩ := h5 h88
    split
    · simp [un1F, donF, droF, zup, h88, h6, h7, h8]
    · simp [bi1F, donF, droF, zup, h88, h6, h7, h8]
  · split
    · simp [un1F, donF, droF, zup, h1, h3, h4, h88]
    · simp [bi1F, donF, droF, zup, h1, h2, h3, h4, h88]
theorem nbW_le : ∀ W : List Int, nbW W ≤ W.length := by
  intro W
  induction W with
  | nil => exact Nat.le_refl _
  | cons s W ih => unfold nbW; rw [List.length_cons]; split <;> omega
theorem EC_b {Ω : zΩ} {Q : List zV → zM → Prop} {E F K b d : Int} (hd : 0 ≤ d) (hE : E = 76 ∨ E = 82) (hb : 1 ≤ b) (hK : K ≤ 96) : ∀ (W N H : List Int) (a u : zM) (O : Int), EC a E u F K O W N H → H.length = nbW W + 1 → O + cnW W + d = K → W.length ≤ 112 → (∀ u' N' H' O', EC (wrF E b W.length a) E u' F K O' (popW b W) N' H' → H'.length = nbW (popW b W) + 1 → O' + cnW (popW b W) + d = K → frB u u' → Q [] u') → zG Ω 149 0 [zR 10 88, zI b, zU] [] u Q := by
  intro W
  induction W with
  | nil => intro N H a u O h hl ho _ C; exact r_bindE h.wu (C u N H O h hl ho (fun _ _ _ _ _ _ _ => rfl))
  | cons s W ih =>
    intro N H a u O h hl ho hW C
    cases N with
    | nil => exact absurd h.r (fun y => y)
    | cons x N =>
      have hwu := h.wu
      have ho1 := h.o
      have hfo := h.fo
      have hhl := h.hl
      have r1 : u 118 W.length = wmp s := h.r.1
      have r2 : u 119 W.length = x := h.r.2.1
      obtain ⟨⟨hok, _⟩, hnd, hrest⟩ := h.nd
      have e1 : a 73 (W.length : Int) = s := h.w.1
      have ew : wrF E b (s :: W).length a = if bdW (a 73 (W.length : Int)) < b then a else wrF E b W.length (zup (addF a E (a 73 (W.length : Int)) 0) 72 7 W.length) := rfl
      have ep : popW b (s :: W) = if bdW s < b then s :: W else popW b W := rfl
      have en : nbW (s :: W) = if s = 36 ∨ s = 35 ∨ s = 23 then nbW W else nbW W + 1 := rfl
      have ecn : cnW (s :: W) = if s = 36 then cnW W else cnW W + 1 := rfl
      rw [ew, ep, e1] at C
      rw [List.length_cons] at hwu hW
      by_cases z : bdW s < b
      · rw [if_pos z, if_pos z] at C
        refine r_bind0 (k := W.length) (by omega) (by omega) ?_ (C u (x :: N) H O h hl ho (fun _ _ _ _ _ _ _ => rfl))
        rw [r1, wmp_w hok]; exact z
      · rw [if_neg z, if_neg z] at C
        have h36 : ¬ s = 36 := fun y => z (by rw [y]; exact Int.lt_of_lt_of_le (by decide : bdW 36 < 1) hb)
        obtain ⟨hx, _⟩ := hnd h36
        rw [ecn, if_neg h36] at ho
        have nb := nbW_le W
        have un := wmp_un hok h36
        have har : arW s ≤ H.length ∧ nbW W + arW s = H.length ∧ (if wmp s = 12 ∨ wmp s = 13 then (1 : Int) else 2) = arW s := by
          unfold arW
          by_cases y : s = 35 ∨ s = 23
          · rw [if_pos y, if_pos (un.2 y)]
            rw [en, if_pos (Or.inr y)] at hl
            refine ⟨by omega, by omega, rfl⟩
          · rw [if_neg y, if_neg (fun q => y (un.1 q))]
            rw [en, if_neg (fun q => q.elim h36 y)] at hl
            refine ⟨by omega, by omega, rfl⟩
        have ha2 : arW s ≤ 2 := by unfold arW; split <;> omega
        obtain ⟨t, h', ht⟩ := EC_1 hE h h36 har.1
        refine r_bind1 (k := W.length) (by omega) (by omega) (by omega) ?_ (by rw [r2]; omega) (fun y => absurd y (by rw [r1, wmp_w hok]; exact z)) (fun _ => ?_)
        · rw [r1, har.2.2]; omega
        · refine ih N (x :: t) _ _ (O + 1) h' (by rw [List.length_cons]; omega) (by omega) (by omega) (fun u' N' H' O' g1 g2 g3 g4 => C u' N' H' O' g1 g2 g3 (fun c j h1 h2 h3 h4 h5 => (g4 c j h1 h2 h3 h4 h5).trans (bn1_fr c j h1 h2 h3 h4 h5)))
