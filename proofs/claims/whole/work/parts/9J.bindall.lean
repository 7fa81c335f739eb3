/-! bind whole -/
section L3
variable {Ω : zΩ} {u : zM} {Q : List zV → zM → Prop}
theorem r_bind0 {b : Int} {k : Nat} (h46 : u 88 46 = (k : Int) + 1) (hk : (k : Int) + 1 ≤ 120) (z : wtM (u 118 k) < b) (K : Q [] u) : zG Ω 149 0 [zR 10 88, zI b, zU] [] u Q := by
  have wk : zw (u 88 46 - 1) = k := by rw [h46, zw_i (by omega) (by omega)]; omega
  refine w_X10_bind_0 (zif (fun _ => ?_) fun z => absurd (show 0 < u 88 46 by omega) z)
  rw [wk]
  exact zin_of (by omega) (by omega) (r_weight (zk1_i (zif (fun _ => K) fun y => absurd z y)))
theorem r_bindE {b : Int} (h46 : u 88 46 = 0) (K : Q [] u) : zG Ω 149 0 [zR 10 88, zI b, zU] [] u Q := by
  exact w_X10_bind_0 (zif (fun y => absurd y (by omega)) fun _ => K)
end L3
/-- signs among those that wait -/
def cnW : List Int → Nat
  | [] => 0
  | s :: W => if s = 36 then cnW W else cnW W + 1
/-- what bind leaves alone; orders done before stay -/
def frB (u u' : zM) : Prop := ∀ c j, ¬ ((c = 112 ∨ c = 113 ∨ c = 115) ∧ 96 ≤ j) → ¬ c = 120 → ¬ (c = 88 ∧ (j = 43 ∨ j = 46 ∨ j = 48)) → u' c j = u c j
def DN (u u' : zM) (O : Int) : Prop := ∀ i, 0 ≤ i → i < O → u' 115 (96 + i) = u 115 (96 + i) ∧ ∀ c, 111 ≤ c → c ≤ 114 → u' c (u 115 (96 + i)) = u c (u 115 (96 + i))
theorem frB_r {u : zM} : frB u u := fun _ _ _ _ _ => rfl
theorem frB_t {u u1 u2 : zM} (a : frB u u1) (b : frB u1 u2) : frB u u2 := fun c j h1 h2 h3 => (b c j h1 h2 h3).trans (a c j h1 h2 h3)
theorem DN_r {u : zM} {O : Int} : DN u u O := fun _ _ _ => ⟨rfl, fun _ _ _ => rfl⟩
theorem DN_l {u u' : zM} {O O' : Int} (h : O' ≤ O) (a : DN u u' O) : DN u u' O' := fun i i0 i1 => a i i0 (by omega)
theorem DN_t {u u1 u2 : zM} {O : Int} (a : DN u u1 O) (b : DN u1 u2 O) : DN u u2 O := fun i i0 i1 => by
  obtain ⟨a1, a2⟩ := a i i0 i1
  obtain ⟨b1, b2⟩ := b i i0 i1
  rw [a1] at b1 b2
  exact ⟨b1, fun c c1 c2 => (b2 c c1 c2).trans (a2 c c1 c2)⟩
theorem bn1_fr {u : zM} {k x O : Int} (h119 : u 119 k = x) (hx : 96 ≤ x) (h43 : u 88 43 = O) (hO : 0 ≤ O) (hxO : ∀ i, 96 ≤ i → i < 96 + O → ¬ u 115 i = x) : frB u (bn1F u k) ∧ DN u (bn1F u k) O := by
  have v0 : ∀ c j, ¬ (c = 88 ∧ j = 46) → zup u 88 46 k c j = u c j := by
    intro c j hc; unfold zup; rw [if_neg hc]
  have v43 : zup u 88 46 k 88 43 = O := (v0 _ _ (by omega)).trans h43
  have key : ∀ u1 : zM, (∀ j, ¬ j = x → u1 112 j = u 112 j) → (∀ j, ¬ j = x → u1 113 j = u 113 j) → (∀ j, ¬ j = 96 + O → u1 115 j = u 115 j) → (∀ c j, ¬ c = 112 → ¬ c = 113 → ¬ c = 115 → ¬ c = 120 → ¬ (c = 88 ∧ (j = 43 ∨ j = 46 ∨ j = 48)) → u1 c j = u c j) → frB u u1 ∧ DN u u1 O := by
    intro u1 k2 k3 k5 kf
    refine ⟨fun c j h1 h2 h3 => ?_, fun i i0 i1 => ⟨k5 _ (by omega), fun c c1 c2 => ?_⟩⟩
    · by_cases z2 : c = 112
      · subst z2; exact k2 j (by omega)
      by_cases z3 : c = 113
      · subst z3; exact k3 j (by omega)
      by_cases z5 : c = 115
      · subst z5; exact k5 j (by omega)
      exact kf c j z2 z3 z5 h2 h3
    · have hn := hxO (96 + i) (by omega) (by omega)
      by_cases z2 : c = 112
      · subst z2; exact k2 _ hn
      by_cases z3 : c = 113
      · subst z3; exact k3 _ hn
      exact kf c _ z2 z3 (by omega) (by omega) (by omega)
  unfold bn1F
  rw [h119]
  split
  · obtain ⟨q1, q2, q3, q4, q5, q6, q7, q8, q9, q10⟩ := un1_c (u := zup u 88 46 k) (x := x) (L := zup u 88 46 k 88 48 - 1) (by omega)
    rw [v43] at q6
    exact key _ (fun j hj => (q8 j hj).trans (v0 _ _ (by omega))) (fun j hj => (q9 j).trans (v0 _ _ (by omega))) (fun j hj => (q6 j hj).trans (v0 _ _ (by omega))) (fun c j h1 h2 h3 h4 h5 => (q10 c j h1 h3 h4 (by omega)).trans (v0 _ _ (by omega)))
  · obtain ⟨q1, q2, q3, q4, q5, q6, q7, q8, q9, q9', q10⟩ := bi1_c (u := zup u 88 46 k) (x := x) (L := zup u 88 46 k 88 48 - 2) (by omega)
    rw [v43] at q6
    exact key _ (fun j hj => (q8 j hj).trans (v0 _ _ (by omega))) (fun j hj => (q9' j hj).trans (v0 _ _ (by omega))) (fun j hj => (q6 j hj).trans (v0 _ _ (by omega))) (fun c j h1 h2 h3 h4 h5 => (q10 c j h1 h2 h3 h4 (by omega)).trans (v0 _ _ (by omega)))
theorem nbW_le : ∀ W : List Int, nbW W ≤ W.length := by
  intro W
  induction W with
  | nil => exact Nat.le_refl _
  | cons s W ih => unfold nbW; rw [List.length_cons]; split <;> omega
theorem EC_b {Ω : zΩ} {Q : List zV → zM → Prop} {E F K b d : Int} (hd : 0 ≤ d) (hE : E = 76 ∨ E = 82) (hb : 1 ≤ b) (hK : K ≤ 96) : ∀ (W N H : List Int) (a u : zM) (O : Int), EC a E u F K O W N H → H.length = nbW W + 1 → O + cnW W + d = K → W.length ≤ 112 → (∀ u' N' H' O', EC (wrF E b W.length a) E u' F K O' (popW b W) N' H' → H'.length = nbW (popW b W) + 1 → O' + cnW (popW b W) + d = K → frB u u' → DN u u' O → Q [] u') → zG Ω 149 0 [zR 10 88, zI b, zU] [] u Q := by
  intro W
  induction W with
  | nil => intro N H a u O h hl ho _ C; exact r_bindE h.wu (C u N H O h hl ho frB_r DN_r)
  | cons s W ih =>
    intro N H a u O h hl ho hW C
    cases N with
    | nil => exact absurd h.r (fun y => y)
    | cons x N =>
      have hwu := h.wu
      have ho1 := h.o
      have hfo := h.fo
      have hhl := h.hl
      have r1 : u 118 W.length = wmp s := h.r.1
      have r2 : u 119 W.length = x := h.r.2.1
      obtain ⟨⟨hok, _⟩, hnd, hrest⟩ := h.nd
      have e1 : a 73 (W.length : Int) = s := h.w.1
      have ew : wrF E b (s :: W).length a = if bdW (a 73 (W.length : Int)) < b then a else wrF E b W.length (zup (addF a E (a 73 (W.length : Int)) 0) 72 7 W.length) := rfl
      have ep : popW b (s :: W) = if bdW s < b then s :: W else popW b W := rfl
      have en : nbW (s :: W) = if s = 36 ∨ s = 35 ∨ s = 23 then nbW W else nbW W + 1 := rfl
      have ecn : cnW (s :: W) = if s = 36 then cnW W else cnW W + 1 := rfl
      rw [ew, ep, e1] at C
      rw [List.length_cons] at hwu hW
      by_cases z : bdW s < b
      · rw [if_pos z, if_pos z] at C
        refine r_bind0 (k := W.length) (by omega) (by omega) ?_ (C u (x :: N) H O h hl ho frB_r DN_r)
        rw [r1, wmp_w hok]; exact z
      · rw [if_neg z, if_neg z] at C
        have h36 : ¬ s = 36 := fun y => z (by rw [y]; exact Int.lt_of_lt_of_le (by decide : bdW 36 < 1) hb)
        obtain ⟨hx, _, _, _, _, hxO⟩ := hnd h36
        obtain ⟨fr1, dn1⟩ := bn1_fr (u := u) (k := W.length) (x := x) (O := O) r2 hx.1 ho1 (by omega) hxO
        rw [ecn, if_neg h36] at ho
        have nb := nbW_le W
        have un := wmp_un hok h36
        have har : arW s ≤ H.length ∧ nbW W + arW s = H.length ∧ (if wmp s = 12 ∨ wmp s = 13 then (1 : Int) else 2) = arW s := by
          unfold arW
          by_cases y : s = 35 ∨ s = 23
          · rw [if_pos y, if_pos (un.2 y)]
            rw [en, if_pos (Or.inr y)] at hl
            refine ⟨by omega, by omega, rfl⟩
          · rw [if_neg y, if_neg (fun q => y (un.1 q))]
            rw [en, if_neg (fun q => q.elim h36 y)] at hl
            refine ⟨by omega, by omega, rfl⟩
        have ha2 : arW s ≤ 2 := by unfold arW; split <;> omega
        obtain ⟨t, h', ht⟩ := EC_1 hE h h36 har.1
        refine r_bind1 (k := W.length) (by omega) (by omega) (by omega) ?_ (by rw [r2]; omega) (fun y => absurd y (by rw [r1, wmp_w hok]; exact z)) (fun _ => ?_)
        · rw [r1, har.2.2]; omega
        · refine ih N (x :: t) _ _ (O + 1) h' (by rw [List.length_cons]; omega) (by omega) (by omega) (fun u' N' H' O' g1 g2 g3 g4 g5 => C u' N' H' O' g1 g2 g3 (frB_t fr1 g4) (DN_t dn1 (DN_l (by omega) g5)))
