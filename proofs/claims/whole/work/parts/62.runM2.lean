def hopM (m : zM) (l gv : Int) : zM := zup (zup (zup (zup m 139 (m 130 l) (zw (m 139 (m 130 l) - gv))) 136 l (zw (m 136 l + zw (m 126 l - gv)))) 135 l (zw (m 135 l + zw (m 110 3 * zw (m 126 l - gv))))) 130 l (m 90 (m 130 l))
theorem hop_RM {g s m m5 : zM} {l c e : Int} (hv : vG g) (hb : BA g s c e) (hc : c ≤ 600 ∧ e ≤ 600) (hi : IM g m) (hr : RM g s m) (h0 : 0 ≤ l) (h1 : l < g 88 12) (h2 : 1 ≤ s 130 l) (q1 : ∀ x j, ¬ x = 132 → ¬ x = 133 → m5 x j = hopM m l (gvA g s l) x j) (q2 : ∀ j, m5 132 j = if j = l ∧ faA g s l (g 90 (s 130 l)) then g 110 2 else m 132 j) (q3 : ∀ j, m5 133 j = if j = 12 * l + g 90 (s 130 l) ∧ ¬ g 95 (g 90 (s 130 l)) = 0 then 1 else m 133 j) : RM g (hopA g s l) m5 := by
  have hg := gvA_b hv hb h0 h1
  have v7 := hv.2.2.2.2.2.2 l h0 h1
  have v6 := hv.2.2.2.2.2.1
  have bl := hb.1 l h0 h1
  have rl := hr.1 l h0 h1
  have il := hi.2 l h0 h1
  unfold LB at bl
  unfold RLm at rl
  have mb := mul_b (a := g 110 3) (b := g 126 l - gvA g s l) (A := 99) (B := 9999) (by omega) (by omega) (by omega) (by omega)
  have bk := hb.2 (s 130 l) (by omega) (by omega)
  have v4 := hv.2.2.2.1 (s 130 l) (by omega) (by omega)
  have e139 := hr.2.2 (s 130 l) (by omega) (by omega)
  have w1 : zw (m 139 (m 130 l) - gvA g s l) = s 139 (s 130 l) - gvA g s l := by rw [rl.1, e139, zw_i (by omega) (by omega)]
  have w2 : zw (m 136 l + zw (m 126 l - gvA g s l)) = s 136 l + (g 126 l - gvA g s l) := by rw [il.2.1, zw_i (x := g 126 l - gvA g s l) (by omega) (by omega), rl.2.2.2.2.1, zw_i (by omega) (by omega)]
  have w3 : zw (m 135 l + zw (m 110 3 * zw (m 126 l - gvA g s l))) = s 135 l + g 110 3 * (g 126 l - gvA g s l) := by rw [il.2.1, zw_i (x := g 126 l - gvA g s l) (by omega) (by omega), hi.1 110 3 (by omega), rl.2.2.2.1, zw_i (x := g 110 3 * (g 126 l - gvA g s l)) (by omega) (by omega), zw_i (by omega) (by omega)]
  refine ⟨fun l' e0 e1 => ?_, fun l' k e0 e1 e2 e3 => ?_, fun k e0 e1 => ?_⟩
  · have r := hr.1 l' e0 e1
    unfold RLm at r ⊢
    rw [q1 130 l' (by decide) (by decide), q1 134 l' (by decide) (by decide), q1 135 l' (by decide) (by decide), q1 136 l' (by decide) (by decide), q1 137 l' (by decide) (by decide), q1 138 l' (by decide) (by decide), q2 l']
    unfold hopM
    rw [w1, w2, w3, hi.1 90 _ (by omega), rl.1]
    by_cases e : l' = l
    · subst e
      simp [zup, hopA]
      rw [r.2.1, r.2.2.1, r.2.2.2.2.2.1, r.2.2.2.2.2.2]
      simp
    · simp [zup, hopA, e]
      exact r
  · have r := hr.2.1 l' k e0 e1 e2 e3
    rw [q3]
    simp [hopA]
    rw [r]
  · have r := hr.2.2 k e0 e1
    rw [q1 139 k (by decide) (by decide)]
    unfold hopM
    rw [w1, rl.1]
    by_cases e : k = s 130 l
    · simp [zup, hopA, e]
    · simp [zup, hopA, e]
      exact r
section L2
variable {Ω : zΩ} {Q : List zV → zM → Prop} {g : zM}
theorem s_goes_2 {l c e : Int} (hv : vG g) (hl : 0 ≤ l ∧ l < g 88 12) (hc : c ≤ 600 ∧ e ≤ 600) : ∀ (r : Nat) (i : Int) (s m : zM), m 88 77 = i + r → 0 ≤ i → i + r ≤ 100 → BA g s c e → IM g m → RM g s m → pth g r (s 130 l) → (∀ m', FM m m' → RM g (hopsA g l r s) m' → (∀ j, m' 131 j = m 131 j) → m' 88 77 = m 88 77 → if 0 < m' 88 77 then (if m' 130 l = 0 then Q [] (zup m' 131 l 2) else Q [] (zup m' 131 l 1)) else Q [] m') → zG Ω 182 2 [zR 10 88, zI l, zI i, zU, zU, zU] [] m Q := by
  have v2 := hv.2.1
  intro r
  induction r with
  | zero =>
    intro i s m h77 hi0 hi1 hb hi hr hp K
    have K := K m FM_r hr (fun _ => rfl) rfl
    refine w_X10_goesOn_2 (zif (fun h => absurd h (by omega)) fun _ => ?_)
    revert K
    refine fun K => zif (fun h => zin_of (by omega) (by omega) ?_) fun h => ?_
    · rw [if_pos h] at K
      refine zif (fun h2 => zin_of (by omega) (by omega) ?_) fun h2 => zin_of (by omega) (by omega) ?_
      · rwa [if_pos h2] at K
      · rwa [if_neg h2] at K
    · rwa [if_neg h] at K
  | succ r ih =>
    intro i s m h77 hi0 hi1 hb hi hr hp K
    have h2 : 1 ≤ s 130 l := hp 0 (by omega)
    have v7 := hv.2.2.2.2.2.2 l hl.1 hl.2
    have bl := hb.1 l hl.1 hl.2
    have rl := hr.1 l hl.1 hl.2
    have il := hi.2 l hl.1 hl.2
    unfold LB at bl
    unfold RLm at rl
    have nx := hv.2.2.1 (s 130 l) h2 (by omega)
    have e139 := hr.2.2 (s 130 l) (by omega) (by omega)
    have e90 : m 90 (m 130 l) = g 90 (s 130 l) := by rw [rl.1, hi.1 90 _ (by omega)]
    have at12 : 0 ≤ m 130 l ∧ m 130 l < 12 := by omega
    have hop : ∀ gv, gv = gvA g s l → zG Ω 179 0 [zR 10 88, zI l, zI (m 90 (m 130 l))] [] (hopM m l gv) (fun r1 m1 => zk1 r1 fun v1 => zin l 6 (zin (m1 130 l) 12 (if (m1 95 (m1 130 l)) = 0 then (if v1 = 0 then (zG Ω 182 2 [zR 10 88, zI l, zI (zw (i + 1)), zU, zU, zU] [] m1 Q) else (zin l 6 (zG Ω 182 2 [zR 10 88, zI l, zI (zw (i + 1)), zU, zU, zU] [] (zup m1 132 l (m1 110 2)) Q))) else (zin l 6 (zin (zw ((zw (12 * l)) + (m1 130 l))) 72 (if v1 = 0 then (zG Ω 182 2 [zR 10 88, zI l, zI (zw (i + 1)), zU, zU, zU] [] (zup m1 133 (zw ((zw (12 * l)) + (m1 130 l))) 1) Q) else (zin l 6 (zG Ω 182 2 [zR 10 88, zI l, zI (zw (i + 1)), zU, zU, zU] [] (zup (zup m1 133 (zw ((zw (12 * l)) + (m1 130 l))) 1) 132 l (m1 110 2)) Q)))))))) := by
      intro gv hgv
      subst hgv
      have F4 : FM m (hopM m l (gvA g s l)) := FM_u (FM_u (FM_u (FM_u FM_r (by omega)) (by omega)) (by omega)) (by omega)
      have next : ∀ m5 : zM, FM m m5 → (∀ x j, ¬ x = 132 → ¬ x = 133 → m5 x j = hopM m l (gvA g s l) x j) → (∀ j, m5 132 j = if j = l ∧ faA g s l (g 90 (s 130 l)) then g 110 2 else m 132 j) → (∀ j, m5 133 j = if j = 12 * l + g 90 (s 130 l) ∧ ¬ g 95 (g 90 (s 130 l)) = 0 then 1 else m 133 j) → zG Ω 182 2 [zR 10 88, zI l, zI (i + 1), zU, zU, zU] [] m5 Q := by
        intro m5 f5 q1 q2 q3
        have e77 : m5 88 77 = m 88 77 := by rw [q1 88 77 (by decide) (by decide)]; simp [hopM, zup]
        refine ih (i + 1) (hopA g s l) m5 (by rw [e77]; omega) (by omega) (by omega) (hopA_BA hv hb hl.1 hl.2 h2) (IM_f hi f5) (hop_RM hv hb hc hi hr hl.1 hl.2 h2 q1 q2 q3) (fun j hj => ?_) fun m' f' r' p' e' => ?_
        · rw [hopA_at]; exact hp (j + 1) (by omega)
        · refine K m' (FM_t f5 f') r' (fun j => ?_) (e'.trans e77)
          rw [p' j, q1 131 j (by decide) (by decide)]
          simp [hopM, zup]
      rw [e90]
      have e133 : ∀ j, hopM m l (gvA g s l) 133 j = m 133 j := fun j => by simp [hopM, zup]
      have e132 : ∀ j, hopM m l (gvA g s l) 132 j = m 132 j := fun j => by simp [hopM, zup]
      have e130 : hopM m l (gvA g s l) 130 l = g 90 (s 130 l) := by simp [hopM, zup]; exact e90
      have IF := IM_f hi F4
      have wi : zw (i + 1) = i + 1 := zw_i (by omega) (by omega)
      have w12 : zw (zw (12 * l) + g 90 (s 130 l)) = 12 * l + g 90 (s 130 l) := by rw [zw_i (x := 12 * l) (by omega) (by omega), zw_i (by omega) (by omega)]
      refine b_failsM (s := s) IF (by rw [e133]; exact hr.2.1 l _ hl.1 hl.2 (by omega) (by omega)) (by omega) (by omega) (fun hf => ?_) fun hf => ?_
      · show zin l 6 _
        rw [e130, IF.1 95 _ (by omega), IF.1 110 2 (by omega), wi, w12]
        refine zin_of (by omega) (by omega) (zin_of (by omega) (by omega) (zif (fun h => absurd h hf.1) fun h => zin_of (by omega) (by omega) (zin_of (by omega) (by omega) ?_)))
        rw [if_neg (by decide)]
        refine zin_of (by omega) (by omega) (next _ (FM_u (FM_u F4 (by omega)) (by omega)) (fun x j e1 e2 => ?_) (fun j => ?_) fun j => ?_)
        · simp [zup, e1, e2]
        · by_cases ej : j = l
          · rw [if_pos ⟨ej, hf⟩]; simp [zup, ej]
          · rw [if_neg (fun q => ej q.1)]; simp [zup, ej]; exact e132 j
        · by_cases ej : j = 12 * l + g 90 (s 130 l)
          · rw [if_pos ⟨ej, hf.1⟩]; simp [zup, ej]
          · rw [if_neg (fun q => ej q.1)]; simp [zup, ej]; exact e133 j
      · show zin l 6 _
        rw [e130, IF.1 95 _ (by omega), wi, w12]
        refine zin_of (by omega) (by omega) (zin_of (by omega) (by omega) (zif (fun h => ?_) fun h => zin_of (by omega) (by omega) (zin_of (by omega) (by omega) ?_)))
        · rw [if_pos rfl]
          refine next _ F4 (fun x j e1 e2 => rfl) (fun j => ?_) fun j => ?_
          · rw [if_neg (fun q => hf q.2)]; exact e132 j
          · rw [if_neg (fun q => q.2 h)]; exact e133 j
        · rw [if_pos rfl]
          refine next _ (FM_u F4 (by omega)) (fun x j e1 e2 => ?_) (fun j => ?_) fun j => ?_
          · simp [zup, e2]
          · rw [if_neg (fun q => hf q.2)]; simp [zup]; exact e132 j
          · by_cases ej : j = 12 * l + g 90 (s 130 l)
            · rw [if_pos ⟨ej, h⟩]; simp [zup, ej]
            · rw [if_neg (fun q => ej q.1)]; simp [zup, ej]; exact e133 j
    have eat : ∀ gv, hopM m l gv 130 l = m 90 (m 130 l) := fun gv => by simp [hopM, zup]
    refine w_X10_goesOn_2 (zif (fun _ => zin_of (by omega) (by omega) (zin_of at12.1 at12.2 (zin_of (by omega) (by omega) (zif (fun hg => ?_) fun hg => ?_)))) fun h => absurd (show i < m 88 77 by omega) h)
    · have hh := hop (m 139 (m 130 l)) (by unfold gvA; rw [rl.1, il.2.1, e139] at hg; rw [if_pos hg, rl.1, e139])
      rw [← eat (m 139 (m 130 l))] at hh
      exact zin_of at12.1 at12.2 (zin_of at12.1 at12.2 (zin_of at12.1 at12.2 (zin_of (by omega) (by omega) (zin_of (by omega) (by omega) (zin_of (by omega) (by omega) (zin_of (by omega) (by omega) (zin_of (by omega) (by omega) (zin_of (by omega) (by omega) (zin_of at12.1 at12.2 (zin_of (by omega) (by omega) (zin_of (by omega) (by omega) hh)))))))))))
    · have hh := hop (m 126 l) (by unfold gvA; rw [rl.1, il.2.1, e139] at hg; rw [if_neg hg, il.2.1])
      rw [← eat (m 126 l)] at hh
      exact zin_of (by omega) (by omega) (zin_of at12.1 at12.2 (zin_of at12.1 at12.2 (zin_of (by omega) (by omega) (zin_of (by omega) (by omega) (zin_of (by omega) (by omega) (zin_of (by omega) (by omega) (zin_of (by omega) (by omega) (zin_of (by omega) (by omega) (zin_of at12.1 at12.2 (zin_of (by omega) (by omega) (zin_of (by omega) (by omega) hh)))))))))))
end L2
