abbrev hopZ (g s : zM) (l : Int) : zM := zup (zup (zup (zup s 139 (s 130 l) (s 139 (s 130 l) - gvA g s l)) 136 l (s 136 l + (g 126 l - gvA g s l))) 135 l (s 135 l + g 110 3 * (g 126 l - gvA g s l))) 130 l (g 90 (s 130 l))
theorem hopA_0 {g s : zM} {l : Int} (h : g 95 (g 90 (s 130 l)) = 0) : hopA g s l = hopZ g s l := by
  funext x j
  unfold hopZ hopA zup
  by_cases a1 : x = 139 ∧ j = s 130 l
  · rw [if_pos a1, if_neg (by omega), if_neg (by omega), if_neg (by omega), if_pos a1, a1.2]
  · rw [if_neg a1]
    by_cases a2 : x = 136 ∧ j = l
    · rw [if_pos a2, if_neg (by omega), if_neg (by omega), if_pos a2]
    · rw [if_neg a2]
      by_cases a3 : x = 135 ∧ j = l
      · rw [if_pos a3, if_neg (by omega), if_pos a3]
      · rw [if_neg a3]
        by_cases a4 : x = 130 ∧ j = l
        · rw [if_pos a4, if_pos a4]
        · rw [if_neg a4, if_neg (fun q => q.2.2.1 h), if_neg (fun q => q.2.2 h), if_neg a4, if_neg a3, if_neg a2, if_neg a1]
theorem hopA_1 {g s : zM} {l : Int} (h : ¬ g 95 (g 90 (s 130 l)) = 0) (hf : ¬ faA g s l (g 90 (s 130 l))) : hopA g s l = zup (hopZ g s l) 133 (12 * l + g 90 (s 130 l)) 1 := by
  funext x j
  unfold hopZ hopA zup
  by_cases a1 : x = 139 ∧ j = s 130 l
  · rw [if_pos a1, if_neg (by omega), if_neg (by omega), if_neg (by omega), if_neg (by omega), if_pos a1, a1.2]
  · rw [if_neg a1]
    by_cases a2 : x = 136 ∧ j = l
    · rw [if_pos a2, if_neg (by omega), if_neg (by omega), if_neg (by omega), if_pos a2]
    · rw [if_neg a2]
      by_cases a3 : x = 135 ∧ j = l
      · rw [if_pos a3, if_neg (by omega), if_neg (by omega), if_pos a3]
      · rw [if_neg a3]
        by_cases a4 : x = 130 ∧ j = l
        · rw [if_pos a4, if_neg (by omega), if_pos a4]
        · rw [if_neg a4, if_neg (fun q => hf q.2.2)]
          by_cases a5 : x = 133 ∧ j = 12 * l + g 90 (s 130 l)
          · rw [if_pos ⟨a5.1, a5.2, h⟩, if_pos a5]
          · rw [if_neg (fun q => a5 ⟨q.1, q.2.1⟩), if_neg a5, if_neg a4, if_neg a3, if_neg a2, if_neg a1]
theorem hopA_2 {g s : zM} {l : Int} (hf : faA g s l (g 90 (s 130 l))) : hopA g s l = zup (zup (hopZ g s l) 132 l (g 110 2)) 133 (12 * l + g 90 (s 130 l)) 1 := by
  funext x j
  unfold hopZ hopA zup
  by_cases a1 : x = 139 ∧ j = s 130 l
  · rw [if_pos a1, if_neg (by omega), if_neg (by omega), if_neg (by omega), if_neg (by omega), if_neg (by omega), if_pos a1, a1.2]
  · rw [if_neg a1]
    by_cases a2 : x = 136 ∧ j = l
    · rw [if_pos a2, if_neg (by omega), if_neg (by omega), if_neg (by omega), if_neg (by omega), if_pos a2]
    · rw [if_neg a2]
      by_cases a3 : x = 135 ∧ j = l
      · rw [if_pos a3, if_neg (by omega), if_neg (by omega), if_neg (by omega), if_pos a3]
      · rw [if_neg a3]
        by_cases a4 : x = 130 ∧ j = l
        · rw [if_pos a4, if_neg (by omega), if_neg (by omega), if_pos a4]
        · rw [if_neg a4]
          by_cases a6 : x = 132 ∧ j = l
          · rw [if_pos ⟨a6.1, a6.2, hf⟩, if_neg (by omega), if_pos a6]
          · rw [if_neg (fun q => a6 ⟨q.1, q.2.1⟩)]
            by_cases a5 : x = 133 ∧ j = 12 * l + g 90 (s 130 l)
            · rw [if_pos ⟨a5.1, a5.2, hf.1⟩, if_pos a5]
            · rw [if_neg (fun q => a5 ⟨q.1, q.2.1⟩), if_neg a5, if_neg a6, if_neg a4, if_neg a3, if_neg a2, if_neg a1]
theorem cost_b {g s : zM} {c e : Int} (hv : vG g) (hb : BA g s c e) (he : e ≤ 600) : 0 ≤ sumA (s 135) (g 88 12).toNat ∧ sumA (s 135) (g 88 12).toNat ≤ 102000000 := by
  have v2 := hv.2.1
  have := sumA_b (f := s 135) (A := 0) (B := 16888311) (g 88 12).toNat fun j a b => by
    have := hb.1 j (by omega) (by omega)
    unfold LB at this
    omega
  omega
theorem yield_b {g s : zM} {c e : Int} (hv : vG g) (hb : BA g s c e) (hc : c ≤ 600) : 0 ≤ sumA (s 134) (g 88 12).toNat ∧ sumA (s 134) (g 88 12).toNat ≤ 3600 := by
  have v2 := hv.2.1
  have := sumA_b (f := s 134) (A := 0) (B := 600) (g 88 12).toNat fun j a b => by
    have := hb.1 j (by omega) (by omega)
    unfold LB at this
    omega
  omega
section L2
variable {Ω : zΩ} {Q : List zV → zM → Prop} {g : zM}
theorem s_gateC {s m : zM} {l : Int} (hv : vG g) (hi : IC g m) (hr : RC g s m) (hl : 0 ≤ l ∧ l < g 88 12) (hk : 0 ≤ s 130 l ∧ s 130 l < g 88 4) (K0 : g 95 (s 130 l) = 0 → Q [] m) (K1 : ¬ g 95 (s 130 l) = 0 → ¬ (s 133 (12 * l + s 130 l) = 0 ∧ paA g l) → ∀ m', FC m m' → RC g (zup s 133 (12 * l + s 130 l) 1) m' → Q [] m') (K2 : ¬ g 95 (s 130 l) = 0 → (s 133 (12 * l + s 130 l) = 0 ∧ paA g l) → ∀ m', FC m m' → RC g (zup (zup s 132 l (g 110 2)) 133 (12 * l + s 130 l) 1) m' → Q [] m') : zG Ω 66 0 [zR 5 65, zR 2 (30 + 6 * l)] [] m Q := by
  have v1 := hv.1
  have v2 := hv.2.1
  have cl := hr.1 l hl.1 hl.2
  have e3 := hi.2.1.1
  refine w_X5_passGate_0 ?_
  rw [cl.1]
  refine ⟨hk.1, ?_⟩
  rw [(hi.2.2.1 (s 130 l) hk.1 hk.2).1.2.2.2.2.2]
  refine zif (fun h => K0 h) fun h => ⟨hk.1, s_failsC (s := s) hi hl (cl.2.2.2.2.2.2.2 _ hk.1 (by omega)) (fun q => ?_) fun q => ?_⟩
  · refine zk1_t ⟨by omega, ?_⟩
    rw [hi.2.1.2.2.2.1]
    have r2 := RC_132 (v := g 110 2) hv hr hl.1 hl.2
    have e : zup m (30 + 6 * l) 7 (g 110 2) (30 + 6 * l) 6 = s 130 l := by rw [zup_j (by decide)]; exact cl.1
    rw [e]
    refine ⟨hk.1, w_X2_lookedAt_0 ?_⟩
    rw [zs_n]
    exact K2 h q _ (FC_u (FC_u FC_r (by omega)) (by omega)) (RC_133 hv r2 hl.1 hl.2 hk.1 (by omega))
  · refine zk1_f ?_
    rw [cl.1]
    refine ⟨hk.1, w_X2_lookedAt_0 ?_⟩
    rw [zs_n]
    exact K1 h q _ (FC_u FC_r (by omega)) (RC_133 hv hr hl.1 hl.2 hk.1 (by omega))
theorem s_hopC {s m : zM} {l c e : Int} (hv : vG g) (hl : 0 ≤ l ∧ l < g 88 12) (hc : c ≤ 600 ∧ e ≤ 600) (hb : BA g s c e) (hG : GB g s 100) (hi : IC g m) (hr : RC g s m) (hat : 1 ≤ s 130 l) (K : ∀ m', FC m m' → RC g (hopA g s l) m' → Q [] m') : zG Ω 82 0 [zR 7 (3 + 2 * s 130 l), zI (g 126 l), zU] [] m (fun r1 m1 => zk1 r1 fun v1 => 0 ≤ (zup m1 (30 + 6 * l) 10 (zw ((m1 (30 + 6 * l) 10) + (zw ((g 126 l) - v1))))) 65 3 ∧ (zG Ω 59 0 [zR 5 65, zR 2 (30 + 6 * l), zI (zw ((zw ((g 126 l) - v1)) * ((zup m1 (30 + 6 * l) 10 (zw ((m1 (30 + 6 * l) 10) + (zw ((g 126 l) - v1))))) ((zup m1 (30 + 6 * l) 10 (zw ((m1 (30 + 6 * l) 10) + (zw ((g 126 l) - v1))))) 65 3) 3)))] [] (zup m1 (30 + 6 * l) 10 (zw ((m1 (30 + 6 * l) 10) + (zw ((g 126 l) - v1))))) (fun r2 m2 => zk0 r2 (0 ≤ m2 (30 + 6 * l) 6 ∧ (0 ≤ m2 (3 + 2 * (m2 (30 + 6 * l) 6)) 1 ∧ (zG Ω 66 0 [zR 5 65, zR 2 (30 + 6 * l)] [] (zup m2 (30 + 6 * l) 6 (((3 + 2 * (m2 (3 + 2 * (m2 (30 + 6 * l) 6)) 1)) - 3) / 2)) (fun r3 m3 => zk0 r3 (Q [] m3)))))))) := by
  have v1 := hv.1
  have v2 := hv.2.1
  have v7 := hv.2.2.2.2.2.2 l hl.1 hl.2
  have bl := hb.1 l hl.1 hl.2
  have hgv := gvA_b hv hb hl.1 hl.2
  have cb := cost_b hv hb hc.2
  unfold LB at bl
  have hk : 0 ≤ s 130 l ∧ s 130 l < g 88 4 := by omega
  have v3 := hv.2.2.1 (s 130 l) hat hk.2
  have v6 := hv.2.2.2.2.2.1
  have hGk := hG (s 130 l) hat hk.2
  have mb := mul_b (a := g 110 3) (b := g 126 l - gvA g s l) (A := 99) (B := 9999) (by omega) (by omega) (by omega) (by omega)
  refine s_give hv hi hr ⟨hat, hk.2⟩ (by omega) (hb.2 _ hk.1 hk.2) (by omega) fun m1 f1 r1 => ?_
  show 0 ≤ _ ∧ _
  have hgd : (if s 139 (s 130 l) < g 126 l then s 139 (s 130 l) else g 126 l) = gvA g s l := rfl
  rw [hgd] at r1 ⊢
  have i1 := IC_f hv hi f1
  have c1 := r1.1 l hl.1 hl.2
  have e1 : m1 (30 + 6 * l) 10 = s 136 l := by rw [c1.2.2.2.2.1]; exact zup_c (by decide)
  rw [e1, zw_i (x := g 126 l - gvA g s l) (by omega) (by omega), zw_i (x := s 136 l + (g 126 l - gvA g s l)) (by omega) (by omega)]
  have r2 := RC_136 (v := s 136 l + (g 126 l - gvA g s l)) hv r1 hl.1 hl.2
  have f2 : FC m1 (zup m1 (30 + 6 * l) 10 (s 136 l + (g 126 l - gvA g s l))) := FC_u FC_r (by omega)
  have i2 := IC_f hv i1 f2
  have e2 := i2.2.1.2.2.2.2
  have e2b := i2.2.1.1
  refine ⟨by omega, ?_⟩
  rw [e2, Int.mul_comm (g 126 l - gvA g s l) (g 110 3), zw_i (x := g 110 3 * (g 126 l - gvA g s l)) (by omega) (by omega)]
  have q5 : zup (zup s 139 (s 130 l) (s 139 (s 130 l) - gvA g s l)) 136 l (s 136 l + (g 126 l - gvA g s l)) 135 = s 135 := by
    rw [zup_row (by decide), zup_row (by decide)]
  refine s_charge hv r2 hl (by rw [q5]; omega) (by rw [q5]; omega) fun m3 f3 r3 => ?_
  rw [q5] at r3
  have i3 := IC_f hv i2 f3
  have c3 := (r3.1 l hl.1 hl.2).1
  simp (disch := omega) only [zup_c] at c3
  show 0 ≤ m3 (30 + 6 * l) 6 ∧ _
  rw [c3, (i3.2.2.1 _ hk.1 hk.2).1.1, zs_n]
  refine ⟨hk.1, by omega, ?_⟩
  have r4 := RC_130 (v := g 90 (s 130 l)) hv r3 hl.1 hl.2
  have f4 : FC m (zup m3 (30 + 6 * l) 6 (g 90 (s 130 l))) := FC_u (FC_t f1 (FC_t f2 f3)) (by omega)
  have i4 := IC_f hv hi f4
  have z0 : hopZ g s l 130 l = g 90 (s 130 l) := zup_e rfl rfl
  have z3 : hopZ g s l 133 (12 * l + g 90 (s 130 l)) = s 133 (12 * l + g 90 (s 130 l)) := by
    unfold hopZ
    rw [zup_c (by decide), zup_c (by decide), zup_c (by decide), zup_c (by decide)]
  have r4 : RC g (hopZ g s l) (zup m3 (30 + 6 * l) 6 (g 90 (s 130 l))) := r4
  refine s_gateC (s := hopZ g s l) hv i4 r4 hl (by rw [z0]; omega) (fun h => ?_) (fun h h2 m5 f5 r5 => ?_) fun h h2 m5 f5 r5 => ?_
  · rw [z0] at h
    show Q [] _
    exact K _ f4 (by rw [hopA_0 h]; exact r4)
  · rw [z0] at h h2 r5
    rw [z3] at h2
    show Q [] _
    exact K _ (FC_t f4 f5) (by rw [hopA_1 h fun q => h2 q.2]; exact r5)
  · rw [z0] at h h2 r5
    rw [z3] at h2
    show Q [] _
    exact K _ (FC_t f4 f5) (by rw [hopA_2 ⟨h, h2⟩]; exact r5)
theorem s_travelC {l c e G : Int} (hv : vG g) (hl : 0 ≤ l ∧ l < g 88 12) (hc : c ≤ 600 ∧ e ≤ 600) : ∀ (a : Nat) (s m : zM) (i : Int), G = nxA g a (s 130 l) → pth g a (s 130 l) → 0 ≤ i → i + s 130 l ≤ 11 → BA g s c e → GB g s 100 → IC g m → RC g s m → (∀ m', FC m m' → RC g (hopsA g l a s) m' → Q [] m') → zG Ω 65 2 [zR 5 65, zR 2 (30 + 6 * l), zR 7 (3 + 2 * G), zI i, zU] [] m Q := by
  intro a
  induction a with
  | zero =>
    intro s m i eG hp h0 h1 hb hG hi hr K
    have bl := hb.1 l hl.1 hl.2
    have v7 := hv.2.2.2.2.2.2 l hl.1 hl.2
    unfold LB at bl
    have cl := hr.1 l hl.1 hl.2
    refine w_X5_travel_2 (zif (fun _ => ⟨by rw [cl.1]; omega, zif (fun _ => K m FC_r hr) fun h => absurd (zs_e.mpr (cl.1.trans eG.symm)) h⟩) fun h => absurd (show i < 12 by omega) h)
  | succ a ih =>
    intro s m i eG hp h0 h1 hb hG hi hr K
    have bl := hb.1 l hl.1 hl.2
    have v7 := hv.2.2.2.2.2.2 l hl.1 hl.2
    have v1 := hv.1
    unfold LB at bl
    have cl := hr.1 l hl.1 hl.2
    have hat : 1 ≤ s 130 l := hp 0 (by omega)
    have hk : s 130 l < g 88 4 := by omega
    have v3 := hv.2.2.1 (s 130 l) hat hk
    have hne := pth_ne hv (a := 0) (b := a + 1) (by omega) hk hp (by omega) (Nat.le_refl _)
    have hne : G < s 130 l := by rw [eG]; exact hne
    refine w_X5_travel_2 (zif (fun _ => ?_) fun h => absurd (show i < 12 by omega) h)
    rw [cl.1, (hi.2.2.2 l hl.1 hl.2).1.2.2.2.2.2.2.1, zw_i (x := i + 1) (by omega) (by omega)]
    refine ⟨by omega, zif (fun h => absurd (zs_e.mp h) (by omega)) fun _ => ⟨by omega, s_hopC (Q := fun _ m3 => zG Ω 65 2 [zR 5 65, zR 2 (30 + 6 * l), zR 7 (3 + 2 * G), zI (i + 1), zU] [] m3 Q) hv hl hc hb hG hi hr hat fun m3 f3 r3 => ?_⟩⟩
    refine ih (hopA g s l) m3 (i + 1) (by rw [hopA_at]; exact eG) (fun j hj => by rw [hopA_at]; exact hp (j + 1) (by omega)) (by omega) (by rw [hopA_at]; omega) (hopA_BA hv hb hl.1 hl.2 hat) (fun k k0 k1 => by rw [hopA_x (by decide), hopA_x (by decide)]; exact hG k k0 k1) (IC_f hv hi f3) r3 fun m' f' r' => K m' (FC_t f3 f') r'
theorem s_nightC {s m : zM} {l d c e : Int} (hv : vG g) (hl : 0 ≤ l ∧ l < g 88 12) (hd : 0 ≤ d ∧ d ≤ 99) (hc : c ≤ 600 ∧ e ≤ 599) (hb : BA g s c e) (hi : IC g m) (hr : RC g s m) (hrun : ¬ g 125 l = 0) (hn : s 137 l < 0) (ho : ∀ j, 0 ≤ j → j < g 88 12 → s 137 j ≤ d) (K : ∀ m', FC m m' → RC g (nightA g s l d) m' → Q [] m') : zG Ω 67 0 [zR 5 65, zR 2 (30 + 6 * l), zI d] [] m Q := by
  have v2 := hv.2.1
  have cl := hr.1 l hl.1 hl.2
  have ct := hr.2.2
  have bl := hb.1 l hl.1 hl.2
  have v7 := hv.2.2.2.2.2.2 l hl.1 hl.2
  have cb := cost_b hv hb (by omega)
  have ai := (hi.2.2.2 l hl.1 hl.2).1
  unfold LB at bl
  unfold nightA at K
  refine w_X5_spendNight_0 ?_
  rw [cl.1]
  refine ⟨by omega, b_city (fun h => ?_) fun h => ?_⟩
  · rw [if_pos h] at K
    rw [zup_c (by omega), zup_c (by omega), ct.2.2.1, ct.2.2.2.2]
    have q1 := sumA_b (f := arA s) (A := 0) (B := 1) (g 88 12).toNat fun j a b => by unfold arA; split <;> omega
    have q2 := sumA_b (f := uwA g s) (A := 0) (B := 1) (g 88 12).toNat fun j a b => by unfold uwA; split <;> omega
    rw [zw_i (x := sumA (arA s) (g 88 12).toNat + 1) (by omega) (by omega), zw_i (x := sumA (uwA g s) (g 88 12).toNat - 1) (by omega) (by omega)]
    exact K _ (FC_u (FC_u (FC_u (FC_u FC_r (by omega)) (by omega)) (by omega)) (by omega)) (RC_137 hv hr hl.1 hl.2 hd.1 hrun hn ho)
  rw [cl.1, ai.1]
  refine ⟨by omega, by omega, zif (fun h2 => ?_) fun h2 => ?_⟩
  · rw [if_neg h, if_pos (zs_e.mp h2)] at K
    exact K m FC_r hr
  · rw [if_neg h, if_neg (fun q => h2 (zs_e.mpr q))] at K
    rw [ai.2.2.2.2.2.2.2]
    exact s_charge hv hr hl (by omega) (by omega) fun m' f' r' => K m' f' r'
end L2
