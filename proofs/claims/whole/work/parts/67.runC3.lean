section L2
variable {Ω : zΩ} {Q : List zV → zM → Prop} {g s m : zM}
theorem b_shutC {k d : Int} {A B : zM → Prop} (hi : IC g m) (hk : 0 ≤ k ∧ k < g 88 4) (hd : 0 ≤ d ∧ d ≤ 99) (f : shA g k d → B m) (n : ¬ shA g k d → A m) : zG Ω 80 0 [zR 7 (3 + 2 * k), zI d] [] m (fun r m1 => zk1 r fun v => if v = 0 then A m1 else B m1) := by
  have c := hi.2.2.1 k hk.1 hk.2
  refine w_X7_isShutOn_0 (zif (fun h => absurd h (by omega)) fun _ => zif (fun _ => zin_of (by omega) (by omega) ?_) fun h => absurd (show d < 100 by omega) h)
  rw [c.2 d hd.1 (by omega), c.1.2.2.2.2.1]
  refine zif (fun h => zk1_f (n ?_)) fun h => zk1_t (f ?_)
  · unfold shA; omega
  · unfold shA; omega
theorem s_failsC {l k : Int} (hi : IC g m) (hl : 0 ≤ l ∧ l < g 88 12) (hc : zand (m (30 + 6 * l) 15) (zshl 1 k) = 0 ↔ s 133 (12 * l + k) = 0) (f : s 133 (12 * l + k) = 0 ∧ paA g l → Q [zI 1] m) (n : ¬ (s 133 (12 * l + k) = 0 ∧ paA g l) → Q [zI 0] m) : zG Ω 21 0 [zR 2 (30 + 6 * l), zR 7 (3 + 2 * k)] [] m Q := by
  have c := (hi.2.2.2 l hl.1 hl.2).1
  refine w_X2_failsAt_0 ?_
  rw [zs_n, c.2.1, c.2.2.1, c.2.2.2.1, c.2.2.2.2.1]
  refine zif (fun h => zif (fun h2 => f ⟨hc.mp h, Or.inl h2⟩) fun h2 => zif (fun h3 => f ⟨hc.mp h, Or.inr h3⟩) fun h3 => n fun q => ?_) fun h => n fun q => h (hc.mpr q.1)
  rcases q.2 with z | z
  · exact h2 z
  · exact h3 z
theorem s_lodgersC_4 {k : Int} (hv : vG g) (hi : IC g m) (hr : RC g s m) (hp : ∀ l, 0 ≤ l → l < g 88 12 → 0 ≤ s 130 l) (K : Q [zI (loA g s k (g 88 12).toNat)] m) : ∀ (r o : Nat), o + r = (g 88 12).toNat → 0 ≤ loA g s k o → loA g s k o ≤ o → zG Ω 64 4 [zR 5 65, zR 7 (3 + 2 * k), zI (loA g s k o), zI o] [] m Q := by
  have v2 := hv.2.1
  have e4 := hi.1.2
  intro r
  induction r with
  | zero =>
    intro o ho c0 c1
    refine w_X5_lodgersAt_4 (zif (fun h => absurd h (by omega)) fun _ => ?_)
    rwa [show (g 88 12).toNat = o by omega] at K
  | succ r ih =>
    intro o ho c0 c1
    have hro := hr.1 o (by omega) (by omega)
    have hlo := (hi.2.2.2 o (by omega) (by omega)).1.1
    have hpo := hp o (by omega) (by omega)
    have v7 := hv.2.2.2.2.2.2 o (by omega) (by omega)
    have hn := ih (o + 1) (by omega)
    rw [show ((o + 1 : Nat) : Int) = (o : Int) + 1 by omega, show loA g s k (o + 1) = loA g s k o + (if s 130 (o : Int) = k ∧ ¬ g 97 (o : Int) = k then 1 else 0) from rfl] at hn
    refine w_X5_lodgersAt_4 (zif (fun h => zin_of (by omega) (by omega) ?_) fun h => absurd (show (o : Int) < m 65 4 by omega) h)
    rw [hro.1, hlo, zw_i (x := (o : Int) + 1) (by omega) (by omega), zw_i (x := loA g s k o + 1) (by omega) (by omega)]
    refine ⟨hpo, zif (fun h2 => zin_of (by omega) (by omega) ⟨by omega, zif (fun h3 => ?_) fun h3 => ?_⟩) fun h2 => ?_⟩
    · rw [if_neg (fun q => q.2 (zs_e.mp h3)), Int.add_zero] at hn
      exact hn (by omega) (by omega)
    · rw [if_pos ⟨zs_e.mp h2, fun q => h3 (zs_e.mpr q)⟩] at hn
      exact hn (by omega) (by omega)
    · rw [if_neg (fun q => h2 (zs_e.mpr q.1)), Int.add_zero] at hn
      exact hn (by omega) (by omega)
theorem s_lodgersC {k : Int} (hv : vG g) (hi : IC g m) (hr : RC g s m) (hp : ∀ l, 0 ≤ l → l < g 88 12 → 0 ≤ s 130 l) (K : Q [zI (loA g s k (g 88 12).toNat)] m) : zG Ω 64 0 [zR 5 65, zR 7 (3 + 2 * k), zU, zU] [] m Q :=
  w_X5_lodgersAt_0 (s_lodgersC_4 hv hi hr hp K (g 88 12).toNat 0 (by omega) (Int.le_refl _) (Int.le_refl _))
theorem s_farC_11 {l d : Int} (hv : vG g) (hi : IC g m) (hr : RC g s m) (hl : 0 ≤ l ∧ l < g 88 12) (hp : 0 ≤ s 130 l) (hd : 0 ≤ d ∧ d ≤ 99) : ∀ (n : Nat) (k h i : Int), 0 ≤ k → k < g 88 4 → k ≤ n → 0 ≤ h → h ≤ 24 → 0 ≤ i → i + k ≤ 11 → Q [zR 7 (3 + 2 * nxA g (lookA g s l d n k h).1 k)] m → zG Ω 62 11 [zR 5 65, zR 2 (30 + 6 * l), zI d, zR 7 (3 + 2 * k), zI h, zI i] [] m Q := by
  have v6 := hv.2.2.2.2.2.1
  have v1 := hv.1
  have e3 := hi.2.1.1
  intro n
  induction n with
  | zero =>
    intro k h i h0 h1 h2 h3 h4 h5 h6 K
    exact w_X5_farthestFor_11 (zif (fun _ => b_city (fun e => K) fun e => absurd h2 (by omega)) fun e => absurd (show i < 12 by omega) e)
  | succ n ih =>
    intro k h i h0 h1 h2 h3 h4 h5 h6 K
    have stop : lookA g s l d (n + 1) k h = (0, 0) → Q [zR 7 (3 + 2 * k)] m := fun e => by
      rw [e] at K; exact K
    have hcl := hr.1 l hl.1 hl.2
    refine w_X5_farthestFor_11 (zif (fun _ => b_city (fun e => ?_) fun hk => ⟨by omega, ?_⟩) fun e => absurd (show i < 12 by omega) e)
    · subst e; exact stop (lookA_0 _)
    have v3 := hv.2.2.1 k (by omega) h1
    have ck := (hi.2.2.1 k h0 h1).1
    rw [hi.2.1.2.1, ck.2.1, zw_i (x := h + g 91 k) (by omega) (by omega), zw_i (x := i + 1) (by omega) (by omega)]
    refine zif (fun hc => stop (lookA_n fun q => by omega)) fun hc => b_shutC hi ⟨h0, h1⟩ hd (fun hs => stop (lookA_n fun q => q.2.1 hs)) fun hs => ?_
    rw [ck.2.2.2.2.2, ck.1, hcl.1]
    have go : (k = s 130 l ∨ ¬ faA g s l k) → zG Ω 62 11 [zR 5 65, zR 2 (30 + 6 * l), zI d, zR 7 (3 + 2 * g 90 k), zI (h + g 91 k), zI (i + 1)] [] m Q := by
      intro hf
      refine ih (g 90 k) (h + g 91 k) (i + 1) (by omega) (by omega) (by omega) (by omega) (by omega) (by omega) (by omega) ?_
      rw [lookA_y hk ⟨by omega, hs, hf⟩] at K
      exact K
    refine zif (fun hg => ⟨by omega, go (Or.inr fun q => q.1 hg)⟩) fun hg => ⟨hp, zif (fun he => ⟨by omega, go (Or.inl (zs_e.mp he))⟩) fun he => s_failsC (s := s) hi hl (hcl.2.2.2.2.2.2.2 k h0 (by omega)) (fun q => zk1_t (stop (lookA_n fun z => ?_))) fun q => zk1_f (by rw [ck.1]; exact ⟨by omega, go (Or.inr fun z => q z.2)⟩)⟩
    rcases z.2.2 with y | y
    · exact he (zs_e.mpr y)
    · exact y ⟨hg, q⟩
theorem s_houseC_14 {l d F : Int} (hv : vG g) (hi : IC g m) (hr : RC g s m) (hp : ∀ l, 0 ≤ l → l < g 88 12 → 0 ≤ s 130 l) : ∀ (n : Nat) (k h G i : Int), 0 ≤ k → k < g 88 4 → k ≤ n → 0 ≤ i → i + k ≤ 11 → F = nxA g (lookA g s l d n k h).1 k → Q [zR 7 (3 + 2 * if 0 < (lookA g s l d n k h).2 then nxA g (lookA g s l d n k h).2 k else G)] m → zG Ω 63 14 [zR 5 65, zU, zR 7 (3 + 2 * F), zR 7 (3 + 2 * G), zR 7 (3 + 2 * k), zI i] [] m Q := by
  intro n
  induction n with
  | zero =>
    intro k h G i h0 h1 h2 h5 h6 eF K
    exact w_X5_farthestHouse_14 (zif (fun _ => zif (fun e => K) fun e => absurd (zs_e.mpr eF.symm) e) fun e => absurd (show i < 12 by omega) e)
  | succ n ih =>
    intro k h G i h0 h1 h2 h5 h6 eF K
    by_cases hk : k = 0 ∨ ¬ (h + g 91 k ≤ g 110 0 ∧ ¬ shA g k d ∧ (k = s 130 l ∨ ¬ faA g s l k))
    · have e : lookA g s l d (n + 1) k h = (0, 0) := by
        rcases hk with z | z
        · rw [z]; exact lookA_0 _
        · exact lookA_n z
      rw [e] at eF K
      exact w_X5_farthestHouse_14 (zif (fun _ => zif (fun e => K) fun e => absurd (zs_e.mpr eF.symm) e) fun e => absurd (show i < 12 by omega) e)
    · have hk0 : ¬ k = 0 := fun z => hk (Or.inl z)
      have hk1 : h + g 91 k ≤ g 110 0 ∧ ¬ shA g k d ∧ (k = s 130 l ∨ ¬ faA g s l k) := by
        by_cases z : h + g 91 k ≤ g 110 0 ∧ ¬ shA g k d ∧ (k = s 130 l ∨ ¬ faA g s l k)
        · exact z
        · exact absurd (Or.inr z) hk
      have hy := lookA_y (n := n) (l := l) hk0 hk1
      obtain ⟨p1, p2⟩ := lookA_p (s := s) (l := l) (d := d) hv (n + 1) k h h0 h1
      have v3 := hv.2.2.1 k (by omega) h1
      have ck := (hi.2.2.1 k h0 h1).1
      have ck' := (hi.2.2.1 (g 90 k) (by omega) (by omega)).1
      have hF : F < k := by
        rw [eF]
        exact pth_ne hv (a := 0) h0 h1 p1 (by rw [hy]; exact Nat.succ_pos _) (Nat.le_refl _)
      rw [hy] at eF K
      have eF' : F = nxA g (lookA g s l d n (g 90 k) (h + g 91 k)).1 (g 90 k) := eF
      have nx := fun G' => ih (g 90 k) (h + g 91 k) G' (i + 1) (by omega) (by omega) (by omega) (by omega) (by omega) eF'
      refine w_X5_farthestHouse_14 (zif (fun _ => zif (fun e => absurd e (by omega)) fun _ => ?_) fun e => absurd (show i < 12 by omega) e)
      rw [ck.1, zw_i (x := i + 1) (by omega) (by omega)]
      have yes : hoA g s (g 90 k) → zG Ω 63 14 [zR 5 65, zU, zR 7 (3 + 2 * F), zR 7 (3 + 2 * g 90 k), zR 7 (3 + 2 * g 90 k), zI (i + 1)] [] m Q := by
        intro q
        refine nx (g 90 k) ?_
        dsimp only at K
        by_cases z : 0 < (lookA g s l d n (g 90 k) (h + g 91 k)).2
        · rw [if_pos z] at K ⊢
          rw [if_pos (Nat.succ_pos _)] at K
          exact K
        · rw [if_neg z] at K ⊢
          rw [if_pos q, if_pos (by decide)] at K
          exact K
      have no : ¬ hoA g s (g 90 k) → zG Ω 63 14 [zR 5 65, zU, zR 7 (3 + 2 * F), zR 7 (3 + 2 * G), zR 7 (3 + 2 * g 90 k), zI (i + 1)] [] m Q := by
        intro q
        refine nx G ?_
        dsimp only at K
        by_cases z : 0 < (lookA g s l d n (g 90 k) (h + g 91 k)).2
        · rw [if_pos z] at K ⊢
          rw [if_pos (Nat.succ_pos _)] at K
          exact K
        · rw [if_neg z] at K ⊢
          rw [if_neg q, if_neg (by decide)] at K
          exact K
      refine ⟨by omega, b_city (fun e => yes (Or.inl e)) fun e => s_lodgersC hv hi hr hp ?_⟩
      show if loA g s (g 90 k) (g 88 12).toNat < m (3 + 2 * g 90 k) 3 then _ else _
      rw [ck'.2.2.1]
      exact zif (fun q => yes (Or.inr q)) fun q => no fun z => z.elim e q
theorem s_charge {l c : Int} (hv : vG g) (hr : RC g s m) (hl : 0 ≤ l ∧ l < g 88 12) (h1 : -2147483648 ≤ s 135 l + c ∧ s 135 l + c ≤ 2147483647) (h2 : -2147483648 ≤ sumA (s 135) (g 88 12).toNat + c ∧ sumA (s 135) (g 88 12).toNat + c ≤ 2147483647) (K : ∀ m', FC m m' → RC g (zup s 135 l (s 135 l + c)) m' → Q [] m') : zG Ω 59 0 [zR 5 65, zR 2 (30 + 6 * l), zI c] [] m Q := by
  have v2 := hv.2.1
  have cl := hr.1 l hl.1 hl.2
  have ct := hr.2.2
  refine w_X5_charge_0 ?_
  rw [cl.2.2.2.1, zw_i h1.1 h1.2, zup_c (by omega), ct.2.1, zw_i h2.1 h2.2]
  exact K _ (FC_u (FC_u FC_r (by omega)) (by omega)) (RC_135 hv hr hl.1 hl.2)
theorem s_give {k w : Int} (hv : vG g) (hi : IC g m) (hr : RC g s m) (hk : 1 ≤ k ∧ k < g 88 4) (hw : 0 ≤ w ∧ w ≤ 9999) (hd : 0 ≤ s 139 k ∧ s 139 k ≤ g 93 k) (hG : (0 ≤ s 140 k ∧ s 140 k ≤ 99900) ∧ (0 ≤ s 141 k ∧ s 141 k ≤ 999)) (K : ∀ m', FC m m' → RC g (zup s 139 k (s 139 k - if s 139 k < w then s 139 k else w)) m' → Q [zI (if s 139 k < w then s 139 k else w)] m') : zG Ω 82 0 [zR 7 (3 + 2 * k), zI w, zU] [] m Q := by
  have v1 := hv.1
  have v4 := hv.2.2.2.1 k (by omega) hk.2
  have ck := hr.2.1 k hk.1 hk.2
  have ci := (hi.2.2.1 k (by omega) hk.2).1
  refine w_X7_giveBearers_0 ?_
  have e1 : zw (m (3 + 2 * k) 4 - m (3 + 2 * k) 8) = s 139 k := by
    rw [ci.2.2.2.1, ck.1, zw_i (by omega) (by omega)]; omega
  rw [e1]
  generalize hgv : (if s 139 k < w then s 139 k else w) = gv at K ⊢
  have hg : 0 ≤ gv ∧ gv ≤ s 139 k := by rw [← hgv]; split <;> omega
  have e2 : zw (m (3 + 2 * k) 8 + gv) = g 93 k - (s 139 k - gv) := by
    rw [ck.1, zw_i (by omega) (by omega)]; omega
  have e3 : zw (m (3 + 2 * k) 9 + gv) = s 140 k + (g 93 k - (s 139 k - gv)) := by
    rw [ck.2.1, zw_i (by omega) (by omega)]; omega
  rw [e2]
  simp (disch := omega) only [zup_j, zup_e]
  rw [e3, ck.2.2]
  refine K _ (FC_u (FC_u (FC_u FC_r (by omega)) (by omega)) (by omega)) (RC_139 hv hr hk.1 hk.2 rfl rfl ?_)
  unfold mxA
  split <;> split <;> (try split) <;> omega
end L2
