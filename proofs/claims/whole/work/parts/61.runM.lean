/-! the reference's run does as the numbers do -/
def IM (g m : zM) : Prop := (∀ x j, (90 ≤ x ∧ x ≤ 108) ∨ (x = 110 ∧ 0 ≤ j ∧ j < 4) ∨ (x = 88 ∧ (j = 4 ∨ j = 12)) → m x j = g x j) ∧ (∀ l, 0 ≤ l → l < g 88 12 → m 125 l = g 125 l ∧ m 126 l = g 126 l ∧ m 127 l = g 127 l ∧ m 128 l = g 128 l ∧ m 129 l = g 129 l)
def FM (m m' : zM) : Prop := ∀ x j, ¬ ((130 ≤ x ∧ x ≤ 139) ∨ (x = 88 ∧ 76 ≤ j ∧ j ≤ 77)) → m' x j = m x j
theorem FM_r {m : zM} : FM m m := fun _ _ _ => rfl
theorem FM_t {m m' m'' : zM} (a : FM m m') (b : FM m' m'') : FM m m'' := fun x j h => (b x j h).trans (a x j h)
theorem FM_u {m m' : zM} {x j v : Int} (a : FM m m') (hx : (130 ≤ x ∧ x ≤ 139) ∨ (x = 88 ∧ 76 ≤ j ∧ j ≤ 77)) : FM m (zup m' x j v) := fun x' j' h => by
  unfold zup
  rw [if_neg (by omega)]
  exact a x' j' h
theorem IM_f {g m m' : zM} (h : IM g m) (f : FM m m') : IM g m' := by
  refine ⟨fun x j hx => (f x j (by omega)).trans (h.1 x j hx), fun l h0 h1 => ?_⟩
  have := h.2 l h0 h1
  rw [f 125 l (by omega), f 126 l (by omega), f 127 l (by omega), f 128 l (by omega), f 129 l (by omega)]
  exact this
def RLm (s m : zM) (l : Int) : Prop := m 130 l = s 130 l ∧ m 132 l = s 132 l ∧ m 134 l = s 134 l ∧ m 135 l = s 135 l ∧ m 136 l = s 136 l ∧ m 137 l = s 137 l ∧ m 138 l = s 138 l
def RM (g s m : zM) : Prop := (∀ l, 0 ≤ l → l < g 88 12 → RLm s m l) ∧ (∀ l k, 0 ≤ l → l < g 88 12 → 0 ≤ k → k < 12 → m 133 (12 * l + k) = s 133 (12 * l + k)) ∧ (∀ k, 0 ≤ k → k < g 88 4 → m 139 k = s 139 k)
def PM (g s m : zM) : Prop := ∀ l, 0 ≤ l → l < g 88 12 → m 131 l = phA g s l
theorem RM_88 {g s m : zM} {j v : Int} (h : RM g s m) : RM g s (zup m 88 j v) := by
  refine ⟨fun l h0 h1 => ?_, fun l k h0 h1 h2 h3 => ?_, fun k h0 h1 => ?_⟩
  · have := h.1 l h0 h1
    unfold RLm at this ⊢
    simpa [zup] using this
  · have := h.2.1 l k h0 h1 h2 h3
    simpa [zup] using this
  · have := h.2.2 k h0 h1
    simpa [zup] using this
theorem PM_88 {g s m : zM} {j v : Int} (h : PM g s m) : PM g s (zup m 88 j v) := by
  intro l h0 h1
  have := h l h0 h1
  simpa [zup] using this
section L2
variable {Ω : zΩ} {Q : List zV → zM → Prop} {g s m : zM}
theorem b_shutM {k d : Int} {A B : zM → Prop} (hi : IM g m) (hk : 0 ≤ k ∧ k ≤ 11) (hd : 0 ≤ d ∧ d ≤ 99) (f : shA g k d → B m) (n : ¬ shA g k d → A m) : zG Ω 178 0 [zR 10 88, zI k, zI d] [] m (fun r m1 => zk1 r fun v => if v = 0 then A m1 else B m1) := by
  refine w_X10_isShut_0 ?_
  rw [zw_i (x := 100 * k) (by omega) (by omega), zw_i (x := 100 * k + d) (by omega) (by omega)]
  refine zin_of (by omega) (by omega) (zin_of (by omega) (by omega) ?_)
  rw [hi.1 96 _ (by omega), hi.1 94 _ (by omega)]
  refine zif (fun h => zk1_f (n ?_)) fun h => zk1_t (f ?_)
  · unfold shA; omega
  · unfold shA; omega
theorem b_failsM {l k : Int} (hi : IM g m) (h133 : m 133 (12 * l + k) = s 133 (12 * l + k)) (hl : 0 ≤ l ∧ l < 6) (hk : 0 ≤ k ∧ k ≤ 11) (f : faA g s l k → Q [zI 1] m) (n : ¬ faA g s l k → Q [zI 0] m) : zG Ω 179 0 [zR 10 88, zI l, zI k] [] m Q := by
  refine w_X10_fails_0 ?_
  rw [zw_i (x := 12 * l) (by omega) (by omega), zw_i (x := 12 * l + k) (by omega) (by omega), h133]
  refine zin_of (by omega) (by omega) ?_
  rw [hi.1 95 k (by omega), hi.1 103 l (by omega), hi.1 101 l (by omega), hi.1 104 l (by omega), hi.1 102 l (by omega)]
  refine zif (fun h => n fun q => q.1 h) fun h => zin_of (by omega) (by omega) (zif (fun h2 => zin_of (by omega) (by omega) (zin_of (by omega) (by omega) (zif (fun h3 => f ⟨h, h2, Or.inl h3⟩) fun h3 => zin_of (by omega) (by omega) (zin_of (by omega) (by omega) (zif (fun h4 => f ⟨h, h2, Or.inr h4⟩) fun h4 => n fun q => ?_))))) fun h2 => n fun q => h2 q.2.1)
  rcases q.2.2 with z | z
  · exact h3 z
  · exact h4 z
theorem s_lodges_21 {l k : Int} (hv : vG g) (hi : IM g m) (hr : RM g s m) (hp : PM g s m) (hl : 0 ≤ l ∧ l < g 88 12) (hk : 1 ≤ k ∧ k ≤ 11) (ha : ¬ s 130 l = k) (f : loA g s k (g 88 12).toNat < g 92 k → Q [zI 1] m) (nf : ¬ loA g s k (g 88 12).toNat < g 92 k → Q [zI 0] m) : ∀ (r o : Nat), o + r = (g 88 12).toNat → 0 ≤ loA g s k o → loA g s k o ≤ o → zG Ω 180 21 [zR 10 88, zI l, zI k, zI (loA g s k o), zI o] [] m Q := by
  have v2 := hv.2.1
  have e12 := hi.1 88 12 (by omega)
  have e92 := hi.1 92 k (by omega)
  intro r
  induction r with
  | zero =>
    intro o ho c0 c1
    refine w_X10_lodges_21 (zif (fun h => absurd h (by omega)) fun _ => zin_of (by omega) (by omega) ?_)
    rw [e92]
    rw [show (g 88 12).toNat = o by omega] at f nf
    exact zif f nf
  | succ r ih =>
    intro o ho c0 c1
    have hro := hr.1 o (by omega) (by omega)
    have hpo := hp o (by omega) (by omega)
    have ho := ih (o + 1) (by omega)
    rw [show ((o + 1 : Nat) : Int) = (o : Int) + 1 by omega] at ho
    have hlo : loA g s k (o + 1) = loA g s k o + (if s 130 (o : Int) = k ∧ ¬ g 97 (o : Int) = k then 1 else 0) := rfl
    rw [hlo] at ho
    refine w_X10_lodges_21 (zif (fun h => ?_) fun h => absurd h (by omega))
    rw [zw_i (x := (o : Int) + 1) (by omega) (by omega), zw_i (x := loA g s k o + 0) (by omega) (by omega), zw_i (x := loA g s k o + 1) (by omega) (by omega)]
    rw [hpo, hro.1]
    refine zif (fun h2 => ?_) fun h2 => zin_of (by omega) (by omega) (zif (fun h3 => zin_of (by omega) (by omega) (zif (fun h4 => ?_) fun h4 => ?_)) fun h3 => ?_)
    · rw [if_neg (by rw [h2]; exact fun q => ha q.1)] at ho
      exact ho (by omega) (by omega)
    · have hx : ¬ g 97 (o : Int) = k := fun q => by
        unfold phA at h3
        rw [if_neg (by omega), if_pos (by omega)] at h3
        omega
      rw [if_pos ⟨h4, hx⟩] at ho
      exact ho (by omega) (by omega)
    · rw [if_neg (fun q => h4 q.1)] at ho
      exact ho (by omega) (by omega)
    · rw [if_neg (fun q => h3 ?_)] at ho
      · exact ho (by omega) (by omega)
      · unfold phA
        rw [if_neg (by omega), if_neg (by omega)]
theorem s_lodges {l k : Int} (hv : vG g) (hi : IM g m) (hr : RM g s m) (hp : PM g s m) (hl : 0 ≤ l ∧ l < g 88 12) (hk : 0 ≤ k ∧ k ≤ 11) (ha : ¬ s 130 l = k) (f : hoA g s k → Q [zI 1] m) (nf : ¬ hoA g s k → Q [zI 0] m) : zG Ω 180 0 [zR 10 88, zI l, zI k, zU, zU] [] m Q := by
  have v2 := hv.2.1
  have hl1 := (hr.1 l hl.1 hl.2).1
  refine w_X10_lodges_0 (zif (fun h => f (Or.inl h)) fun h => zin_of (by omega) (by omega) (zif (fun h2 => absurd (hl1.symm.trans h2.symm) ha) fun _ => ?_))
  exact s_lodges_21 hv hi hr hp hl (by omega) ha (fun q => f (Or.inr q)) (fun q => nf fun z => z.elim h q) (g 88 12).toNat 0 (by omega) (Int.le_refl _) (Int.le_refl _)
theorem lookA_0 {l d h : Int} : ∀ n : Nat, lookA g s l d n 0 h = (0, 0) := by
  intro n
  cases n with
  | zero => rfl
  | succ n => unfold lookA; rw [if_pos rfl]
theorem lookA_n {l d k h : Int} {n : Nat} (hc : ¬ (h + g 91 k ≤ g 110 0 ∧ ¬ shA g k d ∧ (k = s 130 l ∨ ¬ faA g s l k))) : lookA g s l d (n + 1) k h = (0, 0) := by
  unfold lookA
  split
  · rfl
  · first | rfl | rw [if_neg hc]
theorem lookA_y {l d k h : Int} {n : Nat} (hk : ¬ k = 0) (hc : h + g 91 k ≤ g 110 0 ∧ ¬ shA g k d ∧ (k = s 130 l ∨ ¬ faA g s l k)) : lookA g s l d (n + 1) k h = ((lookA g s l d n (g 90 k) (h + g 91 k)).1 + 1, if 0 < (lookA g s l d n (g 90 k) (h + g 91 k)).2 then (lookA g s l d n (g 90 k) (h + g 91 k)).2 + 1 else if hoA g s (g 90 k) then 1 else 0) := by
  rw [lookA, if_neg hk, if_pos hc]
theorem s_look_x {l d k h : Int} (K : Q [] m) : zG Ω 181 23 [zR 10 88, zI l, zI d, zI k, zI h, zI 0] [] m Q :=
  w_X10_looksAlong_23 (zif (fun _ => K) fun e => absurd rfl e)
theorem s_look_23 {l d : Int} (hv : vG g) (hl : 0 ≤ l ∧ l < g 88 12) (hd : 0 ≤ d ∧ d ≤ 99) : ∀ (n : Nat) (m : zM) (k h : Int) (c gf : Nat), IM g m → RM g s m → PM g s m → 0 ≤ k → k < g 88 4 → k ≤ n → 0 ≤ h → h ≤ 24 → m 88 76 = c → m 88 77 = gf → (c = 0 → k = s 130 l) → (0 < c → k < s 130 l) → c + n ≤ 100 → (∀ m', FM m m' → RM g s m' → PM g s m' → m' 88 76 = c + (lookA g s l d n k h).1 → m' 88 77 = (if 0 < (lookA g s l d n k h).2 then (c : Int) + (lookA g s l d n k h).2 else gf) → Q [] m') → zG Ω 181 23 [zR 10 88, zI l, zI d, zI k, zI h, zI 1] [] m Q := by
  have v1 := hv.1
  have v2 := hv.2.1
  intro n
  induction n with
  | zero =>
    intro m k h c gf hi hr hp h0 h1 h2 h3 h4 h5 h6 h7 h8 h9 K
    refine w_X10_looksAlong_23 (zif (fun e => absurd e (by omega)) fun _ => zif (fun e => ?_) fun e => absurd h2 (by omega))
    exact K m FM_r hr hp (by rw [h5]; unfold lookA; simp) (by rw [h6]; unfold lookA; simp)
  | succ n ih =>
    intro m k h c gf hi hr hp h0 h1 h2 h3 h4 h5 h6 h7 h8 h9 K
    have v6 := hv.2.2.2.2.2.1
    have hstop : lookA g s l d (n + 1) k h = (0, 0) → ∀ m', FM m m' → RM g s m' → PM g s m' → m' 88 76 = m 88 76 → m' 88 77 = m 88 77 → Q [] m' := by
      intro e m' f r p e1 e2
      refine K m' f r p ?_ ?_
      · rw [e, e1, h5]; simp
      · rw [e, e2, h6]; simp
    refine w_X10_looksAlong_23 (zif (fun e => absurd e (by omega)) fun _ => zif (fun e => ?_) fun hk => zin_of (by omega) (by omega) ?_)
    · subst e
      exact hstop (lookA_0 _) m FM_r hr hp rfl rfl
    have v3 := hv.2.2.1 k (by omega) h1
    rw [hi.1 110 0 (by omega), hi.1 91 k (by omega), zw_i (x := h + g 91 k) (by omega) (by omega)]
    refine zif (fun hc => ?_) fun hc => ?_
    · rw [if_pos rfl]
      exact s_look_x (hstop (lookA_n fun q => by omega) m FM_r hr hp rfl rfl)
    have go : (k = s 130 l ∨ ¬ faA g s l k) → ¬ shA g k d → zG Ω 180 0 [zR 10 88, zI l, zI (m 90 k), zU, zU] [] (zup m 88 76 (zw (m 88 76 + 1))) (fun r4 m4 => zk1 r4 fun v4 => if v4 = 0 then zG Ω 181 23 [zR 10 88, zI l, zI d, zI (m 90 k), zI (h + g 91 k), zI 1] [] m4 Q else zG Ω 181 23 [zR 10 88, zI l, zI d, zI (m 90 k), zI (h + g 91 k), zI 1] [] (zup m4 88 77 (m4 88 76)) Q) := by
      intro hf hs
      have hy := lookA_y (n := n) (h := h) hk ⟨by omega, hs, hf⟩
      rw [hi.1 90 k (by omega), h5, zw_i (x := (c : Int) + 1) (by omega) (by omega)]
      have f1 : FM m (zup m 88 76 ((c : Int) + 1)) := FM_u FM_r (by omega)
      have hat : ¬ s 130 l = g 90 k := by
        rcases Nat.eq_zero_or_pos c with z | z
        · have := h7 z; omega
        · have := h8 z; omega
      have next : ∀ (m' : zM) (gf' : Nat), FM m m' → RM g s m' → PM g s m' → m' 88 76 = ((c + 1 : Nat) : Int) → m' 88 77 = gf' → (gf' = if hoA g s (g 90 k) then c + 1 else gf) → zG Ω 181 23 [zR 10 88, zI l, zI d, zI (g 90 k), zI (h + g 91 k), zI 1] [] m' Q := by
        intro m' gf' f r p e1 e2 e3
        refine ih m' (g 90 k) (h + g 91 k) (c + 1) gf' (IM_f hi f) r p (by omega) (by omega) (by omega) (by omega) (by omega) e1 e2 (fun z => absurd z (by omega)) (fun _ => ?_) (by omega) fun m'' f2 r2 p2 e4 e5 => ?_
        · rcases Nat.eq_zero_or_pos c with z | z
          · have := h7 z; omega
          · have := h8 z; omega
        · refine K m'' (FM_t f f2) r2 p2 ?_ ?_
          · rw [e4, hy]; dsimp only; omega
          · rw [e5, hy]
            dsimp only
            by_cases z : 0 < (lookA g s l d n (g 90 k) (h + g 91 k)).2
            · rw [if_pos z, if_pos z, if_pos (by omega)]; omega
            · rw [if_neg z, if_neg z, e3]
              by_cases y : hoA g s (g 90 k)
              · rw [if_pos y, if_pos y, if_pos (by omega)]; omega
              · rw [if_neg y, if_neg y, if_neg (by omega)]
      refine s_lodges hv (IM_f hi f1) (RM_88 hr) (PM_88 hp) hl (by omega) hat (fun q => ?_) fun q => ?_
      · refine zk1_t ?_
        refine next _ (c + 1) (FM_u f1 (by omega)) (RM_88 (RM_88 hr)) (PM_88 (PM_88 hp)) ?_ ?_ (by rw [if_pos q])
        · simp [zup]
        · simp [zup]
      · refine zk1_f ?_
        refine next _ gf f1 (RM_88 hr) (PM_88 hp) ?_ ?_ (by rw [if_neg q])
        · simp [zup]
        · simp [zup]; exact h6
    refine b_shutM hi (by omega) hd (fun hs => ?_) fun hs => zif (fun hc0 => ?_) fun hc0 => ?_
    · rw [if_pos rfl]
      exact s_look_x (hstop (lookA_n fun q => q.2.1 hs) m FM_r hr hp rfl rfl)
    · rw [if_neg (by omega)]
      exact zin_of (by omega) (by omega) (go (Or.inl (h7 (by omega))) hs)
    · refine b_failsM hi (hr.2.1 l k hl.1 hl.2 h0 (by omega)) (by omega) (by omega) (fun hf => ?_) fun hf => ?_
      · refine zk1_t ?_
        rw [if_pos rfl]
        refine s_look_x (hstop (lookA_n fun q => ?_) m FM_r hr hp rfl rfl)
        rcases q.2.2 with z | z
        · have := h8 (by omega); omega
        · exact z hf
      · refine zk1_f ?_
        rw [if_neg (by omega)]
        exact zin_of (by omega) (by omega) (go (Or.inr hf) hs)
end L2
