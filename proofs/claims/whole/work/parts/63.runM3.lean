theorem RM_up {g s m : zM} {x j v : Int} (h : RM g s m) : RM g (zup s x j v) (zup m x j v) := by
  have u : ∀ a b, m a b = s a b → zup m x j v a b = zup s x j v a b := fun a b e => by unfold zup; split; rfl; exact e
  refine ⟨fun l h0 h1 => ?_, fun l k h0 h1 h2 h3 => u _ _ (h.2.1 l k h0 h1 h2 h3), fun k h0 h1 => u _ _ (h.2.2 k h0 h1)⟩
  obtain ⟨a, b, c, d, e, f, i⟩ := h.1 l h0 h1
  exact ⟨u _ _ a, u _ _ b, u _ _ c, u _ _ d, u _ _ e, u _ _ f, u _ _ i⟩
theorem PM_up {g s m : zM} {x j v : Int} (h : PM g s m) (hx : ¬ x = 130) (hy : ¬ x = 131) : PM g (zup s x j v) (zup m x j v) := by
  intro l h0 h1
  have := h l h0 h1
  unfold phA at this ⊢
  rw [zup_c (fun q => hy q.symm), zup_c (fun q => hx q.symm)]
  exact this
theorem RM_131 {g s m : zM} {j v : Int} (h : RM g s m) : RM g s (zup m 131 j v) := by
  refine ⟨fun l h0 h1 => ?_, fun l k h0 h1 h2 h3 => ?_, fun k h0 h1 => ?_⟩
  · have := h.1 l h0 h1
    unfold RLm at this ⊢
    simpa [zup] using this
  · have := h.2.1 l k h0 h1 h2 h3
    simpa [zup] using this
  · have := h.2.2 k h0 h1
    simpa [zup] using this
section L2
variable {Ω : zΩ} {Q : List zV → zM → Prop} {g s m : zM}
theorem s_goesOn {l c e : Int} {a : Nat} (hv : vG g) (hl : 0 ≤ l ∧ l < g 88 12) (hc : c ≤ 600 ∧ e ≤ 600) (h77 : m 88 77 = a) (ha : a ≤ 100) (hb : BA g s c e) (hi : IM g m) (hr : RM g s m) (hp : PM g s m) (ht : pth g a (s 130 l)) (K : ∀ m', FM m m' → RM g (hopsA g l a s) m' → PM g (hopsA g l a s) m' → Q [] m') : zG Ω 182 0 [zR 10 88, zI l, zU, zU, zU, zU] [] m Q := by
  refine w_X10_goesOn_0 (s_goes_2 hv hl hc a 0 s m (by omega) (by omega) (by omega) hb hi hr ht fun m' f r p e7 => ?_)
  have v7 := hv.2.2.2.2.2.2 l hl.1 hl.2
  have bl := hb.1 l hl.1 hl.2
  unfold LB at bl
  have hat := hopsA_at (g := g) (l := l) a s
  have rl := (r.1 l hl.1 hl.2).1
  refine zif (fun h => ?_) fun h => ?_
  · have pb := pth_ne hv (a := 0) (b := a) (n := a) (k := s 130 l) (by omega) (by omega) ht (by omega) (Nat.le_refl _)
    have pb : nxA g a (s 130 l) < s 130 l := pb
    have ph : ∀ v, v = phA g (hopsA g l a s) l → PM g (hopsA g l a s) (zup m' 131 l v) := by
      intro v hv' l' e0 e1
      by_cases ee : l' = l
      · subst ee; rw [zup_e rfl rfl]; exact hv'
      · rw [zup_j ee, p l', hp l' e0 e1]
        unfold phA
        rw [hopsA_o ee]
    refine zif (fun h2 => ?_) fun h2 => ?_
    · refine K _ (FM_u f (by omega)) (RM_131 r) (ph 2 ?_)
      unfold phA
      rw [if_pos (by rw [← rl]; exact h2)]
    · refine K _ (FM_u f (by omega)) (RM_131 r) (ph 1 ?_)
      unfold phA
      rw [if_neg (by rw [← rl]; exact h2), if_neg (by rw [hat]; omega)]
  · have : a = 0 := by omega
    subst this
    refine K m' f r fun l' e0 e1 => ?_
    rw [p l']
    exact hp l' e0 e1
theorem s_asks {l d c : Int} (hv : vG g) (hl : 0 ≤ l ∧ l < g 88 12) (hd : 0 ≤ d ∧ d ≤ 99) (hc : c ≤ 599) (hb : BA g s c c) (hi : IM g m) (hr : RM g s m) (hp : PM g s m) (hat : 1 ≤ s 130 l) (K : ∀ m', FM m m' → RM g (askA g s l d) m' → PM g (askA g s l d) m' → Q [] m') : zG Ω 183 0 [zR 10 88, zI l, zI d] [] m Q := by
  have v2 := hv.2.1
  have v7 := hv.2.2.2.2.2.2 l hl.1 hl.2
  have bl := hb.1 l hl.1 hl.2
  unfold LB at bl
  have rl := hr.1 l hl.1 hl.2
  unfold RLm at rl
  have il := hi.2 l hl.1 hl.2
  refine w_X10_asks_0 (zin_of (by omega) (by omega) ?_)
  rw [rl.2.1]
  refine zif (fun hh => ?_) fun hh => ?_
  · refine zin_of (by omega) (by omega) (zin_of (by omega) (by omega) (zin_of (by omega) (by omega) (zin_of (by omega) (by omega) (zin_of (by omega) (by omega) ?_))))
    rw [il.2.2.1, rl.2.2.2.1, zw_i (x := s 132 l - 1) (by omega) (by omega), zw_i (by omega) (by omega)]
    unfold askA at K
    rw [if_pos hh] at K
    exact K _ (FM_u (FM_u FM_r (by omega)) (by omega)) (RM_up (RM_up hr)) (PM_up (PM_up hp (by decide) (by decide)) (by decide) (by decide))
  have hk : 0 ≤ s 130 l ∧ s 130 l < g 88 4 := by omega
  obtain ⟨p1, p2⟩ := lookA_p (s := s) (l := l) (d := d) hv 12 (s 130 l) 0 hk.1 hk.2
  have p3 := pth_b hv _ _ hk.1 hk.2 p1 _ (Nat.le_refl _)
  unfold askA at K
  rw [if_neg hh] at K
  refine w_X10_looksAlong_0 (zin_of (by omega) (by omega) ?_)
  rw [rl.1]
  refine s_look_23 (s := s) hv hl hd 12 _ (s 130 l) 0 0 0 (IM_f hi (FM_u (FM_u FM_r (by omega)) (by omega))) (RM_88 (RM_88 hr)) (PM_88 (PM_88 hp)) hk.1 hk.2 (by omega) (by omega) (by omega) (by simp [zup]) (by simp [zup]) (fun _ => rfl) (fun z => absurd z (by omega)) (by omega) fun m1 f1 r1 ph1 e76 e77 => ?_
  have f1 : FM m m1 := FM_t (FM_u (FM_u FM_r (by omega)) (by omega)) f1
  generalize hpp : lookA g s l d 12 (s 130 l) 0 = p at K p1 p2 p3 e76 e77
  have e77 : m1 88 77 = (p.2 : Int) := by
    rw [e77]; split <;> omega
  have e76 : m1 88 76 = (p.1 : Int) := by rw [e76]; omega
  have fin : ∀ m7 : zM, FM m m7 → m7 88 77 = (p.2 : Int) → RM g (marksA g s l d p) m7 → PM g (marksA g s l d p) m7 → zG Ω 182 0 [zR 10 88, zI l, zU, zU, zU, zU] [] m7 (fun r8 m8 => zk0 r8 (zin l 6 (if (m8 131 l) = 2 then (zin l 6 (Q [] (zup m8 137 l d))) else (zin l 6 (if (m8 131 l) = 1 then (zin l 6 (zin l 6 (zin l 6 (Q [] (zup m8 135 l (zw ((m8 135 l) + (m8 127 l)))))))) else (Q [] m8)))))) := by
    intro m7 f7 e7 r7 ph7
    have b7 := marksA_BA (l := l) (d := d) (p := p) hb
    have pt : pth g p.2 (marksA g s l d p 130 l) := by rw [marksA_at]; exact fun i hi => p1 i (by omega)
    refine s_goesOn (c := c + 1) (e := c) hv hl (by omega) e7 (by omega) b7 (IM_f hi f7) r7 ph7 pt fun m8 f8 r8 ph8 => ?_
    have b8 := (hopsA_BA hv hl.1 hl.2 p.2 _ b7 pt).1 l hl.1 hl.2
    unfold LB at b8
    have rl8 := r8.1 l hl.1 hl.2
    unfold RLm at rl8
    have i8 := (IM_f (IM_f hi f7) f8).2 l hl.1 hl.2
    have q8 := ph8 l hl.1 hl.2
    generalize hopsA g l p.2 (marksA g s l d p) = t at K r8 ph8 b8 rl8 q8
    have f8 := FM_t f7 f8
    unfold nightA at K
    show zin l 6 _
    refine zin_of (by omega) (by omega) ?_
    rw [q8]
    unfold phA
    refine zif (fun h => zin_of (by omega) (by omega) ?_) fun h => zin_of (by omega) (by omega) (zif (fun h2 => zin_of (by omega) (by omega) (zin_of (by omega) (by omega) (zin_of (by omega) (by omega) ?_))) fun h2 => ?_)
    · rw [if_pos (by split at h; assumption; split at h <;> omega)] at K
      exact K _ (FM_u f8 (by omega)) (RM_up r8) (PM_up ph8 (by decide) (by decide))
    · have n0 : ¬ t 130 l = 0 := fun z => by rw [if_pos z] at h2; omega
      have n1 : ¬ t 130 l = g 97 l := fun z => by rw [if_neg n0, if_pos z] at h2; omega
      rw [if_neg n0, if_neg n1] at K
      rw [rl8.2.2.2.1, i8.2.2.1, zw_i (by omega) (by omega)]
      exact K _ (FM_u f8 (by omega)) (RM_up r8) (PM_up ph8 (by decide) (by decide))
    · have n0 : ¬ t 130 l = 0 := fun z => by rw [if_pos z] at h; omega
      have n1 : t 130 l = g 97 l := by
        rw [if_neg n0] at h2
        split at h2
        · assumption
        · omega
      rw [if_neg n0, if_pos n1] at K
      exact K _ f8 r8 ph8
  have i1 := IM_f hi f1
  have rl1 := r1.1 l hl.1 hl.2
  unfold RLm at rl1
  show if m1 88 77 < m1 88 76 then _ else _
  rw [e76, e77]
  have m_yn : p.2 < p.1 → ¬ (p.2 = 0 ∧ shA g (s 130 l) d) → marksA g s l d p = zup s 134 l (s 134 l + 1) := fun a b => by unfold marksA; rw [if_neg b, if_pos a]
  have m_yy : p.2 < p.1 → (p.2 = 0 ∧ shA g (s 130 l) d) → marksA g s l d p = zup (zup s 134 l (s 134 l + 1)) 138 l (s 138 l + 1) := fun a b => by unfold marksA; rw [if_pos b, if_pos a]
  have m_nn : ¬ p.2 < p.1 → ¬ (p.2 = 0 ∧ shA g (s 130 l) d) → marksA g s l d p = s := fun a b => by unfold marksA; rw [if_neg b, if_neg a]
  have m_ny : ¬ p.2 < p.1 → (p.2 = 0 ∧ shA g (s 130 l) d) → marksA g s l d p = zup s 138 l (s 138 l + 1) := fun a b => by unfold marksA; rw [if_pos b, if_neg a]
  rw [rl1.1, rl1.2.2.1, zw_i (x := s 134 l + 1) (by omega) (by omega)]
  refine zif (fun hy => zin_of (by omega) (by omega) (zin_of (by omega) (by omega) (zif (fun h0 => zin_of (by omega) (by omega) (b_shutM (IM_f i1 (FM_u FM_r (by omega))) (by omega) hd (fun hs => zin_of (by omega) (by omega) (zin_of (by omega) (by omega) (fin _ (FM_u (FM_u f1 (by omega)) (by omega)) ?_ ?_ ?_))) fun hs => fin _ (FM_u f1 (by omega)) ?_ ?_ ?_)) fun h0 => fin _ (FM_u f1 (by omega)) ?_ ?_ ?_))) fun hy => zif (fun h0 => zin_of (by omega) (by omega) (b_shutM i1 (by omega) hd (fun hs => zin_of (by omega) (by omega) (zin_of (by omega) (by omega) (fin _ (FM_u f1 (by omega)) ?_ ?_ ?_))) fun hs => fin _ f1 ?_ ?_ ?_)) fun h0 => fin _ f1 ?_ ?_ ?_
  · simp [zup]; exact e77
  · rw [m_yy (by omega) ⟨by omega, hs⟩, show zup m1 134 l (s 134 l + 1) 138 l = s 138 l by simp [zup]; exact rl1.2.2.2.2.2.2, zw_i (by omega) (by omega)]
    exact RM_up (RM_up r1)
  · rw [m_yy (by omega) ⟨by omega, hs⟩, show zup m1 134 l (s 134 l + 1) 138 l = s 138 l by simp [zup]; exact rl1.2.2.2.2.2.2, zw_i (by omega) (by omega)]
    exact PM_up (PM_up ph1 (by decide) (by decide)) (by decide) (by decide)
  · simp [zup]; exact e77
  · rw [m_yn (by omega) fun q => hs q.2]; exact RM_up r1
  · rw [m_yn (by omega) fun q => hs q.2]; exact PM_up ph1 (by decide) (by decide)
  · simp [zup]; exact e77
  · rw [m_yn (by omega) fun q => h0 (by omega)]; exact RM_up r1
  · rw [m_yn (by omega) fun q => h0 (by omega)]; exact PM_up ph1 (by decide) (by decide)
  · simp [zup]; exact e77
  · rw [m_ny (by omega) ⟨by omega, hs⟩, rl1.2.2.2.2.2.2, zw_i (by omega) (by omega)]; exact RM_up r1
  · rw [m_ny (by omega) ⟨by omega, hs⟩, rl1.2.2.2.2.2.2, zw_i (by omega) (by omega)]; exact PM_up ph1 (by decide) (by decide)
  · exact e77
  · rw [m_nn (by omega) fun q => hs q.2]; exact r1
  · rw [m_nn (by omega) fun q => hs q.2]; exact ph1
  · exact e77
  · rw [m_nn (by omega) fun q => h0 (by omega)]; exact r1
  · rw [m_nn (by omega) fun q => h0 (by omega)]; exact ph1
end L2
