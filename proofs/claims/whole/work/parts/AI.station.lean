theorem stM_d {m : zM} {n h ho du sh g : Int} : stM m n h ho du sh g = zup (zup (zup (zup (zup (zup (zup (zup m 88 2 0) 90 (m 88 4) n) 91 (m 88 4) h) 92 (m 88 4) ho) 93 (m 88 4) du) 94 (m 88 4) sh) 95 (m 88 4) g) 88 4 (m 88 4 + 1) := rfl
section L2
variable {Ω : zΩ} {S : Int → Int} {m : zM} {N : Int → Int → zM → Prop}
theorem VI_station {n h ho du sh gt : Int} (hgt : 0 ≤ gt ∧ gt ≤ 1) (hh : VI S m) (K : ∀ v m', VI S m' → N v v m') : zG Ω 100 0 [zR 9 0, zI n, zI h, zI ho, zI du, zI sh, zI gt, zU] [] m (fun r1 m1 => zk1 r1 fun v1 => zG Ω 129 0 [zR 10 88, zI n, zI h, zI ho, zI du, zI sh, zI gt] [] m1 (fun r2 m2 => zk1 r2 fun v2 => N v1 v2 m2)) := by
  obtain ⟨g, hp, hg, hr, hw, he, hc, hx⟩ := hh
  have hc1 := hc.1
  obtain ⟨⟨e11, e9, e3⟩, cE, c5, c6, c7, c8⟩ := hc1
  have hN := hg.2.2.1
  have hS := hg.1.1
  have hS1 := hg.2.1
  have e4 : m 88 4 = g 88 4 := hp _ _ (pr_8 (by omega))
  have e12 : m 88 12 = g 88 12 := hp _ _ (pr_8 (by omega))
  have hx' := hx
  obtain ⟨x1, ⟨t1, t2, t3⟩, x3, x4, x5, x6, x7, x8, x10, x11, x13⟩ := hx'
  have r90 : m 90 = g 90 := funext fun j => hp 90 j (pr_r (by omega))
  have r91 : m 91 = g 91 := funext fun j => hp 91 j (pr_r (by omega))
  rw [r90, r91] at x11
  have hb : ∀ k, 0 ≤ k → k < m 1 1 → 0 ≤ m (3 + 2 * k) 7 ∧ m (3 + 2 * k) 7 ≤ 240 := fun k k0 k1 => by
    rw [(x11 k k0 k1).1, farF_fu hg.1 k.toNat 22 k 0 (by omega) (by omega) k0 (by omega) (by omega) (by omega)]
    have := farF_b hg.1 k.toNat k 0 k0 (by omega) (by omega) (by omega)
    omega
  refine s_station hgt (by omega) hb (fun ok => zk1_i ?_) fun no => zk1_i (s_stationM hgt (by omega) (fun q => absurd (by rw [e11, ← e4]; exact q) no) fun _ => zk1_i (K _ _ ?_))
  · have q88 : ∀ j, stC m n h ho du sh gt 88 j = m 88 j := fun j => by
      unfold stC
      rw [zup_c (by decide), zup_c (by decide), zup_c (by omega), zup_c (by omega), zup_c (by omega), zup_c (by omega), zup_c (by omega), zup_c (by omega), zup_c (by omega)]
    refine s_stationM hgt (by rw [q88]; omega) (fun _ => zk1_i ?_) fun q => absurd (by rw [q88, e4, ← e11]; exact ok) q
    rw [q88, e4, ← e11]
    refine K _ _ ?_
    unfold okSt at ok
    have hn : m 1 1 < 12 := by omega
    have cx : ∀ x j, ¬ (x = 3 + 2 * m 1 1 ∧ 1 ≤ j ∧ j ≤ 7) → ¬ (x = 0 ∧ j = 14) → ¬ (x = 1 ∧ j = 1) → ¬ (x = 88 ∧ (j = 2 ∨ j = 4)) → ¬ (90 ≤ x ∧ x ≤ 95 ∧ j = m 1 1) → stM (stC m n h ho du sh gt) n h ho du sh gt x j = m x j := fun x j h1 h2 h3 h4 h5 => by
      rw [stM_d]
      rw [q88, e4, ← e11, zup_n (by omega), zup_n (by omega), zup_n (by omega), zup_n (by omega), zup_n (by omega), zup_n (by omega), zup_n (by omega), zup_n (by omega)]
      unfold stC
      rw [zup_n (by omega), zup_n (by omega), zup_n (by omega), zup_n (by omega), zup_n (by omega), zup_n (by omega), zup_n (by omega), zup_n (by omega), zup_n (by omega)]
    have cl : ∀ x j, x < 88 → stM (stC m n h ho du sh gt) n h ho du sh gt x j = stC m n h ho du sh gt x j := fun x j hx => by
      rw [stM_d]
      rw [zup_c (by omega), zup_c (by omega), zup_c (by omega), zup_c (by omega), zup_c (by omega), zup_c (by omega), zup_c (by omega), zup_c (by omega)]
    have cs : ∀ v, v = stC m n h ho du sh gt → v (3 + 2 * m 1 1) 1 = n ∧ v (3 + 2 * m 1 1) 2 = h ∧ v (3 + 2 * m 1 1) 3 = ho ∧ v (3 + 2 * m 1 1) 4 = du ∧ v (3 + 2 * m 1 1) 5 = sh ∧ v (3 + 2 * m 1 1) 6 = gt ∧ v (3 + 2 * m 1 1) 7 = m (3 + 2 * n) 7 + h ∧ v 0 14 = 1 ∧ v 1 1 = m 1 1 + 1 := fun v hv => by
      subst hv
      have n0 : ¬ (3 + 2 * m 1 1 = 0) := by omega
      have n1 : ¬ (3 + 2 * m 1 1 = 1) := by omega
      simp [stC, zup, n0, n1]
    have cs := cs _ rfl
    have cm : ∀ v, v = stM (stC m n h ho du sh gt) n h ho du sh gt → v 90 (m 1 1) = n ∧ v 91 (m 1 1) = h ∧ v 92 (m 1 1) = ho ∧ v 93 (m 1 1) = du ∧ v 94 (m 1 1) = sh ∧ v 95 (m 1 1) = gt ∧ v 88 4 = m 1 1 + 1 := fun v hv => by
      subst hv
      have q4 := q88 4
      rw [stM_d]
      rw [q4, e4, ← e11]
      simp [zup]
    have cm := cm _ rfl
    rw [← cl _ _ (by omega), ← cl _ _ (by omega), ← cl _ _ (by omega), ← cl _ _ (by omega), ← cl _ _ (by omega), ← cl _ _ (by omega), ← cl _ _ (by omega), ← cl _ _ (by omega), ← cl _ _ (by omega)] at cs
    clear cl q88
    generalize stM (stC m n h ho du sh gt) n h ho du sh gt = m2 at *
    obtain ⟨s1, s2, s3, s4, s5, s6, s7, s14, s11⟩ := cs
    obtain ⟨u90, u91, u92, u93, u94, u95, u4⟩ := cm
    have xr : ∀ x, ¬ (90 ≤ x ∧ x ≤ 95) → ¬ x = 88 → gP g m2 x = g x := fun x q1 q2 => gP_r fun j p => (cx x j (by unfold prA at p; omega) (by unfold prA at p; omega) (by unfold prA at p; omega) (by omega) (by omega)).trans (hp x j p)
    have xl : ∀ x k, 90 ≤ x → x ≤ 95 → ¬ k = m 1 1 → gP g m2 x k = g x k := fun x l q1 q2 q3 => gP_c fun p => (cx x l (by omega) (by omega) (by omega) (by omega) (by omega)).trans (hp x l p)
    have xn : ∀ x j, 90 ≤ x → x ≤ 95 → gP g m2 x j = m2 x j := fun x j q1 q2 => gP_p (pr_r (by omega))
    have x88 : gP g m2 88 4 = m 1 1 + 1 ∧ gP g m2 88 3 = g 88 3 ∧ gP g m2 88 12 = g 88 12 := by
      refine ⟨?_, ?_, ?_⟩
      · rw [gP_p (pr_8 (by omega))]; exact u4
      · rw [gP_p (pr_8 (by omega)), cx 88 3 (by omega) (by omega) (by omega) (by omega) (by omega)]; exact hp _ _ (pr_8 (by omega))
      · rw [gP_p (pr_8 (by omega)), cx 88 12 (by omega) (by omega) (by omega) (by omega) (by omega)]; exact e12
    have st : ∀ k, 0 ≤ k → k < m 1 1 + 1 → k < m 1 1 ∨ k = m 1 1 := fun k _ _ => by omega
    have rd : ∀ k, 1 ≤ k → k < g 88 4 → gP g m2 90 k = g 90 k ∧ gP g m2 91 k = g 91 k := fun k k0 k1 => ⟨xl 90 k (by decide) (by decide) (by omega), xl 91 k (by decide) (by decide) (by omega)⟩
    have vr : vroad (gP g m2 90) (gP g m2 91) (m 1 1 + 1) := ⟨by omega, fun k k0 k1 => by
      rcases st k (by omega) k1 with z | z
      · rw [(rd k k0 (by omega)).1, (rd k k0 (by omega)).2]; exact hg.1.2 k k0 (by omega)
      · subst z
        rw [xn 90 _ (by decide) (by decide), xn 91 _ (by decide) (by decide), u90, u91]; omega⟩
    refine ⟨gP g m2, PG_P, ?_, ?_, ?_, EW_c (fun x q0 q1 => xr x (by omega) (by omega)) he, ⟨⟨⟨?_, ?_, ?_⟩, ?_, ?_, fun l l0 l1 => ?_, fun k k0 k1 => ?_, fun l l0 l1 => ?_⟩, fun q => absurd q (by omega)⟩, ?_⟩
    · unfold LG
      rw [x88.1, x88.2.1, x88.2.2, xr 97 (by decide) (by decide), xr 98 (by decide) (by decide), xr 99 (by decide) (by decide), xr 100 (by decide) (by decide), xr 101 (by decide) (by decide), xr 102 (by decide) (by decide)]
      refine ⟨vr, by omega, hN, hg.2.2.2.1, fun l l0 l1 => ?_⟩
      have := hg.2.2.2.2 l l0 l1
      exact ⟨by omega, this.2⟩
    · unfold RGd
      rw [xr 107 (by decide) (by decide), xr 110 (by decide) (by decide), x88.1, x88.2.2, xl 95 0 (by decide) (by decide) (by omega)]
      refine ⟨fun k k0 k1 => ?_, hr.2.1, hr.2.2.1, hr.2.2.2⟩
      rcases st k k0 k1 with z | z
      · rw [xl 93 k (by decide) (by decide) (by omega)]; exact hr.1 k k0 (by omega)
      · subst z
        rw [xn 93 _ (by decide) (by decide), u93]; omega
    · intro l l0 l1
      rw [x88.2.2] at l1
      rw [xr 105 (by decide) (by decide), xr 106 (by decide) (by decide), xr 108 (by decide) (by decide), xr 98 (by decide) (by decide)]
      exact hw l l0 l1
    · rw [x88.1]; exact s11
    · rw [x88.2.2, cx 0 9 (by omega) (by omega) (by omega) (by omega) (by omega)]; exact e9
    · rw [x88.2.1, cx 0 11 (by omega) (by omega) (by omega) (by omega) (by omega)]; exact e3
    · rw [cx 0 7 (by omega) (by omega) (by omega) (by omega) (by omega)]; exact cE
    · rw [cx 0 7 (by omega) (by omega) (by omega) (by omega) (by omega)]
      exact ER_c (fun x q0 q1 => xr x (by omega) (by omega)) (ER_f c5 fun x j q0 q1 => cx x j (by omega) (by omega) (by omega) (by omega) (by omega))
    · rw [x88.2.2] at l1
      have al : ∀ j, m2 (29 + 6 * l) j = m (29 + 6 * l) j := fun j => cx _ _ (by omega) (by omega) (by omega) (by omega) (by omega)
      have hl := hg.2.2.2.2 l l0 l1
      rw [al, al, al, al, al, al, al, al, xr 97 (by decide) (by decide), xr 98 (by decide) (by decide), xr 99 (by decide) (by decide), xr 100 (by decide) (by decide), xr 101 (by decide) (by decide), xr 102 (by decide) (by decide), farF_c hg.1 rd 22 (g 97 l) 0 (by omega) (by omega) (by omega) (by omega)]
      exact c6 l l0 l1
    · rw [x88.1] at k1
      rw [xr 96 (by decide) (by decide)]
      have hd : ∀ d, 0 ≤ d → d < 100 → m2 (3 + 2 * k + 1) d = g 96 (100 * k + d) := fun d d0 d1 => by
        rw [cx _ _ (by omega) (by omega) (by omega) (by omega) (by omega), x10 k k0 (by omega) d d0 d1]
        exact hp 96 _ (pr_r (by omega))
      refine ⟨?_, hd⟩
      rcases st k k0 k1 with z | z
      · have ak : ∀ j, m2 (3 + 2 * k) j = m (3 + 2 * k) j := fun j => cx _ _ (by omega) (by omega) (by omega) (by omega) (by omega)
        rw [ak, ak, ak, ak, ak, ak, xl 90 k (by decide) (by decide) (by omega), xl 91 k (by decide) (by decide) (by omega), xl 92 k (by decide) (by decide) (by omega), xl 93 k (by decide) (by decide) (by omega), xl 94 k (by decide) (by decide) (by omega), xl 95 k (by decide) (by decide) (by omega)]
        exact (c7 k k0 (by omega)).1
      · subst z
        rw [xn 90 _ (by decide) (by decide), xn 91 _ (by decide) (by decide), xn 92 _ (by decide) (by decide), xn 93 _ (by decide) (by decide), xn 94 _ (by decide) (by decide), xn 95 _ (by decide) (by decide), u90, u91, u92, u93, u94, u95]
        exact ⟨s1, s2, s3, s4, s5, s6⟩
    · rw [x88.2.2] at l1
      have al : ∀ j, m2 (29 + 6 * l) j = m (29 + 6 * l) j := fun j => cx _ _ (by omega) (by omega) (by omega) (by omega) (by omega)
      rw [al, al, al, al, al, al, xr 103 (by decide) (by decide), xr 104 (by decide) (by decide), xr 105 (by decide) (by decide), xr 106 (by decide) (by decide), xr 107 (by decide) (by decide), xr 108 (by decide) (by decide)]
      exact c8 l l0 l1
    · have m0 : ∀ j, ¬ j = 14 → m2 0 j = m 0 j := fun j a => cx _ _ (by omega) (by omega) (by omega) (by omega) (by omega)
      have m88 : ∀ j, ¬ j = 2 → ¬ j = 4 → m2 88 j = m 88 j := fun j a b => cx _ _ (by omega) (by omega) (by omega) (by omega) (by omega)
      have mr : ∀ x j, (x = 71 ∨ x = 89 ∨ x = 108 ∨ x = 96 ∨ x = -2 ∨ x = 67 ∨ x = 109) → m2 x j = m x j := fun x j q => cx _ _ (by omega) (by omega) (by omega) (by omega) (by omega)
      have f90 : m2 90 = gP g m2 90 := funext fun j => (xn 90 j (by decide) (by decide)).symm
      have f91 : m2 91 = gP g m2 91 := funext fun j => (xn 91 j (by decide) (by decide)).symm
      unfold XT
      rw [m0 12 (by decide), m0 13 (by decide), m0 7 (by decide), m0 8 (by decide), m0 9 (by decide), m0 10 (by decide), s11, m88 1 (by decide) (by decide), m88 26 (by decide) (by decide), m88 27 (by decide) (by decide), m88 41 (by decide) (by decide), m88 78 (by decide) (by decide), mr 67 11 (by omega), f90, f91]
      simp only [fun j => mr 71 j (by omega), fun j => mr 89 j (by omega), fun j => mr 108 j (by omega), fun j => mr 96 j (by omega), fun j => mr (-2) j (by omega)]
      refine ⟨x1, ⟨t1, t2, t3⟩, x3, ?_, encA_f (fun j => mr 109 j (by omega)) _ _ x5, x6, fun l l0 l1 => ?_, fun l l0 l1 => ?_, fun k k0 k1 d d0 d1 => ?_, fun k k0 k1 => ?_, x13⟩
      · rw [← x4]; exact cx _ _ (by omega) (by omega) (by omega) (by omega) (by omega)
      · have al : ∀ j, m2 (29 + 6 * l) j = m (29 + 6 * l) j := fun j => cx _ _ (by omega) (by omega) (by omega) (by omega) (by omega)
        rw [al, al, al, al, al, al]
        exact x7 l l0 l1
      · rw [cx _ 0 (by omega) (by omega) (by omega) (by omega) (by omega)]; exact x8 l l0 l1
      · rw [cx _ _ (by omega) (by omega) (by omega) (by omega) (by omega)]; exact x10 k k0 k1 d d0 d1
      · rcases st k k0 k1 with z | z
        · refine ⟨by rw [cx _ _ (by omega) (by omega) (by omega) (by omega) (by omega), (x11 k k0 z).1, farF_c hg.1 rd 22 k 0 k0 (by omega) (by omega) (by omega)], ?_⟩
          rw [xl 90 k (by decide) (by decide) (by omega)]
          exact (x11 k k0 z).2
        · subst z
          have e1 : farF (gP g m2 90) (gP g m2 91) 22 (m 1 1) 0 = gP g m2 91 (m 1 1) + farF (gP g m2 90) (gP g m2 91) 21 (gP g m2 90 (m 1 1)) 0 := by
            show (if m 1 1 = 0 then 0 else if 0 < m 1 1 then _ else _) = _
            rw [if_neg (by omega), if_pos (by omega)]
          refine ⟨?_, by rw [xn 90 _ (by decide) (by decide), u90]; omega⟩
          rw [s7, e1, xn 91 _ (by decide) (by decide), xn 90 _ (by decide) (by decide), u91, u90, farF_c hg.1 rd 21 n 0 (by omega) (by omega) (by omega) (by omega), (x11 n (by omega) (by omega)).1, farF_fu hg.1 21 22 n 0 (by omega) (by omega) (by omega) (by omega) (by omega) (by omega)]
          omega
  · split
    · exact VI_yq hp hg hr hw he hc hx FY_r hc FQ_z
    · exact VI_yq hp hg hr hw he hc hx FY_r hc FQ_z
end L2
