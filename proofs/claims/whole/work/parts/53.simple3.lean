theorem zue {f : zM} {k j v a b : Int} (h1 : a = k) (h2 : b = j) : zup f k j v a b = v := by unfold zup; rw [if_pos ⟨h1, h2⟩]
/-- a new station, of the class -/
def stC (m : zM) (n h ho du sh g : Int) : zM := zup (zup (zup (zup (zup (zup (zup (zup (zup m (3 + 2 * m 1 1) 1 n) (3 + 2 * m 1 1) 2 h) (3 + 2 * m 1 1) 3 ho) (3 + 2 * m 1 1) 4 du) (3 + 2 * m 1 1) 5 sh) (3 + 2 * m 1 1) 6 g) (3 + 2 * m 1 1) 7 (m (3 + 2 * n) 7 + h)) 0 14 1) 1 1 (m 1 1 + 1)
def stM (m : zM) (n h ho du sh g : Int) : zM := zup (zup (zup (zup (zup (zup (zup (zup m 88 2 0) 90 (m 88 4) n) 91 (m 88 4) h) 92 (m 88 4) ho) 93 (m 88 4) du) 94 (m 88 4) sh) 95 (m 88 4) g) 88 4 (m 88 4 + 1)
def okSt (S n h ho du sh : Int) : Prop := ¬ S = 12 ∧ (0 ≤ n ∧ n < S) ∧ (1 ≤ h ∧ h ≤ 20) ∧ (1 ≤ ho ∧ ho ≤ 3) ∧ (0 ≤ du ∧ du ≤ 999) ∧ (1 ≤ sh ∧ sh ≤ 100)
/-- a new lord -/
def ldC (m : zM) (h r w me g f : Int) : zM := zup (zup (zup (zup (zup (zup (zup (zup (zup m (29 + 6 * m 0 9) 1 h) (29 + 6 * m 0 9) 2 (m (3 + 2 * h) 7)) (29 + 6 * m 0 9) 3 r) (29 + 6 * m 0 9) 4 w) (29 + 6 * m 0 9) 5 me) (29 + 6 * m 0 9) 6 g) (29 + 6 * m 0 9) 7 f) 0 14 1) 0 9 (m 0 9 + 1)
def ldM (m : zM) (h r w me g f : Int) : zM := zup (zup (zup (zup (zup (zup (zup (zup (zup (zup (zup (zup (zup m 88 2 0) 97 (m 88 12) h) 98 (m 88 12) r) 99 (m 88 12) w) 100 (m 88 12) me) 101 (m 88 12) g) 102 (m 88 12) f) 103 (m 88 12) 0) 104 (m 88 12) 0) 105 (m 88 12) 0) 106 (m 88 12) 10) 107 (m 88 12) 30) 88 12 (m 88 12 + 1)
def okLd (N S h r w me g f : Int) : Prop := ¬ N = 6 ∧ (0 < h ∧ h < S) ∧ (0 ≤ r ∧ r ≤ 9) ∧ (0 ≤ w ∧ w ≤ 999) ∧ (1 ≤ me ∧ me ≤ 999) ∧ (0 ≤ g ∧ g ≤ 99) ∧ (0 ≤ f ∧ f ≤ 99)
section L2
variable {Ω : zΩ} {m : zM} {Q : List zV → zM → Prop}
theorem s_station {n h ho du sh g : Int} (hg : 0 ≤ g ∧ g ≤ 1) (hS : 1 ≤ m 1 1 ∧ m 1 1 ≤ 12) (hc : ∀ k, 0 ≤ k → k < m 1 1 → 0 ≤ m (3 + 2 * k) 7 ∧ m (3 + 2 * k) 7 ≤ 240) (f : okSt (m 1 1) n h ho du sh → Q [zI (m 1 1)] (stC m n h ho du sh g)) (nv : ¬ okSt (m 1 1) n h ho du sh → Q [zI (-1)] m) : zG Ω 100 0 [zR 9 0, zI n, zI h, zI ho, zI du, zI sh, zI g, zU] [] m Q := by
  unfold okSt at f nv
  refine w_X9_station_0 (zif (fun h0 => b_has (fun h1 => b_within (fun h2 => b_within (fun h3 => b_within (fun h4 => b_within (fun h5 => ?_) fun h5 => nv (by omega)) fun h4 => nv (by omega)) fun h3 => nv (by omega)) fun h2 => nv (by omega)) fun h1 => nv (by omega)) fun h0 => nv (by omega))
  refine zin_of (by omega) (by omega) (s_stOf h1.1 h1.2 hS.2 (zk3_i (zbl_of hg.1 hg.2 ?_)))
  have f := f ⟨by omega, h1, h2, h3, h4, h5⟩
  have e0 : zup (zup (zup (zup (zup (zup m (3 + 2 * m 1 1) 1 n) (3 + 2 * m 1 1) 2 h) (3 + 2 * m 1 1) 3 ho) (3 + 2 * m 1 1) 4 du) (3 + 2 * m 1 1) 5 sh) (3 + 2 * m 1 1) 6 g (3 + 2 * m 1 1) 1 = n := by
    simp (disch := omega) only [zup_j, zue]
  rw [zs_n, e0]
  refine ⟨h1.1, ?_⟩
  have c1 := hc n h1.1 h1.2
  have e1 : ∀ (f : zM) (j v : Int), zup f (3 + 2 * m 1 1) j v 1 1 = f 1 1 := fun f j v => zup_c (by omega)
  have e2 : ∀ (f : zM) (j v : Int), zup f (3 + 2 * m 1 1) j v (3 + 2 * n) 7 = f (3 + 2 * n) 7 := fun f j v => zup_c (by omega)
  simp only [e1, e2]
  rw [zw_id (x := m (3 + 2 * n) 7 + h) (by unfold zri; omega), zw_id (x := m 1 1 + 1) (by unfold zri; omega)]
  exact f
theorem s_stationM {n h ho du sh g : Int} (hg : 0 ≤ g ∧ g ≤ 1) (hS : 1 ≤ m 88 4 ∧ m 88 4 ≤ 12) (f : okSt (m 88 4) n h ho du sh → Q [zI (m 88 4)] (stM m n h ho du sh g)) (nv : ¬ okSt (m 88 4) n h ho du sh → Q [zI (-1)] (if m 88 4 = 12 then zup m 88 2 0 else zup m 88 2 0)) : zG Ω 129 0 [zR 10 88, zI n, zI h, zI ho, zI du, zI sh, zI g] [] m Q := by
  have e : zup m 88 2 0 88 4 = m 88 4 := rfl
  rw [ite_self] at nv
  unfold okSt at f nv
  refine w_X10_station_0 (zif (fun h0 => nv (by omega)) fun h0 => b_isStation (fun h1 => b_isIn (fun h2 => b_isIn (fun h3 => b_isIn (fun h4 => b_isIn (fun h5 => ?_) fun h5 => nv (by omega)) fun h4 => nv (by omega)) fun h3 => nv (by omega)) fun h2 => nv (by omega)) fun h1 => nv (by rw [e] at h1; omega))
  rw [e] at h1
  have f := f ⟨h0, h1, h2, h3, h4, h5⟩
  rw [e]
  refine zin_of (by omega) (by omega) (zin_of (by omega) (by omega) (zin_of (by omega) (by omega) (zin_of (by omega) (by omega) (zin_of (by omega) (by omega) (zin_of (by omega) (by omega) (zbl_of hg.1 hg.2 ?_))))))
  rw [zw_id (x := m 88 4 + 1) (by unfold zri; omega), zw_id (by unfold zri; omega), show m 88 4 + 1 - 1 = m 88 4 by omega]
  exact f
theorem s_lord {h r w me g f : Int} (hN : 0 ≤ m 0 9 ∧ m 0 9 ≤ 6) (hS : m 1 1 ≤ 12) (fo : okLd (m 0 9) (m 1 1) h r w me g f → Q [zI (m 0 9)] (ldC m h r w me g f)) (nv : ¬ okLd (m 0 9) (m 1 1) h r w me g f → Q [zI (-1)] m) : zG Ω 103 0 [zR 9 0, zI h, zI r, zI w, zI me, zI g, zI f, zU] [] m Q := by
  unfold okLd at fo nv
  refine w_X9_lord_0 (zif (fun h0 => b_hasWay (fun h1 => b_within (fun h2 => b_within (fun h3 => b_within (fun h4 => b_within (fun h5 => b_within (fun h6 => ?_) fun h6 => nv (by omega)) fun h5 => nv (by omega)) fun h4 => nv (by omega)) fun h3 => nv (by omega)) fun h2 => nv (by omega)) fun h1 => nv (by omega)) fun h0 => nv (by omega))
  refine zin_of (by omega) (by omega) (s_stOf (by omega) h1.2 hS (zk3_i ?_))
  have f := fo ⟨by omega, h1, h2, h3, h4, h5, h6⟩
  rw [zs_n, zue rfl rfl]
  refine ⟨by omega, ?_⟩
  have e1 : ∀ (f : zM) (j v : Int), zup f (29 + 6 * m 0 9) j v 0 9 = f 0 9 := fun f j v => zup_c (by omega)
  have e2 : ∀ (f : zM) (j v : Int), zup f (29 + 6 * m 0 9) j v (3 + 2 * h) 7 = f (3 + 2 * h) 7 := fun f j v => zup_c (by omega)
  simp only [e1, e2]
  rw [zw_id (x := m 0 9 + 1) (by unfold zri; omega)]
  exact f
theorem s_lordM {h r w me g f : Int} (hN : 0 ≤ m 88 12 ∧ m 88 12 ≤ 6) (fo : okLd (m 88 12) (m 88 4) h r w me g f → Q [zI (m 88 12)] (ldM m h r w me g f)) (nv : ¬ okLd (m 88 12) (m 88 4) h r w me g f → Q [zI (-1)] (zup m 88 2 0)) : zG Ω 134 0 [zR 10 88, zI h, zI r, zI w, zI me, zI g, zI f] [] m Q := by
  have e : zup m 88 2 0 88 12 = m 88 12 := rfl
  unfold okLd at fo nv
  refine w_X10_lord_0 (zif (fun h0 => nv (by omega)) fun h0 => zif (fun h1 => nv (by omega)) fun h1 => zif (fun h1b => b_isIn (fun h2 => b_isIn (fun h3 => b_isIn (fun h4 => b_isIn (fun h5 => b_isIn (fun h6 => ?_) fun h6 => nv (by omega)) fun h5 => nv (by omega)) fun h4 => nv (by omega)) fun h3 => nv (by omega)) fun h2 => nv (by omega)) fun h1b => nv (by omega))
  have f := fo ⟨h0, by omega, h2, h3, h4, h5, h6⟩
  rw [e]
  refine zin_of (by omega) (by omega) (zin_of (by omega) (by omega) (zin_of (by omega) (by omega) (zin_of (by omega) (by omega) (zin_of (by omega) (by omega) (zin_of (by omega) (by omega) (zin_of (by omega) (by omega) (zin_of (by omega) (by omega) (zin_of (by omega) (by omega) (zin_of (by omega) (by omega) (zin_of (by omega) (by omega) ?_))))))))))
  rw [zw_id (x := m 88 12 + 1) (by unfold zri; omega), zw_id (by unfold zri; omega), show m 88 12 + 1 - 1 = m 88 12 by omega]
  exact f
end L2
