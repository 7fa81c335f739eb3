/-! edicts of both keep the invariant -/
/-- the edicts that are not in force were written -/
theorem CS_d {g m m' : zM} {E : Int} (hE : E = 76 ∨ E = 82) (h7 : ¬ m 0 7 = E) (hg : LG g) (h : CS g m) (a : ∀ x j, csY x j → ¬ tkY E x → m' x j = m x j) : CS g m' := by
  have hN := hg.2.2.1
  have hS := hg.1.1
  obtain ⟨⟨h1, h2, h3⟩, h4, h5, h6, h7', h8⟩ := h
  have e7 : m' 0 7 = m 0 7 := a 0 7 (by unfold csY; omega) (by unfold tkY; omega)
  refine ⟨⟨(a _ _ (by unfold csY; omega) (by unfold tkY; omega)).trans h1, (a _ _ (by unfold csY; omega) (by unfold tkY; omega)).trans h2, (a _ _ (by unfold csY; omega) (by unfold tkY; omega)).trans h3⟩, by rw [e7]; exact h4, by rw [e7]; exact ER_f h5 fun x j x0 x1 => a x j (by unfold csY; omega) (by unfold tkY; omega), LF_f hN.2 h6 fun x j x0 x1 x2 x3 => a x j (by unfold csY; omega) (by unfold tkY; omega), fun k k0 k1 => ⟨?_, fun d d0 d1 => ?_⟩, fun l l0 l1 => ?_⟩
  · have ak : ∀ j, 1 ≤ j → j ≤ 6 → m' (3 + 2 * k) j = m (3 + 2 * k) j := fun j q0 q1 => a _ j (by unfold csY; omega) (by unfold tkY; omega)
    rw [ak 1 (by decide) (by decide), ak 2 (by decide) (by decide), ak 3 (by decide) (by decide), ak 4 (by decide) (by decide), ak 5 (by decide) (by decide), ak 6 (by decide) (by decide)]
    exact (h7' k k0 k1).1
  · rw [a _ _ (by unfold csY; omega) (by unfold tkY; omega)]
    exact (h7' k k0 k1).2 d d0 d1
  · have al : ∀ j, j ≤ 13 → m' (29 + 6 * l) j = m (29 + 6 * l) j := fun j q => a _ j (by unfold csY; omega) (by unfold tkY; omega)
    rw [al 8 (by decide), al 9 (by decide), al 10 (by decide), al 11 (by decide), al 12 (by decide), al 13 (by decide)]
    exact h8 l l0 l1
section L2
variable {Ω : zΩ} {S : Int → Int} {m : zM} {N : Int → Int → zM → Prop}
theorem VI_edicts (HW : WBs Ω) {n : Int} (hh : VI S m) (K : ∀ v m', VI S m' → N v v m') : zG Ω 97 0 [zR 9 0, zI n, zU] [] m (fun r1 m1 => zk1 r1 fun v1 => zG Ω 161 0 [zR 10 88, zI n, zU] [] m1 (fun r2 m2 => zk1 r2 fun v2 => N v1 v2 m2)) := by
  obtain ⟨g, hp, hg, hr, hw, he, hc, hx⟩ := hh
  have hN := hg.2.2.1
  have hS := hg.1.1
  have e9 := hc.1.1.2.1
  have e11 := hc.1.1.1
  have hx' := hx
  obtain ⟨x1, ⟨t1, t2, t3⟩, x3, x4, x5, x6, x7, x8, x10, x11, x13⟩ := hx'
  have no : VI S (zup m 88 2 0) := VI_yq hp hg hr hw he hc hx FY_r hc FQ_z
  refine w_X9_edicts_0 (zif (fun z => zk1_i (w_X10_edicts_0 (zif (fun _ => zk1_i (K _ _ no)) fun q => absurd z q))) fun z0 => zif (fun z => zk1_i (w_X10_edicts_0 (zif (fun q => absurd q z0) fun _ => zif (fun _ => zk1_i (K _ _ no)) fun q => absurd (by rw [← t1]; exact z) q))) fun z1 => ⟨by omega, ?_⟩)
  have hE : m 0 8 = 76 ∨ m 0 8 = 82 := by omega
  have h7 : ¬ m 0 7 = m 0 8 := by omega
  refine X_read (tx := m 89) HW hE (by omega) (fun i i0 i1 => t3 i i0 (by omega)) fun af fr sm => ?_
  -- what the class left alone
  have f0 : ∀ j, af 0 j = m 0 j := fun j => fr 0 j (by unfold tkY; omega) (by decide)
  have f88 : ∀ x j, 88 ≤ x → af x j = m x j := fun x j q => fr x j (by unfold tkY; omega) (by omega)
  have fn : ∀ x j, x < 72 → af x j = m x j := fun x j q => fr x j (by unfold tkY; omega) (by omega)
  have x11' : ∀ (m2 : zM), (∀ j, m2 90 j = m 90 j) → (∀ j, m2 91 j = m 91 j) → m2 90 = m 90 ∧ m2 91 = m 91 := fun m2 q1 q2 => ⟨funext q1, funext q2⟩
  show if af 72 10 = 0 then _ else _
  refine zif (fun z => ⟨by rw [f0]; omega, by rw [f0]; omega, by rw [f0]; omega, zk1_i ?_⟩) fun z => zk1_i ?_
  · -- the text stands
    have y : ∀ x j, ¬ (x = 0 ∧ (j = 7 ∨ j = 8 ∨ j = 10 ∨ j = 12 ∨ j = 13 ∨ j = 14)) → zup (zup (zup (zup (zup (zup af 0 10 0) 0 12 (af 72 10)) 0 13 (af 72 11)) 0 7 (af 0 8)) 0 8 (af 0 7)) 0 14 1 x j = af x j := fun x j q => by
      unfold zup
      rw [if_neg (by omega), if_neg (by omega), if_neg (by omega), if_neg (by omega), if_neg (by omega), if_neg (by omega)]
    have ys : ∀ v, v = zup (zup (zup (zup (zup (zup af 0 10 0) 0 12 (af 72 10)) 0 13 (af 72 11)) 0 7 (af 0 8)) 0 8 (af 0 7)) 0 14 1 → v 0 10 = 0 ∧ v 0 12 = af 72 10 ∧ v 0 13 = af 72 11 ∧ v 0 7 = af 0 8 ∧ v 0 8 = af 0 7 ∧ v 0 14 = 1 := fun v hv => by subst hv; simp [zup]
    have ys := ys _ rfl
    have yE : zup (zup (zup (zup (zup (zup af 0 10 0) 0 12 (af 72 10)) 0 13 (af 72 11)) 0 7 (af 0 8)) 0 8 (af 0 7)) 0 14 1 (af 0 8) 4 = af (m 0 8) 4 := by
      have e8 := f0 8
      rw [y _ _ (by omega), e8]
    rw [yE]
    clear yE
    generalize zup (zup (zup (zup (zup (zup af 0 10 0) 0 12 (af 72 10)) 0 13 (af 72 11)) 0 7 (af 0 8)) 0 8 (af 0 7)) 0 14 1 = m1 at *
    obtain ⟨s10, s12, s13, s7, s8, s14⟩ := ys
    have y88 : ∀ x j, 88 ≤ x → m1 x j = m x j := fun x j q => (y x j (by omega)).trans (f88 x j q)
    have p11 := (sm.2 z).2
    refine X_readM (tx := m 89) (n := n) (E := m 0 8) (af := af) (by omega) (by rw [y88 88 1 (by decide)]; omega) (fun i i0 i1 => ⟨(t3 i i0 (by omega)).1, y88 89 i (by decide)⟩) (encA_f (fun j => y88 109 j (by decide)) _ _ x5) sm (fun q => absurd z q) fun _ u' m' b5 b11 r1 kp => zk1_i (K _ _ ?_)
    have ye : ∀ x j, ¬ (x = 88 ∧ (j = 2 ∨ j = 28 ∨ j = 1 ∨ j = 26 ∨ j = 27 ∨ j = 29)) → e0F m1 n x j = m1 x j := fun x j hx => by
      unfold e0F zup
      rw [if_neg (by omega), if_neg (by omega), if_neg (by omega), if_neg (by omega), if_neg (by omega), if_neg (by omega)]
    have ye1 : e0F m1 n 88 1 = 0 := by simp [e0F, zup]
    have frm := r1.2.2.2.1
    have flt := r1.2.2.2.2.1
    have kp6 := kp.2.2.2.2.2
    have kp4 := kp.2.2.2.1
    -- m' against m1
    have k1 : ∀ x j, ¬ rdY x j → ¬ (x = 88 ∧ (j = 2 ∨ j = 28 ∨ j = 1 ∨ j = 26 ∨ j = 27 ∨ j = 29 ∨ j = 41)) → ¬ (x = 110 ∧ 0 ≤ j ∧ j < 4) → ¬ (x = 123 ∧ 0 ≤ j ∧ j < 9) → ¬ (116 ≤ x ∧ x ≤ 117 ∧ 0 ≤ j ∧ j < 7) → ¬ (111 ≤ x ∧ x ≤ 115 ∧ 0 ≤ j ∧ j < 96) → m' x j = m1 x j := fun x j q1 q2 q3 q4 q5 q6 => by
      rw [kp6 x j (by omega), frm x j q1]
      exact ye x j (by omega)
    have kc : ∀ x j, x < 88 → m' x j = m1 x j := fun x j q => k1 x j (by unfold rdY; omega) (by omega) (by omega) (by omega) (by omega) (by omega)
    have kr : ∀ x j, 89 ≤ x → x ≤ 109 → m' x j = m x j := fun x j q0 q1 => (k1 x j (by unfold rdY; omega) (by omega) (by omega) (by omega) (by omega) (by omega)).trans (y88 x j (by omega))
    have k8 : ∀ j, (j = 3 ∨ j = 4 ∨ j = 12 ∨ j = 78) → m' 88 j = m 88 j := fun j q => (k1 88 j (by unfold rdY; omega) (by omega) (by omega) (by omega) (by omega) (by omega)).trans (y88 88 j (by decide))
    have kn : ∀ x j, x < 72 → ¬ x = 0 → m' x j = m x j := fun x j q0 q1 => (kc x j (by omega)).trans ((y x j (by omega)).trans (fn x j q0))
    have k0 : ∀ j, ¬ (j = 7 ∨ j = 8 ∨ j = 10 ∨ j = 12 ∨ j = 13 ∨ j = 14) → m' 0 j = m 0 j := fun j q => (kc 0 j (by decide)).trans ((y 0 j (by omega)).trans (f0 j))
    have kE : ∀ x j, m 0 8 ≤ x → x ≤ m 0 8 + 4 → m' x j = af x j := fun x j q0 q1 => (kc x j (by omega)).trans (y x j (by omega))
    have gr : ∀ x, 90 ≤ x → x ≤ 108 → gP g m' x = g x := fun x q0 q1 => gP_r fun j p => (kr x j (by omega) (by omega)).trans (hp x j p)
    have g8 : ∀ j, (j = 3 ∨ j = 4 ∨ j = 12) → gP g m' 88 j = g 88 j := fun j q => gP_c fun p => (k8 j (by omega)).trans (hp 88 j p)
    obtain ⟨er, ew, rg⟩ := K_fin (g := gP g m') b5 b11 r1 kp (fun x j p => gP_p p)
    have lg : LG (gP g m') := LG_c (fun x x0 x1 _ => gr x (by omega) (by omega)) ⟨g8 4 (by omega), g8 12 (by omega)⟩ (by rw [g8 3 (by omega)]; exact hg.2.2.2.1) hg
    have m7 : m' 0 7 = m 0 8 := by rw [kc 0 7 (by decide), s7, f0]
    have m8 : m' 0 8 = m 0 7 := by rw [kc 0 8 (by decide), s8, f0]
    obtain ⟨⟨c1, c2, c3⟩, c4, c5, c6, c7, c8⟩ := hc.1
    refine ⟨gP g m', PG_P, lg, ?_, ?_, ew, ⟨⟨⟨?_, ?_, ?_⟩, by rw [m7]; exact hE, by rw [m7]; exact ER_f er fun x j q0 q1 => kE x j q0 q1, fun l l0 l1 => ?_, fun k q0 q1 => ?_, fun l l0 l1 => ?_⟩, fun q => absurd q (by rw [kc 0 14 (by decide), s14]; decide)⟩, ?_⟩
    · unfold RGd
      rw [gr 93 (by decide) (by decide), gr 95 (by decide) (by decide), gr 107 (by decide) (by decide), g8 4 (by omega), g8 12 (by omega)]
      exact ⟨hr.1, hr.2.1, rg, hr.2.2.2⟩
    · intro l l0 l1
      rw [g8 12 (by omega)] at l1
      rw [gr 105 (by decide) (by decide), gr 106 (by decide) (by decide), gr 108 (by decide) (by decide), gr 98 (by decide) (by decide)]
      exact hw l l0 l1
    · rw [g8 4 (by omega), kn 1 1 (by decide) (by decide)]; exact c1
    · rw [g8 12 (by omega), k0 9 (by omega)]; exact c2
    · rw [g8 3 (by omega), k0 11 (by omega)]; exact c3
    · rw [g8 12 (by omega)] at l1
      have al : ∀ j, m' (29 + 6 * l) j = m (29 + 6 * l) j := fun j => kn _ _ (by omega) (by omega)
      rw [al, al, al, al, al, al, al, al, gr 90 (by decide) (by decide), gr 91 (by decide) (by decide), gr 97 (by decide) (by decide), gr 98 (by decide) (by decide), gr 99 (by decide) (by decide), gr 100 (by decide) (by decide), gr 101 (by decide) (by decide), gr 102 (by decide) (by decide)]
      exact c6 l l0 l1
    · rw [g8 4 (by omega)] at q1
      have ak : ∀ j, m' (3 + 2 * k) j = m (3 + 2 * k) j := fun j => kn _ _ (by omega) (by omega)
      rw [ak, ak, ak, ak, ak, ak, gr 90 (by decide) (by decide), gr 91 (by decide) (by decide), gr 92 (by decide) (by decide), gr 93 (by decide) (by decide), gr 94 (by decide) (by decide), gr 95 (by decide) (by decide), gr 96 (by decide) (by decide)]
      refine ⟨(c7 k q0 q1).1, fun d d0 d1 => ?_⟩
      rw [kn _ _ (by omega) (by omega)]
      exact (c7 k q0 q1).2 d d0 d1
    · rw [g8 12 (by omega)] at l1
      have al : ∀ j, m' (29 + 6 * l) j = m (29 + 6 * l) j := fun j => kn _ _ (by omega) (by omega)
      rw [al, al, al, al, al, al, gr 103 (by decide) (by decide), gr 104 (by decide) (by decide), gr 105 (by decide) (by decide), gr 106 (by decide) (by decide), gr 107 (by decide) (by decide), gr 108 (by decide) (by decide)]
      exact c8 l l0 l1
    · obtain ⟨r90, r91⟩ := x11' m' (fun j => kr 90 j (by decide) (by decide)) (fun j => kr 91 j (by decide) (by decide))
      have e26 : m' 88 26 = 0 := (kp6 88 26 (by omega)).trans flt.1
      have e27 : m' 88 27 = -1 := (kp6 88 27 (by omega)).trans flt.2
      have e1 : m' 88 1 = 0 := (kp6 88 1 (by omega)).trans ((frm 88 1 (by unfold rdY; omega)).trans ye1)
      have e10 : m' 0 10 = 0 := (kc 0 10 (by decide)).trans s10
      unfold XT
      rw [m7, m8, e26, e27, e1, e10, kp4, k8 78 (by omega), k0 9 (by omega), kn 67 11 (by decide) (by decide), kn 1 1 (by decide) (by decide), r90, r91]
      refine ⟨⟨by rw [kc 0 12 (by decide), s12]; exact z, by rw [kc 0 13 (by decide), s13]; exact p11⟩, ⟨rfl, by omega, fun i i0 i1 => absurd i1 (by omega)⟩, x3, ?_, encA_f (fun j => kr 109 j (by decide) (by decide)) _ _ x5, by omega, fun l l0 l1 => ?_, fun l l0 l1 => ?_, fun k q0 q1 d d0 d1 => ?_, fun k q0 q1 => ?_, fun j => ?_⟩
      · rw [kE _ _ (by omega) (by omega)]; exact r1.1.symm
      · have al : ∀ j, m' (29 + 6 * l) j = m (29 + 6 * l) j := fun j => kn _ _ (by omega) (by omega)
        rw [al, al, al, al, al, al, kr 108 l (by decide) (by decide)]
        exact x7 l l0 l1
      · rw [kn _ _ (by omega) (by omega)]; exact x8 l l0 l1
      · rw [kn _ _ (by omega) (by omega), kr 96 _ (by decide) (by decide)]; exact x10 k q0 q1 d d0 d1
      · rw [kn _ _ (by omega) (by omega)]; exact x11 k q0 q1
      · rw [kn _ _ (by decide) (by decide)]; exact x13 j
  · -- a fault
    have y : ∀ x j, ¬ (x = 0 ∧ (j = 10 ∨ j = 12 ∨ j = 13)) → zup (zup (zup af 0 10 0) 0 12 (af 72 10)) 0 13 (af 72 11) x j = af x j := fun x j q => by
      unfold zup
      rw [if_neg (by omega), if_neg (by omega), if_neg (by omega)]
    have ys : ∀ v, v = zup (zup (zup af 0 10 0) 0 12 (af 72 10)) 0 13 (af 72 11) → v 0 10 = 0 ∧ v 0 12 = af 72 10 ∧ v 0 13 = af 72 11 := fun v hv => by subst hv; simp [zup]
    have ys := ys _ rfl
    generalize zup (zup (zup af 0 10 0) 0 12 (af 72 10)) 0 13 (af 72 11) = m1 at *
    obtain ⟨s10, s12, s13⟩ := ys
    have y88 : ∀ x j, 88 ≤ x → m1 x j = m x j := fun x j q => (y x j (by omega)).trans (f88 x j q)
    refine X_readM (tx := m 89) (n := n) (E := m 0 8) (af := af) (by omega) (by rw [y88 88 1 (by decide)]; omega) (fun i i0 i1 => ⟨(t3 i i0 (by omega)).1, y88 89 i (by decide)⟩) (encA_f (fun j => y88 109 j (by decide)) _ _ x5) sm (fun _ u' q26 q27 frm => zk1_i (K _ _ ?_)) fun q => absurd q z
    have ye : ∀ x j, ¬ (x = 88 ∧ (j = 2 ∨ j = 28 ∨ j = 1 ∨ j = 26 ∨ j = 27 ∨ j = 29)) → e0F m1 n x j = m1 x j := fun x j hx => by
      unfold e0F zup
      rw [if_neg (by omega), if_neg (by omega), if_neg (by omega), if_neg (by omega), if_neg (by omega), if_neg (by omega)]
    have ye1 : e0F m1 n 88 1 = 0 := by simp [e0F, zup]
    have k1 : ∀ x j, ¬ rdY x j → ¬ (x = 88 ∧ (j = 2 ∨ j = 28 ∨ j = 1 ∨ j = 26 ∨ j = 27 ∨ j = 29)) → u' x j = m1 x j := fun x j q1 q2 => (frm x j q1).trans (ye x j q2)
    have kc : ∀ x j, x < 88 → u' x j = m1 x j := fun x j q => k1 x j (by unfold rdY; omega) (by omega)
    have kr : ∀ x j, 89 ≤ x → x ≤ 109 → u' x j = m x j := fun x j q0 q1 => (k1 x j (by unfold rdY; omega) (by omega)).trans (y88 x j (by omega))
    have k8 : ∀ j, (j = 3 ∨ j = 4 ∨ j = 12 ∨ j = 78 ∨ j = 41) → u' 88 j = m 88 j := fun j q => (k1 88 j (by unfold rdY; omega) (by omega)).trans (y88 88 j (by decide))
    have kn : ∀ x j, x < 72 → ¬ x = 0 → u' x j = m x j := fun x j q0 q1 => (kc x j (by omega)).trans ((y x j (by omega)).trans (fn x j q0))
    have k0 : ∀ j, ¬ (j = 10 ∨ j = 12 ∨ j = 13) → u' 0 j = m 0 j := fun j q => (kc 0 j (by decide)).trans ((y 0 j (by omega)).trans (f0 j))
    have ka : ∀ x j, ¬ tkY (m 0 8) x → ¬ x = 75 → x < 88 → ¬ (x = 0 ∧ (j = 10 ∨ j = 12 ∨ j = 13)) → u' x j = m x j := fun x j q1 q2 q3 q4 => (kc x j q3).trans ((y x j q4).trans (fr x j q1 q2))
    refine ⟨g, fun x j p => ?_, hg, hr, hw, he, ⟨CS_d hE h7 hg hc.1 fun x j c q => ka x j q (by unfold csY at c; omega) (by unfold csY at c; omega) (by unfold csY at c; omega), fun q => REC_g hg (hc.2 (by rw [← k0 14 (by omega)]; exact q)) fun x j q0 q1 => kn x j (by omega) (by omega)⟩, ?_⟩
    · rw [k1 x j (by unfold prA at p; unfold rdY; omega) (by unfold prA at p; omega), y88 x j (by unfold prA at p; omega)]
      exact hp x j p
    · obtain ⟨r90, r91⟩ := x11' u' (fun j => kr 90 j (by decide) (by decide)) (fun j => kr 91 j (by decide) (by decide))
      have e1 : u' 88 1 = 0 := (frm 88 1 (by unfold rdY; omega)).trans ye1
      have e10 : u' 0 10 = 0 := (kc 0 10 (by decide)).trans s10
      unfold XT
      rw [k0 7 (by omega), k0 8 (by omega), k0 9 (by omega), e1, e10, k8 41 (by omega), k8 78 (by omega), kn 67 11 (by decide) (by decide), kn 1 1 (by decide) (by decide), r90, r91]
      refine ⟨⟨by rw [kc 0 12 (by decide), s12, q26], by rw [kc 0 13 (by decide), s13, q27]⟩, ⟨rfl, by omega, fun i i0 i1 => absurd i1 (by omega)⟩, x3, ?_, encA_f (fun j => kr 109 j (by decide) (by decide)) _ _ x5, x6, fun l l0 l1 => ?_, fun l l0 l1 => ?_, fun k q0 q1 d d0 d1 => ?_, fun k q0 q1 => ?_, fun j => ?_⟩
      · rw [ka _ _ (by unfold tkY; omega) (by omega) (by omega) (by omega)]; exact x4
      · have al : ∀ j, u' (29 + 6 * l) j = m (29 + 6 * l) j := fun j => kn _ _ (by omega) (by omega)
        rw [al, al, al, al, al, al, kr 108 l (by decide) (by decide)]
        exact x7 l l0 l1
      · rw [kn _ _ (by omega) (by omega)]; exact x8 l l0 l1
      · rw [kn _ _ (by omega) (by omega), kr 96 _ (by decide) (by decide)]; exact x10 k q0 q1 d d0 d1
      · rw [kn _ _ (by omega) (by omega)]; exact x11 k q0 q1
      · rw [kn _ _ (by decide) (by decide)]; exact x13 j
end L2
