/-- g with what m gives now -/
def gP (g m : zM) : zM := fun x j => if prA x j then m x j else g x j
theorem gP_p {g m : zM} {x j : Int} (h : prA x j) : gP g m x j = m x j := if_pos h
theorem gP_r {g m : zM} {x : Int} (h : ∀ j, prA x j → m x j = g x j) : gP g m x = g x := by
  funext j
  unfold gP
  split
  · rename_i c; exact h j c
  · rfl
theorem gP_c {g m : zM} {x j : Int} (h : prA x j → m x j = g x j) : gP g m x j = g x j := by
  unfold gP
  split
  · rename_i c; exact h c
  · rfl
theorem PG_P {g m : zM} : PG (gP g m) m := fun _ _ p => (gP_p p).symm
theorem pr_r {x j : Int} (h : 90 ≤ x ∧ x ≤ 108) : prA x j := Or.inl h
theorem pr_8 {j : Int} (h : j = 3 ∨ j = 4 ∨ j = 12) : prA 88 j := Or.inr (Or.inr (Or.inr (Or.inr (Or.inr ⟨rfl, h⟩))))
theorem farF_fu {nx hr : Int → Int} {n : Int} (hv : vroad nx hr n) : ∀ (f f' : Nat) (x y : Int), x + y ≤ f → f ≤ f' → 0 ≤ x → x < n → 0 ≤ y → y < n → farF nx hr f' x y = farF nx hr f x y := by
  intro f
  induction f with
  | zero =>
    intro f' x y h1 _ h3 _ h5 _
    have : x = y := by omega
    cases f' with
    | zero => rfl
    | succ f' => unfold farF; rw [if_pos this]
  | succ f ih =>
    intro f' x y h1 h2 h3 h4 h5 h6
    cases f' with
    | zero => omega
    | succ f' =>
      unfold farF
      by_cases z : x = y
      · rw [if_pos z, if_pos z]
      · rw [if_neg z, if_neg z]
        by_cases t : y < x
        · rw [if_pos t, if_pos t]
          obtain ⟨a, b, c, d⟩ := hv.2 x (by omega) h4
          rw [ih f' (nx x) y (by omega) (by omega) a (by omega) h5 h6]
        · rw [if_neg t, if_neg t]
          obtain ⟨a, b, c, d⟩ := hv.2 y (by omega) h6
          rw [ih f' x (nx y) (by omega) (by omega) h3 h4 a (by omega)]
section L2
variable {Ω : zΩ} {S : Int → Int} {m : zM} {N : Int → Int → zM → Prop}
theorem VI_lord {h r w me gu f : Int} (hh : VI S m) (K : ∀ v m', VI S m' → N v v m') : zG Ω 103 0 [zR 9 0, zI h, zI r, zI w, zI me, zI gu, zI f, zU] [] m (fun r1 m1 => zk1 r1 fun v1 => zG Ω 134 0 [zR 10 88, zI h, zI r, zI w, zI me, zI gu, zI f] [] m1 (fun r2 m2 => zk1 r2 fun v2 => N v1 v2 m2)) := by
  obtain ⟨g, hp, hg, hr, hw, he, hc, hx⟩ := hh
  have hc1 := hc.1
  obtain ⟨⟨e11, e9, e3⟩, cE, c5, c6, c7, c8⟩ := hc1
  have hN := hg.2.2.1
  have hS := hg.1.1
  have e4 : m 88 4 = g 88 4 := hp _ _ (pr_8 (by omega))
  have e12 : m 88 12 = g 88 12 := hp _ _ (pr_8 (by omega))
  have hx' := hx
  obtain ⟨x1, ⟨t1, t2, t3⟩, x3, x4, x5, x6, x7, x8, x10, x11, x13⟩ := hx'
  refine s_lord (by omega) (by omega) (fun ok => zk1_i ?_) fun no => zk1_i (s_lordM (by omega) (fun q => absurd (by rw [e9, e11, ← e12, ← e4]; exact q) no) fun _ => zk1_i (K _ _ (VI_yq hp hg hr hw he hc hx FY_r hc FQ_z)))
  have q88 : ∀ j, ldC m h r w me gu f 88 j = m 88 j := fun j => by
    unfold ldC
    rw [zup_c (by decide), zup_c (by decide), zup_c (by omega), zup_c (by omega), zup_c (by omega), zup_c (by omega), zup_c (by omega), zup_c (by omega), zup_c (by omega)]
  refine s_lordM (by rw [q88]; omega) (fun _ => zk1_i ?_) fun q => absurd (by rw [q88, q88, e12, e4, ← e9, ← e11]; exact ok) q
  rw [q88, e12, ← e9]
  refine K _ _ ?_
  unfold okLd at ok
  have hn : m 0 9 < 6 := by omega
  -- cells
  have cx : ∀ x j, ¬ (x = 29 + 6 * m 0 9 ∧ 1 ≤ j ∧ j ≤ 7) → ¬ (x = 0 ∧ (j = 9 ∨ j = 14)) → ¬ (x = 88 ∧ (j = 2 ∨ j = 12)) → ¬ (97 ≤ x ∧ x ≤ 107 ∧ j = m 0 9) → ldM (ldC m h r w me gu f) h r w me gu f x j = m x j := fun x j h1 h2 h3 h4 => by
    unfold ldM
    rw [q88, e12, ← e9, zup_n (by omega), zup_n (by omega), zup_n (by omega), zup_n (by omega), zup_n (by omega), zup_n (by omega), zup_n (by omega), zup_n (by omega), zup_n (by omega), zup_n (by omega), zup_n (by omega), zup_n (by omega), zup_n (by omega)]
    unfold ldC
    rw [zup_n (by omega), zup_n (by omega), zup_n (by omega), zup_n (by omega), zup_n (by omega), zup_n (by omega), zup_n (by omega), zup_n (by omega), zup_n (by omega)]
  have cl : ∀ j, ldM (ldC m h r w me gu f) h r w me gu f (29 + 6 * m 0 9) j = ldC m h r w me gu f (29 + 6 * m 0 9) j := fun j => by
    unfold ldM
    rw [zup_c (by omega), zup_c (by omega), zup_c (by omega), zup_c (by omega), zup_c (by omega), zup_c (by omega), zup_c (by omega), zup_c (by omega), zup_c (by omega), zup_c (by omega), zup_c (by omega), zup_c (by omega), zup_c (by omega)]
  have cs : ∀ v, v = ldC m h r w me gu f → v (29 + 6 * m 0 9) 1 = h ∧ v (29 + 6 * m 0 9) 2 = m (3 + 2 * h) 7 ∧ v (29 + 6 * m 0 9) 3 = r ∧ v (29 + 6 * m 0 9) 4 = w ∧ v (29 + 6 * m 0 9) 5 = me ∧ v (29 + 6 * m 0 9) 6 = gu ∧ v (29 + 6 * m 0 9) 7 = f ∧ v 0 14 = 1 ∧ v 0 9 = m 0 9 + 1 := fun v hv => by
    subst hv
    have n0 : ¬ (29 + 6 * m 0 9 = 0) := by omega
    have n0' : ¬ ((0 : Int) = 29 + 6 * m 0 9) := by omega
    simp [ldC, zup, n0, n0']
  have cs := cs _ rfl
  have c0 : ∀ j, ldM (ldC m h r w me gu f) h r w me gu f 0 j = ldC m h r w me gu f 0 j := fun j => by
    unfold ldM
    rw [zup_c (by omega), zup_c (by omega), zup_c (by omega), zup_c (by omega), zup_c (by omega), zup_c (by omega), zup_c (by omega), zup_c (by omega), zup_c (by omega), zup_c (by omega), zup_c (by omega), zup_c (by omega), zup_c (by omega)]
  have cm : ∀ v, v = ldM (ldC m h r w me gu f) h r w me gu f → v 97 (m 0 9) = h ∧ v 98 (m 0 9) = r ∧ v 99 (m 0 9) = w ∧ v 100 (m 0 9) = me ∧ v 101 (m 0 9) = gu ∧ v 102 (m 0 9) = f ∧ v 103 (m 0 9) = 0 ∧ v 104 (m 0 9) = 0 ∧ v 105 (m 0 9) = 0 ∧ v 106 (m 0 9) = 10 ∧ v 107 (m 0 9) = 30 ∧ v 88 12 = m 0 9 + 1 := fun v hv => by
    subst hv
    have q12 := q88 12
    unfold ldM
    rw [q12, e12, ← e9]
    simp [zup]
  have cm := cm _ rfl
  rw [← cl, ← cl, ← cl, ← cl, ← cl, ← cl, ← cl, ← c0, ← c0] at cs
  clear cl c0 q88
  generalize ldM (ldC m h r w me gu f) h r w me gu f = m2 at *
  obtain ⟨s1, s2, s3, s4, s5, s6, s7, s14, s9⟩ := cs
  obtain ⟨u97, u98, u99, u100, u101, u102, u103, u104, u105, u106, u107, u12⟩ := cm
  have xr : ∀ x, ¬ (97 ≤ x ∧ x ≤ 107) → ¬ x = 88 → gP g m2 x = g x := fun x q1 q2 => gP_r fun j p => (cx x j (by unfold prA at p; omega) (by unfold prA at p; omega) (by omega) (by omega)).trans (hp x j p)
  have xl : ∀ x l, 97 ≤ x → x ≤ 107 → ¬ l = m 0 9 → gP g m2 x l = g x l := fun x l q1 q2 q3 => gP_c fun p => (cx x l (by omega) (by omega) (by omega) (by omega)).trans (hp x l p)
  have xn : ∀ x, 97 ≤ x → x ≤ 107 → gP g m2 x (m 0 9) = m2 x (m 0 9) := fun x q1 q2 => gP_p (pr_r (by omega))
  have x88 : gP g m2 88 4 = g 88 4 ∧ gP g m2 88 3 = g 88 3 ∧ gP g m2 88 12 = m 0 9 + 1 := by
    refine ⟨?_, ?_, ?_⟩
    · rw [gP_p (pr_8 (by omega)), cx 88 4 (by omega) (by omega) (by omega) (by omega)]; exact e4
    · rw [gP_p (pr_8 (by omega)), cx 88 3 (by omega) (by omega) (by omega) (by omega)]; exact hp _ _ (pr_8 (by omega))
    · rw [gP_p (pr_8 (by omega))]; exact u12
  have g108 : gP g m2 108 = g 108 := xr 108 (by decide) (by decide)
  have hxn := x7 (m 0 9) (Int.le_refl _) hn
  have e108 : g 108 (m 0 9) = -1 := by rw [← hp 108 _ (pr_r (by omega))]; exact hxn.2
  have lord : ∀ l, 0 ≤ l → l < m 0 9 + 1 → l < m 0 9 ∨ l = m 0 9 := fun l _ _ => by omega
  refine ⟨gP g m2, PG_P, ?_, ?_, ?_, EW_c (fun x q0 q1 => xr x (by omega) (by omega)) he, ⟨⟨⟨?_, ?_, ?_⟩, ?_, ?_, fun l l0 l1 => ?_, fun k k0 k1 => ?_, fun l l0 l1 => ?_⟩, fun q => absurd q (by omega)⟩, ?_⟩
  · unfold LG
    rw [xr 90 (by decide) (by decide), xr 91 (by decide) (by decide), x88.1, x88.2.1, x88.2.2]
    refine ⟨hg.1, hg.2.1, by omega, hg.2.2.2.1, fun l l0 l1 => ?_⟩
    rcases lord l l0 l1 with z | z
    · rw [xl 97 l (by decide) (by decide) (by omega), xl 98 l (by decide) (by decide) (by omega), xl 99 l (by decide) (by decide) (by omega), xl 100 l (by decide) (by decide) (by omega), xl 101 l (by decide) (by decide) (by omega), xl 102 l (by decide) (by decide) (by omega)]
      exact hg.2.2.2.2 l l0 (by omega)
    · subst z
      rw [xn 97 (by decide) (by decide), xn 98 (by decide) (by decide), xn 99 (by decide) (by decide), xn 100 (by decide) (by decide), xn 101 (by decide) (by decide), xn 102 (by decide) (by decide), u97, u98, u99, u100, u101, u102]
      omega
  · unfold RGd
    rw [xr 93 (by decide) (by decide), xr 95 (by decide) (by decide), xr 110 (by decide) (by decide), x88.1, x88.2.2]
    refine ⟨hr.1, hr.2.1, hr.2.2.1, fun l l0 l1 => ?_⟩
    rcases lord l l0 l1 with z | z
    · rw [xl 107 l (by decide) (by decide) (by omega)]; exact hr.2.2.2 l l0 (by omega)
    · subst z
      rw [xn 107 (by decide) (by decide), u107]; omega
  · intro l l0 l1
    rw [x88.2.2] at l1
    rw [g108]
    rcases lord l l0 l1 with z | z
    · rw [xl 105 l (by decide) (by decide) (by omega), xl 106 l (by decide) (by decide) (by omega), xl 98 l (by decide) (by decide) (by omega)]
      exact hw l l0 (by omega)
    · subst z
      rw [xn 105 (by decide) (by decide), xn 106 (by decide) (by decide), xn 98 (by decide) (by decide), u105, u106, u98, e108]
      omega
  · rw [x88.1, cx 1 1 (by omega) (by omega) (by omega) (by omega)]; exact e11
  · rw [x88.2.2]; exact s9
  · rw [x88.2.1, cx 0 11 (by omega) (by omega) (by omega) (by omega)]; exact e3
  · rw [cx 0 7 (by omega) (by omega) (by omega) (by omega)]; exact cE
  · rw [cx 0 7 (by omega) (by omega) (by omega) (by omega)]
    exact ER_c (fun x q0 q1 => xr x (by omega) (by omega)) (ER_f c5 fun x j q0 q1 => cx x j (by omega) (by omega) (by omega) (by omega))
  · rw [x88.2.2] at l1
    rw [xr 90 (by decide) (by decide), xr 91 (by decide) (by decide)]
    rcases lord l l0 l1 with z | z
    · have al : ∀ j, m2 (29 + 6 * l) j = m (29 + 6 * l) j := fun j => cx _ _ (by omega) (by omega) (by omega) (by omega)
      rw [al, al, al, al, al, al, al, al, xl 97 l (by decide) (by decide) (by omega), xl 98 l (by decide) (by decide) (by omega), xl 99 l (by decide) (by decide) (by omega), xl 100 l (by decide) (by decide) (by omega), xl 101 l (by decide) (by decide) (by omega), xl 102 l (by decide) (by decide) (by omega)]
      exact c6 l l0 (by omega)
    · subst z
      rw [xn 97 (by decide) (by decide), xn 98 (by decide) (by decide), xn 99 (by decide) (by decide), xn 100 (by decide) (by decide), xn 101 (by decide) (by decide), xn 102 (by decide) (by decide), u97, u98, u99, u100, u101, u102, s1, s2, s3, s4, s5, s6, s7, cx _ 0 (by omega) (by omega) (by omega) (by omega), x8 _ l0 hn]
      refine ⟨rfl, rfl, ?_, rfl, rfl, rfl, rfl, rfl⟩
      rw [(x11 h (by omega) (by omega)).1]
      have r90 : m 90 = g 90 := funext fun j => hp 90 j (pr_r (by omega))
      have r91 : m 91 = g 91 := funext fun j => hp 91 j (pr_r (by omega))
      rw [r90, r91]
  · rw [x88.1] at k1
    have ak : ∀ j, m2 (3 + 2 * k) j = m (3 + 2 * k) j := fun j => cx _ _ (by omega) (by omega) (by omega) (by omega)
    rw [ak, ak, ak, ak, ak, ak, xr 90 (by decide) (by decide), xr 91 (by decide) (by decide), xr 92 (by decide) (by decide), xr 93 (by decide) (by decide), xr 94 (by decide) (by decide), xr 95 (by decide) (by decide), xr 96 (by decide) (by decide)]
    refine ⟨(c7 k k0 k1).1, fun d d0 d1 => ?_⟩
    rw [cx _ _ (by omega) (by omega) (by omega) (by omega)]
    exact (c7 k k0 k1).2 d d0 d1
  · rw [x88.2.2] at l1
    rw [g108]
    have al : ∀ j, 8 ≤ j → m2 (29 + 6 * l) j = m (29 + 6 * l) j := fun j hj => cx _ _ (by omega) (by omega) (by omega) (by omega)
    rw [al 8 (by decide), al 9 (by decide), al 10 (by decide), al 11 (by decide), al 12 (by decide), al 13 (by decide)]
    rcases lord l l0 l1 with z | z
    · rw [xl 103 l (by decide) (by decide) (by omega), xl 104 l (by decide) (by decide) (by omega), xl 105 l (by decide) (by decide) (by omega), xl 106 l (by decide) (by decide) (by omega), xl 107 l (by decide) (by decide) (by omega)]
      exact c8 l l0 (by omega)
    · subst z
      rw [xn 103 (by decide) (by decide), xn 104 (by decide) (by decide), xn 105 (by decide) (by decide), xn 106 (by decide) (by decide), xn 107 (by decide) (by decide), u103, u104, u105, u106, u107, e108]
      exact hxn.1
  · have m0 : ∀ j, ¬ j = 9 → ¬ j = 14 → m2 0 j = m 0 j := fun j a b => cx _ _ (by omega) (by omega) (by omega) (by omega)
    have m88 : ∀ j, ¬ j = 2 → ¬ j = 12 → m2 88 j = m 88 j := fun j a b => cx _ _ (by omega) (by omega) (by omega) (by omega)
    have mr : ∀ x j, (x = 71 ∨ x = 89 ∨ x = 108 ∨ x = 96 ∨ x = 90 ∨ x = 91 ∨ x = -2 ∨ x = 67 ∨ x = 1 ∨ x = 109) → m2 x j = m x j := fun x j q => cx _ _ (by omega) (by omega) (by omega) (by omega)
    have r90 : m2 90 = m 90 := funext fun j => mr _ _ (by omega)
    have r91 : m2 91 = m 91 := funext fun j => mr _ _ (by omega)
    unfold XT
    rw [m0 12 (by decide) (by decide), m0 13 (by decide) (by decide), m0 7 (by decide) (by decide), m0 8 (by decide) (by decide), m0 10 (by decide) (by decide), s9, m88 1 (by decide) (by decide), m88 26 (by decide) (by decide), m88 27 (by decide) (by decide), m88 41 (by decide) (by decide), m88 78 (by decide) (by decide), mr 67 11 (by omega), mr 1 1 (by omega), r90, r91]
    simp only [fun j => mr 71 j (by omega), fun j => mr 89 j (by omega), fun j => mr 108 j (by omega), fun j => mr 96 j (by omega), fun j => mr (-2) j (by omega)]
    refine ⟨x1, ⟨t1, t2, t3⟩, x3, ?_, encA_f (fun j => mr 109 j (by omega)) _ _ x5, x6, fun l l0 l1 => ?_, fun l l0 l1 => ?_, fun k k0 k1 d d0 d1 => ?_, fun k k0 k1 => ?_, x13⟩
    · rw [← x4]; exact cx _ _ (by omega) (by omega) (by omega) (by omega)
    · have al : ∀ j, m2 (29 + 6 * l) j = m (29 + 6 * l) j := fun j => cx _ _ (by omega) (by omega) (by omega) (by omega)
      rw [al, al, al, al, al, al]
      exact x7 l (by omega) l1
    · rw [cx _ 0 (by omega) (by omega) (by omega) (by omega)]; exact x8 l l0 l1
    · rw [cx _ _ (by omega) (by omega) (by omega) (by omega)]; exact x10 k k0 k1 d d0 d1
    · rw [cx _ _ (by omega) (by omega) (by omega) (by omega)]; exact x11 k k0 k1
end L2
