section L2
variable {Ω : zΩ} {Q : List zV → zM → Prop} {g : zM}
theorem s_askC {s m : zM} {l d c : Int} (hv : vG g) (hl : 0 ≤ l ∧ l < g 88 12) (hd : 0 ≤ d ∧ d ≤ 99) (hc : c ≤ 599) (hb : BA g s c c) (hG : GB g s 100) (ha : AI g s d) (hi : IC g m) (hr : RC g s m) (hrun : ¬ g 125 l = 0) (hat : ¬ s 130 l = 0) (K : ∀ m', FC m m' → RC g (askA g s l d) m' → Q [] m') : zG Ω 61 0 [zR 5 65, zR 2 (30 + 6 * l), zI d, zU, zU, zU] [] m Q := by
  have v1 := hv.1
  have v2 := hv.2.1
  have v7 := hv.2.2.2.2.2.2 l hl.1 hl.2
  have bl := hb.1 l hl.1 hl.2
  unfold LB at bl
  have cl := hr.1 l hl.1 hl.2
  have al := ha l hl.1 hl.2
  have cb := cost_b hv hb (by omega)
  have yb := yield_b hv hb (by omega)
  have il := (hi.2.2.2 l hl.1 hl.2).1
  refine w_X5_ask_0 ?_
  rw [cl.2.1, cl.1]
  refine zif (fun hh => ?_) fun hh => ?_
  · unfold askA at K
    rw [if_pos hh] at K
    rw [zw_i (x := s 132 l - 1) (by omega) (by omega), zup_c (by omega), il.2.2.2.2.2.2.2]
    have r1 := RC_132 (v := s 132 l - 1) hv hr hl.1 hl.2
    have e5 : zup s 132 l (s 132 l - 1) 135 = s 135 := zup_row (by decide)
    refine s_charge hv r1 hl (by rw [e5]; omega) (by rw [e5]; omega) fun m' f' r' => ?_
    rw [e5] at r'
    exact K m' (FC_t (FC_u FC_r (by omega)) f') r'
  have hk : 0 ≤ s 130 l ∧ s 130 l < g 88 4 := by omega
  obtain ⟨p1, p2⟩ := lookA_p (s := s) (l := l) (d := d) hv 12 (s 130 l) 0 hk.1 hk.2
  have p3 := pth_b hv _ _ hk.1 hk.2 p1 _ (Nat.le_refl _)
  unfold askA at K
  rw [if_neg hh] at K
  have hp : ∀ l, 0 ≤ l → l < g 88 12 → 0 ≤ s 130 l := fun j j0 j1 => by
    have bj := hb.1 j j0 j1
    have vj := hv.2.2.2.2.2.2 j j0 j1
    unfold LB at bj
    omega
  refine ⟨hk.1, w_X5_farthestFor_0 ?_⟩
  rw [cl.1]
  refine ⟨hk.1, s_farC_11 (s := s) hv hi hr hl hk.1 hd 12 (s 130 l) 0 0 hk.1 hk.2 (by omega) (by omega) (by omega) (by omega) (by omega) (zk3_i ?_)⟩
  refine w_X5_farthestHouse_0 ?_
  rw [cl.1]
  refine ⟨hk.1, hk.1, s_houseC_14 (s := s) (l := l) (d := d) hv hi hr hp 12 (s 130 l) 0 (s 130 l) 0 hk.1 hk.2 (by omega) (by omega) (by omega) rfl (zk3_i ?_)⟩
  generalize hpp : lookA g s l d 12 (s 130 l) 0 = p at K p1 p2 p3
  have eG : (if 0 < p.2 then nxA g p.2 (s 130 l) else s 130 l) = nxA g p.2 (s 130 l) := by
    split
    · rfl
    · rw [show p.2 = 0 by omega]; rfl
  rw [eG]
  have eq1 : nxA g p.2 (s 130 l) = nxA g p.1 (s 130 l) ↔ ¬ p.2 < p.1 := by
    refine ⟨fun h q => ?_, fun h => by rw [show p.2 = p.1 by omega]⟩
    have := pth_ne hv hk.1 hk.2 p1 q (Nat.le_refl _)
    omega
  have eq2 : nxA g p.2 (s 130 l) = s 130 l ↔ p.2 = 0 := by
    refine ⟨fun h => ?_, fun h => by rw [h]; rfl⟩
    by_cases q : p.2 = 0
    · exact q
    · have := pth_ne hv (a := 0) hk.1 hk.2 p1 (show 0 < p.2 by omega) p2
      have : nxA g p.2 (s 130 l) < s 130 l := this
      omega
  have fin : ∀ m7 : zM, FC m m7 → RC g (marksA g s l d p) m7 → zG Ω 65 0 [zR 5 65, zR 2 (30 + 6 * l), zR 7 (3 + 2 * nxA g p.2 (s 130 l)), zU, zU] [] m7 (fun r6 m6 => zk0 r6 (zG Ω 67 0 [zR 5 65, zR 2 (30 + 6 * l), zI d] [] m6 (fun r7 m7 => zk0 r7 (Q [] m7)))) := by
    intro m7 f7 r7
    have b7 := marksA_BA (l := l) (d := d) (p := p) hb
    have pt : pth g p.2 (marksA g s l d p 130 l) := by rw [marksA_at]; exact fun i hi => p1 i (by omega)
    have gb7 : GB g (marksA g s l d p) 100 := by
      intro k k0 k1
      have := hG k k0 k1
      have e0 : marksA g s l d p 140 k = s 140 k := by unfold marksA; split <;> split <;> (try simp [zup])
      have e1 : marksA g s l d p 141 k = s 141 k := by unfold marksA; split <;> split <;> (try simp [zup])
      rw [e0, e1]
      exact this
    refine w_X5_travel_0 (s_travelC (c := c + 1) (e := c) hv hl (by omega) p.2 (marksA g s l d p) m7 0 (by rw [marksA_at]) pt (by omega) (by rw [marksA_at]; omega) b7 gb7 (IC_f hv hi f7) r7 fun m8 f8 r8 => ?_)
    have b8 := hopsA_BA hv hl.1 hl.2 p.2 _ b7 pt
    have e7 : ∀ j, hopsA g l p.2 (marksA g s l d p) 137 j = s 137 j := fun j => by rw [hopsA_137, marksA_137]
    show zG Ω 67 0 _ _ _ _
    refine s_nightC (c := c + 1) (e := c) hv hl hd (by omega) b8 (IC_f hv hi (FC_t f7 f8)) r8 hrun (by rw [e7]; omega) (fun j j0 j1 => ?_) fun m9 f9 r9 => ?_
    · rw [e7]
      have := ha j j0 j1
      omega
    · exact K m9 (FC_t f7 (FC_t f8 f9)) r9
  have m_yn : p.2 < p.1 → ¬ (p.2 = 0 ∧ shA g (s 130 l) d) → marksA g s l d p = zup s 134 l (s 134 l + 1) := fun a b => by unfold marksA; rw [if_neg b, if_pos a]
  have m_yy : p.2 < p.1 → (p.2 = 0 ∧ shA g (s 130 l) d) → marksA g s l d p = zup (zup s 134 l (s 134 l + 1)) 138 l (s 138 l + 1) := fun a b => by unfold marksA; rw [if_pos b, if_pos a]
  have m_nn : ¬ p.2 < p.1 → ¬ (p.2 = 0 ∧ shA g (s 130 l) d) → marksA g s l d p = s := fun a b => by unfold marksA; rw [if_neg b, if_neg a]
  have m_ny : ¬ p.2 < p.1 → (p.2 = 0 ∧ shA g (s 130 l) d) → marksA g s l d p = zup s 138 l (s 138 l + 1) := fun a b => by unfold marksA; rw [if_pos b, if_neg a]
  show if 3 + 2 * nxA g p.2 (s 130 l) = 3 + 2 * nxA g p.1 (s 130 l) then _ else _
  refine zif (fun h1 => zif (fun h2 => b_shutC hi hk hd (fun hs => ?_) fun hs => fin m FC_r ?_) fun h2 => fin m FC_r ?_) fun h1 => ?_
  · rw [cl.2.2.2.2.2.1, zw_i (by omega) (by omega)]
    refine fin _ (FC_u FC_r (by omega)) ?_
    rw [m_ny (eq1.mp (zs_e.mp h1)) ⟨eq2.mp (zs_e.mp h2), hs⟩]
    exact RC_138 hv hr hl.1 hl.2
  · rw [m_nn (eq1.mp (zs_e.mp h1)) fun q => hs q.2]; exact hr
  · rw [m_nn (eq1.mp (zs_e.mp h1)) fun q => h2 (zs_e.mpr (eq2.mpr q.1))]; exact hr
  · have hy : p.2 < p.1 := by
      by_cases q : p.2 < p.1
      · exact q
      · exact absurd (zs_e.mpr (eq1.mpr q)) h1
    rw [zup_c (by omega), hr.2.2.1, cl.2.2.1, zw_i (x := s 134 l + 1) (by omega) (by omega), zw_i (x := sumA (s 134) (g 88 12).toNat + 1) (by omega) (by omega)]
    have r1 := RC_134 (v := 1) hv hr hl.1 hl.2
    have f1 : FC m (zup (zup m (30 + 6 * l) 8 (s 134 l + 1)) 65 7 (sumA (s 134) (g 88 12).toNat + 1)) := FC_u (FC_u FC_r (by omega)) (by omega)
    have i1 := IC_f hv hi f1
    refine zif (fun h2 => b_shutC i1 hk hd (fun hs => ?_) fun hs => fin _ f1 ?_) fun h2 => fin _ f1 ?_
    · rw [(r1.1 l hl.1 hl.2).2.2.2.2.2.1, zup_c (by decide), zw_i (by omega) (by omega)]
      refine fin _ (FC_u f1 (by omega)) ?_
      rw [m_yy hy ⟨eq2.mp (zs_e.mp h2), hs⟩]
      exact RC_138 hv r1 hl.1 hl.2
    · rw [m_yn hy fun q => hs q.2]; exact r1
    · rw [m_yn hy fun q => h2 (zs_e.mpr (eq2.mpr q.1))]; exact r1
theorem s_lordsC {s : zM} {d c : Int} (hv : vG g) (hday : ∀ l, 0 ≤ l → l < g 88 12 → ¬ g 125 l = 0 → 0 ≤ g 129 l) (hd : 0 ≤ d ∧ d ≤ 99) (hc : 0 ≤ c ∧ c ≤ 594) (hb : BA g s c c) (hG : GB g s 100) (ha : AI g s d) : ∀ (r i : Nat) (m : zM), ((i + r : Nat) : Int) = g 88 12 → IC g m → RC g (lordsA g d i s) m → (∀ m', FC m m' → RC g (lordsA g d (i + r) s) m' → Q [] m') → zG Ω 60 9 [zR 5 65, zI d, zI i] [] m Q := by
  have v2 := hv.2.1
  intro r
  induction r with
  | zero =>
    intro i m hn hi hr K
    have e12 := hi.1.2
    exact w_X5_passDay_9 (zif (fun h => absurd h (by omega)) fun _ => K m FC_r hr)
  | succ r ih =>
    intro i m hn hi hr K
    have e12 := hi.1.2
    have v7 := hv.2.2.2.2.2.2 i (by omega) (by omega)
    have hb' := lordsA_BA hv hd i s (by omega) hb
    have ha' := lordsA_AI hv hd i s (by omega) hb ha
    have hG' : GB g (lordsA g d i s) 100 := fun k k0 k1 => by rw [lordsA_x (by decide), lordsA_x (by decide)]; exact hG k k0 k1
    have ii := (hi.2.2.2 i (by omega) (by omega)).2.2
    have it := (hi.2.2.2 (g 128 i) (by omega) (by omega)).2.1
    have ct := hr.1 (g 128 i) (by omega) (by omega)
    have hdy := hday (g 128 i) (by omega) (by omega)
    have e1 : ∀ m1 : zM, IC g m1 → RC g (lordsA g d (i + 1) s) m1 → FC m m1 → zG Ω 60 9 [zR 5 65, zI d, zI ((i : Int) + 1)] [] m1 Q := by
      intro m1 i1 r1 f1
      exact ih (i + 1) m1 (by omega) i1 r1 fun m' f' r' => K m' (FC_t f1 f') (by rwa [show i + 1 + r = i + (r + 1) by omega] at r')
    have skip : ¬ (¬ g 125 (g 128 (i : Int)) = 0 ∧ g 129 (g 128 (i : Int)) ≤ d ∧ ¬ lordsA g d i s 130 (g 128 (i : Int)) = 0) → zG Ω 60 9 [zR 5 65, zI d, zI ((i : Int) + 1)] [] m Q := by
      intro hn'
      refine e1 m hi ?_ FC_r
      rw [lordsA, if_neg hn']
      exact hr
    refine w_X5_passDay_9 (zif (fun _ => zin_of (by omega) (by omega) ?_) fun h => absurd (show (i : Int) < m 65 4 by omega) h)
    rw [ii, zw_i (x := (i : Int) + 1) (by omega) (by omega)]
    have bl : LB g (lordsA g d i s) (c + i) (c + i) (g 128 (i : Int)) := hb'.1 (g 128 (i : Int)) (by omega) (by omega)
    have v78 := hv.2.2.2.2.2.2 (g 128 (i : Int)) (by omega) (by omega)
    unfold LB at bl
    refine ⟨by omega, w_X2_isAskedOn_0 ?_⟩
    rw [it, ct.1]
    by_cases q0 : g 125 (g 128 (i : Int)) = 0
    · rw [if_pos q0, if_pos rfl]
      exact zk1_f (skip fun q => q.1 q0)
    · have := hdy q0
      rw [if_neg q0]
      refine zif (fun h => absurd h (by omega)) fun _ => zif (fun h => zk1_f (skip fun q => by omega)) fun h => ⟨by omega, b_city (fun h2 => zk1_f (skip fun q => q.2.2 h2)) fun h2 => zk1_t (zin_of (by omega) (by omega) ?_)⟩
      rw [ii]
      refine ⟨by omega, ?_⟩
      refine s_askC (c := c + i) hv (by omega) hd (by omega) hb' hG' ha' hi hr q0 h2 fun m1 f1 r1 => ?_
      show zG Ω 60 9 _ _ _ _
      refine e1 m1 (IC_f hv hi f1) ?_ f1
      rw [lordsA, if_pos ⟨q0, by omega, h2⟩]
      exact r1
/-- as it stands between two days -/
def RD (g s m : zM) : Prop := (∀ l, 0 ≤ l → l < g 88 12 → CL s m l) ∧ (∀ k, 1 ≤ k → k < g 88 4 → m (3 + 2 * k) 9 = s 140 k ∧ m (3 + 2 * k) 10 = s 141 k) ∧ CT g s m
theorem RD_end {t m : zM} (h : RC g t m) : RD g (endA g t) m := by
  have e : ∀ x, 130 ≤ x → x ≤ 138 → endA g t x = t x := fun x a b => by
    funext j
    unfold endA
    rw [if_neg (by omega), if_neg (by omega)]
  refine ⟨fun l h0 h1 => CL_s (h.1 l h0 h1) (fun x a b _ => by rw [e x a b]) (fun k _ _ => by rw [e 133 (by decide) (by decide)]) fun _ _ _ => rfl, fun k h0 h1 => ?_, CT_s h.2.2 (e 134 (by decide) (by decide)) (e 135 (by decide) (by decide)) (e 137 (by decide) (by decide)) fun _ _ _ => rfl⟩
  have c := h.2.1 k h0 h1
  refine ⟨?_, ?_⟩
  · rw [c.2.1]; simp [endA]
  · rw [c.2.2]; simp [endA]
theorem s_beginDayC {N : Int} (hN : N ≤ 12) : ∀ (r : Nat) (i : Int) (m : zM), m 1 1 = N → i + r = N → 0 ≤ i → (∀ k, 0 ≤ k → k < i → m (3 + 2 * k) 8 = 0) → (∀ m', (∀ x j, ¬ (3 ≤ x ∧ x ≤ 25 ∧ x % 2 = 1 ∧ j = 8) → m' x j = m x j) → (∀ k, 0 ≤ k → k < N → m' (3 + 2 * k) 8 = 0) → Q [] m') → zG Ω 50 2 [zR 4 1, zI i] [] m Q := by
  intro r
  induction r with
  | zero =>
    intro i m h1 hi h0 hA K
    exact w_X4_beginDay_2 (zif (fun h => absurd h (by omega)) fun _ => K m (fun _ _ _ => rfl) fun k a b => hA k a (by omega))
  | succ r ih =>
    intro i m h1 hi h0 hA K
    refine w_X4_beginDay_2 (zif (fun _ => zin_of (by omega) (by omega) ?_) fun h => absurd (show i < m 1 1 by omega) h)
    rw [zw_i (by omega) (by omega)]
    refine ih (i + 1) _ (by rw [zup_c (by omega)]; exact h1) (by omega) (by omega) (fun k a b => ?_) fun m' o' R' => K m' (fun x j h => (o' x j h).trans ?_) R'
    · by_cases e : k = i
      · rw [zup_e (by omega) rfl]
      · rw [zup_c (by omega)]; exact hA k a (by omega)
    · unfold zup
      rw [if_neg (by rintro ⟨rfl, rfl⟩; omega)]
theorem s_dayC {s m : zM} {d c : Int} (hv : vG g) (hday : ∀ l, 0 ≤ l → l < g 88 12 → ¬ g 125 l = 0 → 0 ≤ g 129 l) (hd : 0 ≤ d ∧ d ≤ 99) (hc : 0 ≤ c ∧ c ≤ 594) (hb : BA g s c c) (hG : GB g s 100) (ha : AI g s d) (hi : IC g m) (hr : RD g s m) (K : ∀ m', FC m m' → RD g (dayA g s d) m' → Q [] m') : zG Ω 60 0 [zR 5 65, zI d, zU] [] m Q := by
  have v1 := hv.1
  have v2 := hv.2.1
  have e11 := hi.1.1
  refine w_X5_passDay_0 (w_X4_beginDay_0 (s_beginDayC (N := g 88 4) (by omega) (g 88 4).toNat 0 m e11 (by omega) (by omega) (fun k a b => absurd a (by omega)) fun m1 o1 z1 => ?_))
  have f1 : FC m m1 := fun x j h => o1 x j (by omega)
  have r1 : RC g (dutA g s) m1 := by
    have e : ∀ x, 130 ≤ x → x ≤ 138 → dutA g s x = s x := fun x a b => by
      funext j
      unfold dutA
      rw [if_neg (by omega)]
    refine ⟨fun l h0 h1 => CL_s (hr.1 l h0 h1) (fun x a b _ => by rw [e x a b]) (fun k _ _ => by rw [e 133 (by decide) (by decide)]) fun j _ _ => o1 _ j (by omega), fun k h0 h1 => ?_, CT_s hr.2.2 (e 134 (by decide) (by decide)) (e 135 (by decide) (by decide)) (e 137 (by decide) (by decide)) fun j _ _ => o1 _ j (by omega)⟩
    have a := hr.2.1 k h0 h1
    have b := z1 k (by omega) h1
    have gb := (hG k h0 h1).2.1
    unfold CK mxA
    rw [b, o1 _ 9 (by omega), o1 _ 10 (by omega), a.1, a.2]
    simp [dutA]
    omega
  show zG Ω 60 9 _ _ _ _
  refine s_lordsC (s := dutA g s) hv hday hd hc (dutA_BA hv hb) (fun k k0 k1 => by have := hG k k0 k1; simp [dutA]; exact this) (fun l l0 l1 => by have := ha l l0 l1; simp [dutA]; exact this) (g 88 12).toNat 0 m1 (by omega) (IC_f hv hi f1) r1 fun m2 f2 r2 => ?_
  rw [Nat.zero_add] at r2
  exact K m2 (FC_t f1 f2) (RD_end r2)
end L2
