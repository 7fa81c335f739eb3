/-! the class's answers of the row at hand, of edicts, of the road -/
theorem REC_f {g m m' : zM} (hg : LG g) (h : REC g m) (a : ∀ x j, ¬ (x = 81 ∨ x = 87 ∨ 88 ≤ x ∨ x = 0) → m' x j = m x j) : REC g m' := by
  have hN := hg.2.2.1
  have hS := hg.1.1
  obtain ⟨h1, h2, h3, h4⟩ := h
  refine ⟨fun l l0 l1 => ?_, fun l d l0 l1 hd => ?_, fun k k0 k1 => ?_, ?_⟩
  · have := h1 l l0 l1
    unfold EL at this ⊢
    rw [a _ 5 (by omega), a _ 12 (by omega), a _ 11 (by omega), a _ 10 (by omega), a _ 13 (by omega), a _ 14 (by omega), a _ 9 (by omega)]
    exact this
  · have l1' : l < g 88 12 := l1
    have := h2 l d l0 l1 hd
    unfold NQ at this ⊢
    rw [a _ _ (by omega), a _ _ (by omega), a _ _ (by omega), a _ _ (by omega)]
    exact this
  · rw [a _ _ (by omega), a _ _ (by omega)]
    exact h3 k k0 k1
  · rw [a _ _ (by omega), a _ _ (by omega), a _ _ (by omega), a _ _ (by omega)]
    exact h4
/-- the class stands by g -/
def CR (g m : zM) : Prop := CS g m ∧ (m 0 14 = 0 → REC g m)
theorem CR_v {g m m' : zM} {E : Int} (hg : LG g) (hE : E = 76 ∨ E = 82) (h : CR g m) (a : FV E m m') : CR g m' :=
  ⟨CS_f hg h.1 fun x j c => a x j (by unfold csY at c; omega), fun e => REC_f hg (h.2 (by rw [← a 0 14 (by omega)]; exact e)) fun x j q => a x j (by omega)⟩
section L2
variable {Ω : zΩ} {Q : List zV → zM → Prop} {g m : zM}
theorem a_judge {w : Int} (hg : LG g) (hr : RGd g) (hrow : ∀ l, 0 ≤ l → l < g 88 12 → -1 ≤ g 108 l) (hc : CR g m) (K : ∀ m', FY m m' → CR g m' → Q [zI (jdA g w)] m') : zG Ω 109 0 [zR 9 0, zI w] [] m Q := by
  refine w_X9_judge_0 (s_handC hg hr hrow hc.1 hc.2 fun m1 y1 c1 r1 _ => ?_)
  have K := K m1 y1 ⟨c1, fun _ => r1⟩
  have t := r1.2.2.2
  unfold jdA at K
  show if w = 0 then _ else _
  rw [t.1, t.2.1, t.2.2.1, t.2.2.2]
  refine zif (fun z => ?_) fun z0 => zif (fun z => ?_) fun z1 => zif (fun z => ?_) fun z2 => zif (fun z => ?_) fun z3 => ?_
  · rwa [if_pos z] at K
  · rwa [if_neg z0, if_pos z] at K
  · rwa [if_neg z0, if_neg z1, if_pos z] at K
  · rwa [if_neg z0, if_neg z1, if_neg z2, if_pos z] at K
  · rwa [if_neg z0, if_neg z1, if_neg z2, if_neg z3] at K
theorem a_night {l d w : Int} (hg : LG g) (hr : RGd g) (hrow : ∀ l, 0 ≤ l → l < g 88 12 → -1 ≤ g 108 l) (hc : CR g m) (K : ∀ m', FY m m' → CR g m' → Q [zI (ngA g l d w)] m') : zG Ω 110 0 [zR 9 0, zI l, zI d, zI w, zU] [] m Q := by
  have hN := hg.2.2.1
  have e9 := hc.1.1.2.1
  unfold ngA at K
  refine w_X9_night_0 (b_hasLord (fun h1 => b_within (fun h2 => s_handC hg hr hrow hc.1 hc.2 fun m1 y1 c1 r1 _ => ?_) fun h2 => ?_) fun h1 => ?_)
  · rw [e9] at h1
    have K := K m1 y1 ⟨c1, fun _ => r1⟩
    have n := r1.2.1 l d.toNat h1.1 h1.2 (by omega)
    unfold NQ at n
    rw [show ((d.toNat : Nat) : Int) = d by omega] at n
    have c97 := (c1.2.2.2.1 l h1.1 h1.2).2.1
    show zin l 6 _
    refine zin_of (by omega) (by omega) ?_
    rw [n.1, n.2.1, n.2.2.1, n.2.2.2]
    by_cases hw : 0 ≤ w ∧ w ≤ 4
    · rw [if_neg (fun q => q ⟨h1, h2, hw⟩)] at K
      refine zif (fun z => zin_of (by omega) (by omega) ?_) fun z0 => zif (fun z => zin_of (by omega) (by omega) ?_) fun z1 => zif (fun z => zin_of (by omega) (by omega) ?_) fun z2 => zif (fun z => zin_of (by omega) (by omega) ?_) fun z3 => zif (fun z => zin_of (by omega) (by omega) ?_) fun z4 => absurd hw (by omega)
      · rwa [if_pos z] at K
      · rw [if_neg z0, if_pos z] at K
        refine w_X2_stateAt_0 ?_
        rw [show 30 + 6 * l + (-1) = 29 + 6 * l by omega, c97, zs_n]
        have hh97 := (hg.2.2.2.2 l h1.1 h1.2).1
        unfold phA at K
        have e97 : HG g 97 l = g 97 l := rfl
        rw [e97] at K
        refine zif (fun y => zk1_i ?_) fun y => ⟨by omega, zif (fun y2 => zk1_i ?_) fun y2 => zk1_i ?_⟩
        · rwa [if_pos y] at K
        · rwa [if_neg y, if_pos y2] at K
        · rwa [if_neg y, if_neg y2] at K
      · rwa [if_neg z0, if_neg z1, if_pos z] at K
      · rwa [if_neg z0, if_neg z1, if_neg z2, if_pos z] at K
      · rwa [if_neg z0, if_neg z1, if_neg z2, if_neg z3] at K
    · rw [if_pos (fun q => hw q.2.2)] at K
      exact zif (fun z => absurd z (by omega)) fun _ => zif (fun z => absurd z (by omega)) fun _ => zif (fun z => absurd z (by omega)) fun _ => zif (fun z => absurd z (by omega)) fun _ => zif (fun z => absurd z (by omega)) fun _ => K
  · have K := K m FY_r hc
    rwa [if_pos (fun q => h2 q.2.1)] at K
  · have K := K m FY_r hc
    rwa [if_pos (fun q => h1 (by rw [e9]; exact q.1))] at K
theorem a_end {l w : Int} (hg : LG g) (hr : RGd g) (hrow : ∀ l, 0 ≤ l → l < g 88 12 → -1 ≤ g 108 l) (hc : CR g m) (K : ∀ m', FY m m' → CR g m' → Q [zI (enA g l w)] m') : zG Ω 111 0 [zR 9 0, zI l, zI w, zU] [] m Q := by
  have hN := hg.2.2.1
  have e9 := hc.1.1.2.1
  unfold enA at K
  refine w_X9_end_0 (b_hasLord (fun h1 => s_handC hg hr hrow hc.1 hc.2 fun m1 y1 c1 r1 _ => ?_) fun h1 => ?_)
  · rw [e9] at h1
    have K := K m1 y1 ⟨c1, fun _ => r1⟩
    have rl := r1.1 l h1.1 h1.2
    show zin l 6 _
    refine zin_of (by omega) (by omega) ?_
    rw [rl.1]
    by_cases q : rwA g l = 0
    · rw [if_pos q, if_pos rfl]
      by_cases hw : 0 ≤ w ∧ w ≤ 5
      · rwa [if_neg (fun z => z ⟨h1, hw⟩), if_pos q] at K
      · rwa [if_pos (fun z => hw z.2)] at K
    · have hd : ¬ g 108 l < 0 := fun z => q (by unfold rwA; rw [if_pos z])
      obtain ⟨a12, a11, a10, ae⟩ := rl.2 q
      unfold EL at ae
      rw [if_neg q, if_neg (by omega), a12, a11, a10, ae.1, ae.2.1, ae.2.2]
      by_cases hw : 0 ≤ w ∧ w ≤ 5
      · rw [if_neg (fun z => z ⟨h1, hw⟩), if_neg q] at K
        refine zif (fun z => ?_) fun z0 => zif (fun z => ?_) fun z1 => zif (fun z => ?_) fun z2 => zif (fun z => ?_) fun z3 => zif (fun z => ?_) fun z4 => zif (fun z => ?_) fun z5 => absurd hw (by omega)
        · rwa [if_pos z] at K
        · rwa [if_neg z0, if_pos z] at K
        · rwa [if_neg z0, if_neg z1, if_pos z] at K
        · rwa [if_neg z0, if_neg z1, if_neg z2, if_pos z] at K
        · rwa [if_neg z0, if_neg z1, if_neg z2, if_neg z3, if_pos z] at K
        · rwa [if_neg z0, if_neg z1, if_neg z2, if_neg z3, if_neg z4] at K
      · rw [if_pos (fun z => hw z.2)] at K
        exact zif (fun z => absurd z (by omega)) fun _ => zif (fun z => absurd z (by omega)) fun _ => zif (fun z => absurd z (by omega)) fun _ => zif (fun z => absurd z (by omega)) fun _ => zif (fun z => absurd z (by omega)) fun _ => zif (fun z => absurd z (by omega)) fun _ => K
  · have K := K m FY_r hc
    rwa [if_pos (fun q => h1 (by rw [e9]; exact q.1))] at K
theorem a_given {k w : Int} (hg : LG g) (hr : RGd g) (hrow : ∀ l, 0 ≤ l → l < g 88 12 → -1 ≤ g 108 l) (hc : CR g m) (K : ∀ m', FY m m' → CR g m' → Q [zI (gnA g k w)] m') : zG Ω 112 0 [zR 9 0, zI k, zI w] [] m Q := by
  have hS := hg.1.1
  have e1 := hc.1.1.1
  unfold gnA at K
  refine w_X9_given_0 (b_hasWay (fun h1 => s_handC hg hr hrow hc.1 hc.2 fun m1 y1 c1 r1 _ => ?_) fun h1 => ?_)
  · rw [e1] at h1
    have K := K m1 y1 ⟨c1, fun _ => r1⟩
    have rk := r1.2.2.1 k (by omega) h1.2
    show if w = 0 then _ else _
    have e1' := c1.1.1
    refine zif (fun z => s_stOf (by omega) (by omega) (by omega) (zk3_i ?_)) fun z0 => zif (fun z => s_stOf (by omega) (by omega) (by omega) (zk3_i ?_)) fun z1 => ?_
    · rw [rk.1]
      rwa [if_neg (fun q => q ⟨by omega, by omega⟩), if_pos z] at K
    · rw [rk.2]
      rwa [if_neg (fun q => q ⟨by omega, by omega⟩), if_neg z0] at K
    · rwa [if_pos (fun q => by omega)] at K
  · have K := K m FY_r hc
    rwa [if_pos (fun q => h1 (by omega))] at K
theorem SC_road (hg : LG g) (hs : SC g m) (h1 : m 1 1 = g 88 4) : vroad (fun k => m (3 + 2 * k) 1) (fun k => m (3 + 2 * k) 2) (m 1 1) := by
  rw [h1]
  refine ⟨hg.1.1, fun k k0 k1 => ?_⟩
  have := (hs k (by omega) k1).1
  dsimp only
  rw [this.1, this.2.1]
  exact hg.1.2 k k0 k1
theorem farF_c {nx hr nx' hr' : Int → Int} {n : Int} (hv : vroad nx hr n) (h : ∀ k, 1 ≤ k → k < n → nx' k = nx k ∧ hr' k = hr k) : ∀ (f : Nat) (x y : Int), 0 ≤ x → x < n → 0 ≤ y → y < n → farF nx' hr' f x y = farF nx hr f x y := by
  intro f
  induction f with
  | zero => intro x y _ _ _ _; rfl
  | succ f ih =>
    intro x y h1 h2 h3 h4
    unfold farF
    by_cases e : x = y
    · rw [if_pos e, if_pos e]
    · rw [if_neg e, if_neg e]
      by_cases q : y < x
      · have a := hv.2 x (by omega) h2
        rw [if_pos q, if_pos q, (h x (by omega) h2).1, (h x (by omega) h2).2, ih _ _ (by omega) (by omega) h3 h4]
      · have a := hv.2 y (by omega) h4
        rw [if_neg q, if_neg q, (h y (by omega) h4).1, (h y (by omega) h4).2, ih _ _ h1 h2 (by omega) (by omega)]
theorem s_hbG {a b : Int} (hg : LG g) (hs : SC g m) (h1 : m 1 1 = g 88 4) (ha : 0 ≤ a ∧ a < g 88 4) (hb : 0 ≤ b ∧ b < g 88 4) (K : Q [zI (farF (g 90) (g 91) 22 a b)] m) : zG Ω 47 0 [zR 7 (3 + 2 * a), zR 7 (3 + 2 * b), zU, zU, zU, zU] [] m Q := by
  refine s_hb (SC_road hg hs h1) ha.1 (by omega) hb.1 (by omega) ?_
  rw [farF_c hg.1 (fun k k0 k1 => ⟨(hs k (by omega) k1).1.1, (hs k (by omega) k1).1.2.1⟩) 22 a b ha.1 ha.2 hb.1 hb.2]
  exact K
theorem a_between {a b : Int} (hg : LG g) (hc : CS g m) (K : Q [zI (btA g a b)] m) : zG Ω 102 0 [zR 9 0, zI a, zI b] [] m Q := by
  have e1 := hc.1.1
  unfold btA at K
  refine w_X9_between_0 (b_has (fun h1 => b_has (fun h2 => ?_) fun h2 => ?_) fun h1 => ?_)
  · rw [e1] at h1 h2
    rw [if_neg (fun q => q ⟨h1, h2⟩)] at K
    have hS := hg.1.1
    exact s_stOf h1.1 (by omega) (by omega) (zk3_i (s_stOf h2.1 (by omega) (by omega) (zk3_i (s_hbG hg hc.2.2.2.2.1 e1 h1 h2 (zk1_i K)))))
  · rwa [if_pos (fun q => h2 (by rw [e1]; exact q.2))] at K
  · rwa [if_pos (fun q => h1 (by rw [e1]; exact q.1))] at K
theorem s_latest_8 {l k d x1 : Int} (hg : LG g) (hr : RGd g) (hs : SC g m) (h1 : m 1 1 = g 88 4) (hx : x1 = 30 + 6 * l + 1) (hn : NC (HG g) m 100) (hl : 0 ≤ l ∧ l < g 88 12) (hk : 0 ≤ k ∧ k < g 88 4) (hd : 0 ≤ d ∧ d ≤ 99) : ∀ n : Nat, (n : Int) ≤ d + 1 → Q [zI (knF g l k d n)] m → zG Ω 48 8 [zR 4 1, zR 12 x1, zR 7 (3 + 2 * k), zI d, zI (g 110 1), zI ((n : Int) - 1)] [] m Q := by
  have h110 := hr.2.2.1
  have hS := hg.1.1
  intro n
  induction n with
  | zero =>
    intro _ K
    exact w_X4_latestKnown_8 (zif (fun _ => K) fun h => absurd (show ((0 : Nat) : Int) - 1 < 0 by omega) h)
  | succ n ih =>
    intro hnd K
    have en : ((n + 1 : Nat) : Int) - 1 = n := by omega
    rw [en]
    have nl := (hn l n hl.1 hl.2 (by omega)).1
    have bl : LB (HG g) (dysA (HG g) (n + 1)) (6 * ((n + 1 : Nat) : Int)) (6 * ((n + 1 : Nat) : Int)) l := (dysA_BA (DG_vG (r := rwA g) (d := g 108) hg hr) (n + 1) (by omega)).1 l hl.1 hl.2
    unfold LB at bl
    have e97 : HG g 97 l = g 97 l := rfl
    have hh := (hg.2.2.2.2 l hl.1 hl.2).1
    have mb := mul_b (a := d - n) (b := g 110 1) (A := 99) (B := 99) (by omega) (by omega) (by omega) (by omega)
    refine w_X4_latestKnown_8 (zif (fun h => absurd h (by omega)) fun _ => zin_of (by omega) (by omega) ?_)
    rw [hx, nl]
    refine s_stOf (by omega) (by omega) (by omega) (zk3_i (s_hbG hg hs h1 (by omega) hk (zk1_i ?_)))
    rw [zw_i (x := d - n) (by omega) (by omega), zw_i (x := (d - n) * g 110 1) (by omega) (by omega), zw_i (x := (n : Int) + (-1)) (by omega) (by omega), ← hx]
    unfold knF at K
    refine zif (fun h => ?_) fun h => ?_
    · rw [if_neg (by omega)] at K
      exact ih (by omega) K
    · rwa [if_pos (by omega)] at K
theorem knF_b {l k d : Int} : ∀ n : Nat, knF g l k d n = -1 ∨ (0 ≤ knF g l k d n ∧ knF g l k d n < n) := by
  intro n
  induction n with
  | zero => exact Or.inl rfl
  | succ n ih =>
    unfold knF
    split <;> omega
theorem a_known {l k d w : Int} (hg : LG g) (hr : RGd g) (hrow : ∀ l, 0 ≤ l → l < g 88 12 → -1 ≤ g 108 l) (hc : CR g m) (K : ∀ m', FY m m' → CR g m' → Q [zI (knA g l k d w)] m') : zG Ω 116 0 [zR 9 0, zI l, zI k, zI d, zI w, zU, zU] [] m Q := by
  have hN := hg.2.2.1
  have e9 := hc.1.1.2.1
  have e1 := hc.1.1.1
  unfold knA at K
  have none : ¬ ((0 ≤ l ∧ l < g 88 12) ∧ (0 ≤ k ∧ k < g 88 4) ∧ (0 ≤ d ∧ d ≤ 99) ∧ (0 ≤ w ∧ w ≤ 1)) → Q [zI (-2)] m := fun h => by
    have K := K m FY_r hc
    rwa [if_pos h] at K
  refine w_X9_known_0 (b_hasLord (fun h1 => b_has (fun h2 => b_within (fun h3 => b_within (fun h4 => s_handC hg hr hrow hc.1 hc.2 fun m1 y1 c1 r1 _ => ?_) fun h4 => none fun q => h4 q.2.2.2) fun h3 => none fun q => h3 q.2.2.1) fun h2 => none fun q => h2 (by rw [e1]; exact q.2.1)) fun h1 => none fun q => h1 (by rw [e9]; exact q.1))
  rw [e9] at h1
  rw [e1] at h2
  have K := K m1 y1 ⟨c1, fun _ => r1⟩
  rw [if_neg (fun q => q ⟨h1, h2, h3, h4⟩)] at K
  show zin l 6 _
  have hS := hg.1.1
  have e1' := c1.1.1
  refine zin_of (by omega) (by omega) (s_stOf h2.1 (by omega) (by omega) (zk3_i ⟨by have := c1.2.1; omega, ?_⟩))
  rw [c1.2.2.1.1.2.1]
  refine w_X4_latestKnown_0 ?_
  rw [if_neg (by omega)]
  have key := s_latest_8 (Ω := Ω) (x1 := 30 + 6 * l + 1) (Q := fun r6 m6 => zk1 r6 fun v6 => if w = 0 then (Q [zI v6] m6) else (if v6 = (-1) then (Q [zI v6] m6) else (zin v6 100 (Q [zI (m6 (30 + 6 * l + 1) v6)] m6)))) hg hr c1.2.2.2.2.1 c1.1.1 rfl r1.2.1 h1 h2 h3 (d.toNat + 1) (by omega) (zk1_i ?_)
  · rw [show ((d.toNat + 1 : Nat) : Int) - 1 = d by omega] at key
    exact key
  · have kb := knF_b (g := g) (l := l) (k := k) (d := d) (d.toNat + 1)
    refine zif (fun z => ?_) fun z => zif (fun y => ?_) fun y => zin_of (by omega) (by omega) ?_
    · rwa [if_pos z] at K
    · rw [if_neg z, if_pos y] at K
      rwa [y]
    · rw [if_neg z, if_neg y] at K
      have n := (r1.2.1 l (knF g l k d (d.toNat + 1)).toNat h1.1 h1.2 (by omega)).1
      rw [show (((knF g l k d (d.toNat + 1)).toNat : Nat) : Int) = knF g l k d (d.toNat + 1) by omega] at n
      rw [n]; exact K
theorem a_wants {l w v : Int} (hg : LG g) (hc : CR g m) (K : ∀ m', FY m m' → CR g m' → Q [zI (waA g l w v)] m') : zG Ω 106 0 [zR 9 0, zI l, zI w, zI v] [] m Q := by
  have hN := hg.2.2.1
  have e9 := hc.1.1.2.1
  have hE := hc.1.2.1
  unfold waA at K
  have none : ¬ ((0 ≤ l ∧ l < g 88 12) ∧ (0 ≤ w ∧ w ≤ 3) ∧ (w = 3 → 0 ≤ v ∧ v ≤ 100)) → Q [zI (-1)] m := fun h => by
    have K := K m FY_r hc
    rwa [if_pos h] at K
  have fin : ∀ m1, FV (m 0 7) m m1 → FY m m1 ∧ CR g m1 := fun m1 f1 => ⟨FY_v hE f1, CR_v hg hE hc f1⟩
  refine w_X9_wants_0 (b_hasLord (fun h1 => ?_) fun h1 => none fun q => h1 (by rw [e9]; exact q.1))
  rw [e9] at h1
  rw [hc.1.1.2.2]
  refine zif (fun z => ⟨by omega, zin_of (by omega) (by omega) (s_letsG hg hE hc.1.2.2.1 hc.1.2.2.2.1 h1 fun m1 f1 => zk1_i ?_)⟩) fun z0 => zif (fun z => ⟨by omega, zin_of (by omega) (by omega) (s_coinsG (e := 1) hg hE hc.1.2.2.1 hc.1.2.2.2.1 h1 (by omega) (by omega) fun m1 f1 => zk1_i ?_)⟩) fun z1 => zif (fun z => ⟨by omega, zin_of (by omega) (by omega) (s_coinsG (e := 2) hg hE hc.1.2.2.1 hc.1.2.2.2.1 h1 (by omega) (by omega) fun m1 f1 => zk1_i ?_)⟩) fun z2 => zif (fun z => b_within (fun h4 => ⟨by omega, zin_of (by omega) (by omega) ?_⟩) fun h4 => none fun q => h4 (q.2.2 z)) fun z3 => none fun q => by omega
  · have K := K m1 (fin m1 f1).1 (fin m1 f1).2
    rw [if_neg (fun q => q ⟨h1, by omega, fun y => by omega⟩), if_pos z] at K
    unfold atA at K ⊢
    refine zif (fun q => ?_) fun q => ?_
    · rw [q] at K; exact K
    · split at K
      · rename_i x; rw [if_pos x] at q; exact absurd rfl q
      · exact K
  · have K := K m1 (fin m1 f1).1 (fin m1 f1).2
    rwa [if_neg (fun q => q ⟨h1, by omega, fun y => by omega⟩), if_neg z0, if_pos z] at K
  · have K := K m1 (fin m1 f1).1 (fin m1 f1).2
    rwa [if_neg (fun q => q ⟨h1, by omega, fun y => by omega⟩), if_neg z0, if_neg z1, if_pos z] at K
  · rw [hc.1.1.2.2]
    refine s_coinsG (e := 3) hg hE hc.1.2.2.1 hc.1.2.2.2.1 h1 h4 (by omega) fun m1 f1 => zk1_i ?_
    have K := K m1 (fin m1 f1).1 (fin m1 f1).2
    rwa [if_neg (fun q => q ⟨h1, by omega, fun y => h4⟩), if_neg z0, if_neg z1, if_neg z2] at K
theorem a_ahead {a b : Int} (hg : LG g) (hc : CR g m) (K : ∀ m', FY m m' → CR g m' → Q [zI (aoA g a b)] m') : zG Ω 107 0 [zR 9 0, zI a, zI b] [] m Q := by
  have hN := hg.2.2.1
  have e9 := hc.1.1.2.1
  have hE := hc.1.2.1
  unfold aoA at K
  have none : ¬ ((0 ≤ a ∧ a < g 88 12) ∧ (0 ≤ b ∧ b < g 88 12) ∧ ¬ a = b) → Q [zI (-1)] m := fun h => by
    have K := K m FY_r hc
    rwa [if_pos h] at K
  refine w_X9_ahead_0 (b_hasLord (fun h1 => b_hasLord (fun h2 => zif (fun z => none fun q => q.2.2 z) fun h3 => ⟨by omega, zin_of (by omega) (by omega) (zin_of (by omega) (by omega) ?_)⟩) fun h2 => none fun q => h2 (by rw [e9]; exact q.2.1)) fun h1 => none fun q => h1 (by rw [e9]; exact q.1))
  rw [e9] at h1 h2
  rw [hc.1.1.2.2]
  refine s_aheadG hg hE hc.1.2.2.1 hc.1.2.2.2.1 h1 h2 fun m1 f1 => zk1_i ?_
  have K := K m1 (FY_v hE f1) (CR_v hg hE hc f1)
  rw [if_neg (fun q => q ⟨h1, h2, h3⟩)] at K
  refine zif (fun z => ?_) fun z => ?_
  · rwa [if_pos z] at K
  · rwa [if_neg z] at K
end L2
