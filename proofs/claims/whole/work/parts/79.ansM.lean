/-! the reference's answers of the row at hand, of edicts, of the road -/
abbrev ngA (g : zM) (l d w : Int) : Int := if ¬ ((0 ≤ l ∧ l < g 88 12) ∧ (0 ≤ d ∧ d ≤ 99) ∧ (0 ≤ w ∧ w ≤ 4)) then -1 else if w = 0 then dysA (HG g) (d.toNat + 1) 130 l else if w = 1 then phA (HG g) (dysA (HG g) (d.toNat + 1)) l else if w = 2 then dysA (HG g) (d.toNat + 1) 134 l else if w = 3 then dysA (HG g) (d.toNat + 1) 132 l else dysA (HG g) (d.toNat + 1) 135 l
abbrev enA (g : zM) (l w : Int) : Int := if ¬ ((0 ≤ l ∧ l < g 88 12) ∧ (0 ≤ w ∧ w ≤ 5)) then -1 else if rwA g l = 0 then -1 else if w = 0 then SS g 137 l else if w = 1 then lateA g (SS g) l else if w = 2 then SS g 138 l else if w = 3 then fnA g l (lateA g (SS g) l) else if w = 4 then SS g 135 l + fnA g l (lateA g (SS g) l) else SS g 136 l
abbrev gnA (g : zM) (k w : Int) : Int := if ¬ ((1 ≤ k ∧ k < g 88 4) ∧ (0 ≤ w ∧ w ≤ 1)) then -1 else if w = 0 then SS g 140 k else SS g 141 k
def knF (g : zM) (l k d : Int) : Nat → Int
  | 0 => -1
  | n + 1 => if farF (g 90) (g 91) 22 (dysA (HG g) (n + 1) 130 l) k ≤ (d - n) * g 110 1 then n else knF g l k d n
abbrev knA (g : zM) (l k d w : Int) : Int := if ¬ ((0 ≤ l ∧ l < g 88 12) ∧ (0 ≤ k ∧ k < g 88 4) ∧ (0 ≤ d ∧ d ≤ 99) ∧ (0 ≤ w ∧ w ≤ 1)) then -2 else if w = 0 then knF g l k d (d.toNat + 1) else if knF g l k d (d.toNat + 1) = -1 then -1 else dysA (HG g) ((knF g l k d (d.toNat + 1)).toNat + 1) 130 l
abbrev waA (g : zM) (l w v : Int) : Int := if ¬ ((0 ≤ l ∧ l < g 88 12) ∧ (0 ≤ w ∧ w ≤ 3) ∧ (w = 3 → 0 ≤ v ∧ v ≤ 100)) then -1 else if w = 0 then atA g l else if w = 1 then wtA g l else if w = 2 then rmA g l else fnA g l v
abbrev aoA (g : zM) (a b : Int) : Int := if ¬ ((0 ≤ a ∧ a < g 88 12) ∧ (0 ≤ b ∧ b < g 88 12) ∧ ¬ a = b) then -1 else if ahG g a b = 0 then b else a
abbrev btA (g : zM) (a b : Int) : Int := if ¬ ((0 ≤ a ∧ a < g 88 4) ∧ (0 ≤ b ∧ b < g 88 4)) then -1 else farF (g 90) (g 91) 22 a b
theorem ceil_le {f w x : Int} (hf : 0 ≤ f ∧ f ≤ 440) (hw : 1 ≤ w ∧ w ≤ 99) : Int.tdiv (f + w - 1) w ≤ x ↔ f ≤ x * w := by
  rw [Int.tdiv_eq_ediv_of_nonneg (by omega)]
  constructor
  · intro h
    have h1 := Int.lt_mul_ediv_self_add (x := f + w - 1) (k := w) (by omega)
    have h2 : w * ((f + w - 1) / w) ≤ w * x := Int.mul_le_mul_of_nonneg_left h (by omega)
    rw [Int.mul_comm x w]
    omega
  · intro h
    have : (f + w - 1) / w < x + 1 := Int.ediv_lt_of_lt_mul (by omega) (by rw [Int.add_mul]; omega)
    omega
section L2
variable {Ω : zΩ} {Q : List zV → zM → Prop} {g m : zM}
theorem s_nightM {l d w : Int} (hg : LG g) (hw : EW g) (hr : RGd g) (hp : PG g m) (K : ∀ m', FQ m m' → Q [zI (ngA g l d w)] m') : zG Ω 191 0 [zR 10 88, zI l, zI d, zI w] [] m Q := by
  have hN := hg.2.2.1
  have f0 : FQ m (zup m 88 2 0) := FQ_u FQ_r (by omega)
  have e12 : zup m 88 2 0 88 12 = g 88 12 := hp 88 12 (by unfold prA; omega)
  have none : ¬ ((0 ≤ l ∧ l < g 88 12) ∧ (0 ≤ d ∧ d ≤ 99) ∧ (0 ≤ w ∧ w ≤ 4)) → Q [zI (-1)] (zup m 88 2 0) := fun h => by
    have K := K _ f0
    unfold ngA at K
    rwa [if_pos h] at K
  refine w_X10_night_0 (b_isLord (fun h1 => b_isIn (fun h2 => b_isIn (fun h3 => ?_) fun h3 => none fun q => h3 q.2.2) fun h2 => none fun q => h2 q.2.1) fun h1 => none fun q => h1 (by rw [e12]; exact q.1))
  rw [e12] at h1
  refine s_atHand hg hw hr (PG_q hp f0) fun m1 f1 p1 _ _ _ n1 _ => ?_
  have nl := n1 l d.toNat h1.1 h1.2 (by omega)
  unfold NL at nl
  rw [show ((d.toNat : Nat) : Int) = d by omega] at nl
  have ei : zw (zw (zw (500 * l) + zw (5 * d)) + w) = 500 * l + 5 * d + w := by
    rw [zw_i (x := 500 * l) (by omega) (by omega), zw_i (x := 5 * d) (by omega) (by omega), zw_i (x := 500 * l + 5 * d) (by omega) (by omega), zw_i (by omega) (by omega)]
  show zin (zw (zw (zw (500 * l) + zw (5 * d)) + w)) 3000 _
  rw [ei]
  refine zin_of (by omega) (by omega) ?_
  have K := K m1 (FQ_t f0 f1)
  unfold ngA at K
  rw [if_neg (fun q => q ⟨h1, h2, h3⟩)] at K
  have hc : w = 0 ∨ w = 1 ∨ w = 2 ∨ w = 3 ∨ w = 4 := by omega
  rcases hc with z | z | z | z | z
  · subst z
    rw [if_pos rfl] at K
    rw [Int.add_zero, nl.1]; exact K
  · subst z
    rw [if_neg (by decide), if_pos rfl] at K
    rw [nl.2.1]; exact K
  · subst z
    rw [if_neg (by decide), if_neg (by decide), if_pos rfl] at K
    rw [nl.2.2.1]; exact K
  · subst z
    rw [if_neg (by decide), if_neg (by decide), if_neg (by decide), if_pos rfl] at K
    rw [nl.2.2.2.1]; exact K
  · subst z
    rw [if_neg (by decide), if_neg (by decide), if_neg (by decide), if_neg (by decide)] at K
    rw [nl.2.2.2.2]; exact K
theorem s_endM {l w : Int} (hg : LG g) (hw : EW g) (hr : RGd g) (hp : PG g m) (K : ∀ m', FQ m m' → Q [zI (enA g l w)] m') : zG Ω 192 0 [zR 10 88, zI l, zI w, zU] [] m Q := by
  have hN := hg.2.2.1
  have f0 : FQ m (zup m 88 2 0) := FQ_u FQ_r (by omega)
  have e12 : zup m 88 2 0 88 12 = g 88 12 := hp 88 12 (by unfold prA; omega)
  have none : ¬ ((0 ≤ l ∧ l < g 88 12) ∧ (0 ≤ w ∧ w ≤ 5)) → Q [zI (-1)] (zup m 88 2 0) := fun h => by
    have K := K _ f0
    unfold enA at K
    rwa [if_pos h] at K
  refine w_X10_end_0 (b_isLord (fun h1 => b_isIn (fun h3 => ?_) fun h3 => none fun q => h3 q.2) fun h1 => none fun q => h1 (by rw [e12]; exact q.1))
  rw [e12] at h1
  unfold enA at K
  rw [if_neg (fun q => q ⟨h1, h3⟩)] at K
  refine s_atHand hg hw hr (PG_q hp f0) fun m1 f1 p1 x1 _ _ _ r1 => ?_
  have f1 := FQ_t f0 f1
  show zin l 6 _
  refine zin_of (by omega) (by omega) ?_
  rw [r1 l h1.1 h1.2]
  refine zif (fun q => ?_) fun q => ?_
  · have K := K m1 f1
    rwa [if_pos q] at K
  · rw [if_neg q] at K
    refine s_late hg hr p1 x1 h1 fun hlt => zk1_i (s_fineOf hg hw h1 hlt p1 fun m2 f2 => zk1_i ?_)
    have K := K m2 (FQ_t f1 (FQ_e f2))
    have x2 := RX_eq x1 (fun x j a b _ => f2 x j (by omega)) (s' := SS g) fun _ _ _ _ _ => rfl
    have rl := x2.1 l h1.1 h1.2
    unfold RLm at rl
    have p2 := PG_e p1 f2
    have bl := (SS_BA hg hr).1 l h1.1 h1.2
    unfold LB at bl
    have fb := coA_b (vl g 3 (fA g l (lateA g (SS g) l)))
    have e97 : HG g 97 l = g 97 l := rfl
    have hh := hg.2.2.2.2 l h1.1 h1.2
    refine zif (fun z => zin_of (by omega) (by omega) ?_) fun z0 => zif (fun z => s_late hg hr p2 x2 h1 fun _ => zk1_i ?_) fun z1 => zif (fun z => zin_of (by omega) (by omega) ?_) fun z2 => zif (fun z => ?_) fun z3 => zif (fun z => zin_of (by omega) (by omega) ?_) fun z4 => zin_of (by omega) (by omega) ?_
    · rw [if_pos z] at K; rw [rl.2.2.2.2.2.1]; exact K
    · rw [if_neg z0, if_pos z] at K; exact K
    · rw [if_neg z0, if_neg z1, if_pos z] at K; rw [rl.2.2.2.2.2.2]; exact K
    · rw [if_neg z0, if_neg z1, if_neg z2, if_pos z] at K; exact K
    · rw [if_neg z0, if_neg z1, if_neg z2, if_neg z3, if_pos z] at K
      rw [rl.2.2.2.1, zw_i (by unfold fnA; omega) (by unfold fnA; omega)]; exact K
    · rw [if_neg z0, if_neg z1, if_neg z2, if_neg z3, if_neg z4] at K
      rw [rl.2.2.2.2.1]; exact K
theorem s_givenM {k w : Int} (hg : LG g) (hw : EW g) (hr : RGd g) (hp : PG g m) (K : ∀ m', FQ m m' → Q [zI (gnA g k w)] m') : zG Ω 193 0 [zR 10 88, zI k, zI w] [] m Q := by
  have hS := hg.1.1
  have f0 : FQ m (zup m 88 2 0) := FQ_u FQ_r (by omega)
  have e4 : m 88 4 = g 88 4 := hp 88 4 (by unfold prA; omega)
  have none : ¬ ((1 ≤ k ∧ k < g 88 4) ∧ (0 ≤ w ∧ w ≤ 1)) → Q [zI (-1)] (zup m 88 2 0) := fun h => by
    have K := K _ f0
    unfold gnA at K
    rwa [if_pos h] at K
  refine w_X10_given_0 ?_
  rw [e4]
  refine zif (fun h => none fun q => by omega) fun h1 => zif (fun h2 => b_isIn (fun h3 => ?_) fun h3 => none fun q => h3 q.2) fun h2 => none fun q => h2 q.1.2
  unfold gnA at K
  rw [if_neg (fun q => q ⟨⟨by omega, h2⟩, h3⟩)] at K
  refine s_atHand hg hw hr (PG_q hp f0) fun m1 f1 p1 _ _ g1 _ _ => ?_
  have K := K m1 (FQ_t f0 f1)
  have gk := g1 k (by omega) h2
  show if w = 0 then _ else _
  refine zif (fun z => zin_of (by omega) (by omega) ?_) fun z => zin_of (by omega) (by omega) ?_
  · rw [if_pos z] at K; rw [gk.1]; exact K
  · rw [if_neg z] at K; rw [gk.2]; exact K
theorem s_known_51 {l k d w : Int} (hg : LG g) (hr : RGd g) (hp : PG g m) (hn : NM (HG g) m 100) (hl : 0 ≤ l ∧ l < g 88 12) (hk : 0 ≤ k ∧ k < g 88 4) (hd : 0 ≤ d ∧ d ≤ 99) (hK : 0 ≤ w ∧ w ≤ 1) : ∀ n : Nat, (n : Int) ≤ d + 1 → Q [zI (if w = 0 then knF g l k d n else if knF g l k d n = -1 then -1 else dysA (HG g) ((knF g l k d n).toNat + 1) 130 l)] m → zG Ω 198 51 [zR 10 88, zI l, zI k, zI d, zI w, zI ((n : Int) - 1), zU, zU] [] m Q := by
  have hN := hg.2.2.1
  have hS := hg.1.1
  have h110 := hr.2.2.1
  intro n
  induction n with
  | zero =>
    intro _ K
    refine w_X10_known_51 (zif (fun _ => ?_) fun h => absurd (show ((0 : Nat) : Int) - 1 < 0 by omega) h)
    unfold knF at K
    rw [if_pos rfl, ite_self] at K
    exact K
  | succ n ih =>
    intro hnd K
    have en : ((n + 1 : Nat) : Int) - 1 = n := by omega
    rw [en]
    have nl := (hn l n hl.1 hl.2 (by omega)).1
    have ei : zw (zw (500 * l) + zw (5 * (n : Int))) = 500 * l + 5 * n := by
      rw [zw_i (x := 500 * l) (by omega) (by omega), zw_i (x := 5 * (n : Int)) (by omega) (by omega), zw_i (by omega) (by omega)]
    have e90 : m 90 = g 90 := by funext j; exact hp 90 j (by unfold prA; omega)
    have e91 : m 91 = g 91 := by funext j; exact hp 91 j (by unfold prA; omega)
    have e4 : m 88 4 = g 88 4 := hp 88 4 (by unfold prA; omega)
    have e1 : m 110 1 = g 110 1 := hp 110 1 (by unfold prA; omega)
    have bl := (dysA_BA (DG_vG (r := rwA g) (d := g 108) hg hr) (n + 1) (by omega)).1 l hl.1 hl.2
    have bl : LB (HG g) (dysA (HG g) (n + 1)) (6 * ((n + 1 : Nat) : Int)) (6 * ((n + 1 : Nat) : Int)) l := bl
    unfold LB at bl
    have e97 : HG g 97 l = g 97 l := rfl
    have hh := (hg.2.2.2.2 l hl.1 hl.2).1
    refine w_X10_known_51 (zif (fun h => absurd h (by omega)) fun _ => ?_)
    rw [ei, nl]
    refine zin_of (by omega) (by omega) (s_far (by rw [e90, e91, e4]; exact hg.1) (by omega) (by omega) hk.1 (by omega) (zk1_i ?_))
    rw [e90, e91, e1]
    have fb := farF_b hg.1 22 (dysA (HG g) (n + 1) 130 l) k (by omega) (by omega) hk.1 hk.2
    unfold knF at K
    generalize farF (g 90) (g 91) 22 (dysA (HG g) (n + 1) 130 l) k = F at *
    have cl := ceil_le (f := F) (w := g 110 1) (x := d - n) (by omega) (by omega)
    have tb : 0 ≤ Int.tdiv (F + g 110 1 - 1) (g 110 1) ∧ Int.tdiv (F + g 110 1 - 1) (g 110 1) ≤ 1000 := by
      rw [Int.tdiv_eq_ediv_of_nonneg (by omega)]
      exact ⟨Int.ediv_nonneg (by omega) (by omega), Int.le_trans (Int.ediv_le_self _ (by omega)) (by omega)⟩
    refine zdv_of (by omega) ?_
    rw [zw_i (x := F + g 110 1) (by omega) (by omega), zw_i (x := F + g 110 1 - 1) (by omega) (by omega), zw_i (x := Int.tdiv (F + g 110 1 - 1) (g 110 1)) (by omega) (by omega), zw_i (x := (n : Int) + Int.tdiv (F + g 110 1 - 1) (g 110 1)) (by omega) (by omega), zw_i (x := (n : Int) + (-1)) (by omega) (by omega)]
    refine zif (fun h => ?_) fun h => ?_
    · have hneg : ¬ F ≤ (d - n) * g 110 1 := fun q => by have := cl.mpr q; omega
      rw [if_neg hneg] at K
      exact ih (by omega) K
    · have hpos : F ≤ (d - n) * g 110 1 := cl.mp (by omega)
      rw [if_pos hpos] at K
      refine zif (fun z => ?_) fun z => ?_
      · rw [if_pos z] at K; exact K
      · rw [if_neg z, if_neg (by omega), show ((n : Int)).toNat = n by omega] at K; exact K
theorem s_knownM {l k d w : Int} (hg : LG g) (hw : EW g) (hr : RGd g) (hp : PG g m) (K : ∀ m', FQ m m' → Q [zI (knA g l k d w)] m') : zG Ω 198 0 [zR 10 88, zI l, zI k, zI d, zI w, zU, zU, zU] [] m Q := by
  have f0 : FQ m (zup m 88 2 0) := FQ_u FQ_r (by omega)
  have e12 : zup m 88 2 0 88 12 = g 88 12 := hp 88 12 (by unfold prA; omega)
  have e4 : zup m 88 2 0 88 4 = g 88 4 := hp 88 4 (by unfold prA; omega)
  have none : ¬ ((0 ≤ l ∧ l < g 88 12) ∧ (0 ≤ k ∧ k < g 88 4) ∧ (0 ≤ d ∧ d ≤ 99) ∧ (0 ≤ w ∧ w ≤ 1)) → Q [zI (-2)] (zup m 88 2 0) := fun h => by
    have K := K _ f0
    unfold knA at K
    rwa [if_pos h] at K
  refine w_X10_known_0 (b_isLord (fun h1 => b_isStation (fun h2 => b_isIn (fun h3 => b_isIn (fun h4 => ?_) fun h4 => none fun q => h4 q.2.2.2) fun h3 => none fun q => h3 q.2.2.1) fun h2 => none fun q => h2 (by rw [e4]; exact q.2.1)) fun h1 => none fun q => h1 (by rw [e12]; exact q.1))
  rw [e12] at h1
  rw [e4] at h2
  unfold knA at K
  rw [if_neg (fun q => q ⟨h1, h2, h3, h4⟩)] at K
  refine s_atHand hg hw hr (PG_q hp f0) fun m1 f1 p1 _ _ _ n1 _ => ?_
  show zG Ω 198 51 _ _ _ _
  have := s_known_51 (Ω := Ω) (Q := Q) (w := w) hg hr p1 n1 h1 h2 h3 h4 (d.toNat + 1) (by omega) (K m1 (FQ_t f0 f1))
  rw [show ((d.toNat + 1 : Nat) : Int) - 1 = d by omega] at this
  exact this
theorem s_wantsM {l w v : Int} (hg : LG g) (hw : EW g) (hp : PG g m) (K : ∀ m', FQ m m' → Q [zI (waA g l w v)] m') : zG Ω 174 0 [zR 10 88, zI l, zI w, zI v] [] m Q := by
  have f0 : FQ m (zup m 88 2 0) := FQ_u FQ_r (by omega)
  have e12 : zup m 88 2 0 88 12 = g 88 12 := hp 88 12 (by unfold prA; omega)
  have p0 := PG_q hp f0
  have none : ¬ ((0 ≤ l ∧ l < g 88 12) ∧ (0 ≤ w ∧ w ≤ 3) ∧ (w = 3 → 0 ≤ v ∧ v ≤ 100)) → Q [zI (-1)] (zup m 88 2 0) := fun h => by
    have K := K _ f0
    unfold waA at K
    rwa [if_pos h] at K
  refine w_X10_wants_0 (b_isLord (fun h1 => zif (fun h => none fun q => by omega) fun h2 => zif (fun h => none fun q => by omega) fun h3 => zif (fun z => b_isIn (fun h4 => ?_) fun h4 => none fun q => h4 (q.2.2 z)) fun z => ?_) fun h1 => none fun q => h1 (by rw [e12]; exact q.1))
  · rw [e12] at h1
    unfold waA at K
    rw [if_neg (fun q => q ⟨h1, by omega, fun _ => h4⟩), if_neg (by omega), if_neg (by omega), if_neg (by omega)] at K
    refine zif (fun y => absurd y (by omega)) fun _ => zif (fun y => absurd y (by omega)) fun _ => zif (fun y => absurd y (by omega)) fun _ => s_fineOf hg hw h1 h4 p0 fun m1 f1 => zk1_i (K m1 (FQ_t f0 (FQ_e f1)))
  · rw [e12] at h1
    unfold waA at K
    rw [if_neg (fun q => q ⟨h1, by omega, fun y => absurd y z⟩)] at K
    refine zif (fun y => s_attends hg hw h1 p0 fun m1 f1 => zk1_i ?_) fun y0 => zif (fun y => s_bearersOf hg hw h1 p0 fun m1 f1 => zk1_i ?_) fun y1 => zif (fun y => s_roomOf hg hw h1 p0 fun m1 f1 => zk1_i ?_) fun y2 => absurd h3 (by omega)
    · have K := K m1 (FQ_t f0 (FQ_e f1))
      rw [if_pos y] at K
      unfold atA at K ⊢
      refine zif (fun q => ?_) fun q => ?_
      · rw [q] at K; exact K
      · split at K
        · rename_i x; rw [if_pos x] at q; exact absurd rfl q
        · exact K
    · have K := K m1 (FQ_t f0 (FQ_e f1))
      rwa [if_neg y0, if_pos y] at K
    · have K := K m1 (FQ_t f0 (FQ_e f1))
      rwa [if_neg y0, if_neg y1, if_pos y] at K
theorem s_aheadM {a b : Int} (hg : LG g) (hw : EW g) (hp : PG g m) (K : ∀ m', FQ m m' → Q [zI (aoA g a b)] m') : zG Ω 176 0 [zR 10 88, zI a, zI b] [] m Q := by
  have f0 : FQ m (zup m 88 2 0) := FQ_u FQ_r (by omega)
  have e12 : zup m 88 2 0 88 12 = g 88 12 := hp 88 12 (by unfold prA; omega)
  have none : ¬ ((0 ≤ a ∧ a < g 88 12) ∧ (0 ≤ b ∧ b < g 88 12) ∧ ¬ a = b) → Q [zI (-1)] (zup m 88 2 0) := fun h => by
    have K := K _ f0
    unfold aoA at K
    rwa [if_pos h] at K
  refine w_X10_ahead_0 (b_isLord (fun h1 => b_isLord (fun h2 => zif (fun h => none fun q => q.2.2 h) fun h3 => ?_) fun h2 => none fun q => h2 (by rw [e12]; exact q.2.1)) fun h1 => none fun q => h1 (by rw [e12]; exact q.1))
  rw [e12] at h1 h2
  unfold aoA at K
  rw [if_neg (fun q => q ⟨h1, h2, h3⟩)] at K
  refine s_isAhead hg hw h1 h2 (PG_q hp f0) fun m1 f1 => zk1_i ?_
  have K := K m1 (FQ_t f0 (FQ_e f1))
  refine zif (fun z => ?_) fun z => ?_
  · rwa [if_pos z] at K
  · rwa [if_neg z] at K
theorem s_betweenM {a b : Int} (hg : LG g) (hp : PG g m) (K : ∀ m', FQ m m' → Q [zI (btA g a b)] m') : zG Ω 132 0 [zR 10 88, zI a, zI b] [] m Q := by
  have f0 : FQ m (zup m 88 2 0) := FQ_u FQ_r (by omega)
  have p0 := PG_q hp f0
  have e4 : zup m 88 2 0 88 4 = g 88 4 := hp 88 4 (by unfold prA; omega)
  have none : ¬ ((0 ≤ a ∧ a < g 88 4) ∧ (0 ≤ b ∧ b < g 88 4)) → Q [zI (-1)] (zup m 88 2 0) := fun h => by
    have K := K _ f0
    unfold btA at K
    rwa [if_pos h] at K
  refine w_X10_between_0 (b_isStation (fun h1 => b_isStation (fun h2 => ?_) fun h2 => none fun q => h2 (by rw [e4]; exact q.2)) fun h1 => none fun q => h1 (by rw [e4]; exact q.1))
  rw [e4] at h1 h2
  have K := K _ f0
  unfold btA at K
  rw [if_neg (fun q => q ⟨h1, h2⟩)] at K
  have e90 : zup m 88 2 0 90 = g 90 := by funext j; exact p0 90 j (by unfold prA; omega)
  have e91 : zup m 88 2 0 91 = g 91 := by funext j; exact p0 91 j (by unfold prA; omega)
  refine s_far (by rw [e90, e91, e4]; exact hg.1) h1.1 (by rw [e4]; exact h1.2) h2.1 (by rw [e4]; exact h2.2) (zk1_i ?_)
  rw [e90, e91]
  exact K
end L2
