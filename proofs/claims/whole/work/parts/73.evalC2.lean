/-- an expression's code in the class's edicts E -/
def cdC (m : zM) (E w : Int) : Prop := (0 ≤ m (E + 3) (w - 7) ∧ m (E + 3) (w - 7) ≤ m (E + 4) (w - 7) ∧ m (E + 4) (w - 7) ≤ 112) ∧ ∀ q, m (E + 3) (w - 7) ≤ q → q < m (E + 4) (w - 7) → (sdA (m (E + 1) q) ∨ (21 ≤ m (E + 1) q ∧ m (E + 1) q ≤ 35)) ∧ (m (E + 1) q = 2 → bdA (m (E + 2) q))
def vC (m : zM) (E w : Int) (f : Int → Int) : Int := evA (m (E + 1)) (m (E + 2)) f (m (E + 4) (w - 7) - m (E + 3) (w - 7)).toNat (m (E + 3) (w - 7)) []
/-- nothing but the row of values has changed -/
def FV (E : Int) (m m' : zM) : Prop := ∀ x j, ¬ x = E + 5 → m' x j = m x j
theorem FV_r {E : Int} {m : zM} : FV E m m := fun _ _ _ => rfl
theorem FV_t {E : Int} {m m' m'' : zM} (a : FV E m m') (b : FV E m' m'') : FV E m m'' := fun x j h => (b x j h).trans (a x j h)
theorem FV_row {E : Int} {m m' : zM} (a : FV E m m') {x : Int} (h : ¬ x = E + 5) : m' x = m x := by
  funext j
  exact a x j h
theorem cdC_f {E w : Int} {m m' : zM} (h : cdC m E w) (a : FV E m m') : cdC m' E w := by
  unfold cdC at h ⊢
  rw [FV_row a (x := E + 3) (by omega), FV_row a (x := E + 4) (by omega), FV_row a (x := E + 1) (by omega), FV_row a (x := E + 2) (by omega)]
  exact h
theorem vC_f {E w : Int} {m m' : zM} {f : Int → Int} (a : FV E m m') : vC m' E w f = vC m E w f := by
  unfold vC
  rw [FV_row a (x := E + 3) (by omega), FV_row a (x := E + 4) (by omega), FV_row a (x := E + 1) (by omega), FV_row a (x := E + 2) (by omega)]
theorem evA_f {sg nm f f' : Int → Int} (h : ∀ c, 12 ≤ c → c ≤ 20 → f' c = f c) : ∀ (n : Nat) (p : Int) (st : List Int), evA sg nm f' n p st = evA sg nm f n p st := by
  intro n
  induction n with
  | zero =>
    intro p st
    cases st with
    | nil => rfl
    | cons a t => cases t <;> rfl
  | succ n ih =>
    intro p st
    by_cases h1 : sdA (sg p)
    · rw [evA_s h1, evA_s h1, ih]
      by_cases h2 : sg p = 2
      · rw [if_pos h2, if_pos h2]
      · rw [if_neg h2, if_neg h2, h _ (by unfold sdA at h1; omega) (by unfold sdA at h1; omega)]
    · by_cases h2 : sg p = 23 ∨ sg p = 35
      · cases st with
        | nil => rw [evA_u0 h2, evA_u0 h2]
        | cons a t => rw [evA_u h2, evA_u h2, ih]
      · cases st with
        | nil => rw [evA_b0 h1 h2, evA_b0 h1 h2]
        | cons a t =>
          cases t with
          | nil => rw [evA_b1 h1 h2, evA_b1 h1 h2]
          | cons b t => rw [evA_b h1 h2, evA_b h1 h2, ih]
def coA (v : Int) : Int := if v < 0 then 0 else if 9999 < v then 9999 else v
theorem coA_b (v : Int) : 0 ≤ coA v ∧ coA v ≤ 9999 := by unfold coA; split <;> (try split) <;> omega
/-- who is ahead: u, v the values of a, b; t if all are alike -/
def ahA (u v : Int → Int) (t : Int) : Nat → Int → Int
  | 0, _ => t
  | n + 1, k => if u k = v k then ahA u v t n (k + 1) else if u k < v k then 1 else 0
section L2
variable {Ω : zΩ} {Q : List zV → zM → Prop}
theorem s_work {m : zM} {E w x2 y lt : Int} {f : Int → Int} (hE : E = 76 ∨ E = 82) (hx : 29 ≤ x2 ∧ x2 ≤ 59) (hw : 7 ≤ w ∧ w ≤ 13) (hf : ∀ c, 12 ≤ c → c ≤ 20 → fcC m x2 y lt c = f c) (hfb : ∀ c, 12 ≤ c → c ≤ 20 → bdA (f c)) (hc : cdC m E w) (K : ∀ m', FV E m m' → Q [zL (vC m E w f)] m') : zG Ω 11 0 [zR 0 E, zI w, zR 1 x2, zI y, zI lt, zU, zU, zU, zU, zU] [] m Q := by
  refine w_X0_work_0 (w_X0_isPlace_0 (zif (fun h => absurd h (by omega)) fun _ => zif (fun _ => zk1_t ?_) fun h => absurd (show w < 14 by omega) h))
  rw [zw_i (x := w - 7) (by omega) (by omega)]
  refine zin_of (by omega) (by omega) ?_
  have := s_work_23 (Ω := Ω) (Q := Q) (sg := m (E + 1)) (nm := m (E + 2)) (f := f) (y := y) (lt := lt) hE hx hw hfb (m (E + 4) (w - 7) - m (E + 3) (w - 7)).toNat (m (E + 3) (w - 7)) [] m (fun _ => rfl) (fun _ => rfl) hf (by have := hc.1; omega) hc.1.1 (by have := hc.1; omega) (by have := hc.1; simp only [List.length_nil]; omega) trivial (fun a ha => by cases ha) (fun q q0 q1 => hc.2 q q0 (by have := hc.1; omega)) K
  exact this
theorem s_lets {m : zM} {E x2 y : Int} {f : Int → Int} (hE : E = 76 ∨ E = 82) (hx : 29 ≤ x2 ∧ x2 ≤ 59) (hf : ∀ c, 12 ≤ c → c ≤ 20 → fcC m x2 y 0 c = f c) (hfb : ∀ c, 12 ≤ c → c ≤ 20 → bdA (f c)) (hc : cdC m E 7) (K : ∀ m', FV E m m' → Q [zI (if vC m E 7 f = 0 then 0 else 1)] m') : zG Ω 8 0 [zR 0 E, zR 1 x2, zI y] [] m Q := by
  refine w_X0_lets_0 (s_work hE hx (by omega) hf hfb hc fun m' a => ?_)
  have K := K m' a
  refine zk2_i ?_
  simp only [zcmp_e]
  refine zif (fun h => ?_) fun h => ?_
  · rwa [if_pos h] at K
  · rwa [if_neg h] at K
theorem s_coins {m : zM} {E w x2 y lt : Int} {f : Int → Int} (hE : E = 76 ∨ E = 82) (hx : 29 ≤ x2 ∧ x2 ≤ 59) (hw : 7 ≤ w ∧ w ≤ 13) (hf : ∀ c, 12 ≤ c → c ≤ 20 → fcC m x2 y lt c = f c) (hfb : ∀ c, 12 ≤ c → c ≤ 20 → bdA (f c)) (hc : cdC m E w) (K : ∀ m', FV E m m' → Q [zI (coA (vC m E w f))] m') : zG Ω 9 0 [zR 0 E, zI w, zR 1 x2, zI y, zI lt] [] m Q := by
  refine w_X0_coins_0 (s_work hE hx hw hf hfb hc fun m' a => zk2_i ?_)
  have K := K m' a
  generalize vC m E w f = v at K
  have e : zw (if (if v < 9999 then v else 9999) < 0 then 0 else (if v < 9999 then v else 9999)) = coA v := by
    unfold coA
    by_cases h1 : v < 9999
    · rw [if_pos h1]
      by_cases h2 : v < 0
      · rw [if_pos h2, if_pos h2]; rfl
      · rw [if_neg h2, if_neg h2, if_neg (by omega), zw_i (by omega) (by omega)]
    · rw [if_neg h1, if_neg (by decide), if_neg (by omega)]
      by_cases h2 : 9999 < v
      · rw [if_pos h2]; rfl
      · rw [if_neg h2, show v = 9999 by omega]; rfl
  rw [e]
  exact K
theorem s_ahead_3 {E x1 x2 y : Int} {f1 f2 : Int → Int} (hE : E = 76 ∨ E = 82) (hx1 : 29 ≤ x1 ∧ x1 ≤ 59) (hx2 : 29 ≤ x2 ∧ x2 ≤ 59) (hb1 : ∀ c, 12 ≤ c → c ≤ 20 → bdA (f1 c)) (hb2 : ∀ c, 12 ≤ c → c ≤ 20 → bdA (f2 c)) : ∀ (n : Nat) (k : Int) (m : zM), m E 12 = k + n → 0 ≤ k → k + n ≤ 3 → (∀ c, 12 ≤ c → c ≤ 20 → fcC m x1 y 0 c = f1 c) → (∀ c, 12 ≤ c → c ≤ 20 → fcC m x2 y 0 c = f2 c) → (∀ j, k ≤ j → j < k + n → cdC m E (11 + j)) → (∀ m', FV E m m' → Q [zI (ahA (fun j => vC m E (11 + j) f1) (fun j => vC m E (11 + j) f2) (zb (m x1 0 < m x2 0)) n k)] m') → zG Ω 10 3 [zR 0 E, zR 1 x1, zR 1 x2, zI y, zI k, zU, zU, zU, zU] [] m Q := by
  intro n
  induction n with
  | zero =>
    intro k m h12 h0 h1 hf1 hf2 hc K
    have K := K m FV_r
    unfold ahA at K
    refine w_X0_putsAhead_3 (zif (fun h => absurd h (by omega)) fun _ => zif (fun h => ?_) fun h => ?_)
    · rwa [zb_t h] at K
    · rwa [zb_f h] at K
  | succ n ih =>
    intro k m h12 h0 h1 hf1 hf2 hc K
    refine w_X0_putsAhead_3 (zif (fun _ => ?_) fun h => absurd (show k < m E 12 by omega) h)
    rw [zw_i (x := 11 + k) (by omega) (by omega), zw_i (x := k + 1) (by omega) (by omega)]
    refine s_work hE hx1 (by omega) hf1 hb1 (hc k (by omega) (by omega)) fun m1 a1 => zk2_i (s_work hE hx2 (by omega) (fun c c0 c1 => by rw [fcC_eq (fun j => a1 x2 j (by omega))]; exact hf2 c c0 c1) hb2 (cdC_f (hc k (by omega) (by omega)) a1) fun m2 a2 => zk2_i ?_)
    have a := FV_t a1 a2
    rw [vC_f a1]
    simp only [zcmp_e, zcmp_l]
    unfold ahA at K
    refine zif (fun h => ?_) fun h => ?_
    · rw [if_pos h] at K
      refine ih (k + 1) m2 (by rw [a E 12 (by omega)]; omega) (by omega) (by omega) (fun c c0 c1 => by rw [fcC_eq (fun j => a x1 j (by omega))]; exact hf1 c c0 c1) (fun c c0 c1 => by rw [fcC_eq (fun j => a x2 j (by omega))]; exact hf2 c c0 c1) (fun j j0 j1 => cdC_f (hc j (by omega) (by omega)) a) fun m' a' => ?_
      simp only [vC_f a]
      rw [a x1 0 (by omega), a x2 0 (by omega)]
      exact K m' (FV_t a a')
    · rw [if_neg h] at K
      refine zif (fun h2 => ?_) fun h2 => ?_
      · rw [if_pos h2] at K; exact K m2 a
      · rw [if_neg h2] at K; exact K m2 a
theorem s_putsAhead {m : zM} {E x1 x2 y : Int} {f1 f2 : Int → Int} (hE : E = 76 ∨ E = 82) (hx1 : 29 ≤ x1 ∧ x1 ≤ 59) (hx2 : 29 ≤ x2 ∧ x2 ≤ 59) (hb1 : ∀ c, 12 ≤ c → c ≤ 20 → bdA (f1 c)) (hb2 : ∀ c, 12 ≤ c → c ≤ 20 → bdA (f2 c)) (h12 : 1 ≤ m E 12 ∧ m E 12 ≤ 3) (hf1 : ∀ c, 12 ≤ c → c ≤ 20 → fcC m x1 y 0 c = f1 c) (hf2 : ∀ c, 12 ≤ c → c ≤ 20 → fcC m x2 y 0 c = f2 c) (hc : ∀ j, 0 ≤ j → j < m E 12 → cdC m E (11 + j)) (K : ∀ m', FV E m m' → Q [zI (ahA (fun j => vC m E (11 + j) f1) (fun j => vC m E (11 + j) f2) (zb (m x1 0 < m x2 0)) (m E 12).toNat 0)] m') : zG Ω 10 0 [zR 0 E, zR 1 x1, zR 1 x2, zI y, zU, zU, zU, zU, zU] [] m Q :=
  w_X0_putsAhead_0 (s_ahead_3 hE hx1 hx2 hb1 hb2 (m E 12).toNat 0 m (by omega) (by omega) (by omega) hf1 hf2 (fun j j0 j1 => hc j j0 (by omega)) K)
end L2
