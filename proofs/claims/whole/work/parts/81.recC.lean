/-! the class's record of the row at hand -/
theorem sumA_add {f h : Int → Int} : ∀ n : Nat, sumA f n + sumA h n = sumA (fun j => f j + h j) n := by
  intro n
  induction n with
  | zero => rfl
  | succ n ih =>
    unfold sumA
    rw [← ih]
    omega
/-- who doesn't run stays as he was -/
theorem hopA_oo {g s : zM} {l l' : Int} (h : ¬ l' = l) : hopA g s l 135 l' = s 135 l' := by simp [hopA, h]
theorem hopsA_oo {g : zM} {l l' : Int} (h : ¬ l' = l) : ∀ (n : Nat) (s : zM), hopsA g l n s 135 l' = s 135 l' := by
  intro n
  induction n with
  | zero => intro s; rfl
  | succ n ih => intro s; unfold hopsA; rw [ih, hopA_oo h]
theorem askA_oo {g s : zM} {l d l' : Int} (h : ¬ l' = l) : askA g s l d 135 l' = s 135 l' := by
  unfold askA
  split
  · rw [zup_j h, zup_c (by decide)]
  · have e : marksA g s l d (lookA g s l d 12 (s 130 l) 0) 135 l' = s 135 l' := by
      unfold marksA
      split <;> split <;> (try simp [zup])
    unfold nightA
    split
    · rw [zup_c (by decide), hopsA_oo h, e]
    · split
      · rw [hopsA_oo h, e]
      · rw [zup_j h, hopsA_oo h, e]
theorem lordsA_oo {g : zM} {d l : Int} (hl : g 125 l = 0) : ∀ (n : Nat) (s : zM), lordsA g d n s 135 l = s 135 l := by
  intro n
  induction n with
  | zero => intro s; rfl
  | succ n ih =>
    intro s
    unfold lordsA
    split
    · rename_i q
      rw [askA_oo (fun e => q.1 (by rw [← e]; exact hl)), ih]
    · exact ih s
theorem dysA_oo {g : zM} {l : Int} (hl : g 125 l = 0) : ∀ n : Nat, dysA g n 135 l = 0 := by
  intro n
  induction n with
  | zero => simp [dysA, s0A]
  | succ n ih =>
    unfold dysA dayA
    have : endA g (lordsA g n (g 88 12).toNat (dutA g (dysA g n))) 135 l = lordsA g n (g 88 12).toNat (dutA g (dysA g n)) 135 l := by simp [endA]
    rw [this, lordsA_oo hl]
    simp [dutA]
    exact ih
def fiA (g : zM) : Int → Int := fun l => if rwA g l = 0 then 0 else fnA g l (lateA g (SS g) l)
theorem ccA_sum {g : zM} (n : Nat) : sumA (SS g 135) n + sumA (fiA g) n = sumA (ccA g) n := by
  rw [sumA_add]
  refine sumA_same n fun j a b => ?_
  unfold ccA fiA
  by_cases h : rwA g j = 0
  · rw [if_pos h, if_pos h]
    have : SS g 135 j = 0 := dysA_oo (show HG g 125 j = 0 from h) 100
    rw [this]; rfl
  · rw [if_neg h, if_neg h]
/-- what finish may write -/
def FF (E : Int) (m m' : zM) : Prop := ∀ x j, ¬ ((30 ≤ x ∧ x ≤ 60 ∧ (x - 30) % 6 = 0 ∧ (j = 9 ∨ j = 13 ∨ j = 14)) ∨ (x = 65 ∧ j = 8) ∨ x = E + 5) → m' x j = m x j
theorem FF_t {E : Int} {m m' m'' : zM} (a : FF E m m') (b : FF E m' m'') : FF E m m'' := fun x j h => (b x j h).trans (a x j h)
section L2
variable {Ω : zΩ} {Q : List zV → zM → Prop} {g : zM}
theorem s_lateC {s m : zM} {l : Int} (hl : 0 ≤ l ∧ l ≤ 5) (h12 : m (30 + 6 * l) 12 = s 137 l) (h11 : m (30 + 6 * l) 11 = s 138 l) (hdue : m (29 + 6 * l) 12 = g 107 l) (b7 : -1 ≤ s 137 l ∧ s 137 l ≤ 99) (b8 : 0 ≤ s 138 l ∧ s 138 l ≤ 600) (bd : 0 ≤ g 107 l ∧ g 107 l ≤ 99) (K : 0 ≤ lateA g s l ∧ lateA g s l ≤ 100 → Q [zI (lateA g s l)] m) : zG Ω 24 0 [zR 2 (30 + 6 * l), zU] [] m Q := by
  refine w_X2_lateness_0 ?_
  rw [show 30 + 6 * l + (-1) = 29 + 6 * l by omega, h12, h11, hdue, zw_i (x := 100 - s 138 l) (by omega) (by omega), zw_i (x := s 137 l - g 107 l) (by omega) (by omega)]
  unfold lateA at K
  refine zif (fun h => ?_) fun h => ?_
  · rw [if_pos (show s 137 l < 0 by omega)] at K
    by_cases q : s 138 l < 100
    · rw [if_pos q] at K
      rw [if_pos (by omega)]
      exact K (by omega)
    · rw [if_neg q] at K
      rw [if_neg (by omega)]
      exact K (by omega)
  · rw [if_neg (show ¬ s 137 l < 0 by omega)] at K
    by_cases q : g 107 l < s 137 l
    · rw [if_pos q] at K
      rw [if_pos (show 0 < s 137 l - g 107 l by omega), zw_i (by omega) (by omega)]
      by_cases z : s 138 l < s 137 l - g 107 l
      · rw [if_pos z] at K
        rw [if_pos (by omega)]
        exact K (by omega)
      · rw [if_neg z] at K
        rw [if_neg (by omega)]
        exact K (by omega)
    · rw [if_neg q] at K
      rw [if_neg (show ¬ 0 < s 137 l - g 107 l by omega), zw_i (by omega) (by omega)]
      rw [if_neg (show ¬ s 138 l < 0 by omega)] at K
      rw [if_neg (by omega)]
      exact K (by omega)
/-- the last numbers of a lord who runs -/
def EL (g m : zM) (l : Int) : Prop := m (30 + 6 * l) 13 = lateA g (SS g) l ∧ m (30 + 6 * l) 14 = fnA g l (lateA g (SS g) l) ∧ m (30 + 6 * l) 9 = SS g 135 l + fnA g l (lateA g (SS g) l)
theorem s_finC_2 {E : Int} (hg : LG g) (hr : RGd g) (hE : E = 76 ∨ E = 82) : ∀ (r l : Nat) (m : zM), ((l + r : Nat) : Int) = g 88 12 → ER m E g → LF m g → m 65 3 = E → m 65 4 = g 88 12 → m 65 5 = g 88 3 → (∀ j, 0 ≤ j → j < g 88 12 → m (30 + 6 * j) 5 = (if rwA g j = 0 then -1 else g 108 j) ∧ (rwA g j = 0 ∨ 0 ≤ g 108 j) ∧ m (30 + 6 * j) 12 = SS g 137 j ∧ m (30 + 6 * j) 11 = SS g 138 j ∧ m (29 + 6 * j) 12 = g 107 j) → (∀ j : Int, (l : Int) ≤ j → j < g 88 12 → m (30 + 6 * j) 9 = SS g 135 j) → (∀ j : Int, 0 ≤ j → j < (l : Int) → ¬ rwA g j = 0 → EL g m j) → m 65 8 = sumA (SS g 135) (g 88 12).toNat + sumA (fiA g) l → (∀ m', FF E m m' → (∀ j, 0 ≤ j → j < g 88 12 → ¬ rwA g j = 0 → EL g m' j) → m' 65 8 = sumA (ccA g) (g 88 12).toNat → Q [] m') → zG Ω 58 2 [zR 5 65, zI l, zU] [] m Q := by
  have hN := hg.2.2.1
  have hb := SS_BA hg hr
  have hvG := DG_vG (r := rwA g) (d := g 108) hg hr
  have cb := cost_b hvG hb (by omega)
  intro r
  induction r with
  | zero =>
    intro l m hl he hf h3 h4 h5 hA hB hC h8 K
    refine w_X5_finish_2 (zif (fun h => absurd h (by omega)) fun _ => K m (fun _ _ _ => rfl) (fun j a b => hC j a (by omega)) ?_)
    rw [h8, show (g 88 12).toNat = l by omega, ccA_sum]
  | succ r ih =>
    intro l m hl he hf h3 h4 h5 hA hB hC h8 K
    have al := hA l (by omega) (by omega)
    have bl := hb.1 l (by omega) (by show (l : Int) < g 88 12; omega)
    unfold LB at bl
    have e97 : HG g 97 (l : Int) = g 97 l := rfl
    have hh := (hg.2.2.2.2 l (by omega) (by omega)).1
    have fb : ∀ n : Nat, (n : Int) ≤ g 88 12 → 0 ≤ sumA (fiA g) n ∧ sumA (fiA g) n ≤ 9999 * n := fun n hn => by
      have := sumA_b (f := fiA g) (A := 0) (B := 9999) n fun j a b => by
        have := coA_b (vl g 3 (fA g j (lateA g (SS g) j)))
        unfold fiA fnA
        split <;> omega
      omega
    have hs : sumA (fiA g) (l + 1) = sumA (fiA g) l + fiA g l := rfl
    refine w_X5_finish_2 (zif (fun _ => zin_of (by omega) (by omega) ?_) fun h => absurd (show (l : Int) < m 65 4 by omega) h)
    rw [al.1, zw_i (x := (l : Int) + 1) (by omega) (by omega)]
    by_cases q : rwA g l = 0
    · rw [if_pos q, if_pos rfl]
      have ef : fiA g l = 0 := by unfold fiA; rw [if_pos q]
      refine ih (l + 1) m (by omega) he hf h3 h4 h5 hA (fun j a b => hB j (by omega) b) (fun j a b hj => ?_) (by rw [hs, ef, Int.add_zero]; exact h8) K
      by_cases e : j = l
      · rw [e] at hj; exact absurd q hj
      · exact hC j a (by omega) hj
    · have hd : 0 ≤ g 108 (l : Int) := by
        rcases al.2.1 with z | z
        · exact absurd z q
        · exact z
      rw [if_neg q, if_neg (by omega)]
      refine s_lateC (g := g) (s := SS g) (by omega) al.2.2.1 al.2.2.2.1 al.2.2.2.2 bl.2.2.2.2.2.2 (by omega) (hr.2.2.2 l (by omega) (by omega)) fun hlt => zk1_i ?_
      generalize hlt' : lateA g (SS g) (l : Int) = lt at hlt
      have F1 : FF E m (zup m (30 + 6 * l) 13 lt) := fun x j h => by
        unfold zup
        rw [if_neg (by rintro ⟨rfl, rfl⟩; exact h (Or.inl (by omega)))]
      have q3 : zup m (30 + 6 * (l : Int)) 13 lt 65 3 = E := by rw [F1 _ _ (by omega)]; exact h3
      have q5 : zup m (30 + 6 * (l : Int)) 13 lt 65 5 = g 88 3 := by rw [F1 _ _ (by omega)]; exact h5
      rw [q3, q5, zup_e rfl rfl, show 30 + 6 * (l : Int) + (-1) = 29 + 6 * l by omega]
      refine ⟨by omega, s_coinsG (e := 3) hg hE (ER_f he fun x j a b => F1 x j (by omega)) (LF_f hN.2 hf fun x j a b c d => F1 x j (by omega)) (by omega) hlt (by omega) fun m2 f2 => zk1_i ?_⟩
      have fn := coA_b (vl g 3 (fA g l lt))
      have efn : fnA g l lt = coA (vl g 3 (fA g l lt)) := rfl
      rw [← efn] at fn ⊢
      rw [zup_e rfl rfl]
      refine w_X5_charge_0 ?_
      have e9 : zup m2 (30 + 6 * (l : Int)) 14 (fnA g l lt) (30 + 6 * l) 9 = SS g 135 l := by
        rw [zup_j (by decide), f2 _ _ (by omega), zup_j (by decide)]
        exact hB l (by omega) (by omega)
      have e8 : zup m2 (30 + 6 * (l : Int)) 14 (fnA g l lt) 65 8 = sumA (SS g 135) (g 88 12).toNat + sumA (fiA g) l := by
        rw [zup_c (by omega), f2 _ _ (by omega), zup_c (by omega)]
        exact h8
      have sbl := fb l (by omega)
      have cbx : 0 ≤ sumA (SS g 135) (g 88 12).toNat ∧ sumA (SS g 135) (g 88 12).toNat ≤ 102000000 := cb
      rw [e9, zup_c (by omega), e8, zw_i (x := SS g 135 l + fnA g l lt) (by omega) (by omega), zw_i (x := sumA (SS g 135) (g 88 12).toNat + sumA (fiA g) l + fnA g l lt) (by omega) (by omega)]
      have F4 : FF E m (zup (zup (zup m2 (30 + 6 * (l : Int)) 14 (fnA g l lt)) (30 + 6 * l) 9 (SS g 135 l + fnA g l lt)) 65 8 (sumA (SS g 135) (g 88 12).toNat + sumA (fiA g) l + fnA g l lt)) := by
        intro x j h
        have u : ∀ (f : zM) (y v : Int), (y = 9 ∨ y = 13 ∨ y = 14) → zup f (30 + 6 * (l : Int)) y v x j = f x j := fun f y v hy => by
          unfold zup
          rw [if_neg (by rintro ⟨rfl, rfl⟩; exact h (Or.inl (by omega)))]
        have u8 : ∀ (f : zM) (v : Int), zup f 65 8 v x j = f x j := fun f v => by
          unfold zup
          rw [if_neg (by rintro ⟨rfl, rfl⟩; exact h (Or.inr (Or.inl ⟨rfl, rfl⟩)))]
        rw [u8, u _ 9 _ (by omega), u _ 14 _ (by omega), f2 x j (fun q => h (Or.inr (Or.inr q))), u _ 13 _ (by omega)]
      have new9 : ∀ j : Int, 0 ≤ j → j < g 88 12 → ¬ j = l → ∀ y, zup (zup (zup m2 (30 + 6 * (l : Int)) 14 (fnA g l lt)) (30 + 6 * l) 9 (SS g 135 l + fnA g l lt)) 65 8 (sumA (SS g 135) (g 88 12).toNat + sumA (fiA g) l + fnA g l lt) (30 + 6 * j) y = m (30 + 6 * j) y := fun j j0 j1 hj y => by
        rw [zup_c (by omega), zup_c (by omega), zup_c (by omega), f2 _ _ (by omega), zup_c (by omega)]
      have newl : EL g (zup (zup (zup m2 (30 + 6 * (l : Int)) 14 (fnA g l lt)) (30 + 6 * l) 9 (SS g 135 l + fnA g l lt)) 65 8 (sumA (SS g 135) (g 88 12).toNat + sumA (fiA g) l + fnA g l lt)) l := by
        unfold EL
        rw [hlt']
        refine ⟨?_, ?_, ?_⟩
        · rw [zup_c (by omega), zup_j (by decide), zup_j (by decide), f2 _ _ (by omega), zup_e rfl rfl]
        · rw [zup_c (by omega), zup_j (by decide), zup_e rfl rfl]
        · rw [zup_c (by omega), zup_e rfl rfl]
      have n8 : zup (zup (zup m2 (30 + 6 * (l : Int)) 14 (fnA g l lt)) (30 + 6 * l) 9 (SS g 135 l + fnA g l lt)) 65 8 (sumA (SS g 135) (g 88 12).toNat + sumA (fiA g) l + fnA g l lt) 65 8 = sumA (SS g 135) (g 88 12).toNat + sumA (fiA g) (l + 1) := by
        have ef : fiA g l = fnA g l lt := by unfold fiA; rw [if_neg q, hlt']
        rw [zup_e rfl rfl, hs, ef]
        omega
      generalize zup (zup (zup m2 (30 + 6 * (l : Int)) 14 (fnA g l lt)) (30 + 6 * l) 9 (SS g 135 l + fnA g l lt)) 65 8 (sumA (SS g 135) (g 88 12).toNat + sumA (fiA g) l + fnA g l lt) = m4 at *
      show zG Ω 58 2 _ _ _ _
      refine ih (l + 1) m4 (by omega) (ER_f he fun x j a b => F4 x j (by omega)) (LF_f hN.2 hf fun x j a b c d => F4 x j (by omega)) ((F4 _ _ (by omega)).trans h3) ((F4 _ _ (by omega)).trans h4) ((F4 _ _ (by omega)).trans h5) (fun j j0 j1 => ?_) (fun j a b => ?_) (fun j a b hj => ?_) n8 fun m' f' => K m' (FF_t F4 f')
      · rw [F4 _ 5 (by omega), F4 _ 12 (by omega), F4 _ 11 (by omega), F4 _ 12 (by omega)]
        exact hA j j0 j1
      · rw [new9 j (by omega) b (by omega)]
        exact hB j (by omega) b
      · by_cases e : j = l
        · rw [e]; exact newl
        · have := hC j a (by omega) hj
          unfold EL at this ⊢
          rw [new9 j a (by omega) e, new9 j a (by omega) e, new9 j a (by omega) e]
          exact this
end L2
