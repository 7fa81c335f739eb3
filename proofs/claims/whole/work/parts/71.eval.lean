/-! LEVEL 2, EXPRESSIONS: signs behind their sides, by their class's numbers -/
theorem zwl_i {x : Int} (h1 : -9223372036854775808 ≤ x) (h2 : x ≤ 9223372036854775807) : zwl x = x := by unfold zwl; omega
theorem zcmp_e {a b : Int} : zcmp a b = 0 ↔ a = b := by unfold zcmp; split <;> (try split) <;> omega
theorem zcmp_l {a b : Int} : zcmp a b < 0 ↔ a < b := by unfold zcmp; split <;> (try split) <;> omega
theorem zcmp_g {a b : Int} : 0 < zcmp a b ↔ b < a := by unfold zcmp; split <;> (try split) <;> omega
abbrev sdA (c : Int) : Prop := c = 2 ∨ (12 ≤ c ∧ c ≤ 20)
abbrev abA (x : Int) : Int := if 0 < x then x else -x
abbrev erA (c a b : Int) : Prop := (c = 30 ∧ 1000000000000 < abA (a + b)) ∨ (c = 31 ∧ 1000000000000 < abA (a - b)) ∨ (c = 32 ∧ ¬ a = 0 ∧ Int.tdiv 1000000000000 (abA a) < abA b) ∨ ((c = 33 ∨ c = 34) ∧ b = 0)
def jnA (c a b : Int) : Int := if c = 21 then (if a = 0 ∧ b = 0 then 0 else 1) else if c = 22 then (if a = 0 ∨ b = 0 then 0 else 1) else if c = 24 then (if a < b then 1 else 0) else if c = 25 then (if b < a then 0 else 1) else if c = 26 then (if a = b then 1 else 0) else if c = 27 then (if a = b then 0 else 1) else if c = 28 then (if a < b then 0 else 1) else if c = 29 then (if b < a then 1 else 0) else if c = 30 then a + b else if c = 31 then a - b else if c = 32 then a * b else if c = 33 then Int.tdiv a b else Int.tmod a b
abbrev bdA (x : Int) : Prop := -1000000000000 ≤ x ∧ x ≤ 1000000000000
theorem mul_bd {a b : Int} (ha : ¬ a = 0) (h : ¬ Int.tdiv 1000000000000 (abA a) < abA b) : bdA (a * b) := by
  have pa : 0 < abA a := by unfold abA; split <;> omega
  have pb : 0 ≤ abA b := by unfold abA; split <;> omega
  rw [Int.tdiv_eq_ediv_of_nonneg (by decide)] at h
  have h1 : abA a * abA b ≤ abA a * (1000000000000 / abA a) := Int.mul_le_mul_of_nonneg_left (by omega) (by omega)
  have h2 := Int.mul_ediv_self_le (x := 1000000000000) (k := abA a) (by omega)
  have h3 : 0 ≤ abA a * abA b := Int.mul_nonneg (by omega) pb
  have h4 : a * b = abA a * abA b ∨ a * b = -(abA a * abA b) := by
    unfold abA
    split <;> split
    · exact Or.inl rfl
    · right; rw [Int.mul_neg, Int.neg_neg]
    · right; rw [Int.neg_mul, Int.neg_neg]
    · left; rw [Int.neg_mul_neg]
  unfold bdA
  generalize a * b = x at *
  generalize abA a * abA b = y at *
  omega
theorem tdiv_bd {a b : Int} (ha : bdA a) : bdA (Int.tdiv a b) := by
  have h : (Int.tdiv a b).natAbs ≤ a.natAbs := by rw [Int.natAbs_tdiv]; exact Nat.div_le_self _ _
  unfold bdA at *
  omega
theorem tmod_bd {a b : Int} (ha : bdA a) : bdA (Int.tmod a b) := by
  have h : (Int.tmod a b).natAbs ≤ a.natAbs := by rw [Int.natAbs_tmod]; exact Nat.mod_le _ _
  unfold bdA at *
  omega
theorem jn_bd {c a b : Int} (ha : bdA a) (hb : bdA b) (he : ¬ erA c a b) : bdA (jnA c a b) := by
  have b0 : bdA 0 := by unfold bdA; omega
  have b1 : bdA 1 := by unfold bdA; omega
  unfold jnA
  split
  · split <;> assumption
  split
  · split <;> assumption
  split
  · split <;> assumption
  split
  · split <;> assumption
  split
  · split <;> assumption
  split
  · split <;> assumption
  split
  · split <;> assumption
  split
  · split <;> assumption
  split
  · rename_i e
    have : ¬ 1000000000000 < abA (a + b) := fun q => he (Or.inl ⟨e, q⟩)
    unfold abA at this
    unfold bdA
    split at this <;> omega
  split
  · rename_i e
    have : ¬ 1000000000000 < abA (a - b) := fun q => he (Or.inr (Or.inl ⟨e, q⟩))
    unfold abA at this
    unfold bdA
    split at this <;> omega
  split
  · rename_i e
    by_cases a0 : a = 0
    · rw [a0, Int.zero_mul]; exact b0
    · exact mul_bd a0 fun q => he (Or.inr (Or.inr (Or.inl ⟨e, a0, q⟩)))
  split
  · exact tdiv_bd ha
  · exact tmod_bd ha
/-- the value of n signs from place p on, over a stack -/
def evA (sg nm f : Int → Int) : Nat → Int → List Int → Int
  | 0, _, [v] => v
  | 0, _, _ => 0
  | n + 1, p, st => if sdA (sg p) then evA sg nm f n (p + 1) ((if sg p = 2 then nm p else f (sg p)) :: st)
    else if sg p = 23 ∨ sg p = 35 then match st with
      | a :: t => evA sg nm f n (p + 1) ((if sg p = 35 then -a else if a = 0 then 1 else 0) :: t)
      | [] => 0
    else match st with
      | b :: a :: t => if erA (sg p) a b then 0 else evA sg nm f n (p + 1) (jnA (sg p) a b :: t)
      | _ => 0
/-- a stack in the class's row c -/
def stk (m : zM) (c : Int) : List Int → Prop
  | [] => True
  | a :: t => m c t.length = a ∧ stk m c t
theorem stk_up {m : zM} {c j v : Int} : ∀ t : List Int, (t.length : Int) ≤ j → stk m c t → stk (zup m c j v) c t := by
  intro t
  induction t with
  | nil => intro _ _; trivial
  | cons a t ih =>
    intro h hs
    rw [List.length_cons] at h
    exact ⟨by rw [zup_j (by omega)]; exact hs.1, ih (by omega) hs.2⟩
section L2
variable {Ω : zΩ} {Q : List zV → zM → Prop} {m : zM}
theorem s_err {c a b : Int} (ha : bdA a) (hb : bdA b) (f : erA c a b → Q [zI 1] m) (n : ¬ erA c a b → Q [zI 0] m) : zG Ω 14 0 [zI c, zL a, zU, zL b, zU] [] m Q := by
  refine w_X0_isError_0 ?_
  unfold bdA at ha hb
  simp only [zcmp_g, zcmp_e]
  rw [zwl_i (x := a + b) (by omega) (by omega), zwl_i (x := -(a + b)) (by omega) (by omega), zwl_i (x := a - b) (by omega) (by omega), zwl_i (x := -(a - b)) (by omega) (by omega), zwl_i (x := -a) (by omega) (by omega), zwl_i (x := -b) (by omega) (by omega)]
  refine zif (fun h => zif (fun q => f (Or.inl ⟨h, q⟩)) fun q => n fun z => ?_) fun h0 => zif (fun h => zif (fun q => f (Or.inr (Or.inl ⟨h, q⟩))) fun q => n fun z => ?_) fun h1 => zif (fun h => zif (fun q => n fun z => ?_) fun q => zdv_of ?_ ?_) fun h2 => zif (fun h => zif (fun q => f (Or.inr (Or.inr (Or.inr ⟨Or.inl h, q⟩)))) fun q => n fun z => ?_) fun h3 => zif (fun h => zif (fun q => f (Or.inr (Or.inr (Or.inr ⟨Or.inr h, q⟩)))) fun q => n fun z => ?_) fun h4 => n fun z => ?_
  · rcases z with z | z | z | z
    · exact q z.2
    · omega
    · omega
    · omega
  · rcases z with z | z | z | z
    · omega
    · exact q z.2
    · omega
    · omega
  · rcases z with z | z | z | z
    · omega
    · omega
    · exact z.2.1 q
    · omega
  · split <;> omega
  · have t : zwl (Int.tdiv 1000000000000 (abA a)) = Int.tdiv 1000000000000 (abA a) := by
      have := tdiv_bd (a := 1000000000000) (b := abA a) (by unfold bdA; omega)
      unfold bdA at this
      exact zwl_i (by omega) (by omega)
    show if zwl (Int.tdiv 1000000000000 (abA a)) < abA b then _ else _
    rw [t]
    refine zif (fun z => f (Or.inr (Or.inr (Or.inl ⟨h, q, z⟩)))) fun z => n fun y => ?_
    rcases y with y | y | y | y
    · omega
    · omega
    · exact z y.2.2
    · omega
  · rcases z with z | z | z | z
    · omega
    · omega
    · omega
    · exact q z.2
  · rcases z with z | z | z | z
    · omega
    · omega
    · omega
    · exact q z.2
  · omega
theorem s_oneT (h : Q [zL 1] m) : zG Ω 13 0 [zI 1] [] m Q := w_X0_oneIf_0 (zif (fun e => absurd e (by decide)) fun _ => h)
theorem s_oneF (h : Q [zL 0] m) : zG Ω 13 0 [zI 0] [] m Q := w_X0_oneIf_0 (zif (fun _ => h) fun e => absurd rfl e)
theorem s_join {c a b : Int} (hc : 21 ≤ c ∧ c ≤ 34 ∧ ¬ c = 23) (ha : bdA a) (hb : bdA b) (he : ¬ erA c a b) (K : Q [zL (jnA c a b)] m) : zG Ω 15 0 [zI c, zL a, zU, zL b, zU] [] m Q := by
  have hj0 := jn_bd ha hb he
  have hm : c = 32 → bdA (a * b) := fun e => by
    rw [e] at hj0; exact hj0
  have hd : c = 33 → bdA (Int.tdiv a b) := fun e => by
    rw [e] at hj0; exact hj0
  clear hj0
  unfold bdA at ha hb
  refine w_X0_join_0 ?_
  simp only [zcmp_g, zcmp_e, zcmp_l]
  unfold jnA at K
  refine zif (fun h => ?_) fun h1 => ?_
  · rw [if_pos h] at K
    refine zif (fun p => zif (fun q => s_oneF ?_) fun q => s_oneT ?_) fun p => s_oneT ?_
    · rw [if_pos ⟨p, q⟩] at K; exact K
    · rw [if_neg (fun z => q z.2)] at K; exact K
    · rw [if_neg (fun z => p z.1)] at K; exact K
  rw [if_neg h1] at K
  refine zif (fun h => ?_) fun h2 => zif (fun h => absurd h hc.2.2) fun _ => ?_
  · rw [if_pos h] at K
    refine zif (fun p => s_oneF ?_) fun p => zif (fun q => s_oneF ?_) fun q => s_oneT ?_
    · rw [if_pos (Or.inl p)] at K; exact K
    · rw [if_pos (Or.inr q)] at K; exact K
    · rw [if_neg (fun z => z.elim p q)] at K; exact K
  rw [if_neg h2] at K
  refine zif (fun h => ?_) fun h3 => ?_
  · rw [if_pos h] at K
    refine zif (fun p => s_oneT ?_) fun p => s_oneF ?_
    · rw [if_pos p] at K; exact K
    · rw [if_neg p] at K; exact K
  rw [if_neg h3] at K
  refine zif (fun h => ?_) fun h4 => ?_
  · rw [if_pos h] at K
    refine zif (fun p => s_oneF ?_) fun p => s_oneT ?_
    · rw [if_pos p] at K; exact K
    · rw [if_neg p] at K; exact K
  rw [if_neg h4] at K
  refine zif (fun h => ?_) fun h5 => ?_
  · rw [if_pos h] at K
    refine zif (fun p => s_oneT ?_) fun p => s_oneF ?_
    · rw [if_pos p] at K; exact K
    · rw [if_neg p] at K; exact K
  rw [if_neg h5] at K
  refine zif (fun h => ?_) fun h6 => ?_
  · rw [if_pos h] at K
    refine zif (fun p => s_oneF ?_) fun p => s_oneT ?_
    · rw [if_pos p] at K; exact K
    · rw [if_neg p] at K; exact K
  rw [if_neg h6] at K
  refine zif (fun h => ?_) fun h7 => ?_
  · rw [if_pos h] at K
    refine zif (fun p => s_oneF ?_) fun p => s_oneT ?_
    · rw [if_pos p] at K; exact K
    · rw [if_neg p] at K; exact K
  rw [if_neg h7] at K
  refine zif (fun h => ?_) fun h8 => ?_
  · rw [if_pos h] at K
    refine zif (fun p => s_oneT ?_) fun p => s_oneF ?_
    · rw [if_pos p] at K; exact K
    · rw [if_neg p] at K; exact K
  rw [if_neg h8] at K
  refine zif (fun h => ?_) fun h9 => ?_
  · rw [if_pos h] at K
    clear he hm hd
    rw [zwl_i (by omega) (by omega)]; exact K
  rw [if_neg h9] at K
  refine zif (fun h => ?_) fun h10 => ?_
  · rw [if_pos h] at K
    clear he hm hd
    rw [zwl_i (by omega) (by omega)]; exact K
  rw [if_neg h10] at K
  refine zif (fun h => ?_) fun h11 => ?_
  · rw [if_pos h] at K
    have hm := hm h
    rw [zwl_i (Int.le_trans (by decide) hm.1) (Int.le_trans hm.2 (by decide))]; exact K
  rw [if_neg h11] at K
  refine zif (fun h => ?_) fun h12 => ?_
  · rw [if_pos h] at K
    refine zif (fun p => absurd (Or.inr (Or.inr (Or.inr ⟨Or.inl h, p⟩))) he) fun p => zdv_of p ?_
    have hd := hd h
    rw [zwl_i (Int.le_trans (by decide) hd.1) (Int.le_trans hd.2 (by decide))]; exact K
  rw [if_neg h12] at K
  refine zif (fun p => absurd (Or.inr (Or.inr (Or.inr ⟨Or.inr (by clear he hm hd K; omega), p⟩))) he) fun p => zdv_of p K
end L2
