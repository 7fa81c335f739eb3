/-! the reference's expressions -/
abbrev prA (x j : Int) : Prop := (90 ≤ x ∧ x ≤ 108) ∨ (x = 110 ∧ 0 ≤ j ∧ j < 4) ∨ (111 ≤ x ∧ x ≤ 115 ∧ 0 ≤ j ∧ j < 96) ∨ (116 ≤ x ∧ x ≤ 117 ∧ 0 ≤ j ∧ j < 7) ∨ x = 123 ∨ (x = 88 ∧ (j = 3 ∨ j = 4 ∨ j = 12))
/-- m holds what g gives -/
def PG (g m : zM) : Prop := ∀ x j, prA x j → m x j = g x j
def sgK (k a : Int) : Int := if k = 0 then 2 else if k = 16 then 12 + a else if k = 12 then 35 else if k = 13 then 23 else if k = 14 then 22 else if k = 15 then 21 else 23 + k
abbrev sgM (g : zM) : Int → Int := fun q => sgK (g 111 (g 115 q)) (g 114 (g 115 q))
abbrev nmM (g : zM) : Int → Int := fun q => g 114 (g 115 q)
/-- the knots of an expression are what their signs say; ids: the knots that wait -/
def wfA (g : zM) : Nat → Int → List Int → Prop
  | 0, _, ids => ids.length = 1
  | n + 1, q, ids => (0 ≤ q ∧ q < 96) ∧ (0 ≤ g 115 q ∧ g 115 q < 96) ∧ ¬ g 115 q ∈ ids ∧
    ((g 111 (g 115 q) = 0 ∧ bdA (g 114 (g 115 q)) ∧ wfA g n (q + 1) (g 115 q :: ids)) ∨
     (g 111 (g 115 q) = 16 ∧ (0 ≤ g 114 (g 115 q) ∧ g 114 (g 115 q) ≤ 8) ∧ wfA g n (q + 1) (g 115 q :: ids)) ∨
     ((g 111 (g 115 q) = 12 ∨ g 111 (g 115 q) = 13) ∧ ∃ a t, ids = a :: t ∧ g 112 (g 115 q) = a ∧ wfA g n (q + 1) (g 115 q :: t)) ∨
     (((1 ≤ g 111 (g 115 q) ∧ g 111 (g 115 q) ≤ 11) ∨ g 111 (g 115 q) = 14 ∨ g 111 (g 115 q) = 15) ∧ ∃ b a t, ids = b :: a :: t ∧ g 113 (g 115 q) = b ∧ g 112 (g 115 q) = a ∧ wfA g n (q + 1) (g 115 q :: t)))
/-- the values of the knots that wait -/
def rstk (m : zM) : List Int → List Int → Prop
  | [], [] => True
  | i :: is, v :: vs => m 124 i = v ∧ rstk m is vs
  | _, _ => False
theorem rstk_up {m : zM} {i v : Int} : ∀ (ids st : List Int), ¬ i ∈ ids → rstk m ids st → rstk (zup m 124 i v) ids st := by
  intro ids
  induction ids with
  | nil => intro st _ h; cases st with
    | nil => trivial
    | cons a t => exact h
  | cons a ids ih =>
    intro st hn h
    cases st with
    | nil => exact h
    | cons b st => exact ⟨by rw [zup_j (fun q => hn (by rw [q]; exact List.mem_cons_self))]; exact h.1, ih st (fun q => hn (List.mem_cons_of_mem _ q)) h.2⟩
theorem rstk_eq {m m' : zM} (e : ∀ j, m' 124 j = m 124 j) : ∀ (ids st : List Int), rstk m ids st → rstk m' ids st := by
  intro ids
  induction ids with
  | nil => intro st h; cases st with
    | nil => trivial
    | cons a t => exact h
  | cons a ids ih =>
    intro st h
    cases st with
    | nil => exact h
    | cons b st => exact ⟨(e a).trans h.1, ih st h.2⟩
def FE (m m' : zM) : Prop := ∀ x j, ¬ (x = 124 ∨ (x = 88 ∧ j = 57)) → m' x j = m x j
theorem FE_r {m : zM} : FE m m := fun _ _ _ => rfl
theorem FE_t {m m' m'' : zM} (a : FE m m') (b : FE m' m'') : FE m m'' := fun x j h => (b x j h).trans (a x j h)
theorem FE_u {m m' : zM} {x j v : Int} (a : FE m m') (hx : x = 124 ∨ (x = 88 ∧ j = 57)) : FE m (zup m' x j v) := fun x' j' h => by
  unfold zup
  rw [if_neg (by rintro ⟨rfl, rfl⟩; exact h hx)]
  exact a x' j' h
theorem PG_e {g m m' : zM} (h : PG g m) (a : FE m m') : PG g m' := fun x j p => (a x j (by unfold prA at p; omega)).trans (h x j p)
/-- a lord's facts by their class's numbers -/
def fA (g : zM) (l lt c : Int) : Int := if c = 12 then g 88 3 else if c = 13 then g 98 l else if c = 14 then g 99 l else if c = 15 then g 100 l else if c = 16 then l else if c = 17 then farF (g 90) (g 91) 22 (g 97 l) 0 else if c = 18 then g 101 l else if c = 19 then g 102 l else lt
section L2
variable {Ω : zΩ} {Q : List zV → zM → Prop} {g : zM}
theorem s_trT {m : zM} (h : Q [zL 1] m) : zG Ω 163 0 [zI 1] [] m Q := w_X10_truth_0 (zif (fun e => absurd e (by decide)) fun _ => h)
theorem s_trF {m : zM} (h : Q [zL 0] m) : zG Ω 163 0 [zI 0] [] m Q := w_X10_truth_0 (zif (fun _ => h) fun e => absurd rfl e)
theorem s_big {m : zM} {x : Int} (hx : bdA x ∨ (-2000000000000 ≤ x ∧ x ≤ 2000000000000)) (h : Q [zL (abA x)] m) : zG Ω 164 0 [zL x, zU] [] m Q := by
  unfold bdA at hx
  refine w_X10_big_0 ?_
  simp only [zcmp_l]
  unfold abA at h
  refine zif (fun e => ?_) fun e => ?_
  · rw [zwl_i (by omega) (by omega)]
    rwa [if_neg (by omega)] at h
  · by_cases z : 0 < x
    · rwa [if_pos z] at h
    · rw [if_neg z] at h
      rwa [show x = -x by omega]
theorem s_bounded {m : zM} {x : Int} (h0 : m 88 57 = 0) (hx : -2000000000000 ≤ x ∧ x ≤ 2000000000000) (f : ∀ m', 1000000000000 < abA x → FE m m' → (∀ j, m' 124 j = m 124 j) → m' 88 57 = 1 → Q [zL 0] m') (n : ∀ m', ¬ 1000000000000 < abA x → FE m m' → (∀ j, m' 124 j = m 124 j) → m' 88 57 = 0 → Q [zL x] m') : zG Ω 165 0 [zR 10 88, zL x, zU] [] m Q := by
  refine w_X10_bounded_0 (zif (fun _ => s_big (Or.inr hx) (zk2_i ?_)) fun e => absurd h0 e)
  simp only [zcmp_g]
  refine zif (fun e => ?_) fun e => ?_
  · rw [if_neg (by decide)]
    exact f _ e (FE_u FE_r (by omega)) (fun j => zup_c (by decide)) (zup_e rfl rfl)
  · rw [if_pos trivial]
    exact n _ e (FE_u FE_r (by omega)) (fun j => zup_c (by decide)) (zup_e rfl rfl)
theorem s_made {m : zM} {k a b c : Int} (h0 : m 88 57 = 0) (hk : (1 ≤ k ∧ k ≤ 11) ∨ k = 14 ∨ k = 15) (hc : c = sgK k 0) (ha : bdA a) (hb : bdA b) (f : ∀ m', erA c a b → FE m m' → (∀ j, m' 124 j = m 124 j) → m' 88 57 = 1 → Q [zL 0] m') (n : ∀ m', ¬ erA c a b → FE m m' → (∀ j, m' 124 j = m 124 j) → m' 88 57 = 0 → Q [zL (jnA c a b)] m') : zG Ω 166 0 [zR 10 88, zI k, zL a, zU, zL b, zU] [] m Q := by
  have n0 : ¬ erA c a b → Q [zL (jnA c a b)] m := fun e => n m e FE_r (fun _ => rfl) h0
  have ha' := ha
  have hb' := hb
  unfold bdA at ha' hb'
  refine w_X10_made_0 ?_
  simp only [zcmp_e, zcmp_l, zcmp_g]
  refine zif (fun h => ?_) fun h1 => zif (fun h => ?_) fun h2 => zif (fun h => ?_) fun h3 => zif (fun h => ?_) fun h4 => zif (fun h => ?_) fun h5 => zif (fun h => ?_) fun h6 => zif (fun h => ?_) fun h7 => zif (fun h => ?_) fun h8 => zif (fun h => ?_) fun h9 => zif (fun h => ?_) fun h10 => zif (fun h => ?_) fun h11 => zif (fun h => absurd hk (by omega)) fun h12 => zif (fun h => absurd hk (by omega)) fun h13 => zif (fun h => ?_) fun h14 => ?_
  · have e : c = 24 := by rw [hc, h]; rfl
    have K := n0 (by rw [e]; unfold erA; omega)
    rw [e] at K
    refine zif (fun q => s_trT (zk2_i ?_)) fun q => s_trF (zk2_i ?_)
    · simpa [jnA, q] using K
    · simpa [jnA, q] using K
  · have e : c = 25 := by rw [hc, h]; rfl
    have K := n0 (by rw [e]; unfold erA; omega)
    rw [e] at K
    refine zif (fun q => s_trF (zk2_i ?_)) fun q => s_trT (zk2_i ?_)
    · simpa [jnA, q] using K
    · simpa [jnA, q] using K
  · have e : c = 26 := by rw [hc, h]; rfl
    have K := n0 (by rw [e]; unfold erA; omega)
    rw [e] at K
    refine zif (fun q => s_trT (zk2_i ?_)) fun q => s_trF (zk2_i ?_)
    · simpa [jnA, q] using K
    · simpa [jnA, q] using K
  · have e : c = 27 := by rw [hc, h]; rfl
    have K := n0 (by rw [e]; unfold erA; omega)
    rw [e] at K
    refine zif (fun q => s_trF (zk2_i ?_)) fun q => s_trT (zk2_i ?_)
    · simpa [jnA, q] using K
    · simpa [jnA, q] using K
  · have e : c = 28 := by rw [hc, h]; rfl
    have K := n0 (by rw [e]; unfold erA; omega)
    rw [e] at K
    refine zif (fun q => s_trF (zk2_i ?_)) fun q => s_trT (zk2_i ?_)
    · simpa [jnA, q] using K
    · simpa [jnA, q] using K
  · have e : c = 29 := by rw [hc, h]; rfl
    have K := n0 (by rw [e]; unfold erA; omega)
    rw [e] at K
    refine zif (fun q => s_trT (zk2_i ?_)) fun q => s_trF (zk2_i ?_)
    · simpa [jnA, q] using K
    · simpa [jnA, q] using K
  · have e : c = 30 := by rw [hc, h]; rfl
    rw [zwl_i (by omega) (by omega)]
    refine s_bounded h0 (by omega) (fun m' q a1 a2 a3 => zk2_i (f m' (Or.inl ⟨e, q⟩) a1 a2 a3)) fun m' q a1 a2 a3 => zk2_i ?_
    have K := n m' (by rw [e]; intro z; rcases z with z | z | z | z; exact q z.2; exact absurd z.1 (by decide); exact absurd z.1 (by decide); exact absurd z.1 (by decide)) a1 a2 a3
    rw [e] at K
    exact K
  · have e : c = 31 := by rw [hc, h]; rfl
    rw [zwl_i (by omega) (by omega)]
    refine s_bounded h0 (by omega) (fun m' q a1 a2 a3 => zk2_i (f m' (Or.inr (Or.inl ⟨e, q⟩)) a1 a2 a3)) fun m' q a1 a2 a3 => zk2_i ?_
    have K := n m' (by rw [e]; intro z; rcases z with z | z | z | z; exact absurd z.1 (by decide); exact q z.2; exact absurd z.1 (by decide); exact absurd z.1 (by decide)) a1 a2 a3
    rw [e] at K
    exact K
  · have e : c = 32 := by rw [hc, h]; rfl
    have ne : ¬ (¬ a = 0 ∧ Int.tdiv 1000000000000 (abA a) < abA b) → ¬ erA c a b := by
      rw [e]; intro q z; rcases z with z | z | z | z; exact absurd z.1 (by decide); exact absurd z.1 (by decide); exact q z.2; exact absurd z.1 (by decide)
    have fin : ¬ (¬ a = 0 ∧ Int.tdiv 1000000000000 (abA a) < abA b) → Q [zL (zwl (a * b))] (zup m 88 57 0) := by
      intro q
      have bb := jn_bd ha hb (ne q)
      have K := n _ (ne q) (FE_u (x := 88) (j := 57) (v := 0) FE_r (by omega)) (fun j => zup_c (by decide)) (zup_e rfl rfl)
      rw [e] at K bb
      have bb : bdA (a * b) := bb
      rw [zwl_i (Int.le_trans (by decide) bb.1) (Int.le_trans bb.2 (by decide))]
      exact K
    refine zif (fun _ => zif (fun q => ?_) fun q => s_big (Or.inl hb) (zk2_i (s_big (Or.inl ha) (zk2_i (zdv_of ?_ ?_))))) fun z => absurd h0 z
    · rw [if_pos trivial]
      exact fin fun z => z.1 q
    · unfold abA; split <;> omega
    · have t : zwl (Int.tdiv 1000000000000 (abA a)) = Int.tdiv 1000000000000 (abA a) := by
        have := tdiv_bd (a := 1000000000000) (b := abA a) (by unfold bdA; omega)
        exact zwl_i (Int.le_trans (by decide) this.1) (Int.le_trans this.2 (by decide))
      rw [t]
      refine zif (fun z => ?_) fun z => ?_
      · rw [if_neg (by decide)]
        exact f _ (Or.inr (Or.inr (Or.inl ⟨e, q, z⟩))) (FE_u FE_r (by omega)) (fun j => zup_c (by decide)) (zup_e rfl rfl)
      · rw [if_pos trivial]
        exact fin fun y => z y.2
  · have e : c = 33 := by rw [hc, h]; rfl
    have ne : ¬ b = 0 → ¬ erA c a b := by
      rw [e]; intro q z; rcases z with z | z | z | z; exact absurd z.1 (by decide); exact absurd z.1 (by decide); exact absurd z.1 (by decide); exact q z.2
    refine w_X10_made_241 (zif (fun _ => ?_) fun z => absurd h0 z)
    simp only [zcmp_e]
    refine zif (fun q => ?_) fun q => ?_
    · rw [if_neg (by decide)]
      exact f _ (Or.inr (Or.inr (Or.inr ⟨Or.inl e, q⟩))) (FE_u FE_r (by omega)) (fun j => zup_c (by decide)) (zup_e rfl rfl)
    · rw [if_pos trivial, if_pos h]
      refine zdv_of q ?_
      have K := n _ (ne q) (FE_u (x := 88) (j := 57) (v := 0) FE_r (by omega)) (fun j => zup_c (by decide)) (zup_e rfl rfl)
      rw [e] at K
      have t := tdiv_bd (b := b) ha
      rw [zwl_i (Int.le_trans (by decide) t.1) (Int.le_trans t.2 (by decide))]
      exact K
  · have e : c = 34 := by rw [hc, h]; rfl
    have ne : ¬ b = 0 → ¬ erA c a b := by
      rw [e]; intro q z; rcases z with z | z | z | z; exact absurd z.1 (by decide); exact absurd z.1 (by decide); exact absurd z.1 (by decide); exact q z.2
    refine w_X10_made_241 (zif (fun _ => ?_) fun z => absurd h0 z)
    simp only [zcmp_e]
    refine zif (fun q => ?_) fun q => ?_
    · rw [if_neg (by decide)]
      exact f _ (Or.inr (Or.inr (Or.inr ⟨Or.inr e, q⟩))) (FE_u FE_r (by omega)) (fun j => zup_c (by decide)) (zup_e rfl rfl)
    · rw [if_pos trivial, if_neg (by omega)]
      refine zdv_of q ?_
      have K := n _ (ne q) (FE_u (x := 88) (j := 57) (v := 0) FE_r (by omega)) (fun j => zup_c (by decide)) (zup_e rfl rfl)
      rw [e] at K
      exact K
  · have e : c = 22 := by rw [hc, h]; rfl
    have K := n0 (by rw [e]; unfold erA; omega)
    rw [e] at K
    refine zif (fun p => w_X10_made_310 (s_trF (zk2_i ?_))) fun p => zif (fun q => w_X10_made_310 (s_trF (zk2_i ?_))) fun q => s_trT (zk2_i ?_)
    · simpa [jnA, p] using K
    · simpa [jnA, q] using K
    · simpa [jnA, p, q] using K
  · have e : c = 21 := by
      have h15 : k = 15 := by omega
      rw [hc, h15]; rfl
    have K := n0 (by rw [e]; unfold erA; omega)
    rw [e] at K
    refine w_X10_made_315 ?_
    simp only [zcmp_e]
    refine zif (fun p => zif (fun q => s_trF (zk2_i ?_)) fun q => w_X10_made_328 (s_trT (zk2_i ?_))) fun p => w_X10_made_328 (s_trT (zk2_i ?_))
    · simpa [jnA, p, q] using K
    · simpa [jnA, p, q] using K
    · simpa [jnA, p] using K
end L2
