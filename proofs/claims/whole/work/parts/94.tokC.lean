/-! LEVEL 2, THE READER: tokens. tx the text's bytes, n its length; kinds by the class's numbers -/
abbrev blA (c : Int) : Prop := c = 10 ∨ c = 32
abbrev ltA (c : Int) : Prop := 97 ≤ c ∧ c ≤ 122
abbrev dgA (c : Int) : Prop := 48 ≤ c ∧ c ≤ 57
def skA (tx : Int → Int) (n : Int) : Nat → Int → Int
  | 0, p => p
  | f + 1, p => if p < n ∧ blA (tx p) then skA tx n f (p + 1) else p
def leA (tx : Int → Int) (n : Int) : Nat → Int → Int
  | 0, p => p
  | f + 1, p => if p < n ∧ ltA (tx p) then leA tx n f (p + 1) else p
/-- behind the digits, and the number that they are, cut at 100000 -/
def nuA (tx : Int → Int) (n : Int) : Nat → Int → Int → Int × Int
  | 0, p, v => (p, v)
  | f + 1, p, v => if p < n ∧ dgA (tx p) then nuA tx n f (p + 1) (if v * 10 + (tx p - 48) < 100000 then v * 10 + (tx p - 48) else 100000) else (p, v)
def siA (tx : Int → Int) (n q : Int) : Int := if tx q = 60 then (if q + 1 < n ∧ tx (q + 1) = 61 then 25 else if q + 1 < n ∧ tx (q + 1) = 62 then 27 else 24) else if tx q = 62 then (if q + 1 < n ∧ tx (q + 1) = 61 then 28 else 29) else if tx q = 61 then 26 else if tx q = 43 then 30 else if tx q = 45 then 31 else if tx q = 42 then 32 else if tx q = 47 then 33 else if tx q = 37 then 34 else if tx q = 40 then 36 else if tx q = 41 then 37 else if tx q = 44 then 38 else if tx q = 59 then 39 else 1
theorem siA_b {tx : Int → Int} {n q : Int} : siA tx n q = 1 ∨ (24 ≤ siA tx n q ∧ siA tx n q ≤ 39) := by
  unfold siA
  repeat' split
  all_goals decide
/-- the words, by the class's numbers from 3 on -/
def wdsA : List (List Int) := [[109, 97, 114, 99, 104], [110, 101, 119, 115], [104, 111, 108, 100], [112, 97, 121], [97, 116, 116, 101, 110, 100], [98, 101, 97, 114, 101, 114, 115], [114, 111, 111, 109], [102, 105, 110, 101], [121, 105, 101, 108, 100], [121, 101, 97, 114], [114, 97, 110, 107], [119, 111, 114, 116, 104], [109, 101, 110], [104, 111, 117, 115, 101], [104, 111, 117, 114, 115], [103, 117, 110, 115], [119, 111, 109, 101, 110], [108, 97, 116, 101], [111, 114], [97, 110, 100], [110, 111, 116]]
/-- the text from a on is this word, and ends at b -/
def isWd (tx : Int → Int) (a b : Int) : List Int → Prop
  | [] => a = b
  | c :: w => a < b ∧ tx a = c ∧ isWd tx (a + 1) b w
def fdWd (tx : Int → Int) (a b : Int) : List (List Int) → Int → Int → Prop
  | [], _, k => k = 1
  | w :: ws, i, k => (isWd tx a b w ∧ k = i) ∨ (¬ isWd tx a b w ∧ fdWd tx a b ws (i + 1) k)
/-- k is the number of the word between a and b -/
abbrev wkA (tx : Int → Int) (a b k : Int) : Prop := fdWd tx a b wdsA 3 k
abbrev tkP (tx : Int → Int) (n p : Int) : Int := skA tx n 600 p
/-- (k, v, e): the token from p on has kind k, number v if it is one, and ends at e -/
def tkA (tx : Int → Int) (n p k v e : Int) : Prop :=
  if ¬ tkP tx n p < n then k = 0 ∧ e = tkP tx n p
  else if ltA (tx (tkP tx n p)) then wkA tx (tkP tx n p) (leA tx n 600 (tkP tx n p)) k ∧ e = leA tx n 600 (tkP tx n p)
  else if dgA (tx (tkP tx n p)) then k = 2 ∧ v = (nuA tx n 600 (tkP tx n p) 0).2 ∧ e = (nuA tx n 600 (tkP tx n p) 0).1
  else k = siA tx n (tkP tx n p) ∧ e = tkP tx n p + 1 + (if siA tx n (tkP tx n p) = 25 ∨ siA tx n (tkP tx n p) = 27 ∨ siA tx n (tkP tx n p) = 28 then 1 else 0)
theorem skA_b {tx : Int → Int} {n : Int} : ∀ (f : Nat) (p : Int), p ≤ n → p ≤ skA tx n f p ∧ skA tx n f p ≤ n := by
  intro f
  induction f with
  | zero => intro p h; exact ⟨Int.le_refl _, h⟩
  | succ f ih =>
    intro p h
    unfold skA
    split
    · have := ih (p + 1) (by omega)
      omega
    · omega
theorem leA_b {tx : Int → Int} {n : Int} : ∀ (f : Nat) (p : Int), p ≤ n → p ≤ leA tx n f p ∧ leA tx n f p ≤ n := by
  intro f
  induction f with
  | zero => intro p h; exact ⟨Int.le_refl _, h⟩
  | succ f ih =>
    intro p h
    unfold leA
    split
    · have := ih (p + 1) (by omega)
      omega
    · omega
/-- the class's tape holds the text -/
def TC (tx : Int → Int) (n : Int) (m : zM) : Prop := m 75 1 = n ∧ (0 ≤ n ∧ n ≤ 600) ∧ ∀ i, 0 ≤ i → i < n → (0 ≤ tx i ∧ tx i ≤ 255) ∧ m 71 i = (if tx i < 128 then tx i else tx i - 256)
def FG (m m' : zM) : Prop := ∀ x j, ¬ (x = 75 ∧ 2 ≤ j ∧ j ≤ 5) → m' x j = m x j
theorem FG_r {m : zM} : FG m m := fun _ _ _ => rfl
theorem FG_t {m m' m'' : zM} (a : FG m m') (b : FG m' m'') : FG m m'' := fun x j h => (b x j h).trans (a x j h)
theorem FG_u {m m' : zM} {j v : Int} (a : FG m m') (hj : 2 ≤ j ∧ j ≤ 5) : FG m (zup m' 75 j v) := fun x' j' h => by
  unfold zup
  rw [if_neg (by rintro ⟨rfl, rfl⟩; exact h ⟨rfl, hj⟩)]
  exact a x' j' h
theorem TC_f {tx : Int → Int} {n : Int} {m m' : zM} (h : TC tx n m) (a : FG m m') : TC tx n m' := ⟨(a _ _ (by omega)).trans h.1, h.2.1, fun i i0 i1 => ⟨(h.2.2 i i0 i1).1, (a _ _ (by omega)).trans (h.2.2 i i0 i1).2⟩⟩
/-- the byte as the class sees it; 0 behind the end -/
abbrev scA (tx : Int → Int) (n p : Int) : Int := if p < n then (if tx p < 128 then tx p else tx p - 256) else 0
def WBs (Ω : zΩ) : Prop := ∀ (m : zM) (Q : List zV → zM → Prop) (tx : Int → Int) (n a b : Int), TC tx n m → 0 ≤ a → a ≤ b → b ≤ n → (∀ k, wkA tx a b k → Q [zI k] m) → zG Ω 91 0 [zR 8 75, zI a, zI b, zU, zU, zU, zU, zU] [] m Q
section L2
variable {Ω : zΩ} {Q : List zV → zM → Prop} {tx : Int → Int} {n : Int}
theorem s_signAt {m : zM} {p : Int} (h : TC tx n m) (hp : 0 ≤ p) (K : Q [zI (scA tx n p)] m) : zG Ω 86 0 [zR 8 75, zI p] [] m Q := by
  refine w_X8_signAt_0 (zif (fun z => absurd z (by omega)) fun _ => ?_)
  rw [h.1]
  unfold scA at K
  refine zif (fun z => zin_of hp (by have := h.2.1; omega) ?_) fun z => ?_
  · rw [if_pos z] at K
    rw [(h.2.2 p hp z).2]; exact K
  · rwa [if_neg z] at K
theorem scA_eq {p c : Int} (h : ∀ i, 0 ≤ i → i < n → 0 ≤ tx i ∧ tx i ≤ 255) (hp : 0 ≤ p) (hc : 1 ≤ c ∧ c ≤ 127) : scA tx n p = c ↔ (p < n ∧ tx p = c) := by
  unfold scA
  by_cases z : p < n
  · have := h p hp z
    rw [if_pos z]
    split <;> omega
  · rw [if_neg z]; omega
theorem scA_in {p a b : Int} (h : ∀ i, 0 ≤ i → i < n → 0 ≤ tx i ∧ tx i ≤ 255) (hp : 0 ≤ p) (ha : 1 ≤ a) (hb : b ≤ 127) : (a ≤ scA tx n p ∧ scA tx n p ≤ b) ↔ (p < n ∧ a ≤ tx p ∧ tx p ≤ b) := by
  unfold scA
  by_cases z : p < n
  · have := h p hp z
    rw [if_pos z]
    split <;> omega
  · rw [if_neg z]; omega
theorem b_blank {m : zM} {p : Int} {A B : zM → Prop} (h : TC tx n m) (hp : 0 ≤ p) (f : p < n ∧ blA (tx p) → B m) (g : ¬ (p < n ∧ blA (tx p)) → A m) : zG Ω 87 0 [zI (scA tx n p)] [] m (fun r m1 => zk1 r fun v => if v = 0 then A m1 else B m1) := by
  have hb := fun i i0 i1 => (h.2.2 i i0 i1).1
  have e1 := scA_eq (p := p) (c := 10) hb hp (by omega)
  have e2 := scA_eq (p := p) (c := 32) hb hp (by omega)
  refine w_X8_isBlank_0 (zif (fun z => zk1_t (f ⟨(e1.mp z).1, Or.inl (e1.mp z).2⟩)) fun z => zif (fun y => zk1_t (f ⟨(e2.mp y).1, Or.inr (e2.mp y).2⟩)) fun y => zk1_f (g fun q => ?_))
  rcases q.2 with t | t
  · exact z (e1.mpr ⟨q.1, t⟩)
  · exact y (e2.mpr ⟨q.1, t⟩)
theorem b_letter {m : zM} {p : Int} {A B : zM → Prop} (h : TC tx n m) (hp : 0 ≤ p) (f : p < n ∧ ltA (tx p) → B m) (g : ¬ (p < n ∧ ltA (tx p)) → A m) : zG Ω 88 0 [zI (scA tx n p)] [] m (fun r m1 => zk1 r fun v => if v = 0 then A m1 else B m1) := by
  have hb := fun i i0 i1 => (h.2.2 i i0 i1).1
  have e := scA_in (p := p) (a := 97) (b := 122) hb hp (by omega) (by omega)
  refine w_X8_isLetter_0 (zif (fun z => zk1_f (g fun q => ?_)) fun z => zif (fun y => zk1_f (g fun q => ?_)) fun y => zk1_t (f (e.mp ⟨by omega, by omega⟩)))
  · have := e.mpr q; omega
  · have := e.mpr q; omega
theorem b_digit {m : zM} {p : Int} {A B : zM → Prop} (h : TC tx n m) (hp : 0 ≤ p) (f : p < n ∧ dgA (tx p) → B m) (g : ¬ (p < n ∧ dgA (tx p)) → A m) : zG Ω 89 0 [zI (scA tx n p)] [] m (fun r m1 => zk1 r fun v => if v = 0 then A m1 else B m1) := by
  have hb := fun i i0 i1 => (h.2.2 i i0 i1).1
  have e := scA_in (p := p) (a := 48) (b := 57) hb hp (by omega) (by omega)
  refine w_X8_isDigit_0 (zif (fun z => zk1_f (g fun q => ?_)) fun z => zif (fun y => zk1_f (g fun q => ?_)) fun y => zk1_t (f (e.mp ⟨by omega, by omega⟩)))
  · have := e.mpr q; omega
  · have := e.mpr q; omega
theorem s_word_2 (HW : WBs Ω) {q : Int} (hq : 0 ≤ q) : ∀ (f : Nat) (p i : Int) (m : zM), TC tx n m → m 75 2 = p → m 75 4 = q → q ≤ p → p ≤ n → i + f = 600 → 0 ≤ i → (∀ k m', wkA tx q (leA tx n f p) k → FG m m' → m' 75 3 = k → m' 75 4 = q → m' 75 2 = leA tx n f p → Q [] m') → zG Ω 90 2 [zR 8 75, zI i] [] m Q := by
  intro f
  induction f with
  | zero =>
    intro p i m h hp h4 hqp hpn hi h0 K
    refine w_X8_stepOverWord_2 (zif (fun z => absurd z (by omega)) fun _ => ?_)
    rw [h4, hp]
    refine HW m _ tx n q p h hq hqp hpn fun k hk => zk1_i ?_
    exact K k _ hk (FG_u FG_r (by omega)) (zup_e rfl rfl) (by rw [zup_j (by decide)]; exact h4) (by rw [zup_j (by decide)]; exact hp)
  | succ f ih =>
    intro p i m h hp h4 hqp hpn hi h0 K
    unfold leA at K
    refine w_X8_stepOverWord_2 (zif (fun _ => ?_) fun z => absurd (show i < 600 by omega) z)
    rw [hp]
    refine s_signAt h (by omega) (zk1_i (b_letter h (by omega) (fun z => ?_) fun z => ?_))
    · rw [if_pos z] at K
      rw [hp, zw_i (x := i + 1) (by omega) (by omega), zw_i (x := p + 1) (by have := h.2.1; omega) (by have := h.2.1; omega)]
      have f1 : FG m (zup m 75 2 (p + 1)) := FG_u FG_r (by omega)
      exact ih (p + 1) (i + 1) _ (TC_f h f1) (zup_e rfl rfl) (by rw [zup_j (by decide)]; exact h4) (by omega) (by omega) (by omega) (by omega) fun k m' hk f' => K k m' hk (FG_t f1 f')
    · rw [if_neg z] at K
      rw [h4, hp]
      refine HW m _ tx n q p h hq hqp hpn fun k hk => zk1_i ?_
      exact K k _ hk (FG_u FG_r (by omega)) (zup_e rfl rfl) (by rw [zup_j (by decide)]; exact h4) (by rw [zup_j (by decide)]; exact hp)
theorem s_num_12 : ∀ (f : Nat) (p i v : Int) (m : zM), TC tx n m → m 75 2 = p → m 75 5 = v → 0 ≤ v → v ≤ 100000 → 0 ≤ p → p ≤ n → i + f = 600 → 0 ≤ i → (∀ m', FG m m' → m' 75 3 = m 75 3 → m' 75 4 = m 75 4 → m' 75 2 = (nuA tx n f p v).1 → m' 75 5 = (nuA tx n f p v).2 → Q [] m') → zG Ω 92 12 [zR 8 75, zI i] [] m Q := by
  intro f
  induction f with
  | zero =>
    intro p i v m h hp h5 v0 v1 p0 hpn hi h0 K
    exact w_X8_stepOverNumber_12 (zif (fun z => absurd z (by omega)) fun _ => K m FG_r rfl rfl hp h5)
  | succ f ih =>
    intro p i v m h hp h5 v0 v1 p0 hpn hi h0 K
    have hN := h.2.1
    unfold nuA at K
    refine w_X8_stepOverNumber_12 (zif (fun _ => ?_) fun z => absurd (show i < 600 by omega) z)
    rw [hp]
    refine s_signAt h p0 (zk1_i (b_digit h p0 (fun z => ?_) fun z => ?_))
    · rw [if_pos z] at K
      rw [hp]
      refine s_signAt h p0 (zk1_i ?_)
      have ec : scA tx n p = tx p := by
        unfold scA
        rw [if_pos z.1, if_pos (by omega)]
      rw [ec, h5, zw_i (x := v * 10) (by omega) (by omega), zw_i (x := tx p - 48) (by omega) (by omega), zw_i (x := v * 10 + (tx p - 48)) (by omega) (by omega), zw_i (x := i + 1) (by omega) (by omega), hp, zw_i (x := p + 1) (by omega) (by omega)]
      generalize hv' : (if v * 10 + (tx p - 48) < 100000 then v * 10 + (tx p - 48) else 100000) = v' at K ⊢
      have hb : 0 ≤ v' ∧ v' ≤ 100000 := by rw [← hv']; split <;> omega
      have f1 : FG m (zup (zup m 75 5 v') 75 2 (p + 1)) := FG_u (FG_u FG_r (by omega)) (by omega)
      exact ih (p + 1) (i + 1) v' _ (TC_f h f1) (zup_e rfl rfl) (by rw [zup_j (by decide), zup_e rfl rfl]) hb.1 hb.2 (by omega) (by omega) (by omega) (by omega) fun m' f' e3 e4 => K m' (FG_t f1 f') (e3.trans (by rw [zup_j (by decide), zup_j (by decide)])) (e4.trans (by rw [zup_j (by decide), zup_j (by decide)]))
    · rw [if_neg z] at K
      exact K m FG_r rfl rfl hp h5
theorem s_joins {m : zM} {p c : Int} (h : TC tx n m) (hp : m 75 2 = p) (p0 : 0 ≤ p ∧ p ≤ n) (hc : 1 ≤ c ∧ c ≤ 127) (f : p < n ∧ tx p = c → Q [zI 1] (zup m 75 2 (p + 1))) (g : ¬ (p < n ∧ tx p = c) → Q [zI 0] m) : zG Ω 94 0 [zR 8 75, zI c] [] m Q := by
  have hN := h.2.1
  have hb := fun i i0 i1 => (h.2.2 i i0 i1).1
  have e := scA_eq (p := p) (c := c) hb p0.1 hc
  refine w_X8_joinsNext_0 ?_
  rw [hp]
  refine s_signAt h p0.1 (zk1_i ?_)
  rw [hp, zw_i (x := p + 1) (by omega) (by omega)]
  exact zif (fun z => f (e.mp z)) fun z => g fun q => z (e.mpr q)
theorem s_kind {m : zM} {q : Int} (h : TC tx n m) (hq : 0 ≤ q ∧ q < n) (h2 : m 75 2 = q + 1) (nl : ¬ ltA (tx q)) (nd : ¬ dgA (tx q)) (K : ∀ m', FG m m' → m' 75 4 = m 75 4 → m' 75 2 = q + 1 + (if siA tx n q = 25 ∨ siA tx n q = 27 ∨ siA tx n q = 28 then 1 else 0) → Q [zI (siA tx n q)] m') : zG Ω 93 0 [zR 8 75, zI (scA tx n q)] [] m Q := by
  have hN := h.2.1
  have hb := (h.2.2 q hq.1 hq.2).1
  have es : scA tx n q = if tx q < 128 then tx q else tx q - 256 := by unfold scA; rw [if_pos hq.2]
  rw [es]
  have K0 : ∀ k, siA tx n q = k → ¬ (k = 25 ∨ k = 27 ∨ k = 28) → Q [zI k] m := fun k hk hn => by
    have K := K m FG_r rfl (by rw [h2, hk, if_neg hn, Int.add_zero])
    rwa [hk] at K
  have K1 : ∀ k, siA tx n q = k → (k = 25 ∨ k = 27 ∨ k = 28) → Q [zI k] (zup m 75 2 (q + 1 + 1)) := fun k hk hn => by
    have K := K (zup m 75 2 (q + 1 + 1)) (FG_u FG_r (by omega)) (zup_j (by decide)) (by rw [zup_e rfl rfl, hk, if_pos hn])
    rwa [hk] at K
  refine w_X8_kindOfSign_0 ?_
  by_cases hlo : tx q < 128
  · rw [if_pos hlo]
    refine zif (fun z => K0 34 (by unfold siA; rw [z]; simp) (by omega)) fun z37 => zif (fun z => K0 1 (by unfold siA; rw [z]; simp) (by omega)) fun z38 => zif (fun z => K0 1 (by unfold siA; rw [z]; simp) (by omega)) fun z39 => zif (fun z => K0 36 (by unfold siA; rw [z]; simp) (by omega)) fun z40 => zif (fun z => K0 37 (by unfold siA; rw [z]; simp) (by omega)) fun z41 => zif (fun z => K0 32 (by unfold siA; rw [z]; simp) (by omega)) fun z42 => zif (fun z => K0 30 (by unfold siA; rw [z]; simp) (by omega)) fun z43 => zif (fun z => K0 38 (by unfold siA; rw [z]; simp) (by omega)) fun z44 => zif (fun z => K0 31 (by unfold siA; rw [z]; simp) (by omega)) fun z45 => zif (fun z => K0 1 (by unfold siA; rw [z]; simp) (by omega)) fun z46 => zif (fun z => K0 33 (by unfold siA; rw [z]; simp) (by omega)) fun z47 => zif (fun z => absurd nd fun q => q ⟨by omega, by omega⟩) fun z48 => zif (fun z => absurd nd fun q => q ⟨by omega, by omega⟩) fun z49 => zif (fun z => absurd nd fun q => q ⟨by omega, by omega⟩) fun z50 => zif (fun z => absurd nd fun q => q ⟨by omega, by omega⟩) fun z51 => zif (fun z => absurd nd fun q => q ⟨by omega, by omega⟩) fun z52 => zif (fun z => absurd nd fun q => q ⟨by omega, by omega⟩) fun z53 => zif (fun z => absurd nd fun q => q ⟨by omega, by omega⟩) fun z54 => zif (fun z => absurd nd fun q => q ⟨by omega, by omega⟩) fun z55 => zif (fun z => absurd nd fun q => q ⟨by omega, by omega⟩) fun z56 => zif (fun z => absurd nd fun q => q ⟨by omega, by omega⟩) fun z57 => zif (fun z => K0 1 (by unfold siA; rw [z]; simp) (by omega)) fun z58 => zif (fun z => K0 39 (by unfold siA; rw [z]; simp) (by omega)) fun z59 => zif (fun z => ?c60) fun z60 => zif (fun z => K0 26 (by unfold siA; rw [z]; simp) (by omega)) fun z61 => zif (fun z => ?c62) fun z62 => K0 1 ?c1 (by omega)
    case c60 =>
      have s0 : siA tx n q = if q + 1 < n ∧ tx (q + 1) = 61 then 25 else if q + 1 < n ∧ tx (q + 1) = 62 then 27 else 24 := by unfold siA; rw [if_pos z]
      refine s_joins h h2 (by omega) (by omega) (fun y => zk1_t ?_) fun y => zk1_f (s_joins h h2 (by omega) (by omega) (fun w => zk1_t ?_) fun w => zk1_f ?_)
      · exact K1 25 (by rw [s0, if_pos y]) (by omega)
      · exact K1 27 (by rw [s0, if_neg y, if_pos w]) (by omega)
      · exact K0 24 (by rw [s0, if_neg y, if_neg w]) (by omega)
    case c62 =>
      have s0 : siA tx n q = if q + 1 < n ∧ tx (q + 1) = 61 then 28 else 29 := by unfold siA; rw [if_neg (by omega), if_pos z]
      refine s_joins h h2 (by omega) (by omega) (fun y => zk1_t ?_) fun y => zk1_f ?_
      · exact K1 28 (by rw [s0, if_pos y]) (by omega)
      · exact K0 29 (by rw [s0, if_neg y]) (by omega)
    case c1 =>
      unfold siA
      rw [if_neg (by omega), if_neg (by omega), if_neg (by omega), if_neg (by omega), if_neg (by omega), if_neg (by omega), if_neg (by omega), if_neg (by omega), if_neg (by omega), if_neg (by omega), if_neg (by omega), if_neg (by omega)]
  · rw [if_neg hlo]
    refine zif (fun z => absurd z (by omega)) fun _ => zif (fun z => absurd z (by omega)) fun _ => zif (fun z => absurd z (by omega)) fun _ => zif (fun z => absurd z (by omega)) fun _ => zif (fun z => absurd z (by omega)) fun _ => zif (fun z => absurd z (by omega)) fun _ => zif (fun z => absurd z (by omega)) fun _ => zif (fun z => absurd z (by omega)) fun _ => zif (fun z => absurd z (by omega)) fun _ => zif (fun z => absurd z (by omega)) fun _ => zif (fun z => absurd z (by omega)) fun _ => zif (fun z => absurd z (by omega)) fun _ => zif (fun z => absurd z (by omega)) fun _ => zif (fun z => absurd z (by omega)) fun _ => zif (fun z => absurd z (by omega)) fun _ => zif (fun z => absurd z (by omega)) fun _ => zif (fun z => absurd z (by omega)) fun _ => zif (fun z => absurd z (by omega)) fun _ => zif (fun z => absurd z (by omega)) fun _ => zif (fun z => absurd z (by omega)) fun _ => zif (fun z => absurd z (by omega)) fun _ => zif (fun z => absurd z (by omega)) fun _ => zif (fun z => absurd z (by omega)) fun _ => zif (fun z => absurd z (by omega)) fun _ => zif (fun z => absurd z (by omega)) fun _ => zif (fun z => absurd z (by omega)) fun _ => K0 1 ?_ (by omega)
    unfold siA
    rw [if_neg (by omega), if_neg (by omega), if_neg (by omega), if_neg (by omega), if_neg (by omega), if_neg (by omega), if_neg (by omega), if_neg (by omega), if_neg (by omega), if_neg (by omega), if_neg (by omega), if_neg (by omega)]
theorem s_tokfin (HW : WBs Ω) {m : zM} {p0 : Int} (h : TC tx n m) (hp : m 75 2 = tkP tx n p0) (b : 0 ≤ tkP tx n p0 ∧ tkP tx n p0 ≤ n) (K : ∀ k v e m', tkA tx n p0 k v e → FG m m' → m' 75 3 = k → m' 75 4 = tkP tx n p0 → (k = 2 → m' 75 5 = v) → m' 75 2 = e → Q [] m') : zG Ω 86 0 [zR 8 75, zI (tkP tx n p0)] [] (zup m 75 4 (tkP tx n p0)) (fun r9 m9 => zk1 r9 fun v9 => if (m9 75 2) < (m9 75 1) then (zG Ω 88 0 [zI v9] [] m9 (fun r10 m10 => zk1 r10 fun v10 => if v10 = 0 then (zG Ω 89 0 [zI v9] [] m10 (fun r11 m11 => zk1 r11 fun v11 => if v11 = 0 then (zG Ω 93 0 [zR 8 75, zI v9] [] (zup m11 75 2 (zw ((m11 75 2) + 1))) (fun r12 m12 => zk1 r12 fun v12 => Q [] (zup m12 75 3 v12))) else (zG Ω 92 0 [zR 8 75, zU] [] m11 (fun r13 m13 => zk0 r13 (Q [] m13))))) else (zG Ω 90 0 [zR 8 75, zU] [] m10 (fun r14 m14 => zk0 r14 (Q [] m14))))) else (Q [] (zup m9 75 3 0))) := by
  generalize hq : tkP tx n p0 = q at *
  have hN := h.2.1
  have f1 : FG m (zup m 75 4 q) := FG_u FG_r (by omega)
  have h1 := TC_f h f1
  have e2 : zup m 75 4 q 75 2 = q := by rw [zup_j (by decide)]; exact hp
  unfold tkA at K
  rw [hq] at K
  refine s_signAt h1 b.1 (zk1_i ?_)
  rw [e2, h1.1]
  refine zif (fun z => b_letter h1 b.1 (fun y => ?_) fun y => b_digit h1 b.1 (fun w => ?_) fun w => ?_) fun z => ?_
  · refine w_X8_stepOverWord_0 (s_word_2 HW b.1 600 q 0 _ h1 e2 (zup_e rfl rfl) (Int.le_refl _) b.2 (by omega) (by omega) fun k m' hk f' a3 a4 a2 => ?_)
    refine K k 0 _ m' ?_ (FG_t f1 f') a3 a4 (fun z2 => ?_) a2
    · rw [if_neg (fun t => t z), if_pos y.2]
      exact ⟨hk, rfl⟩
    · exfalso
      subst z2
      have key : ∀ (ws : List (List Int)) (i : Int), 3 ≤ i → ¬ fdWd tx q (leA tx n 600 q) ws i 2 := by
        intro ws
        induction ws with
        | nil => intro i hi t; unfold fdWd at t; omega
        | cons w ws ih =>
          intro i hi t
          unfold fdWd at t
          rcases t with t | t
          · omega
          · exact ih (i + 1) (by omega) t.2
      exact key wdsA 3 (by omega) hk
  · have f2 : FG m (zup (zup (zup m 75 4 q) 75 3 2) 75 5 0) := FG_u (FG_u f1 (by omega)) (by omega)
    refine w_X8_stepOverNumber_0 (s_num_12 600 q 0 0 _ (TC_f h f2) (by rw [zup_j (by decide), zup_j (by decide)]; exact e2) (zup_e rfl rfl) (by omega) (by omega) b.1 b.2 (by omega) (by omega) fun m' f' a3 a4 a2 a5 => ?_)
    refine K 2 _ _ m' ?_ (FG_t f2 f') (a3.trans (by rw [zup_j (by decide), zup_e rfl rfl])) (a4.trans (by rw [zup_j (by decide), zup_j (by decide), zup_e rfl rfl])) (fun _ => a5) a2
    rw [if_neg (fun t => t z), if_neg (fun t => y ⟨z, t⟩), if_pos w.2]
    exact ⟨rfl, rfl, rfl⟩
  · rw [e2, zw_i (x := q + 1) (by omega) (by omega)]
    have f2 : FG m (zup (zup m 75 4 q) 75 2 (q + 1)) := FG_u f1 (by omega)
    refine s_kind (TC_f h f2) ⟨b.1, z⟩ (zup_e rfl rfl) (fun t => y ⟨z, t⟩) (fun t => w ⟨z, t⟩) fun m' f' a4 a2 => zk1_i ?_
    refine K (siA tx n q) 0 (q + 1 + (if siA tx n q = 25 ∨ siA tx n q = 27 ∨ siA tx n q = 28 then 1 else 0)) _ ?_ (FG_t f2 (FG_u f' (by omega))) (zup_e rfl rfl) (by rw [zup_j (by decide)]; exact a4) (fun z2 => ?_) (by rw [zup_j (by decide)]; exact a2)
    · rw [if_neg (fun t => t z), if_neg (fun t => y ⟨z, t⟩), if_neg (fun t => w ⟨z, t⟩)]
      exact ⟨rfl, rfl⟩
    · have := siA_b (tx := tx) (n := n) (q := q)
      omega
  · refine K 0 0 q _ ?_ (FG_u f1 (by omega)) (zup_e rfl rfl) (by rw [zup_j (by decide), zup_e rfl rfl]) (fun z2 => by omega) (by rw [zup_j (by decide)]; exact e2)
    rw [if_pos z]
    exact ⟨rfl, rfl⟩
theorem s_tok_2 (HW : WBs Ω) {p0 : Int} : ∀ (f : Nat) (p i : Int) (m : zM), TC tx n m → m 75 2 = p → 0 ≤ p → p ≤ n → i + f = 600 → 0 ≤ i → skA tx n f p = tkP tx n p0 → (∀ k v e m', tkA tx n p0 k v e → FG m m' → m' 75 3 = k → m' 75 4 = tkP tx n p0 → (k = 2 → m' 75 5 = v) → m' 75 2 = e → Q [] m') → zG Ω 85 2 [zR 8 75, zI i] [] m Q := by
  intro f
  induction f with
  | zero =>
    intro p i m h hp hp0 hpn hi h0 hsk K
    have hsk : p = tkP tx n p0 := hsk
    refine w_X8_step_2 (zif (fun z => absurd z (by omega)) fun _ => ?_)
    rw [hp, hsk]
    exact s_tokfin HW h (by rw [hp, hsk]) (by rw [← hsk]; exact ⟨hp0, hpn⟩) K
  | succ f ih =>
    intro p i m h hp hp0 hpn hi h0 hsk K
    have hN := h.2.1
    refine w_X8_step_2 (zif (fun _ => ?_) fun z => absurd (show i < 600 by omega) z)
    rw [hp]
    have hs' : skA tx n (f + 1) p = if p < n ∧ blA (tx p) then skA tx n f (p + 1) else p := rfl
    rw [hs'] at hsk
    refine s_signAt h hp0 (zk1_i (b_blank h hp0 (fun z => ?_) fun z => ?_))
    · rw [if_pos z] at hsk
      rw [hp, zw_i (x := i + 1) (by omega) (by omega), zw_i (x := p + 1) (by omega) (by omega)]
      have f1 : FG m (zup m 75 2 (p + 1)) := FG_u FG_r (by omega)
      exact ih (p + 1) (i + 1) _ (TC_f h f1) (zup_e rfl rfl) (by omega) (by omega) (by omega) (by omega) hsk fun k v e m' hk f' => K k v e m' hk (FG_t f1 f')
    · rw [if_neg z] at hsk
      rw [hp, hsk]
      exact s_tokfin HW h (by rw [hp, hsk]) (by rw [← hsk]; exact ⟨hp0, hpn⟩) K
/-- the class's next token -/
theorem s_tokC (HW : WBs Ω) {m : zM} {p : Int} (h : TC tx n m) (hp : m 75 2 = p) (b : 0 ≤ p ∧ p ≤ n) (K : ∀ k v e m', tkA tx n p k v e → FG m m' → m' 75 3 = k → m' 75 4 = tkP tx n p → (k = 2 → m' 75 5 = v) → m' 75 2 = e → Q [] m') : zG Ω 85 0 [zR 8 75, zU] [] m Q :=
  w_X8_step_0 (s_tok_2 HW 600 p 0 m h hp b.1 b.2 (by omega) (by omega) rfl K)
end L2
