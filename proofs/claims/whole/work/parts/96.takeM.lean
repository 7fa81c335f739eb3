/-- the reference's number of a sign, by the class's -/
def srA (k : Int) : Int := if k ≤ 34 then k - 23 else if k = 36 then 40 else if k = 37 then 41 else if k = 38 then 44 else 59
/-- the reference holds a token of kind k with number v -/
def RK (k v : Int) (m : zM) : Prop := (k = 0 → m 88 30 = 0) ∧ (k = 1 → m 88 30 = 4) ∧ (k = 2 → m 88 30 = 2 ∧ ((v ≤ 99999 ∧ m 88 31 = v) ∨ (v = 100000 ∧ 99999 < m 88 31))) ∧ (3 ≤ k → k ≤ 23 → m 88 30 = 1 ∧ m 88 31 = wrA k) ∧ (24 ≤ k → m 88 30 = 3 ∧ m 88 31 = srA k)
def FU (m m' : zM) : Prop := ∀ x j, ¬ (x = 88 ∧ 29 ≤ j ∧ j ≤ 32) → m' x j = m x j
theorem FU_r {m : zM} : FU m m := fun _ _ _ => rfl
theorem FU_t {m m' m'' : zM} (a : FU m m') (b : FU m' m'') : FU m m'' := fun x j h => (b x j h).trans (a x j h)
theorem FU_u {m m' : zM} {j v : Int} (a : FU m m') (hj : 29 ≤ j ∧ j ≤ 32) : FU m (zup m' 88 j v) := fun x' j' h => by
  unfold zup
  rw [if_neg (by rintro ⟨rfl, rfl⟩; exact h ⟨rfl, hj⟩)]
  exact a x' j' h
theorem spells_f {m m' : zM} (e : ∀ j, m' 109 j = m 109 j) : ∀ (w : List Int) (p : Int), spells m p w → spells m' p w := by
  intro w
  induction w with
  | nil => intro p h; exact (e p).trans h
  | cons c w ih => intro p h; exact ⟨(e p).trans h.1, h.2.1, ih _ h.2.2⟩
theorem encA_f {m m' : zM} (e : ∀ j, m' 109 j = m 109 j) : ∀ (ws : List (List Int)) (p : Int), encA m p ws → encA m' p ws := by
  intro ws
  induction ws with
  | nil => intro p h; exact h
  | cons w ws ih => intro p h; exact ⟨spells_f e w p h.1, ih _ h.2⟩
theorem TM_f {tx : Int → Int} {n : Int} {m m' : zM} (h : TM tx n m) (a : FU m m') : TM tx n m' := ⟨(a _ _ (by omega)).trans h.1, h.2.1, fun i i0 i1 => ⟨(h.2.2.1 i i0 i1).1, (a _ _ (by omega)).trans (h.2.2.1 i i0 i1).2⟩, encA_f (fun j => a _ _ (by omega)) _ _ h.2.2.2⟩
theorem fdWd_b {tx : Int → Int} {a b k : Int} : ∀ (ws : List (List Int)) (i : Int), fdWd tx a b ws i k → k = 1 ∨ (i ≤ k ∧ k < i + ws.length) := by
  intro ws
  induction ws with
  | nil => intro i h; exact Or.inl h
  | cons w ws ih =>
    intro i h
    rw [List.length_cons]
    rcases h with h | h
    · right; omega
    · have := ih (i + 1) h.2; omega
theorem wkA_b {tx : Int → Int} {a b k : Int} (h : wkA tx a b k) : k = 1 ∨ (3 ≤ k ∧ k ≤ 23) := by
  have := fdWd_b wdsA 3 h
  have e : (wdsA.length : Int) = 21 := rfl
  omega
section L2
variable {Ω : zΩ} {Q : List zV → zM → Prop} {tx : Int → Int} {n : Int}
theorem b_small {m : zM} {p : Int} {A B : zM → Prop} (h : TM tx n m) (hp : 0 ≤ p) (f : p < n ∧ ltA (tx p) → B m) (g : ¬ (p < n ∧ ltA (tx p)) → A m) : zG Ω 139 0 [zR 10 88, zI p] [] m (fun r m1 => zk1 r fun v => if v = 0 then A m1 else B m1) := by
  have hN := h.2.1
  refine w_X10_isSmall_0 ?_
  rw [h.1]
  refine zif (fun z => ?_) fun z => zk1_f (g fun q => z q.1)
  rw [(h.2.2.1 p hp z).2]
  exact zin_of hp (by omega) (zif (fun y => zk1_f (g fun q => by have := q.2; omega)) fun y => zin_of hp (by omega) (zif (fun w => zk1_f (g fun q => by have := q.2; omega)) fun w => zk1_t (f ⟨z, by omega, by omega⟩)))
theorem b_dig {m : zM} {p : Int} {A B : zM → Prop} (h : TM tx n m) (hp : 0 ≤ p) (f : p < n ∧ dgA (tx p) → B m) (g : ¬ (p < n ∧ dgA (tx p)) → A m) : zG Ω 140 0 [zR 10 88, zI p] [] m (fun r m1 => zk1 r fun v => if v = 0 then A m1 else B m1) := by
  have hN := h.2.1
  refine w_X10_isDigit_0 ?_
  rw [h.1]
  refine zif (fun z => ?_) fun z => zk1_f (g fun q => z q.1)
  rw [(h.2.2.1 p hp z).2]
  exact zin_of hp (by omega) (zif (fun y => zk1_f (g fun q => by have := q.2; omega)) fun y => zin_of hp (by omega) (zif (fun w => zk1_f (g fun q => by have := q.2; omega)) fun w => zk1_t (f ⟨z, by omega, by omega⟩)))
theorem b_isAt {m : zM} {p c : Int} {A B : zM → Prop} (h : TM tx n m) (hp : 0 ≤ p) (f : p < n ∧ tx p = c → B m) (g : ¬ (p < n ∧ tx p = c) → A m) : zG Ω 141 0 [zR 10 88, zI p, zI c] [] m (fun r m1 => zk1 r fun v => if v = 0 then A m1 else B m1) := by
  have hN := h.2.1
  refine w_X10_isAt_0 ?_
  rw [h.1]
  refine zif (fun z => ?_) fun z => zk1_f (g fun q => z q.1)
  rw [(h.2.2.1 p hp z).2]
  exact zin_of hp (by omega) (zif (fun y => zk1_t (f ⟨z, y⟩)) fun y => zk1_f (g fun q => y q.2))
theorem s_take_90 {q : Int} (hq : 0 ≤ q) : ∀ (f : Nat) (p : Int) (m : zM), TM tx n m → m 88 29 = p → m 88 32 = q → q ≤ p → p ≤ n → n - p ≤ f → (∀ k m', wkA tx q (leA tx n f p) k → FU m m' → RK k 0 m' → m' 88 32 = q → m' 88 29 = leA tx n f p → Q [] m') → zG Ω 143 90 [zR 10 88, zU] [] m Q := by
  intro f
  induction f with
  | zero =>
    intro p m h hp h32 hqp hpn hf K
    refine w_X10_take_90 ?_
    rw [hp]
    refine b_small h (by omega) (fun z => absurd z.1 (by omega)) fun z => ?_
    rw [h32, hp]
    refine s_wordAt h hq hqp hpn fun k hk => zk1_i ?_
    have kb := wkA_b hk
    have hw : 3 ≤ k → k ≤ 23 → 0 ≤ wrA k := fun a b => by unfold wrA; split <;> (try split) <;> omega
    refine zif (fun y => ?_) fun y => ?_
    · have k1 : k = 1 := by
        rcases kb with t | t
        · exact t
        · rw [if_neg (by omega)] at y; have := hw t.1 t.2; omega
      refine K k _ hk (FU_u (FU_u FU_r (by omega)) (by omega)) ⟨by omega, fun _ => zup_e rfl rfl, by omega, by omega, by omega⟩ (by rw [zup_j (by decide), zup_j (by decide)]; exact h32) (by rw [zup_j (by decide), zup_j (by decide)]; exact hp)
    · have k3 : 3 ≤ k ∧ k ≤ 23 := by
        rcases kb with t | t
        · rw [if_pos t] at y; exact absurd (show (-1 : Int) < 0 by decide) y
        · exact t
      refine K k _ hk (FU_u (FU_u FU_r (by omega)) (by omega)) ⟨by omega, by omega, by omega, fun _ _ => ⟨zup_e rfl rfl, by rw [zup_j (by decide), zup_e rfl rfl, if_neg (by omega)]⟩, by omega⟩ (by rw [zup_j (by decide), zup_j (by decide)]; exact h32) (by rw [zup_j (by decide), zup_j (by decide)]; exact hp)
  | succ f ih =>
    intro p m h hp h32 hqp hpn hf K
    have hN := h.2.1
    unfold leA at K
    refine w_X10_take_90 ?_
    rw [hp]
    refine b_small h (by omega) (fun z => ?_) fun z => ?_
    · rw [if_pos z] at K
      rw [hp, zw_i (x := p + 1) (by omega) (by omega)]
      have f1 : FU m (zup m 88 29 (p + 1)) := FU_u FU_r (by omega)
      exact ih (p + 1) _ (TM_f h f1) (zup_e rfl rfl) (by rw [zup_j (by decide)]; exact h32) (by omega) (by omega) (by omega) fun k m' hk f' => K k m' hk (FU_t f1 f')
    · rw [if_neg z] at K
      rw [h32, hp]
      refine s_wordAt h hq hqp hpn fun k hk => zk1_i ?_
      have kb := wkA_b hk
      have hw : 3 ≤ k → k ≤ 23 → 0 ≤ wrA k := fun a b => by unfold wrA; split <;> (try split) <;> omega
      refine zif (fun y => ?_) fun y => ?_
      · have k1 : k = 1 := by
          rcases kb with t | t
          · exact t
          · rw [if_neg (by omega)] at y; have := hw t.1 t.2; omega
        refine K k _ hk (FU_u (FU_u FU_r (by omega)) (by omega)) ⟨by omega, fun _ => zup_e rfl rfl, by omega, by omega, by omega⟩ (by rw [zup_j (by decide), zup_j (by decide)]; exact h32) (by rw [zup_j (by decide), zup_j (by decide)]; exact hp)
      · have k3 : 3 ≤ k ∧ k ≤ 23 := by
          rcases kb with t | t
          · rw [if_pos t] at y; exact absurd (show (-1 : Int) < 0 by decide) y
          · exact t
        refine K k _ hk (FU_u (FU_u FU_r (by omega)) (by omega)) ⟨by omega, by omega, by omega, fun _ _ => ⟨zup_e rfl rfl, by rw [zup_j (by decide), zup_e rfl rfl, if_neg (by omega)]⟩, by omega⟩ (by rw [zup_j (by decide), zup_j (by decide)]; exact h32) (by rw [zup_j (by decide), zup_j (by decide)]; exact hp)
theorem s_take_170 : ∀ (f : Nat) (p v w : Int) (m : zM), TM tx n m → m 88 29 = p → m 88 31 = w → ((v ≤ 99999 ∧ 0 ≤ v ∧ w = v) ∨ (v = 100000 ∧ 99999 < w)) → 0 ≤ p → p ≤ n → n - p ≤ f → (∀ w' m', FU m m' → m' 88 30 = m 88 30 → m' 88 32 = m 88 32 → m' 88 29 = (nuA tx n f p v).1 → m' 88 31 = w' → (((nuA tx n f p v).2 ≤ 99999 ∧ w' = (nuA tx n f p v).2) ∨ ((nuA tx n f p v).2 = 100000 ∧ 99999 < w')) → Q [] m') → zG Ω 143 170 [zR 10 88, zU] [] m Q := by
  intro f
  induction f with
  | zero =>
    intro p v w m h hp h31 hv p0 hpn hf K
    refine w_X10_take_170 ?_
    rw [hp]
    refine b_dig h p0 (fun z => absurd z.1 (by omega)) fun z => K w m FU_r rfl rfl hp h31 ?_
    unfold nuA
    dsimp only
    omega
  | succ f ih =>
    intro p v w m h hp h31 hv p0 hpn hf K
    have hN := h.2.1
    unfold nuA at K
    refine w_X10_take_170 ?_
    rw [hp]
    refine b_dig h p0 (fun z => ?_) fun z => ?_
    · rw [if_pos z] at K
      rw [h31, hp, zw_i (x := p + 1) (by omega) (by omega), (h.2.2.1 p p0 z.1).2]
      refine zif (fun y => ?_) fun y => zin_of p0 (by omega) ?_
      · have f1 : FU m (zup (zup m 88 31 w) 88 29 (p + 1)) := FU_u (FU_u FU_r (by omega)) (by omega)
        exact ih (p + 1) _ w _ (TM_f h f1) (zup_e rfl rfl) (by rw [zup_j (by decide), zup_e rfl rfl]) (by
          rw [if_neg (by omega)]
          omega) (by omega) (by omega) (by omega) fun w' m' f' e30 e32 => K w' m' (FU_t f1 f') (e30.trans (by rw [zup_j (by decide), zup_j (by decide)])) (e32.trans (by rw [zup_j (by decide), zup_j (by decide)]))
      · rw [zw_i (x := 10 * w) (by omega) (by omega), zw_i (x := 10 * w + tx p) (by omega) (by omega), zw_i (x := 10 * w + tx p - 48) (by omega) (by omega)]
        have f1 : FU m (zup (zup m 88 31 (10 * w + tx p - 48)) 88 29 (p + 1)) := FU_u (FU_u FU_r (by omega)) (by omega)
        exact ih (p + 1) _ (10 * w + tx p - 48) _ (TM_f h f1) (zup_e rfl rfl) (by rw [zup_j (by decide), zup_e rfl rfl]) (by split <;> omega) (by omega) (by omega) (by omega) fun w' m' f' e30 e32 => K w' m' (FU_t f1 f') (e30.trans (by rw [zup_j (by decide), zup_j (by decide)])) (e32.trans (by rw [zup_j (by decide), zup_j (by decide)]))
    · rw [if_neg z] at K
      exact K w m FU_r rfl rfl hp h31 (by dsimp only; omega)
theorem s_signOf {m : zM} {q : Int} (h : TM tx n m) (hq : 0 ≤ q) (h29 : m 88 29 = q + 1) (nd : ¬ dgA (tx q)) (K : Q [zI (if siA tx n q = 1 then -1 else srA (siA tx n q))] m) : zG Ω 142 0 [zR 10 88, zI (tx q)] [] m Q := by
  refine w_X10_signOf_0 ?_
  rw [h29]
  unfold siA at K
  refine zif (fun z => ?_) fun z1 => ?_
  · rw [if_pos z] at K
    refine b_isAt h (by omega) (fun y => ?_) fun y => b_isAt h (by omega) (fun w => ?_) fun w => ?_
    · rwa [if_pos y] at K
    · rw [h29] at w; rwa [if_neg y, if_pos w] at K
    · rw [h29] at w; rwa [if_neg y, if_neg w] at K
  rw [if_neg z1] at K
  refine zif (fun z => ?_) fun z2 => ?_
  · rw [if_pos z] at K
    refine b_isAt h (by omega) (fun y => ?_) fun y => ?_
    · rwa [if_pos y] at K
    · rwa [if_neg y] at K
  rw [if_neg z2] at K
  refine zif (fun z => ?_) fun z3 => ?_
  · rwa [if_pos z] at K
  rw [if_neg z3] at K
  refine zif (fun z => ?_) fun z4 => ?_
  · rwa [if_pos z] at K
  rw [if_neg z4] at K
  refine zif (fun z => ?_) fun z5 => ?_
  · rwa [if_pos z] at K
  rw [if_neg z5] at K
  refine zif (fun z => ?_) fun z6 => ?_
  · rwa [if_pos z] at K
  rw [if_neg z6] at K
  refine zif (fun z => ?_) fun z7 => ?_
  · rwa [if_pos z] at K
  rw [if_neg z7] at K
  refine zif (fun z => ?_) fun z8 => ?_
  · rwa [if_pos z] at K
  rw [if_neg z8] at K
  refine zif (fun z => ?_) fun z9 => zif (fun z => ?_) fun z10 => zif (fun z => ?_) fun z11 => zif (fun z => ?_) fun z12 => ?_
  · rw [if_neg (show ¬ tx q = 40 by omega), if_neg (show ¬ tx q = 41 by omega), if_neg (show ¬ tx q = 44 by omega), if_pos z] at K
    rw [z]; exact K
  · rw [if_neg (show ¬ tx q = 40 by omega), if_neg (show ¬ tx q = 41 by omega), if_pos z] at K
    rw [z]; exact K
  · rw [if_pos z] at K
    rw [z]; exact K
  · rw [if_neg (show ¬ tx q = 40 by omega), if_pos z] at K
    rw [z]; exact K
  · rwa [if_neg z11, if_neg z12, if_neg z10, if_neg z9, if_pos rfl] at K
theorem s_takefin {m : zM} {p0 : Int} (h : TM tx n m) (hp : m 88 29 = tkP tx n p0) (b : 0 ≤ tkP tx n p0 ∧ tkP tx n p0 ≤ n) (K : ∀ k v e m', tkA tx n p0 k v e → FU m m' → RK k v m' → m' 88 32 = tkP tx n p0 → m' 88 29 = e → Q [] m') : if tkP tx n p0 = n then (Q [] (zup (zup m 88 32 (tkP tx n p0)) 88 30 0)) else (zG Ω 139 0 [zR 10 88, zI (tkP tx n p0)] [] (zup m 88 32 (tkP tx n p0)) (fun r4 m4 => zk1 r4 fun v4 => if v4 = 0 then (zG Ω 140 0 [zR 10 88, zI (m4 88 29)] [] m4 (fun r5 m5 => zk1 r5 fun v5 => if v5 = 0 then (zin (m5 88 29) 600 (zG Ω 142 0 [zR 10 88, zI (m5 89 (m5 88 29))] [] (zup m5 88 29 (zw ((m5 88 29) + 1))) (fun r6 m6 => zk1 r6 fun v6 => if v6 < 0 then (if v6 = 2 then (Q [] (zup (zup (zup m6 88 31 v6) 88 30 4) 88 29 (zw ((m6 88 29) + 1)))) else (if v6 = 4 then (Q [] (zup (zup (zup m6 88 31 v6) 88 30 4) 88 29 (zw ((m6 88 29) + 1)))) else (if v6 = 5 then (Q [] (zup (zup (zup m6 88 31 v6) 88 30 4) 88 29 (zw ((m6 88 29) + 1)))) else (Q [] (zup (zup m6 88 31 v6) 88 30 4))))) else (if v6 = 2 then (Q [] (zup (zup (zup m6 88 31 v6) 88 30 3) 88 29 (zw ((m6 88 29) + 1)))) else (if v6 = 4 then (Q [] (zup (zup (zup m6 88 31 v6) 88 30 3) 88 29 (zw ((m6 88 29) + 1)))) else (if v6 = 5 then (Q [] (zup (zup (zup m6 88 31 v6) 88 30 3) 88 29 (zw ((m6 88 29) + 1)))) else (Q [] (zup (zup m6 88 31 v6) 88 30 3)))))))) else (zG Ω 143 170 [zR 10 88, zU] [] (zup (zup m5 88 30 2) 88 31 0) Q))) else (zG Ω 143 90 [zR 10 88, zU] [] m4 Q))) := by
  generalize hq : tkP tx n p0 = q at *
  have hN := h.2.1
  have f1 : FU m (zup m 88 32 q) := FU_u FU_r (by omega)
  have h1 := TM_f h f1
  have e29 : zup m 88 32 q 88 29 = q := by rw [zup_j (by decide)]; exact hp
  unfold tkA at K
  rw [hq] at K
  refine zif (fun z => ?_) fun z => ?_
  · refine K 0 0 q _ ?_ (FU_u f1 (by omega)) ⟨fun _ => zup_e rfl rfl, by omega, by omega, by omega, by omega⟩ (by rw [zup_j (by decide), zup_e rfl rfl]) (by rw [zup_j (by decide)]; exact e29)
    rw [if_pos (by omega)]
    exact ⟨rfl, rfl⟩
  have zn : q < n := by omega
  refine b_small h1 b.1 (fun y => ?_) fun y => ?_
  · refine s_take_90 (q := q) b.1 600 q _ h1 e29 (zup_e rfl rfl) (Int.le_refl _) b.2 (by omega) fun k m' hk f' rk a32 a29 => ?_
    refine K k 0 _ m' ?_ (FU_t f1 f') rk a32 a29
    rw [if_neg (fun t => t zn), if_pos y.2]
    exact ⟨hk, rfl⟩
  rw [e29]
  refine b_dig h1 b.1 (fun w => ?_) fun w => ?_
  · have f2 : FU m (zup (zup (zup m 88 32 q) 88 30 2) 88 31 0) := FU_u (FU_u f1 (by omega)) (by omega)
    refine s_take_170 600 q 0 0 _ (TM_f h f2) (by rw [zup_j (by decide), zup_j (by decide)]; exact e29) (zup_e rfl rfl) (Or.inl ⟨by omega, by omega, rfl⟩) b.1 b.2 (by omega) fun w' m' f' a30 a32 a29 a31 hv => ?_
    refine K 2 _ _ m' ?_ (FU_t f2 f') ⟨by omega, by omega, fun _ => ⟨a30.trans (by rw [zup_j (by decide), zup_e rfl rfl]), by rw [a31]; exact hv⟩, by omega, by omega⟩ (a32.trans (by rw [zup_j (by decide), zup_j (by decide), zup_e rfl rfl])) a29
    rw [if_neg (fun t => t zn), if_neg (fun t => y ⟨zn, t⟩), if_pos w.2]
    exact ⟨rfl, rfl, rfl⟩
  · rw [e29, zw_i (x := q + 1) (by omega) (by omega), (h1.2.2.1 q b.1 zn).2]
    have f2 : FU m (zup (zup m 88 32 q) 88 29 (q + 1)) := FU_u f1 (by omega)
    refine zin_of b.1 (by omega) (s_signOf (TM_f h f2) b.1 (zup_e rfl rfl) (fun t => w ⟨zn, t⟩) (zk1_i ?_))
    have sb := siA_b (tx := tx) (n := n) (q := q)
    have s35 : ¬ siA tx n q = 35 := by
      unfold siA
      repeat' split
      all_goals decide
    have K := fun m' => K (siA tx n q) 0 (q + 1 + (if siA tx n q = 25 ∨ siA tx n q = 27 ∨ siA tx n q = 28 then 1 else 0)) m' (by rw [if_neg (fun t => t zn), if_neg (fun t => y ⟨zn, t⟩), if_neg (fun t => w ⟨zn, t⟩)]; exact ⟨rfl, rfl⟩)
    generalize siA tx n q = k at *
    rw [zup_e (f := zup m 88 32 q) rfl rfl, zw_i (x := q + 1 + 1) (by omega) (by omega)]
    have m32 : ∀ f : zM, (∀ x j, f x j = zup (zup m 88 32 q) 88 29 (q + 1) x j) → f 88 32 = q := fun f hf => by rw [hf, zup_j (by decide), zup_e rfl rfl]
    by_cases k1 : k = 1
    · rw [if_pos k1, if_pos (by decide), if_neg (by decide), if_neg (by decide), if_neg (by decide)]
      refine K _ (FU_u (FU_u f2 (by omega)) (by omega)) ⟨by omega, fun _ => zup_e rfl rfl, by omega, by omega, by omega⟩ (by rw [zup_j (by decide), zup_j (by decide), zup_j (by decide), zup_e rfl rfl]) ?_
      rw [zup_j (by decide), zup_j (by decide), zup_e rfl rfl, if_neg (by omega), Int.add_zero]
    · rw [if_neg k1]
      have sp : 0 ≤ srA k := by unfold srA; split <;> (try split) <;> (try split) <;> (try split) <;> omega
      have s2 : (srA k = 2 ∨ srA k = 4 ∨ srA k = 5) ↔ (k = 25 ∨ k = 27 ∨ k = 28) := by
        unfold srA
        split
        · omega
        · split <;> (try split) <;> (try split) <;> omega
      rw [if_neg (by omega)]
      have long : (srA k = 2 ∨ srA k = 4 ∨ srA k = 5) → Q [] (zup (zup (zup (zup (zup m 88 32 q) 88 29 (q + 1)) 88 31 (srA k)) 88 30 3) 88 29 (q + 1 + 1)) := fun t => by
        refine K _ (FU_u (FU_u (FU_u f2 (by omega)) (by omega)) (by omega)) ⟨by omega, by omega, by omega, by omega, fun _ => ⟨by rw [zup_j (by decide), zup_e rfl rfl], by rw [zup_j (by decide), zup_j (by decide), zup_e rfl rfl]⟩⟩ (by rw [zup_j (by decide), zup_j (by decide), zup_j (by decide), zup_j (by decide), zup_e rfl rfl]) ?_
        rw [zup_e rfl rfl, if_pos (s2.mp t)]
      refine zif (fun t => long (Or.inl t)) fun t2 => zif (fun t => long (Or.inr (Or.inl t))) fun t4 => zif (fun t => long (Or.inr (Or.inr t))) fun t5 => ?_
      refine K _ (FU_u (FU_u f2 (by omega)) (by omega)) ⟨by omega, by omega, by omega, by omega, fun _ => ⟨zup_e rfl rfl, by rw [zup_j (by decide), zup_e rfl rfl]⟩⟩ (by rw [zup_j (by decide), zup_j (by decide), zup_j (by decide), zup_e rfl rfl]) ?_
      rw [zup_j (by decide), zup_j (by decide), zup_e rfl rfl, if_neg (fun t => by have := s2.mpr t; omega), Int.add_zero]
theorem s_take_0 {p0 : Int} : ∀ (f : Nat) (p : Int) (m : zM), TM tx n m → m 88 29 = p → 0 ≤ p → p ≤ n → n - p ≤ f → skA tx n f p = tkP tx n p0 → (∀ k v e m', tkA tx n p0 k v e → FU m m' → RK k v m' → m' 88 32 = tkP tx n p0 → m' 88 29 = e → Q [] m') → zG Ω 143 0 [zR 10 88, zU] [] m Q := by
  intro f
  induction f with
  | zero =>
    intro p m h hp hp0 hpn hf hsk K
    have hsk : p = tkP tx n p0 := hsk
    refine w_X10_take_0 ?_
    rw [hp, h.1]
    refine zif (fun z => absurd z (by omega)) fun _ => ?_
    rw [hsk]
    exact s_takefin h (hp.trans hsk) (by rw [← hsk]; exact ⟨hp0, hpn⟩) K
  | succ f ih =>
    intro p m h hp hp0 hpn hf hsk K
    have hN := h.2.1
    have hs' : skA tx n (f + 1) p = if p < n ∧ blA (tx p) then skA tx n f (p + 1) else p := rfl
    rw [hs'] at hsk
    have next : p < n ∧ blA (tx p) → zG Ω 143 0 [zR 10 88, zU] [] (zup m 88 29 (zw (p + 1))) Q := fun z => by
      rw [if_pos z] at hsk
      rw [zw_i (x := p + 1) (by omega) (by omega)]
      have f1 : FU m (zup m 88 29 (p + 1)) := FU_u FU_r (by omega)
      exact ih (p + 1) _ (TM_f h f1) (zup_e rfl rfl) (by omega) (by omega) (by omega) hsk fun k v e m' hk f' => K k v e m' hk (FU_t f1 f')
    have stop : ¬ (p < n ∧ blA (tx p)) → p = tkP tx n p0 := fun z => by
      rw [if_neg z] at hsk; exact hsk
    refine w_X10_take_0 ?_
    rw [hp, h.1]
    refine zif (fun z => ?_) fun z => ?_
    · rw [(h.2.2.1 p hp0 z).2]
      refine zin_of hp0 (by omega) (zif (fun y => next ⟨z, Or.inl y⟩) fun y => zin_of hp0 (by omega) (zif (fun w => next ⟨z, Or.inr w⟩) fun w => ?_))
      have e := stop fun t => t.2.elim y w
      rw [e]
      exact s_takefin h (hp.trans e) (by rw [← e]; exact ⟨hp0, hpn⟩) K
    · have e := stop fun t => z t.1
      rw [e]
      exact s_takefin h (hp.trans e) (by rw [← e]; exact ⟨hp0, hpn⟩) K
/-- the reference's next token -/
theorem s_takeM {m : zM} {p : Int} (h : TM tx n m) (hp : m 88 29 = p) (b : 0 ≤ p ∧ p ≤ n) (K : ∀ k v e m', tkA tx n p k v e → FU m m' → RK k v m' → m' 88 32 = tkP tx n p → m' 88 29 = e → Q [] m') : zG Ω 143 0 [zR 10 88, zU] [] m Q :=
  s_take_0 600 p m h hp b.1 b.2 (by have := h.2.1; omega) rfl K
end L2
