theorem zk2_i {v : Int} {P : Int → Prop} (h : P v) : zk2 [zL v] P := h
theorem zk1_i {v : Int} {P : Int → Prop} (h : P v) : zk1 [zI v] P := h
def fcC (m : zM) (x2 y lt c : Int) : Int := if c = 12 then y else if c = 13 then m x2 3 else if c = 14 then m x2 4 else if c = 15 then m x2 5 else if c = 16 then m x2 0 else if c = 17 then m x2 2 else if c = 18 then m x2 6 else if c = 19 then m x2 7 else lt
theorem fcC_eq {m m' : zM} {x2 y lt c : Int} (h : ∀ j, m' x2 j = m x2 j) : fcC m' x2 y lt c = fcC m x2 y lt c := by
  unfold fcC
  rw [h, h, h, h, h, h, h]
theorem evA_s {sg nm f : Int → Int} {n : Nat} {p : Int} {st : List Int} (h : sdA (sg p)) : evA sg nm f (n + 1) p st = evA sg nm f n (p + 1) ((if sg p = 2 then nm p else f (sg p)) :: st) := by
  rw [evA.eq_def]
  dsimp only
  rw [if_pos h]
theorem evA_u {sg nm f : Int → Int} {n : Nat} {p a : Int} {t : List Int} (h : sg p = 23 ∨ sg p = 35) : evA sg nm f (n + 1) p (a :: t) = evA sg nm f n (p + 1) ((if sg p = 35 then -a else if a = 0 then 1 else 0) :: t) := by
  rw [evA, if_neg (by unfold sdA; omega), if_pos h]
theorem evA_u0 {sg nm f : Int → Int} {n : Nat} {p : Int} (h : sg p = 23 ∨ sg p = 35) : evA sg nm f (n + 1) p [] = 0 := by
  rw [evA, if_neg (by unfold sdA; omega), if_pos h]
theorem evA_b {sg nm f : Int → Int} {n : Nat} {p a b : Int} {t : List Int} (h1 : ¬ sdA (sg p)) (h2 : ¬ (sg p = 23 ∨ sg p = 35)) : evA sg nm f (n + 1) p (b :: a :: t) = if erA (sg p) a b then 0 else evA sg nm f n (p + 1) (jnA (sg p) a b :: t) := by
  rw [evA, if_neg h1, if_neg h2]
theorem evA_b0 {sg nm f : Int → Int} {n : Nat} {p : Int} (h1 : ¬ sdA (sg p)) (h2 : ¬ (sg p = 23 ∨ sg p = 35)) : evA sg nm f (n + 1) p [] = 0 := by
  rw [evA, if_neg h1, if_neg h2]
theorem evA_b1 {sg nm f : Int → Int} {n : Nat} {p a : Int} (h1 : ¬ sdA (sg p)) (h2 : ¬ (sg p = 23 ∨ sg p = 35)) : evA sg nm f (n + 1) p [a] = 0 := by
  rw [evA, if_neg h1, if_neg h2]
section L2
variable {Ω : zΩ} {Q : List zV → zM → Prop}
theorem b_side {m : zM} {c : Int} {A B : zM → Prop} (f : sdA c → B m) (n : ¬ sdA c → A m) : zG Ω 12 0 [zI c] [] m (fun r m1 => zk1 r fun v => if v = 0 then A m1 else B m1) := by
  refine w_X0_isSide_0 (zif (fun h => zk1_t (f (Or.inl h))) fun h => zif (fun h1 => zk1_f (n ?_)) fun h1 => zif (fun h2 => zk1_f (n ?_)) fun h2 => zk1_t (f (Or.inr ⟨by omega, by omega⟩)))
  · unfold sdA; omega
  · unfold sdA; omega
theorem s_fact {m : zM} {x2 c y lt : Int} (K : Q [zI (fcC m x2 y lt c)] m) : zG Ω 17 0 [zR 1 x2, zI c, zI y, zI lt] [] m Q := by
  unfold fcC at K
  refine w_X1_fact_0 (zif (fun h => ?_) fun h1 => ?_)
  · rwa [if_pos h] at K
  rw [if_neg h1] at K
  refine zif (fun h => ?_) fun h1 => ?_
  · rwa [if_pos h] at K
  rw [if_neg h1] at K
  refine zif (fun h => ?_) fun h1 => ?_
  · rwa [if_pos h] at K
  rw [if_neg h1] at K
  refine zif (fun h => ?_) fun h1 => ?_
  · rwa [if_pos h] at K
  rw [if_neg h1] at K
  refine zif (fun h => ?_) fun h1 => ?_
  · rwa [if_pos h] at K
  rw [if_neg h1] at K
  refine zif (fun h => ?_) fun h1 => ?_
  · rwa [if_pos h] at K
  rw [if_neg h1] at K
  refine zif (fun h => ?_) fun h1 => ?_
  · rwa [if_pos h] at K
  rw [if_neg h1] at K
  refine zif (fun h => ?_) fun h1 => ?_
  · rwa [if_pos h] at K
  rwa [if_neg h1] at K
theorem s_work_23 {E w x2 y lt : Int} {sg nm f : Int → Int} (hE : E = 76 ∨ E = 82) (hx : 29 ≤ x2 ∧ x2 ≤ 59) (hw : 7 ≤ w ∧ w ≤ 13) (hfb : ∀ c, 12 ≤ c → c ≤ 20 → bdA (f c)) : ∀ (n : Nat) (p : Int) (st : List Int) (m : zM), (∀ q, m (E + 1) q = sg q) → (∀ q, m (E + 2) q = nm q) → (∀ c, 12 ≤ c → c ≤ 20 → fcC m x2 y lt c = f c) → m (E + 4) (w - 7) = p + n → 0 ≤ p → p + n ≤ 112 → (st.length : Int) + n ≤ 112 → stk m (E + 5) st → (∀ a ∈ st, bdA a) → (∀ q, p ≤ q → q < p + n → (sdA (sg q) ∨ (21 ≤ sg q ∧ sg q ≤ 35)) ∧ (sg q = 2 → bdA (nm q))) → (∀ m', (∀ x j, ¬ x = E + 5 → m' x j = m x j) → Q [zL (evA sg nm f n p st)] m') → zG Ω 11 23 [zR 0 E, zI w, zR 1 x2, zI y, zI lt, zI st.length, zI p, zU, zU, zU] [] m Q := by
  intro n
  induction n with
  | zero =>
    intro p st m hsg hnm hf hend hp0 hp1 hl hs hb hq K
    have K := K m fun _ _ _ => rfl
    refine w_X0_work_23 (zin_of (by rw [zw_i (by omega) (by omega)]; omega) (by rw [zw_i (by omega) (by omega)]; omega) ?_)
    rw [zw_i (x := w - 7) (by omega) (by omega), hend]
    refine zif (fun h => absurd h (by omega)) fun _ => ?_
    cases st with
    | nil => exact zif (fun h => absurd h (by decide)) fun _ => K
    | cons a t =>
      cases t with
      | nil =>
        refine zif (fun _ => ?_) fun h => absurd rfl h
        have : m (E + 5) 0 = a := hs.1
        rw [this]; exact K
      | cons b t =>
        refine zif (fun h => absurd h (by simp only [List.length_cons]; omega)) fun _ => K
  | succ n ih =>
    intro p st m hsg hnm hf hend hp0 hp1 hl hs hb hq K
    have hqp := hq p (by omega) (by omega)
    have go : ∀ (st' : List Int) (v j : Int) (t : List Int), st' = v :: t → (t.length : Int) = j → (t.length : Int) ≤ st.length → stk m (E + 5) t → bdA v → (∀ a ∈ t, bdA a) → evA sg nm f (n + 1) p st = evA sg nm f n (p + 1) st' → ∀ L : Int, L = j + 1 → zG Ω 11 23 [zR 0 E, zI w, zR 1 x2, zI y, zI lt, zI L, zI (p + 1), zU, zU, zU] [] (zup m (E + 5) j v) Q := by
      intro st' v j t est ej hlt hst hv hbt he L hL
      subst ej
      subst hL
      have r : ∀ x k, ¬ x = E + 5 → zup m (E + 5) (t.length : Int) v x k = m x k := fun x k h => zup_c h
      have := ih (p + 1) st' (zup m (E + 5) (t.length : Int) v) (fun q => by rw [r _ _ (by omega)]; exact hsg q) (fun q => by rw [r _ _ (by omega)]; exact hnm q) (fun c c0 c1 => by rw [fcC_eq (fun j => r x2 j (by omega))]; exact hf c c0 c1) (by rw [r _ _ (by omega), hend]; omega) (by omega) (by omega) (by rw [est, List.length_cons]; omega) (by rw [est]; exact ⟨zup_e rfl rfl, stk_up t (Int.le_refl _) hst⟩) (fun a ha => by
        rw [est] at ha
        rcases List.mem_cons.mp ha with z | z
        · rw [z]; exact hv
        · exact hbt a z) (fun q q0 q1 => hq q (by omega) (by omega)) fun m' o' => by
          rw [← he]
          exact K m' fun x j h => (o' x j h).trans (r x j h)
      rw [est, List.length_cons, show ((t.length + 1 : Nat) : Int) = (t.length : Int) + 1 by omega] at this
      exact this
    have stop : evA sg nm f (n + 1) p st = 0 → Q [zL 0] m := fun e => by
      have := K m fun _ _ _ => rfl
      rwa [e] at this
    refine w_X0_work_23 (zin_of (by rw [zw_i (by omega) (by omega)]; omega) (by rw [zw_i (by omega) (by omega)]; omega) ?_)
    rw [zw_i (x := w - 7) (by omega) (by omega), hend, hsg, zw_i (x := p + 1) (by omega) (by omega)]
    refine zif (fun _ => zin_of (by omega) (by omega) (b_side (fun h => ?_) fun h => ?_)) fun h => absurd (show p < p + ((n + 1 : Nat) : Int) by omega) h
    · have es := evA_s (nm := nm) (f := f) (n := n) (st := st) h
      refine zif (fun _ => zif (fun h2 => zin_of (by omega) (by omega) (zin_of (by omega) (by omega) ?_)) fun h2 => s_fact ?_) fun h2 => absurd (show (st.length : Int) < 112 by omega) h2
      · rw [if_pos h2] at es
        rw [hnm, zw_i (by omega) (by omega)]
        exact go _ (nm p) st.length st rfl rfl (Int.le_refl _) hs (hqp.2 h2) hb es _ rfl
      · rw [if_neg h2] at es
        have hc : 12 ≤ sg p ∧ sg p ≤ 20 := by
          rcases h with z | z
          · exact absurd z h2
          · exact z
        rw [hf _ hc.1 hc.2]
        show zin (st.length : Int) 112 _
        refine zin_of (by omega) (by omega) ?_
        rw [zw_i (by omega) (by omega)]
        exact go _ (f (sg p)) st.length st rfl rfl (Int.le_refl _) hs (hfb _ hc.1 hc.2) hb es _ rfl
    · have hr : 21 ≤ sg p ∧ sg p ≤ 35 := by
        rcases hqp.1 with z | z
        · exact absurd z h
        · exact z
      by_cases hu : sg p = 23 ∨ sg p = 35
      · cases st with
        | nil =>
          have e0 := stop (evA_u0 hu)
          refine zif (fun h2 => zif (fun _ => e0) fun z => absurd (show ((([] : List Int).length : Nat) : Int) < 1 by decide) z) fun h2 => zif (fun h3 => zif (fun _ => e0) fun z => absurd (show ((([] : List Int).length : Nat) : Int) < 1 by decide) z) fun h3 => absurd hu (by omega)
        | cons a t =>
          have eu := evA_u (nm := nm) (f := f) (n := n) (a := a) (t := t) hu
          have ha : bdA a := hb a List.mem_cons_self
          have hbt : ∀ b ∈ t, bdA b := fun b hb' => hb b (List.mem_cons_of_mem _ hb')
          rw [List.length_cons] at hl
          have el : (((a :: t).length : Nat) : Int) = (t.length : Int) + 1 := by rw [List.length_cons]; omega
          have w1 : zw (((a :: t).length : Nat) - 1) = (t.length : Int) := by rw [el, zw_i (by omega) (by omega)]; omega
          have ea : m (E + 5) (t.length : Int) = a := hs.1
          have lt' : (t.length : Int) ≤ ((a :: t).length : Nat) := by rw [el]; omega
          rw [w1, ea]
          simp only [zcmp_e]
          unfold bdA at ha
          rw [zwl_i (x := -a) (by omega) (by omega)]
          refine zif (fun h2 => zif (fun z => absurd z (by omega)) fun _ => zin_of (by omega) (by omega) (zif (fun z => absurd z (by omega)) fun _ => zif (fun z => s_oneT ?_) fun z => s_oneF ?_)) fun h2 => zif (fun h3 => zif (fun z => absurd z (by omega)) fun _ => zin_of (by omega) (by omega) (zif (fun z => zin_of (by omega) (by omega) ?_) fun z => absurd h3 z)) fun h3 => absurd hu (by omega)
          · refine zk2_i (zin_of (by omega) (by omega) ?_)
            rw [if_neg (by omega), if_pos z] at eu
            exact go _ 1 _ t rfl rfl lt' hs.2 (by unfold bdA; omega) hbt eu _ el
          · refine zk2_i (zin_of (by omega) (by omega) ?_)
            rw [if_neg (by omega), if_neg z] at eu
            exact go _ 0 _ t rfl rfl lt' hs.2 (by unfold bdA; omega) hbt eu _ el
          · rw [if_pos h3] at eu
            exact go _ (-a) _ t rfl rfl lt' hs.2 (by unfold bdA; omega) hbt eu _ el
      · refine zif (fun z => absurd (Or.inl z) hu) fun _ => zif (fun z => absurd (Or.inr z) hu) fun _ => ?_
        cases st with
        | nil =>
          exact zif (fun _ => stop (evA_b0 h hu)) fun z => absurd (show ((([] : List Int).length : Nat) : Int) < 2 by decide) z
        | cons b t =>
          cases t with
          | nil =>
            exact zif (fun _ => stop (evA_b1 h hu)) fun z => absurd (show ((([b] : List Int).length : Nat) : Int) < 2 by simp) z
          | cons a t =>
            have eb := evA_b (nm := nm) (f := f) (n := n) (a := a) (b := b) (t := t) h hu
            have hb1 : bdA b := hb b List.mem_cons_self
            have ha1 : bdA a := hb a (List.mem_cons_of_mem _ List.mem_cons_self)
            have hbt : ∀ c ∈ t, bdA c := fun c hc => hb c (List.mem_cons_of_mem _ (List.mem_cons_of_mem _ hc))
            have el : (((b :: a :: t).length : Nat) : Int) = (t.length : Int) + 2 := by rw [List.length_cons, List.length_cons]; omega
            have w1 : zw (((b :: a :: t).length : Nat) - 1) = (t.length : Int) + 1 := by rw [el, zw_i (by omega) (by omega)]; omega
            have w2 : zw (((b :: a :: t).length : Nat) - 2) = (t.length : Int) := by rw [el, zw_i (by omega) (by omega)]; omega
            have w3 : zw (((b :: a :: t).length : Nat) + (-1)) = (t.length : Int) + 1 := by rw [el, zw_i (by omega) (by omega)]; omega
            have e1 : m (E + 5) ((t.length : Int) + 1) = b := by
              have := hs.1
              rw [List.length_cons, show ((t.length + 1 : Nat) : Int) = (t.length : Int) + 1 by omega] at this
              exact this
            have e2 : m (E + 5) (t.length : Int) = a := hs.2.1
            refine zif (fun z => absurd z (by omega)) fun _ => ?_
            rw [w1, w2, w3, e1, e2]
            refine zin_of (by omega) (by omega) (zin_of (by omega) (by omega) (s_err ha1 hb1 (fun he => zk1_t ?_) fun he => zk1_f (zin_of (by omega) (by omega) (zin_of (by omega) (by omega) ?_))))
            · rw [if_pos he] at eb
              exact stop eb
            · rw [if_neg he] at eb
              rw [e1, e2]
              refine s_join (by omega) ha1 hb1 he ?_
              refine zk2_i (zin_of (by omega) (by omega) ?_)
              exact go _ (jnA (sg p) a b) _ t rfl rfl (by omega) hs.2.2 (jn_bd ha1 hb1 he) hbt eb _ rfl
end L2
