/-- locals that are no longer used are forgotten -/
def zmask : List Bool → List zV → List zV
  | _, [] => []
  | [], v :: t => v :: t
  | true :: k, v :: t => v :: zmask k t
  | false :: k, _ :: t => zU :: zmask k t
theorem zmask_get : ∀ (k : List Bool) (ls : List zV) (i : Nat) (v : zV), (zmask k ls)[i]? = some v → v = zU ∨ ls[i]? = some v := by
  intro k
  induction k with
  | nil => intro ls i v h; cases ls <;> exact Or.inr h
  | cons b k ih =>
    intro ls i v h
    cases ls with
    | nil => cases b <;> exact Or.inr h
    | cons x t =>
      cases b
      · cases i with
        | zero => simp [zmask] at h; exact Or.inl h.symm
        | succ i => simp only [zmask, List.getElem?_cons_succ] at h ⊢; exact ih t i v h
      · cases i with
        | zero => simp [zmask] at h; exact Or.inr (by simp [h])
        | succ i => simp only [zmask, List.getElem?_cons_succ] at h ⊢; exact ih t i v h
theorem zmask_len : ∀ (k : List Bool) (ls : List zV), (zmask k ls).length = ls.length := by
  intro k
  induction k with
  | nil => intro ls; cases ls <;> rfl
  | cons b k ih => intro ls; cases ls with
    | nil => cases b <;> rfl
    | cons x t => cases b <;> simp [zmask, ih]
theorem zG.weak {Ω : zΩ} {M pc : Nat} {ls st : List zV} {m : zM} {Q : List zV → zM → Prop} (k : List Bool) (h : zG Ω M pc (zmask k ls) st m Q) : zG Ω M pc ls st m Q := by
  intro p e s mi args below meth c H locs arr K0 h1 h2 h3 h4 h5 h6 h7 h8
  refine h p e s mi args below meth c H locs arr K0 h1 h2 h3 ⟨(zmask_len k ls).trans h4.1, h4.2.1, h4.2.2.1, fun i v hi hv => ?_⟩ (fun v hv => ?_) h6 h7 h8
  · rcases zmask_get k ls i v hi with z | z
    · exact absurd z hv
    · exact h4.2.2.2 i v z hv
  · obtain ⟨i, hi⟩ := List.getElem?_of_mem hv
    rcases zmask_get k ls i v hi with z | z
    · rw [z]; trivial
    · exact h5 v (List.mem_of_getElem? z)
/-- what comes back from a call: nothing, an int, a long -/
def zk0 (r : List zV) (P : Prop) : Prop := match r with | [] => P | _ => False
def zk1 (r : List zV) (P : Int → Prop) : Prop := match r with | [.inl v] => P v | _ => False
def zk2 (r : List zV) (P : Int → Prop) : Prop := match r with | [.inr (.inl v)] => P v | _ => False
def zk3 (e : Nat) (r : List zV) (P : Int → Prop) : Prop := match r with | [.inr (.inr (.inl (t, x)))] => zqb (Nat.beq t e) (P x) | _ => False
theorem zk3_inv {e : Nat} {r : List zV} {P : Int → Prop} (h : zk3 e r P) : ∃ x, r = [zR e x] ∧ P x := by
  unfold zk3 at h
  split at h
  · obtain ⟨h1, h2⟩ := zqb_inv h
    cases zb_len h1
    exact ⟨_, rfl, h2⟩
  · cases h
theorem zk0_inv {r : List zV} {P : Prop} (h : zk0 r P) : r = [] ∧ P := by
  unfold zk0 at h
  split at h
  · exact ⟨rfl, h⟩
  · cases h
theorem zk1_inv {r : List zV} {P : Int → Prop} (h : zk1 r P) : ∃ v, r = [zI v] ∧ P v := by
  unfold zk1 at h
  split at h
  · exact ⟨_, rfl, h⟩
  · cases h
theorem zk2_inv {r : List zV} {P : Int → Prop} (h : zk2 r P) : ∃ v, r = [zL v] ∧ P v := by
  unfold zk2 at h
  split at h
  · exact ⟨_, rfl, h⟩
  · cases h
def zkr (t : Option FieldType) (r : List zV) (k : List zV → Prop) : Prop := match t with
  | none => zk0 r (k [])
  | some .long => zk2 r fun v => k [zL v]
  | some _ => zk1 r fun v => k [zI v]
theorem zkr_inv {t : Option FieldType} {r : List zV} {k : List zV → Prop} (h : zkr t r k) : k r := by
  unfold zkr at h
  split at h
  · obtain ⟨rfl, h⟩ := zk0_inv h; exact h
  · obtain ⟨v, rfl, h⟩ := zk2_inv h; exact h
  · obtain ⟨v, rfl, h⟩ := zk1_inv h; exact h
/-- (locals, 0 nothing, 1 an int, 2 a long) of each method -/
def zcml : List (Nat × Nat) := [(1, 0), (1, 0), (3, 0), (1, 1), (2, 0), (2, 0), (3, 0), (3, 0), (3, 1), (5, 1), (9, 1), (10, 2), (1, 1), (1, 2), (5, 1), (5, 2), (3, 0), (4, 1), (2, 0), (1, 0), (2, 1), (2, 1), (2, 0), (2, 1), (2, 1), (2, 0), (3, 0), (4, 0), (2, 0), (2, 0), (2, 0), (2, 0), (1, 1), (2, 0), (1, 0), (1, 1), (2, 0), (2, 1), (3, 0), (2, 0), (1, 1), (1, 1), (2, 0), (3, 0), (2, 0), (2, 1), (2, 1), (6, 1), (6, 1), (2, 0), (2, 0), (5, 0), (6, 0), (5, 0), (3, 0), (4, 1), (3, 1), (2, 0), (3, 0), (3, 0), (3, 0), (6, 0), (6, 17), (6, 17), (4, 1), (5, 0), (2, 0), (3, 0), (3, 0), (6, 0), (4, 0), (4, 1), (4, 1), (2, 0), (2, 0), (2, 0), (2, 1), (4, 1), (3, 0), (2, 0), (2, 1), (1, 0), (3, 1), (2, 0), (2, 0), (2, 0), (2, 1), (1, 1), (1, 1), (1, 1), (2, 0), (8, 1), (2, 0), (2, 1), (2, 1), (2, 0), (6, 1), (3, 1), (2, 1), (2, 1), (8, 1), (7, 1), (3, 1), (8, 1), (4, 1), (5, 1), (4, 1), (3, 1), (3, 1), (2, 1), (5, 1), (4, 1), (3, 1), (1, 1), (2, 1), (2, 1), (7, 1), (2, 1), (3, 1), (2, 1), (3, 0), (2, 0), (3, 0), (1, 0), (1, 1), (8, 1), (2, 1), (2, 1), (3, 1), (7, 1), (6, 1), (6, 1), (3, 1), (2, 1), (7, 1), (4, 1), (5, 1), (2, 1), (8, 1), (2, 1), (2, 1), (3, 1), (2, 1), (2, 0), (2, 1), (1, 1), (4, 1), (2, 0), (1, 1), (3, 0), (3, 0), (3, 1), (4, 1), (1, 1), (4, 1), (3, 1), (1, 1), (4, 1), (3, 1), (2, 0), (2, 0), (3, 1), (2, 1), (1, 2), (2, 2), (3, 2), (6, 2), (4, 1), (9, 2), (2, 1), (2, 1), (2, 1), (2, 1), (3, 1), (4, 1), (8, 1), (3, 1), (3, 0), (3, 1), (3, 1), (5, 1), (6, 0), (6, 0), (3, 0), (4, 0), (3, 1), (2, 0), (3, 1), (3, 1), (3, 1), (5, 1), (4, 1), (4, 1), (3, 1), (18, 1), (2, 1), (4, 1), (2, 1), (8, 1), (2, 1), (3, 1), (2, 1), (1, 1), (2, 0), (2, 17), (1, 1)]
def zcm (N : Nat) : Nat × Nat := zcml.getD N (0, 9)
theorem zcm_ok : ∀ N, N < 206 → (zcm N).1 = (zmi N).2.2.1 := by decide +kernel
def zini2 (n : Nat) (av : List zV) : List zV := zinl av ++ List.replicate (n - (zinl av).length) zU
def zkr2 (t : Nat) (r : List zV) (k : List zV → Prop) : Prop := match t with
  | 0 => zk0 r (k [])
  | 1 => zk1 r fun v => k [zI v]
  | 2 => zk2 r fun v => k [zL v]
  | e + 10 => zk3 e r fun v => k [zR e v]
  | _ => False
theorem zkr2_inv {t : Nat} {r : List zV} {k : List zV → Prop} (h : zkr2 t r k) : k r := by
  unfold zkr2 at h
  split at h
  · obtain ⟨rfl, h⟩ := zk0_inv h; exact h
  · obtain ⟨v, rfl, h⟩ := zk1_inv h; exact h
  · obtain ⟨v, rfl, h⟩ := zk2_inv h; exact h
  · obtain ⟨v, e, h2⟩ := zk3_inv h; rw [e]; exact h2
  · cases h
/-- a call, as a walk meets it -/
def zcll (Ω : zΩ) (N : Nat) (av : List zV) (m : zM) (k : List zV → zM → Prop) : Prop := match Nat.ble 206 N with
  | true => match Nat.ble N 210, zmath N av with
    | true, some v => k [v] m
    | _, _ => False
  | false => zqb (Nat.ble (zinl av).length (zcm N).1) (zG Ω N 0 (zini2 (zcm N).1 av) [] m fun r m' => zkr2 (zcm N).2 r fun r => k r m')
def zcut (l : List (Nat × List Bool)) (n : Nat) : Option (List Bool) := match l with | [] => none | a :: t => match Nat.beq a.1 n with | true => some a.2 | false => zcut t n
/-- an instruction by its place; the rows behind it -/
def zfl (es : List zE) (pc : Nat) : Option (zE × List zE) := match es with | [] => none | q :: t => match Nat.beq q.1 pc with | true => some (q, t) | false => zfl t pc
def zfn (es cur : List zE) (pc : Nat) : Option (zE × List zE) := match cur with | [] => zfl es pc | q :: t => match Nat.beq q.1 pc with | true => some (q, t) | false => zfl es pc
/-- the walk from a place on, up to the next cuts -/
def zwp (Ω : zΩ) (es : List zE) (cuts : List (Nat × List Bool)) (M : Nat) : Nat → List zE → Nat → List zV → List zV → zM → (List zV → zM → Prop) → Prop
  | 0, _, pc, ls, st, m, Q => zG Ω M pc ls st m Q
  | n + 1, cur, pc, ls, st, m, Q => match zcut cuts pc with
    | some kp => zG Ω M pc (zmask kp ls) st m Q
    | none => match zfn es cur pc with
      | none => False
      | some q => zsem q.1 pc ls st m (fun pc ls st m => zwp Ω es cuts M n q.2 pc ls st m Q) (fun r => Q r m) (fun N av pc' ls' st' => zcll Ω N av m (fun r m' => zwp Ω es cuts M n q.2 pc' ls' (r ++ st') m' Q))
/-- the same with a first step -/
def zwq (Ω : zΩ) (es : List zE) (cuts : List (Nat × List Bool)) (M n pc : Nat) (ls st : List zV) (m : zM) (Q : List zV → zM → Prop) : Prop := match zfl es pc with
  | none => False
  | some q => zsem q.1 pc ls st m (fun pc ls st m => zwp Ω es cuts M n q.2 pc ls st m Q) (fun r => Q r m) (fun N av pc' ls' st' => zcll Ω N av m (fun r m' => zwp Ω es cuts M n q.2 pc' ls' (r ++ st') m' Q))
theorem zcll_ok {Ω : zΩ} {M pc N : Nat} {i : Instr} {len a b c e : Nat} {d : Int} {ls st av ls' st' : List zV} {pc' : Nat} {m : zM} {Q : List zV → zM → Prop} {k : List zV → zM → Prop} (hM : M < 212) (he : zent M pc = some (pc, i, len, (a, b, c, e), d)) (hs : zstep i len a b c e d pc ls st (147, zr0, m) = some (.inr (.inr (N, av, (pc', ls', st'), (147, zr0, m))))) (h : zcll Ω N av m k) (hk : ∀ r m', k r m' → zG Ω M pc' ls' (r ++ st') m' Q) : zG Ω M pc ls st m Q := by
  unfold zcll at h
  split at h
  · rename_i hb
    split at h
    · rename_i v hb2 hv
      exact zMach_math hM (Nat.le_of_ble_eq_true hb) (Nat.lt_succ_of_le (Nat.le_of_ble_eq_true hb2)) he hs hv (Nat.le_refl _) (hk _ _ h)
    · cases h
  · rename_i hb
    obtain ⟨h1, h2⟩ := zqb_inv h
    have hN : N < 206 := by
      rcases Nat.lt_or_ge N 206 with z | z
      · exact z
      · rw [Nat.ble_eq_true_of_le z] at hb; cases hb
    have hc := zcm_ok N hN
    rw [hc] at h1 h2
    refine zMach_call hM hN he hs (Nat.le_of_ble_eq_true h1) (Nat.le_refl _) (Nat.le_refl _) h2 fun r σ2 hq => ?_
    obtain ⟨m', rfl, hq⟩ := hq
    exact ⟨rfl, hk r m' (zkr2_inv hq)⟩
theorem zfl_find : ∀ (es : List zE) (pc : Nat) (q : zE × List zE), zfl es pc = some q → es.find? (fun q => Nat.beq q.1 pc) = some q.1 ∧ ∃ pre, es = pre ++ q.1 :: q.2 := by
  intro es
  induction es with
  | nil => intro pc q h; cases h
  | cons a t ih =>
    intro pc q h
    unfold zfl at h
    split at h
    · rename_i hb
      cases h
      exact ⟨by rw [List.find?_cons, hb], [], rfl⟩
    · rename_i hb
      obtain ⟨h1, pre, h2⟩ := ih pc q h
      exact ⟨by rw [List.find?_cons, hb]; exact h1, a :: pre, by rw [h2]; rfl⟩
/-- places are apart: then a row of the rest is the row -/
def zap (es : List zE) : Bool := match es with | [] => true | q :: t => (t.all fun z => Nat.blt q.1 z.1) && zap t
theorem zap_find : ∀ (es pre cur : List zE) (q : zE), zap es = true → es = pre ++ q :: cur → es.find? (fun z => Nat.beq z.1 q.1) = some q := by
  intro es
  induction es with
  | nil => intro pre cur q h e; cases pre <;> cases e
  | cons a t ih =>
    intro pre cur q h e
    unfold zap at h
    obtain ⟨h1, h2⟩ := zb_and h
    cases pre with
    | nil =>
      cases e
      rw [List.find?_cons, zbq]
    | cons p pre =>
      cases e
      have hq := List.all_eq_true.mp h1 q (List.mem_append_right _ List.mem_cons_self)
      have hq : a.1 < q.1 := by simpa [Nat.blt_eq] using hq
      rw [List.find?_cons]
      have hn : Nat.beq a.1 q.1 = false := by
        cases hc : Nat.beq a.1 q.1
        · rfl
        · have := zb_len hc; omega
      rw [hn]
      exact ih pre cur q h2 rfl
theorem zfn_ok {es cur : List zE} {pc : Nat} {q : zE × List zE} (hz : zap es = true) (hc : ∃ pre, es = pre ++ cur) (h : zfn es cur pc = some q) : es.find? (fun z => Nat.beq z.1 pc) = some q.1 ∧ ∃ pre, es = pre ++ q.2 := by
  unfold zfn at h
  split at h
  · obtain ⟨h1, pre, h2⟩ := zfl_find es pc q h
    exact ⟨h1, pre ++ [q.1], by rw [h2]; simp⟩
  · split at h
    · rename_i hb
      cases h
      obtain ⟨pre, e⟩ := hc
      have := zap_find es pre _ _ hz e
      rw [zb_len hb] at this
      exact ⟨this, pre ++ [_], by rw [e, List.append_assoc]; rfl⟩
    · obtain ⟨h1, pre, h2⟩ := zfl_find es pc q h
      exact ⟨h1, pre ++ [q.1], by rw [h2]; simp⟩
theorem zwp_ok {Ω : zΩ} {es : List zE} {cuts : List (Nat × List Bool)} {M : Nat} (hM : M < 212) (hes : zits.getD M [] = es) (hz : zap es = true) : ∀ (n : Nat) (cur : List zE) (pc : Nat) (ls st : List zV) (m : zM) (Q : List zV → zM → Prop), (∃ pre, es = pre ++ cur) → zwp Ω es cuts M n cur pc ls st m Q → zG Ω M pc ls st m Q := by
  intro n
  induction n with
  | zero => intro cur pc ls st m Q _ h; exact h
  | succ n ih =>
    intro cur pc ls st m Q hc h
    unfold zwp at h
    split at h
    · exact zG.weak _ h
    · split at h
      · cases h
      · rename_i q he
        obtain ⟨h1, h2⟩ := zfn_ok hz hc he
        have he : zent M pc = some q.1 := by unfold zent; rw [hes]; exact h1
        refine zG_step hM he h (fun _ _ _ _ z => ih _ _ _ _ _ _ h2 z) (fun _ z => z) fun i len a b c e d N av pc' ls' st' hq hs hc => ?_
        rw [hq] at he
        exact zcll_ok hM he hs hc fun r m' z => ih _ _ _ _ _ _ h2 z
theorem zwq_ok {Ω : zΩ} {es : List zE} {cuts : List (Nat × List Bool)} {M n pc : Nat} {ls st : List zV} {m : zM} {Q : List zV → zM → Prop} (hM : M < 212) (hes : zits.getD M [] = es) (hz : zap es = true) (h : zwq Ω es cuts M n pc ls st m Q) : zG Ω M pc ls st m Q := by
  unfold zwq at h
  split at h
  · cases h
  · rename_i q he
    obtain ⟨h1, pre, h2⟩ := zfl_find es pc q he
    have he : zent M pc = some q.1 := by unfold zent; rw [hes]; exact h1
    have hp : ∃ pre, es = pre ++ q.2 := ⟨pre ++ [q.1], by rw [h2]; simp⟩
    refine zG_step hM he h (fun _ _ _ _ z => zwp_ok hM hes hz _ _ _ _ _ _ _ hp z) (fun _ z => z) fun i len a b c e d N av pc' ls' st' hq hs hc => ?_
    rw [hq] at he
    exact zcll_ok hM he hs hc fun r m' z => zwp_ok hM hes hz _ _ _ _ _ _ _ hp z
