/-- locals that are no longer used are forgotten -/
def zmask : List Bool → List zV → List zV
  | _, [] => []
  | [], v :: t => v :: t
  | true :: k, v :: t => v :: zmask k t
  | false :: k, _ :: t => zU :: zmask k t
theorem zmask_get : ∀ (k : List Bool) (ls : List zV) (i : Nat) (v : zV), (zmask k ls)[i]? = some v → v = zU ∨ ls[i]? = some v := by
  intro k
  induction k with
  | nil => intro ls i v h; cases ls <;> exact Or.inr h
  | cons b k ih =>
    intro ls i v h
    cases ls with
    | nil => cases b <;> exact Or.inr h
    | cons x t =>
      cases b
      · cases i with
        | zero => simp [zmask] at h; exact Or.inl h.symm
        | succ i => simp only [zmask, List.getElem?_cons_succ] at h ⊢; exact ih t i v h
      · cases i with
        | zero => simp [zmask] at h; exact Or.inr (by simp [h])
        | succ i => simp only [zmask, List.getElem?_cons_succ] at h ⊢; exact ih t i v h
theorem zmask_len : ∀ (k : List Bool) (ls : List zV), (zmask k ls).length = ls.length := by
  intro k
  induction k with
  | nil => intro ls; cases ls <;> rfl
  | cons b k ih => intro ls; cases ls with
    | nil => cases b <;> rfl
    | cons x t => cases b <;> simp [zmask, ih]
theorem zG.weak {Ω : zΩ} {M pc : Nat} {ls st : List zV} {m : zM} {Q : List zV → zM → Prop} (k : List Bool) (h : zG Ω M pc (zmask k ls) st m Q) : zG Ω M pc ls st m Q := by
  intro p e s mi args below meth c H locs arr K0 h1 h2 h3 h4 h5 h6 h7 h8
  refine h p e s mi args below meth c H locs arr K0 h1 h2 h3 ⟨(zmask_len k ls).trans h4.1, h4.2.1, h4.2.2.1, fun i v hi hv => ?_⟩ (fun v hv => ?_) h6 h7 h8
  · rcases zmask_get k ls i v hi with z | z
    · exact absurd z hv
    · exact h4.2.2.2 i v z hv
  · obtain ⟨i, hi⟩ := List.getElem?_of_mem hv
    rcases zmask_get k ls i v hi with z | z
    · rw [z]; trivial
    · exact h5 v (List.mem_of_getElem? z)
/-- what comes back from a call: nothing, an int, a long -/
def zk0 (r : List zV) (P : Prop) : Prop := match r with | [] => P | _ => False
def zk1 (r : List zV) (P : Int → Prop) : Prop := match r with | [.inl v] => P v | _ => False
def zk2 (r : List zV) (P : Int → Prop) : Prop := match r with | [.inr (.inl v)] => P v | _ => False
theorem zk0_inv {r : List zV} {P : Prop} (h : zk0 r P) : r = [] ∧ P := by
  unfold zk0 at h
  split at h
  · exact ⟨rfl, h⟩
  · cases h
theorem zk1_inv {r : List zV} {P : Int → Prop} (h : zk1 r P) : ∃ v, r = [zI v] ∧ P v := by
  unfold zk1 at h
  split at h
  · exact ⟨_, rfl, h⟩
  · cases h
theorem zk2_inv {r : List zV} {P : Int → Prop} (h : zk2 r P) : ∃ v, r = [zL v] ∧ P v := by
  unfold zk2 at h
  split at h
  · exact ⟨_, rfl, h⟩
  · cases h
def zkr (t : Option FieldType) (r : List zV) (k : List zV → Prop) : Prop := match t with
  | none => zk0 r (k [])
  | some .long => zk2 r fun v => k [zL v]
  | some _ => zk1 r fun v => k [zI v]
theorem zkr_inv {t : Option FieldType} {r : List zV} {k : List zV → Prop} (h : zkr t r k) : k r := by
  unfold zkr at h
  split at h
  · obtain ⟨rfl, h⟩ := zk0_inv h; exact h
  · obtain ⟨v, rfl, h⟩ := zk2_inv h; exact h
  · obtain ⟨v, rfl, h⟩ := zk1_inv h; exact h
/-- a call, as a walk meets it -/
def zcll (Ω : zΩ) (N : Nat) (av : List zV) (m : zM) (k : List zV → zM → Prop) : Prop := match Nat.ble 202 N with
  | true => match Nat.ble N 206, zmath N av with
    | true, some v => k [v] m
    | _, _ => False
  | false => zqb (Nat.ble (zinl av).length (zmi N).2.2.1) (zG Ω N 0 (zini N av) [] m fun r m' => zkr (zmi N).2.2.2 r fun r => k r m')
def zcut (l : List (Nat × List Bool)) (n : Nat) : Option (List Bool) := match l with | [] => none | a :: t => match Nat.beq a.1 n with | true => some a.2 | false => zcut t n
/-- the walk from a place on, up to the next cuts -/
def zwp (Ω : zΩ) (cuts : List (Nat × List Bool)) (M : Nat) : Nat → Nat → List zV → List zV → zM → (List zV → zM → Prop) → Prop
  | 0, pc, ls, st, m, Q => zG Ω M pc ls st m Q
  | n + 1, pc, ls, st, m, Q => match zcut cuts pc with
    | some kp => zG Ω M pc (zmask kp ls) st m Q
    | none => match zent M pc with
      | none => False
      | some q => zsem q pc ls st m (fun pc ls st m => zwp Ω cuts M n pc ls st m Q) (fun r => Q r m) (fun N av pc' ls' st' => zcll Ω N av m (fun r m' => zwp Ω cuts M n pc' ls' (r ++ st') m' Q))
/-- the same with a first step -/
def zwq (Ω : zΩ) (cuts : List (Nat × List Bool)) (M n pc : Nat) (ls st : List zV) (m : zM) (Q : List zV → zM → Prop) : Prop := match zent M pc with
  | none => False
  | some q => zsem q pc ls st m (fun pc ls st m => zwp Ω cuts M n pc ls st m Q) (fun r => Q r m) (fun N av pc' ls' st' => zcll Ω N av m (fun r m' => zwp Ω cuts M n pc' ls' (r ++ st') m' Q))
theorem zcll_ok {Ω : zΩ} {M pc N : Nat} {i : Instr} {len a b c e : Nat} {d : Int} {ls st av ls' st' : List zV} {pc' : Nat} {m : zM} {Q : List zV → zM → Prop} {k : List zV → zM → Prop} (hM : M < 208) (he : zent M pc = some (pc, i, len, (a, b, c, e), d)) (hs : zstep i len a b c e d pc ls st (148, zr0, m) = some (.inr (.inr (N, av, (pc', ls', st'), (148, zr0, m))))) (h : zcll Ω N av m k) (hk : ∀ r m', k r m' → zG Ω M pc' ls' (r ++ st') m' Q) : zG Ω M pc ls st m Q := by
  unfold zcll at h
  split at h
  · rename_i hb
    split at h
    · rename_i v hb2 hv
      exact zMach_math hM (Nat.le_of_ble_eq_true hb) (Nat.lt_succ_of_le (Nat.le_of_ble_eq_true hb2)) he hs hv (Nat.le_refl _) (hk _ _ h)
    · cases h
  · rename_i hb
    obtain ⟨h1, h2⟩ := zqb_inv h
    have hN : N < 202 := by
      rcases Nat.lt_or_ge N 202 with z | z
      · exact z
      · rw [Nat.ble_eq_true_of_le z] at hb; cases hb
    refine zMach_call hM hN he hs (Nat.le_of_ble_eq_true h1) (Nat.le_refl _) (Nat.le_refl _) h2 fun r σ2 hq => ?_
    obtain ⟨m', rfl, hq⟩ := hq
    exact ⟨rfl, hk r m' (zkr_inv hq)⟩
theorem zwp_ok {Ω : zΩ} {cuts : List (Nat × List Bool)} {M : Nat} (hM : M < 208) : ∀ (n pc : Nat) (ls st : List zV) (m : zM) (Q : List zV → zM → Prop), zwp Ω cuts M n pc ls st m Q → zG Ω M pc ls st m Q := by
  intro n
  induction n with
  | zero => intro pc ls st m Q h; exact h
  | succ n ih =>
    intro pc ls st m Q h
    unfold zwp at h
    split at h
    · exact zG.weak _ h
    · split at h
      · cases h
      · rename_i q he
        refine zG_step hM he h (fun _ _ _ _ z => ih _ _ _ _ _ z) (fun _ z => z) fun i len a b c e d N av pc' ls' st' hq hs hc => ?_
        subst hq
        exact zcll_ok hM he hs hc fun r m' z => ih _ _ _ _ _ z
theorem zwq_ok {Ω : zΩ} {cuts : List (Nat × List Bool)} {M n pc : Nat} {ls st : List zV} {m : zM} {Q : List zV → zM → Prop} (hM : M < 208) (h : zwq Ω cuts M n pc ls st m Q) : zG Ω M pc ls st m Q := by
  unfold zwq at h
  split at h
  · cases h
  · rename_i q he
    refine zG_step hM he h (fun _ _ _ _ z => zwp_ok hM _ _ _ _ _ _ z) (fun _ z => z) fun i len a b c e d N av pc' ls' st' hq hs hc => ?_
    subst hq
    exact zcll_ok hM he hs hc fun r m' z => zwp_ok hM _ _ _ _ _ _ z
