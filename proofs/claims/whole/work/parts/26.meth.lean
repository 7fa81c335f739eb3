/-- a method's first locals -/
def zinl : List zV → List zV
  | [] => []
  | v :: t => match zcat v with | 2 => v :: zU :: zinl t | _ => v :: zinl t
def zini (M : Nat) (av : List zV) : List zV := zinl av ++ List.replicate ((zmi M).2.2.1 - (zinl av).length) zU
theorem zinl_args (B : zB) : ∀ (av : List zV) (k j : Nat) (v : zV), (zinl av)[j]? = some v → v ≠ zU → (k + j, zv B v) ∈ lv_args k (av.map (zv B)) := by
  intro av
  induction av with
  | nil => intro k j v h; simp [zinl] at h
  | cons x t ih =>
    intro k j v h hv
    have hc := zv_cat B x
    rw [List.map_cons]
    unfold lv_args
    unfold zinl at h
    rw [hc]
    split at h
    · rename_i h2
      rw [if_pos h2]
      cases j with
      | zero => simp at h; subst h; exact List.mem_cons_self
      | succ j =>
        cases j with
        | zero => simp at h; exact absurd h.symm hv
        | succ j =>
          simp only [List.getElem?_cons_succ] at h
          have := ih (k + 2) j v h hv
          rw [show k + 2 + j = k + (j + 1 + 1) by omega] at this
          exact List.mem_cons_of_mem _ this
    · rename_i h2
      rw [if_neg h2]
      cases j with
      | zero => simp at h; subst h; exact List.mem_cons_self
      | succ j =>
        simp only [List.getElem?_cons_succ] at h
        have := ih (k + 1) j v h hv
        rw [show k + 1 + j = k + (j + 1) by omega] at this
        exact List.mem_cons_of_mem _ this
theorem zinl_len (B : zB) : ∀ av : List zV, (lg_sl (av.map (zv B))).length = (zinl av).length := by
  intro av
  induction av with
  | nil => rfl
  | cons x t ih =>
    have hc := zv_cat B x
    unfold zinl
    simp only [lg_sl, List.map_cons, List.flatMap_cons, List.length_append] at ih ⊢
    rw [hc, ih]
    split
    · rename_i h2
      simp [h2]; omega
    · rename_i h2
      simp [h2]; omega
theorem zini_lv {B : zB} {N : Nat} {av : List zV} (h : (zinl av).length ≤ (zmi N).2.2.1) : zlv B ((lg_sl (av.map (zv B)) ++ List.replicate ((zmi N).2.2.1 - (lg_sl (av.map (zv B))).length) Slot.unset).toArray) (zmi N).2.2.1 (zini N av) := by
  obtain ⟨e1, e2, e3⟩ := lv_entry (av.map (zv B)) (n := (zmi N).2.2.1) (by rw [zinl_len]; exact h)
  refine ⟨?_, e1, e2, fun i v hi hv => ?_⟩
  · unfold zini
    rw [List.length_append, List.length_replicate]; omega
  · unfold zini at hi
    by_cases hl : i < (zinl av).length
    · rw [List.getElem?_append_left hl] at hi
      have := zinl_args B av 0 i v hi hv
      rw [Nat.zero_add] at this
      exact e3 _ this
    · rw [List.getElem?_append_right (by omega), List.getElem?_replicate] at hi
      split at hi
      · exact absurd (Option.some.inj hi).symm hv
      · cases hi
theorem zini_k {K N : Nat} {av : List zV} (h : zoks K av) : zoks K (zini N av) := by
  have h1 : ∀ av : List zV, zoks K av → zoks K (zinl av) := by
    intro av
    induction av with
    | nil => intro _ v hv; simp [zinl] at hv
    | cons x t ih =>
      intro h
      unfold zinl
      split
      · exact zoks_cons (zoks_head h) (zoks_cons trivial (ih (zoks_tail h)))
      · exact zoks_cons (zoks_head h) (ih (zoks_tail h))
  intro v hv
  rcases List.mem_append.mp hv with q | q
  · exact h1 av h v q
  · rw [(List.mem_replicate.mp q).2]; trivial
theorem zplain : ∀ N, N < 206 → plainName (zmi N).1.cls = true := by decide +kernel
section ZMT
variable {l : Launch} {B : zB} {cA : Nat → ClassId} {D : va_G} {L : Nat} {xs : Nat → Int32}
/-- the machine, from a frame of method M on, comes to the method's end with Q, having made the cells up to Kend -/
def zMach (l : Launch) (B : zB) (cA : Nat → ClassId) (D : va_G) (L : Nat) (xs : Nat → Int32) (Kend M pc : Nat) (ls st : List zV) (σ : zS) (Q : List zV → zS → Prop) : Prop :=
  ∀ (p : Program) (e : Env) (s : State) (m : MethodId) (args : Array Value) (below : List Frame) (meth : Method) (c : Code) (H : Heap) (locs : List Loc) (arr : Array Slot) (K0 : Nat), zCx B cA D p s m args meth c M → zWd B cA D L xs s H σ → va_S (zA B) s.heap H locs → zlv B arr (zmi M).2.2.1 ls → zoks σ.1 ls → zoks σ.1 st → K0 ≤ σ.1 → (σ.1 < 147 → s.heap.size = B.1 + K0) →
    W p l e (zroom M (Kend - K0) (zss Kend - zss K0)) s m args below meth c H locs (σ.1 - K0) (zss σ.1 - zss K0) (MQ below (zQc B cA D L xs Q) args s (Kend - K0) (zss Kend - zss K0) (zA B)) (F0 m pc arr (st.map (zv B)))
theorem zMet {Kend N : Nat} {av : List zV} {σ : zS} {Q : List zV → zS → Prop} (hN : N < 206) (hav : zoks σ.1 av) (hl : (zinl av).length ≤ (zmi N).2.2.1) (h : zMach l B cA D L xs Kend N 0 (zini N av) [] σ Q) :
    Met l (zmi N).1 (zwsM N) (zroom N (Kend - σ.1) (zss Kend - zss σ.1)) (zPc B cA D L xs av σ) (zQc B cA D L xs Q) (Kend - σ.1) (zss Kend - zss σ.1) (zA B) := by
  refine Met.ofW (cc := (zmi N).2.1) (maxL := (zmi N).2.2.1) (ret := (zmi N).2.2.2) (zplain N hN) rfl ?_
  intro p e s m args below meth c s₁ Bd hml hv
  obtain ⟨rfl, hW, hU, hB, hsz⟩ := hv
  have hts : ∀ w ∈ zT, w.before (av.map (zv B)).toArray s = true := fun w hw => atoms_spec (ws := zwsM N) Bd.pre w (List.mem_cons_of_mem _ hw)
  have hown : s.vm.findClass (zmi N).1.cls = some m.cls := findClass_of_methodNamed Bd.named
  have hnm : meth.name = (zmi N).1.name := (name_of_methodNamed Bd.named Bd.method).1
  rw [lg_entry_eq]
  have := h p e s m _ below meth c s.heap [] _ σ.1 ⟨Bd.exec, Bd.bytes, hml, hown, hts, Bd.returns, Bd.notSynchronized, hnm, hB, hU⟩ hW va_S.rf (zini_lv (B := B) hl) (zini_k hav) (fun v hv => by cases hv) (Nat.le_refl _) hsz
  rw [Nat.sub_self, Nat.sub_self] at this
  exact this
end ZMT
theorem zheap_ret {i : Instr} {len a b c e pc : Nat} {d : Int} {ls st : List zV} {s : zS} {q : List zV × zS} (h0 : zheap i len a b c e d pc ls st s = some (.inr (.inl q))) : i = .ireturn ∨ i = .lreturn ∨ i = .return_ ∨ i = .areturn := by
  cases i with
  | ireturn => exact Or.inl rfl
  | lreturn => exact Or.inr (Or.inl rfl)
  | return_ => exact Or.inr (Or.inr (Or.inl rfl))
  | areturn => exact Or.inr (Or.inr (Or.inr rfl))
  | getfield _ =>
    exfalso
    obtain ⟨_, h1⟩ := zg_inv h0
    obtain ⟨_, _, _, _, h2⟩ := zp1r_inv h1
    obtain ⟨_, h3⟩ := zg_inv h2
    obtain ⟨_, _, h4⟩ := Option.bind_eq_some_iff.mp h3
    cases h4
  | putfield _ =>
    exfalso
    obtain ⟨_, h1⟩ := zg_inv h0
    obtain ⟨_, _, _, h2⟩ := zp1_inv h1
    obtain ⟨_, _, _, _, h3⟩ := zp1r_inv h2
    obtain ⟨_, h4⟩ := zg_inv h3
    obtain ⟨_, _, h5⟩ := Option.bind_eq_some_iff.mp h4
    cases h5
  | iaload =>
    exfalso
    obtain ⟨_, h1⟩ := zg_inv h0
    obtain ⟨_, _, _, _, _, h2⟩ := zp2ir_inv h1
    split at h2
    · obtain ⟨_, h3⟩ := zg_inv h2
      cases h3
    · obtain ⟨_, h3⟩ := zg_inv h2
      cases h3
  | baload =>
    exfalso
    obtain ⟨_, h1⟩ := zg_inv h0
    obtain ⟨_, _, _, _, _, h2⟩ := zp2ir_inv h1
    obtain ⟨_, h3⟩ := zg_inv h2
    cases h3
  | laload =>
    exfalso
    obtain ⟨_, h1⟩ := zg_inv h0
    obtain ⟨_, _, _, _, _, h2⟩ := zp2ir_inv h1
    obtain ⟨_, h3⟩ := zg_inv h2
    cases h3
  | aaload =>
    exfalso
    obtain ⟨_, h1⟩ := zg_inv h0
    obtain ⟨_, _, _, _, _, h2⟩ := zp2ir_inv h1
    split at h2
    · obtain ⟨_, h3⟩ := zg_inv h2
      cases h3
    obtain ⟨_, h3⟩ := zg_inv h2
    cases h3
  | iastore =>
    exfalso
    obtain ⟨_, h1⟩ := zg_inv h0
    obtain ⟨_, _, _, _, _, _, h2⟩ := zp3ir_inv h1
    obtain ⟨_, h3⟩ := zg_inv h2
    cases h3
  | bastore =>
    exfalso
    obtain ⟨_, h1⟩ := zg_inv h0
    obtain ⟨_, _, _, _, _, _, h2⟩ := zp3ir_inv h1
    obtain ⟨_, h3⟩ := zg_inv h2
    cases h3
  | lastore =>
    exfalso
    obtain ⟨_, h1⟩ := zg_inv h0
    obtain ⟨_, _, _, _, _, _, h2⟩ := zp3lr_inv h1
    obtain ⟨_, h3⟩ := zg_inv h2
    cases h3
  | aastore =>
    exfalso
    obtain ⟨_, h1⟩ := zg_inv h0
    obtain ⟨_, _, _, _, _, _, _, h2⟩ := zp3rr_inv h1
    split at h2
    · obtain ⟨_, h3⟩ := zg_inv h2
      cases h3
    obtain ⟨_, h3⟩ := zg_inv h2
    cases h3
  | arraylength =>
    exfalso
    obtain ⟨_, h1⟩ := zg_inv h0
    obtain ⟨_, _, _, _, h2⟩ := zp1r_inv h1
    split at h2
    · cases h2
    · obtain ⟨_, h3⟩ := zg_inv h2
      cases h3
  | ldc _ =>
    exfalso
    obtain ⟨_, h1⟩ := zg_inv h0
    split at h1
    · cases h1
    · cases h1
  | ldc_w _ =>
    exfalso
    obtain ⟨_, h1⟩ := zg_inv h0
    split at h1
    · cases h1
    · cases h1
  | ldc2_w _ =>
    exfalso
    obtain ⟨_, h1⟩ := zg_inv h0
    cases h1
  | new _ =>
    exfalso
    obtain ⟨_, h1⟩ := zg_inv h0
    cases h1
  | newarray _ =>
    exfalso
    obtain ⟨_, h1⟩ := zg_inv h0
    obtain ⟨_, _, _, h2⟩ := zp1i_inv h1
    obtain ⟨_, h3⟩ := zg_inv h2
    cases h3
  | anewarray _ =>
    exfalso
    obtain ⟨_, h1⟩ := zg_inv h0
    obtain ⟨_, _, _, h2⟩ := zp1i_inv h1
    obtain ⟨_, h3⟩ := zg_inv h2
    cases h3
  | invokevirtual _ =>
    exfalso
    obtain ⟨_, h1⟩ := zg_inv h0
    obtain ⟨_, h2⟩ := zg_inv h1
    obtain ⟨_, _, _, _, h3⟩ := zp1r_inv h2
    obtain ⟨_, h4⟩ := zg_inv h3
    cases h4
  | invokestatic _ =>
    exfalso
    obtain ⟨_, h1⟩ := zg_inv h0
    obtain ⟨_, h2⟩ := zg_inv h1
    cases h2
  | invokespecial _ =>
    exfalso
    obtain ⟨_, h1⟩ := zg_inv h0
    split at h1
    · obtain ⟨_, _, _, _, h2⟩ := zp1r_inv h1
      obtain ⟨_, h3⟩ := zg_inv h2
      cases h3
    · obtain ⟨_, h2⟩ := zg_inv h1
      obtain ⟨_, _, _, _, h3⟩ := zp1r_inv h2
      obtain ⟨_, h4⟩ := zg_inv h3
      cases h4
  | _ => cases h0
section ZRT
variable {p : Program} {l : Launch} {e : Env} {R : Room} {s : State} {m : MethodId} {args : Array Value} {below : List Frame} {meth : Method} {c : Code} {H : Heap} {locs : List Loc} {cells slots : Nat}
variable {B : zB} {cA : Nat → ClassId} {D : va_G} {L : Nat} {xs : Nat → Int32} {σ : zS}
theorem zQ_at {r : List zV} {Q : List zV → zS → Prop} (hlen : r.length ≤ 1) (hQ : Q r σ) (hr : zoks σ.1 r) (hW : zWd B cA D L xs s H σ) (hS : va_S (zA B) s.heap H locs) {o : Outcome} (ho : o = .returned (r.map (zv B)).head?) : ∀ t : State, t.heap = H → s.WarmedH t.vm → zQc B cA D L xs Q args s o t := by
  intro t ht hw
  exact ⟨⟨r, σ, ho, hlen, hQ, hr, by rw [ht]; exact hW.moved hw.alike⟩, hS.F ht⟩
theorem zret_ok {M pc : Nat} {i : Instr} {len a b cs ee : Nat} {d : Int} {arr : Array Slot} {ls st r : List zV} {σ' : zS} {Q : List zV → zS → Prop} (X : zCx B cA D p s m args meth c M) (hdg : decode (zmi M).2.1 pc = .ok (i, len)) (hvl : zvl M (pc, i, len, (a, b, cs, ee), d) = true) (hW : zWd B cA D L xs s H σ) (hS : va_S (zA B) s.heap H locs) (hst : zoks σ.1 st)
    (h0 : zheap i len a b cs ee d pc ls st σ = some (.inr (.inl (r, σ')))) (hQ : Q r σ') : W p l e R s m args below meth c H locs cells slots (MQ below (zQc B cA D L xs Q) args s cells slots (zA B)) (F0 m pc arr (st.map (zv B))) := by
  obtain ⟨hx, hb, hml, hown, hts, hr, hlocks, hin, hB, hU⟩ := X
  cases i with
  | ireturn =>
    obtain ⟨h1, hq1⟩ := zg_inv h0
    obtain ⟨x, r2, rfl, hq2⟩ := zp1i_inv hq1
    obtain ⟨h2, hq3⟩ := zg_inv hq2
    obtain ⟨h2, h3⟩ := zb_and h2
    cases zb_len h1
    cases hq3
    have e2 : r2 = [] := List.isEmpty_iff.mp h2
    subst e2
    simp only [zvl] at hvl
    rcases (Bool.or_eq_true _ _).mp hvl with z | z
    · obtain ⟨z1, z2⟩ := zb_and z
      cases zb_len z1
      rcases (Bool.or_eq_true _ _).mp h3 with y | y
      · cases y
      obtain ⟨y1, y2⟩ := zb_and y
      have y1 := of_decide_eq_true y1
      have y2 := of_decide_eq_true y2
      refine W.zret (v := Int32.ofInt x) (ty := .boolean) hx hb (hr.trans (of_decide_eq_true z2)) ?_ (zQ_at (r := [zI x]) (by simp) hQ hst hW hS rfl) hS.2.2 hdg hlocks
      rcases (show x = 0 ∨ x = 1 by omega) with rfl | rfl <;> rfl
    · obtain ⟨z1, z2⟩ := zb_and z
      exact W.iret (v := Int32.ofInt x) hx hb (hr.trans (of_decide_eq_true z2)) (zQ_at (r := [zI x]) (by simp) hQ hst hW hS rfl) hS.2.2 hdg hlocks
  | lreturn =>
    obtain ⟨h1, hq1⟩ := zg_inv h0
    obtain ⟨x, r2, rfl, hq2⟩ := zp1l_inv hq1
    obtain ⟨h2, hq3⟩ := zg_inv hq2
    cases zb_len h1
    cases hq3
    have e2 : r2 = [] := List.isEmpty_iff.mp h2
    subst e2
    exact W.lret (v := Int64.ofInt x) hx hb (hr.trans (of_decide_eq_true hvl)) (zQ_at (r := [zL x]) (by simp) hQ hst hW hS rfl) hS.2.2 hdg hlocks
  | areturn =>
    obtain ⟨h1, hq1⟩ := zg_inv h0
    obtain ⟨t, x, r2, rfl, hq2⟩ := zp1r_inv hq1
    obtain ⟨h2, hq3⟩ := zg_inv hq2
    obtain ⟨h2, h3⟩ := zb_and h2
    cases zb_len h1
    cases hq3
    have e2 : r2 = [] := List.isEmpty_iff.mp h2
    subst e2
    simp only [zvl] at hvl
    obtain ⟨z1, z2⟩ := zb_and hvl
    obtain ⟨y, hy⟩ : ∃ y, zv B (zR t x) = .ref y := by unfold zv; dsimp only; split; exact ⟨_, rfl⟩; split <;> exact ⟨_, rfl⟩
    exact W.aret (v := zv B (zR t x)) hx hb (hr.trans (of_decide_eq_true z2)) (Or.inl ⟨_, rfl⟩) (Or.inr ⟨y, hy⟩) (zQ_at (r := [zR t x]) (by simp) hQ hst hW hS rfl) hS.2.2 hdg hlocks
  | return_ =>
    obtain ⟨h1, hq1⟩ := zg_inv h0
    obtain ⟨h1, h2⟩ := zb_and h1
    cases zb_len h1
    cases hq1
    have e2 : st = [] := List.isEmpty_iff.mp h2
    subst e2
    exact W.vret hx hb (hr.trans (of_decide_eq_true hvl)) (zQ_at (r := []) (by simp) hQ hst hW hS rfl) hS.2.2 hdg hlocks
  | _ => exact absurd (zheap_ret h0) (by simp)
end ZRT
