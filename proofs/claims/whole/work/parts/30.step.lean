abbrev zΩ : Type := Launch × zB × (Nat → ClassId) × va_G × Nat × (Nat → Int32)
/-- from this frame on, behind the constructors, method M returns, and Q holds of its answer and of the numbers then -/
def zG (Ω : zΩ) (M pc : Nat) (ls st : List zV) (m : zM) (Q : List zV → zM → Prop) : Prop := zMach Ω.1 Ω.2.1 Ω.2.2.1 Ω.2.2.2.1 Ω.2.2.2.2.1 Ω.2.2.2.2.2 147 M pc ls st (147, zr0, m) (fun r σ' => ∃ m', σ' = (147, zr0, m') ∧ Q r m')
theorem zG.mono {Ω : zΩ} {M pc : Nat} {ls st : List zV} {m : zM} {Q Q' : List zV → zM → Prop} (h : zG Ω M pc ls st m Q) (hq : ∀ r m, Q r m → Q' r m) : zG Ω M pc ls st m Q' :=
  zMach.mono h fun r s ⟨m', e, q⟩ => ⟨m', e, hq r m' q⟩
theorem zMach_ok {l : Launch} {B : zB} {cA : Nat → ClassId} {D : va_G} {L : Nat} {xs : Nat → Int32} {Kend M pc : Nat} {ls st : List zV} {σ : zS} {Q : List zV → zS → Prop} (h : σ.1 ≤ 147 → zoks σ.1 st → zMach l B cA D L xs Kend M pc ls st σ Q) : zMach l B cA D L xs Kend M pc ls st σ Q :=
  fun p e s m args below meth c H locs arr K0 h1 h2 h3 h4 h5 h6 h7 h8 => h h2.2.2.1 h6 p e s m args below meth c H locs arr K0 h1 h2 h3 h4 h5 h6 h7 h8
theorem zstep_p {i : Instr} {len a b c e pc : Nat} {d : Int} {ls st : List zV} {s : zS} {n : zN} (h : zpure i len a d pc ls st = some n) : zstep i len a b c e d pc ls st s = some (.inl (n, s)) := by
  unfold zstep; rw [h]
theorem zstep_h {i : Instr} {len a b c e pc : Nat} {d : Int} {ls st : List zV} {s : zS} {o : Option zO} (h : zpure i len a d pc ls st = none) (h2 : zheap i len a b c e d pc ls st s = o) : zstep i len a b c e d pc ls st s = o := by
  unfold zstep; rw [h]; exact h2
theorem zbq (n : Nat) : Nat.beq n n = true := Nat.beq_refl n
theorem zcj_of {c : ClassFile.Cond} {x y : Int} {A B : Prop} (h : zcj c x y A B) : (zcp c x y = true ∧ A) ∨ (¬ zcp c x y = true ∧ B) := by
  cases c <;> simp only [zcj, zcp, decide_eq_true_eq, ne_eq] at h ⊢ <;> split at h <;> rename_i hc <;> first | exact Or.inl ⟨by omega, h⟩ | exact Or.inr ⟨by omega, h⟩
theorem zswk_of {x : Int} {pc : Nat} {d : Int} {k : Nat → Prop} : ∀ (offs : List Int) (lo : Int), zswk x pc d k lo offs → 0 ≤ (pc : Int) + zsw x lo (lo + offs.length - 1) d offs ∧ k ((pc : Int) + zsw x lo (lo + offs.length - 1) d offs).toNat := by
  intro offs
  induction offs with
  | nil =>
    intro lo h
    unfold zswk at h
    unfold zsw
    rw [if_pos (by simp; omega)]
    exact ztg_iff.mp h
  | cons o t ih =>
    intro lo h
    unfold zswk at h
    split at h
    · rename_i hx
      subst hx
      unfold zsw
      rw [if_neg (by simp; omega)]
      simp only [Int.sub_self, Int.toNat_zero, List.getD_cons_zero]
      exact ztg_iff.mp h
    · rename_i hx
      have := ih (lo + 1) h
      have e : zsw x lo (lo + (o :: t).length - 1) d (o :: t) = zsw x (lo + 1) (lo + 1 + t.length - 1) d t := by
        unfold zsw
        simp only [List.length_cons]
        by_cases h1 : x < lo ∨ lo + (t.length : Int) < x
        · rw [if_pos (by omega), if_pos (by omega)]
        · rw [if_neg (by omega), if_neg (by omega)]
          have : (x - lo).toNat = (x - (lo + 1)).toNat + 1 := by omega
          rw [this, List.getD_cons_succ]
      rw [e]
      exact this
theorem zlkk_of {x : Int} {pc : Nat} {d : Int} {k : Nat → Prop} : ∀ ps : List (Int × Int), zlkk x pc d k ps → 0 ≤ (pc : Int) + zlk x d ps ∧ k ((pc : Int) + zlk x d ps).toNat := by
  intro ps
  induction ps with
  | nil => intro h; exact ztg_iff.mp h
  | cons q t ih =>
    intro h
    unfold zlkk at h
    unfold zlk
    split at h
    · rename_i hx
      rw [if_pos hx]; exact ztg_iff.mp h
    · rename_i hx
      rw [if_neg hx]; exact ih h
theorem zr0_a {X t : Nat} {j : Int} (hl : zlay.getD X 99 = t) (h5 : (zKd t).1 = 5) : zr0 X j = (zab t).1 + (zab t).2 * j := by
  unfold zr0
  rw [Int.toNat_natCast, hl, h5]
  rfl
theorem zr0_o {X t : Nat} {j : Nat} (hl : zlay.getD X 99 = t) (h0 : (zKd t).1 = 0) (h6 : (zsk t j).1 = 2) : zr0 X j = X + zoff t j := by
  unfold zr0
  rw [Int.toNat_natCast, hl, h0, Int.toNat_natCast]
  show (match (zsk t j).1 with | 6 => _ | _ => _) = _
  rw [h6]
  rfl
theorem zr0_f {X t : Nat} {j : Nat} (hl : zlay.getD X 99 = t) (h0 : (zKd t).1 = 0) (h6 : (zsk t j).1 = 6) : zr0 X j = (X - 3) / 2 := by
  unfold zr0
  rw [Int.toNat_natCast, hl, h0, Int.toNat_natCast]
  show (match (zsk t j).1 with | 6 => _ | _ => _) = _
  rw [h6]
  rfl
theorem zcja_of {c : ClassFile.ACond} {x y : Int} {A B : Prop} (h : zcja c x y A B) : (zca c x y = true ∧ A) ∨ (¬ zca c x y = true ∧ B) := by
  cases c <;> simp only [zcja, zca, decide_eq_true_eq, ne_eq] at h ⊢ <;> split at h <;> rename_i hc <;> first | exact Or.inl ⟨by omega, h⟩ | exact Or.inr ⟨by omega, h⟩
