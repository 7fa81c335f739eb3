/-! THE HEAP: K cells made so far, r the references that stay, m numbers (and references that move) -/
abbrev zS : Type := Nat × zM × zM
def zKd (t : Nat) : Nat × Nat × Nat := ztt.getD t (9, 0, 0)
/-- slots: (6, _) an int that stays, (0, _) int, (1, _) long, (2, t) a reference that stays, (3, _) boolean, (4, _) byte, (5, t) one that moves -/
def zsk (t : Nat) (j : Nat) : Nat × Nat := match (zKd t).1 with
  | 0 => (zsl.getD t []).getD j (9, 0)
  | 1 => (0, 0)
  | 2 => (1, 0)
  | 3 => (4, 0)
  | 4 => (3, 0)
  | 5 => (2, (zKd t).2.2)
  | 6 => (5, (zKd t).2.2)
  | _ => (9, 0)
abbrev zO : Type := (zN × zS) ⊕ ((List zV × zS) ⊕ (Nat × List zV × zN × zS))
def zrow (f : zM) (k : Int) (g : Int → Int) : zM := fun a b => if a = k then g b else f a b
/-- an array's place is there -/
def zix (k t : Nat) (i : Int) : Bool := Nat.beq (zKd t).1 k && (decide (0 ≤ i) && decide (i < ((zKd t).2.1 : Int)))
def zp2ir {α : Type} (st : List zV) (k : Int → Nat → Int → List zV → Option α) : Option α := match st with | .inl i :: .inr (.inr (.inl (t, x))) :: r => k i t x r | _ => none
def zp3ir {α : Type} (st : List zV) (k : Int → Int → Nat → Int → List zV → Option α) : Option α := match st with | .inl v :: .inl i :: .inr (.inr (.inl (t, x))) :: r => k v i t x r | _ => none
def zp3lr {α : Type} (st : List zV) (k : Int → Int → Nat → Int → List zV → Option α) : Option α := match st with | .inr (.inl v) :: .inl i :: .inr (.inr (.inl (t, x))) :: r => k v i t x r | _ => none
def zp3rr {α : Type} (st : List zV) (k : Nat → Int → Int → Nat → Int → List zV → Option α) : Option α := match st with | .inr (.inr (.inl (u, v))) :: .inl i :: .inr (.inr (.inl (t, x))) :: r => k u v i t x r | _ => none
def zp2rr {α : Type} (st : List zV) (k : Nat → Int → Nat → Int → List zV → Option α) : Option α := match st with | .inr (.inr (.inl (u, v))) :: .inr (.inr (.inl (t, x))) :: r => k u v t x r | _ => none
theorem zp2ir_inv {α : Type} {st : List zV} {k : Int → Nat → Int → List zV → Option α} {o : α} (h : zp2ir st k = some o) : ∃ i t x r, st = zI i :: zR t x :: r ∧ k i t x r = some o := by
  unfold zp2ir at h
  split at h
  · exact ⟨_, _, _, _, rfl, h⟩
  · cases h
theorem zp3ir_inv {α : Type} {st : List zV} {k : Int → Int → Nat → Int → List zV → Option α} {o : α} (h : zp3ir st k = some o) : ∃ v i t x r, st = zI v :: zI i :: zR t x :: r ∧ k v i t x r = some o := by
  unfold zp3ir at h
  split at h
  · exact ⟨_, _, _, _, _, rfl, h⟩
  · cases h
theorem zp3lr_inv {α : Type} {st : List zV} {k : Int → Int → Nat → Int → List zV → Option α} {o : α} (h : zp3lr st k = some o) : ∃ v i t x r, st = zL v :: zI i :: zR t x :: r ∧ k v i t x r = some o := by
  unfold zp3lr at h
  split at h
  · exact ⟨_, _, _, _, _, rfl, h⟩
  · cases h
theorem zp3rr_inv {α : Type} {st : List zV} {k : Nat → Int → Int → Nat → Int → List zV → Option α} {o : α} (h : zp3rr st k = some o) : ∃ u v i t x r, st = zR u v :: zI i :: zR t x :: r ∧ k u v i t x r = some o := by
  unfold zp3rr at h
  split at h
  · exact ⟨_, _, _, _, _, _, rfl, h⟩
  · cases h
theorem zp2rr_inv {α : Type} {st : List zV} {k : Nat → Int → Nat → Int → List zV → Option α} {o : α} (h : zp2rr st k = some o) : ∃ u v t x r, st = zR u v :: zR t x :: r ∧ k u v t x r = some o := by
  unfold zp2rr at h
  split at h
  · exact ⟨_, _, _, _, _, rfl, h⟩
  · cases h
/-- a field's read, a field's write, by the slot's sort -/
def zget (c e : Nat) (r m : Int) : Option zV := match c with
  | 0 => some (zI m)
  | 3 => some (zI m)
  | 2 => zg (decide (0 ≤ r)) (some (zR e r))
  | 5 => zg (decide (0 ≤ m)) (some (zR e (zdec e m)))
  | 6 => some (zI r)
  | _ => none
def zput (c e : Nat) (v : zV) (f g : zM) (x j : Int) : Option (zM × zM) := match c with
  | 0 => zp1i [v] fun y _ => some (f, zup g x j y)
  | 3 => zp1i [v] fun y _ => zg (decide (0 ≤ y) && decide (y ≤ 1)) (some (f, zup g x j y))
  | 2 => zp1r [v] fun t y _ => zg (Nat.beq t e) (some (zup f x j y, g))
  | 5 => zp1r [v] fun t y _ => zg (Nat.beq t e) (some (f, zup g x j (zenc e y)))
  | 6 => zp1i [v] fun y _ => some (zup f x j y, g)
  | _ => none
def zdf (t j : Nat) : Int := match (zsk t j).1 with | 5 => -1 | _ => 0
def zdg (t j : Nat) : Int := match (zsk t j).1 with | 6 => 0 | _ => -1
def znx (pc : Nat) (ls st : List zV) (s : zS) : Option zO := some (.inl ((pc, ls, st), s))
/-- the sum of a stack's words -/
def zsum (st : List zV) : Nat := (st.map zcat).sum
/-- what an instruction makes of a frame and the heap; a b c e the operands that gen.py resolved -/
def zheap (i : Instr) (len a b c e : Nat) (d : Int) (pc : Nat) (ls st : List zV) (s : zS) : Option zO := match i with
  | .getfield _ => zg (Nat.beq len 3) (zp1r st fun t x r => zg (Nat.beq t a) ((zget c e (s.2.1 x b) (s.2.2 x b)).bind fun v => znx (pc + 3) ls (v :: r) s))
  | .putfield _ => zg (Nat.beq len 3) (zp1 st fun v r => zp1r r fun t x r => zg (Nat.beq t a) ((zput c e v s.2.1 s.2.2 x b).bind fun q => znx (pc + 3) ls r (s.1, q)))
  | .iaload => zg (Nat.beq len 1) (zp2ir st fun i t x r => match Nat.beq t 90 with
      | true => zg (decide (0 ≤ i) && decide (i < s.2.2 (-2) (-1))) (znx (pc + 1) ls (zI (s.2.2 (-2) i) :: r) s)
      | false => zg (zix 1 t i) (znx (pc + 1) ls (zI (s.2.2 x i) :: r) s))
  | .baload => zg (Nat.beq len 1) (zp2ir st fun i t x r => zg (zix 3 t i || zix 4 t i) (znx (pc + 1) ls (zI (s.2.2 x i) :: r) s))
  | .laload => zg (Nat.beq len 1) (zp2ir st fun i t x r => zg (zix 2 t i) (znx (pc + 1) ls (zL (s.2.2 x i) :: r) s))
  | .aaload => zg (Nat.beq len 1) (zp2ir st fun i t x r => match Nat.beq (zKd t).1 6 with
      | true => zg (zix 6 t i && decide (0 ≤ s.2.2 x i)) (znx (pc + 1) ls (zR (zKd t).2.2 (zdec (zKd t).2.2 (s.2.2 x i)) :: r) s)
      | false => zg (zix 5 t i && decide (0 ≤ s.2.1 x i)) (znx (pc + 1) ls (zR (zKd t).2.2 (s.2.1 x i) :: r) s))
  | .iastore => zg (Nat.beq len 1) (zp3ir st fun v i t x r => zg (zix 1 t i) (znx (pc + 1) ls r (s.1, s.2.1, zup s.2.2 x i v)))
  | .bastore => zg (Nat.beq len 1) (zp3ir st fun v i t x r => zg ((zix 3 t i && (decide (-128 ≤ v) && decide (v < 128))) || (zix 4 t i && (decide (0 ≤ v) && decide (v ≤ 1)))) (znx (pc + 1) ls r (s.1, s.2.1, zup s.2.2 x i v)))
  | .lastore => zg (Nat.beq len 1) (zp3lr st fun v i t x r => zg (zix 2 t i) (znx (pc + 1) ls r (s.1, s.2.1, zup s.2.2 x i v)))
  | .aastore => zg (Nat.beq len 1) (zp3rr st fun u v i t x r => match Nat.beq (zKd t).1 6 with
      | true => zg (zix 6 t i && Nat.beq u (zKd t).2.2) (znx (pc + 1) ls r (s.1, s.2.1, zup s.2.2 x i (zenc (zKd t).2.2 v)))
      | false => zg (zix 5 t i && Nat.beq u (zKd t).2.2) (znx (pc + 1) ls r (s.1, zup s.2.1 x i v, s.2.2)))
  | .arraylength => zg (Nat.beq len 1) (zp1r st fun t x r => match Nat.beq t 90 with
      | true => znx (pc + 1) ls (zI (s.2.2 (-2) (-1)) :: r) s
      | false => zg (Nat.ble 1 (zKd t).1 && Nat.ble (zKd t).1 5) (znx (pc + 1) ls (zI ((zKd t).2.1 : Int) :: r) s))
  | .ldc _ => zg (Nat.beq len 2) (match a with | 0 => znx (pc + 2) ls (zI d :: st) s | _ => znx (pc + 2) ls (zR 91 0 :: st) s)
  | .ldc_w _ => zg (Nat.beq len 3) (match a with | 0 => znx (pc + 3) ls (zI d :: st) s | _ => none)
  | .ldc2_w _ => zg (Nat.beq len 3) (znx (pc + 3) ls (zL d :: st) s)
  | .new _ => zg (Nat.beq len 3 && (Nat.ble (s.1 + 1) 147 && (Nat.beq (zlay.getD (zvi s.1) 99) a && Nat.ble (a + 1) 11))) (znx (pc + 3) ls (zR a (zvi s.1 : Int) :: st) (s.1 + 1, zrow s.2.1 (zvi s.1) (fun j => zdg a j.toNat), zrow s.2.2 (zvi s.1) (fun j => zdf a j.toNat)))
  | .newarray _ => zg (Nat.beq len 2) (zp1i st fun n r => zg (Nat.ble (s.1 + 1) 147 && (Nat.beq (zKd (zlay.getD (zvi s.1) 99)).1 a && (decide (((zKd (zlay.getD (zvi s.1) 99)).2.1 : Int) = n) && Nat.ble a 4))) (znx (pc + 2) ls (zR (zlay.getD (zvi s.1) 99) (zvi s.1 : Int) :: r) (s.1 + 1, zrow s.2.1 (zvi s.1) (fun _ => -1), zrow s.2.2 (zvi s.1) (fun _ => 0))))
  | .anewarray _ => zg (Nat.beq len 3) (zp1i st fun n r => zg (Nat.ble (s.1 + 1) 147 && ((Nat.beq (zKd (zlay.getD (zvi s.1) 99)).1 5 || Nat.beq (zKd (zlay.getD (zvi s.1) 99)).1 6) && (decide (((zKd (zlay.getD (zvi s.1) 99)).2.1 : Int) = n) && Nat.beq (zKd (zlay.getD (zvi s.1) 99)).2.2 a))) (znx (pc + 3) ls (zR (zlay.getD (zvi s.1) 99) (zvi s.1 : Int) :: r) (s.1 + 1, zrow s.2.1 (zvi s.1) (fun _ => -1), zrow s.2.2 (zvi s.1) (fun _ => -1))))
  | .ireturn => zg (Nat.beq len 1) (zp1i st fun x r => zg (r.isEmpty && (Nat.beq c 0 || (decide (0 ≤ x) && decide (x ≤ 1)))) (some (.inr (.inl ([zI x], s)))))
  | .areturn => zg (Nat.beq len 1) (zp1r st fun t x r => zg (r.isEmpty && Nat.beq t c) (some (.inr (.inl ([zR t x], s)))))
  | .lreturn => zg (Nat.beq len 1) (zp1l st fun x r => zg r.isEmpty (some (.inr (.inl ([zL x], s)))))
  | .return_ => zg (Nat.beq len 1 && st.isEmpty) (some (.inr (.inl ([], s))))
  | .invokespecial _ => zg (Nat.beq len 3) (match Nat.beq a 9999 with
      | true => zp1r st fun _ _ r => zg (Nat.ble (zsum r) 8) (znx (pc + 3) ls r s)
      | false => zg (Nat.ble b st.length && Nat.ble (zsum (st.drop b)) 8) (zp1r (st.take b).reverse fun t _ _ => zg (Nat.beq t e) (some (.inr (.inr (a, (st.take b).reverse, (pc + 3, ls, st.drop b), s))))))
  | .invokevirtual _ => zg (Nat.beq len 3) (zg (Nat.ble b st.length && Nat.ble (zsum (st.drop b)) 8) (zp1r (st.take b).reverse fun t _ _ => zg (Nat.beq t e) (some (.inr (.inr (a, (st.take b).reverse, (pc + 3, ls, st.drop b), s))))))
  | .invokestatic _ => zg (Nat.beq len 3) (zg (Nat.ble b st.length && Nat.ble (zsum (st.drop b)) 8) (some (.inr (.inr (a, (st.take b).reverse, (pc + 3, ls, st.drop b), s)))))
  | _ => none
def zstep (i : Instr) (len a b c e : Nat) (d : Int) (pc : Nat) (ls st : List zV) (s : zS) : Option zO := match zpure i len a d pc ls st with
  | some n => some (.inl (n, s))
  | none => zheap i len a b c e d pc ls st s
/-! THE WORLD: the machine's heap holds these cells -/
def zrv (B : zB) (y : Int) : Value := if y < 0 then .null else .ref (B.1 + zrho y.toNat)
def zrm5 (B : zB) (e : Nat) (y : Int) : Value := if y < 0 then .null else .ref (B.1 + zrho (zdec e y).toNat)
def zsv (B : zB) (q : Nat × Nat) (r m : Int) : Value := match q.1 with
  | 2 => zrv B r
  | 5 => zrm5 B q.2 m
  | 6 => .int (Int32.ofInt r)
  | _ => .int (Int32.ofInt m)
def zen (B : zB) (cA : Nat → ClassId) (s : zS) (x : Nat) : va_E := match zKd (zlay.getD x 99) with
  | (0, n, _) => .inr (zlay.getD x 99, (List.range n).map fun j => zsv B (zsk (zlay.getD x 99) j) (s.2.1 x j) (s.2.2 x j))
  | (2, n, _) => .inl (cA 2, n, .inr (.inl fun j => Int64.ofInt (s.2.2 x j)))
  | (5, n, e) => .inl (cA (10 + e), n, .inr (.inr (.inr (.inr fun j => if s.2.1 x j < 0 then none else some (B.1 + zrho (s.2.1 x j).toNat)))))
  | (6, n, e) => .inl (cA (10 + e), n, .inr (.inr (.inr (.inr fun j => if s.2.2 x j < 0 then none else some (B.1 + zrho (zdec e (s.2.2 x j)).toNat)))))
  | (k, n, _) => .inl (cA k, n, .inl fun j => Int32.ofInt (s.2.2 x j))
def zws (B : zB) (cA : Nat → ClassId) (s : zS) : va_W := (List.range s.1).map fun k => (B.1 + k, zen B cA s (zvi k))
def zrok (K e : Nat) (y : Int) : Prop := y = -1 ∨ (0 ≤ y ∧ zrho y.toNat < K ∧ zlay.getD y.toNat 99 = e)
def zmok (K e : Nat) (y : Int) : Prop := y = -1 ∨ (0 ≤ y ∧ zrho (zdec e y).toNat < K ∧ zlay.getD (zdec e y).toNat 99 = e)
def zsok (K : Nat) (q : Nat × Nat) (r m : Int) : Prop := match q.1 with
  | 0 => zri m
  | 1 => zrl m
  | 2 => zrok K q.2 r
  | 3 => 0 ≤ m ∧ m ≤ 1
  | 4 => -128 ≤ m ∧ m < 128
  | 5 => zmok K q.2 m
  | 6 => zri r
  | _ => True
/-- every slot holds what its sort lets it hold -/
def zinv (s : zS) : Prop := ∀ x : Nat, zrho x < s.1 → ∀ j : Nat, j < (zKd (zlay.getD x 99)).2.1 → zsok s.1 (zsk (zlay.getD x 99) j) (s.2.1 x j) (s.2.2 x j)
