/-! INSTRUCTIONS THAT TOUCH NO HEAP: what they do to a frame of abstract values -/
def zcat (v : zV) : Nat := match v with | .inr (.inl _) => 2 | _ => 1
theorem zv_cat (B : zB) (v : zV) : (zv B v).category = zcat v := by
  rcases v with x | x | ⟨t, x⟩ | u
  · rfl
  · rfl
  · simp only [zv]
    split
    · rfl
    · split <;> rfl
  · rfl
def zset1 : List zV → Nat → zV → List zV
  | [], _, _ => []
  | _ :: t, 0, v => v :: t
  | x :: t, i + 1, v => (if i = 0 ∧ zcat x = 2 then zU else x) :: zset1 t i v
def zset2 : List zV → Nat → zV → List zV
  | [], _, _ => []
  | [_], 0, v => [v]
  | _ :: _ :: t, 0, v => v :: zU :: t
  | x :: t, i + 1, v => (if i = 0 ∧ zcat x = 2 then zU else x) :: zset2 t i v
def zg {α : Type} (b : Bool) (x : Option α) : Option α := match b with | true => x | false => none
def zp1 {α : Type} (st : List zV) (k : zV → List zV → Option α) : Option α := match st with | v :: r => k v r | _ => none
def zp1i {α : Type} (st : List zV) (k : Int → List zV → Option α) : Option α := match st with | .inl a :: r => k a r | _ => none
def zp2i {α : Type} (st : List zV) (k : Int → Int → List zV → Option α) : Option α := match st with | .inl b :: .inl a :: r => k a b r | _ => none
def zp1l {α : Type} (st : List zV) (k : Int → List zV → Option α) : Option α := match st with | .inr (.inl a) :: r => k a r | _ => none
def zp2l {α : Type} (st : List zV) (k : Int → Int → List zV → Option α) : Option α := match st with | .inr (.inl b) :: .inr (.inl a) :: r => k a b r | _ => none
def zp1r {α : Type} (st : List zV) (k : Nat → Int → List zV → Option α) : Option α := match st with | .inr (.inr (.inl (t, x))) :: r => k t x r | _ => none
theorem zg_inv {α : Type} {b : Bool} {x : Option α} {o : α} (h : zg b x = some o) : b = true ∧ x = some o := by
  cases b
  · cases h
  · exact ⟨rfl, h⟩
theorem zp1_inv {α : Type} {st : List zV} {k : zV → List zV → Option α} {o : α} (h : zp1 st k = some o) : ∃ v r, st = v :: r ∧ k v r = some o := by
  unfold zp1 at h
  split at h
  · exact ⟨_, _, rfl, h⟩
  · cases h
theorem zp1i_inv {α : Type} {st : List zV} {k : Int → List zV → Option α} {o : α} (h : zp1i st k = some o) : ∃ a r, st = zI a :: r ∧ k a r = some o := by
  unfold zp1i at h
  split at h
  · exact ⟨_, _, rfl, h⟩
  · cases h
theorem zp2i_inv {α : Type} {st : List zV} {k : Int → Int → List zV → Option α} {o : α} (h : zp2i st k = some o) : ∃ a b r, st = zI b :: zI a :: r ∧ k a b r = some o := by
  unfold zp2i at h
  split at h
  · exact ⟨_, _, _, rfl, h⟩
  · cases h
theorem zp1l_inv {α : Type} {st : List zV} {k : Int → List zV → Option α} {o : α} (h : zp1l st k = some o) : ∃ a r, st = zL a :: r ∧ k a r = some o := by
  unfold zp1l at h
  split at h
  · exact ⟨_, _, rfl, h⟩
  · cases h
theorem zp2l_inv {α : Type} {st : List zV} {k : Int → Int → List zV → Option α} {o : α} (h : zp2l st k = some o) : ∃ a b r, st = zL b :: zL a :: r ∧ k a b r = some o := by
  unfold zp2l at h
  split at h
  · exact ⟨_, _, _, rfl, h⟩
  · cases h
theorem zp1r_inv {α : Type} {st : List zV} {k : Nat → Int → List zV → Option α} {o : α} (h : zp1r st k = some o) : ∃ t x r, st = zR t x :: r ∧ k t x r = some o := by
  unfold zp1r at h
  split at h
  · exact ⟨_, _, _, rfl, h⟩
  · cases h
/-- the comparisons -/
def zcp (c : ClassFile.Cond) (x y : Int) : Bool := match c with
  | .eq => decide (x = y) | .ne => decide (x ≠ y) | .lt => decide (x < y) | .ge => decide (y ≤ x) | .gt => decide (y < x) | .le => decide (x ≤ y)
def zca (c : ClassFile.ACond) (x y : Int) : Bool := match c with
  | .eq => decide (x = y) | .ne => decide (x ≠ y)
def zpac {α : Type} (st : List zV) (k : Nat → Int → Nat → Int → List zV → Option α) : Option α := match st with | .inr (.inr (.inl (u, y))) :: .inr (.inr (.inl (t, x))) :: r => k t x u y r | _ => none
theorem zpac_inv {α : Type} {st : List zV} {k : Nat → Int → Nat → Int → List zV → Option α} {o : α} (h : zpac st k = some o) : ∃ t x u y r, st = zR u y :: zR t x :: r ∧ k t x u y r = some o := by
  unfold zpac at h
  split at h
  · exact ⟨_, _, _, _, _, rfl, h⟩
  · cases h
def zxor (a b : Int) : Int := (Int32.ofInt a ^^^ Int32.ofInt b).toInt
def zand (a b : Int) : Int := (Int32.ofInt a &&& Int32.ofInt b).toInt
def zor (a b : Int) : Int := (Int32.ofInt a ||| Int32.ofInt b).toInt
def zshl (a b : Int) : Int := (Int32.ofInt a <<< (Int32.ofInt b &&& 31)).toInt
def zshr (a b : Int) : Int := (Int32.ofInt a >>> (Int32.ofInt b &&& 31)).toInt
def zi2b (a : Int) : Int := (a + 128) % 256 - 128
def zcmp (a b : Int) : Int := if a < b then -1 else if a = b then 0 else 1
def zsw (x lo hi : Int) (d : Int) (offs : List Int) : Int := if x < lo ∨ hi < x then d else offs.getD (x - lo).toNat d
def zlk (x : Int) (d : Int) : List (Int × Int) → Int
  | [] => d
  | q :: t => if x = q.1 then q.2 else zlk x d t
abbrev zN : Type := Nat × List zV × List zV
/-- what an instruction without heap makes of pc, locals and stack -/
def zpure (i : Instr) (len a : Nat) (d : Int) (pc : Nat) (ls st : List zV) : Option zN := match i with
  | .iconst n => zg (Nat.beq len 1 && (decide (-1 ≤ n) && decide (n ≤ 5))) (some (pc + 1, ls, zI n :: st))
  | .bipush n => zg (Nat.beq len 2 && (decide (-128 ≤ n) && decide (n < 128))) (some (pc + 2, ls, zI n :: st))
  | .sipush n => zg (Nat.beq len 3 && (decide (-32768 ≤ n) && decide (n < 32768))) (some (pc + 3, ls, zI n :: st))
  | .lconst n => zg (Nat.beq len 1) (some (pc + 1, ls, zL (n.val : Int) :: st))
  | .iload n => zg (Nat.beq len 2) (zp1i [ls.getD n zU] fun x _ => some (pc + 2, ls, zI x :: st))
  | .iload_n n => zg (Nat.beq len 1) (zp1i [ls.getD n.val zU] fun x _ => some (pc + 1, ls, zI x :: st))
  | .lload n => zg (Nat.beq len 2) (zp1l [ls.getD n zU] fun x _ => some (pc + 2, ls, zL x :: st))
  | .lload_n n => zg (Nat.beq len 1) (zp1l [ls.getD n.val zU] fun x _ => some (pc + 1, ls, zL x :: st))
  | .aload n => zg (Nat.beq len 2) (zp1r [ls.getD n zU] fun t x _ => some (pc + 2, ls, zR t x :: st))
  | .aload_n n => zg (Nat.beq len 1) (zp1r [ls.getD n.val zU] fun t x _ => some (pc + 1, ls, zR t x :: st))
  | .istore n => zg (Nat.beq len 2 && Nat.ble (n + 1) ls.length) (zp1i st fun x r => some (pc + 2, zset1 ls n (zI x), r))
  | .istore_n n => zg (Nat.beq len 1 && Nat.ble (n.val + 1) ls.length) (zp1i st fun x r => some (pc + 1, zset1 ls n.val (zI x), r))
  | .lstore n => zg (Nat.beq len 2 && Nat.ble (n + 2) ls.length) (zp1l st fun x r => some (pc + 2, zset2 ls n (zL x), r))
  | .lstore_n n => zg (Nat.beq len 1 && Nat.ble (n.val + 2) ls.length) (zp1l st fun x r => some (pc + 1, zset2 ls n.val (zL x), r))
  | .astore n => zg (Nat.beq len 2 && Nat.ble (n + 1) ls.length) (zp1r st fun t x r => some (pc + 2, zset1 ls n (zR t x), r))
  | .astore_n n => zg (Nat.beq len 1 && Nat.ble (n.val + 1) ls.length) (zp1r st fun t x r => some (pc + 1, zset1 ls n.val (zR t x), r))
  | .iinc n k => zg (Nat.beq len 3 && Nat.ble (n + 1) ls.length) (zp1i [ls.getD n zU] fun x _ => some (pc + 3, zset1 ls n (zI (zw (x + k))), st))
  | .iadd => zg (Nat.beq len 1) (zp2i st fun x y r => some (pc + 1, ls, zI (zw (x + y)) :: r))
  | .isub => zg (Nat.beq len 1) (zp2i st fun x y r => some (pc + 1, ls, zI (zw (x - y)) :: r))
  | .imul => zg (Nat.beq len 1) (zp2i st fun x y r => some (pc + 1, ls, zI (zw (x * y)) :: r))
  | .iand => zg (Nat.beq len 1) (zp2i st fun x y r => some (pc + 1, ls, zI (zand x y) :: r))
  | .ior => zg (Nat.beq len 1) (zp2i st fun x y r => some (pc + 1, ls, zI (zor x y) :: r))
  | .ixor => zg (Nat.beq len 1) (zp2i st fun x y r => some (pc + 1, ls, zI (zxor x y) :: r))
  | .ishl => zg (Nat.beq len 1) (zp2i st fun x y r => some (pc + 1, ls, zI (zshl x y) :: r))
  | .ishr => zg (Nat.beq len 1) (zp2i st fun x y r => some (pc + 1, ls, zI (zshr x y) :: r))
  | .idiv => zg (Nat.beq len 1) (zp2i st fun x y r => if y = 0 then none else some (pc + 1, ls, zI (zw (x.tdiv y)) :: r))
  | .irem => zg (Nat.beq len 1) (zp2i st fun x y r => if y = 0 then none else some (pc + 1, ls, zI (x.tmod y) :: r))
  | .ladd => zg (Nat.beq len 1) (zp2l st fun x y r => some (pc + 1, ls, zL (zwl (x + y)) :: r))
  | .lsub => zg (Nat.beq len 1) (zp2l st fun x y r => some (pc + 1, ls, zL (zwl (x - y)) :: r))
  | .lmul => zg (Nat.beq len 1) (zp2l st fun x y r => some (pc + 1, ls, zL (zwl (x * y)) :: r))
  | .ldiv => zg (Nat.beq len 1) (zp2l st fun x y r => if y = 0 then none else some (pc + 1, ls, zL (zwl (x.tdiv y)) :: r))
  | .lrem => zg (Nat.beq len 1) (zp2l st fun x y r => if y = 0 then none else some (pc + 1, ls, zL (x.tmod y) :: r))
  | .lneg => zg (Nat.beq len 1) (zp1l st fun x r => some (pc + 1, ls, zL (zwl (-x)) :: r))
  | .lcmp => zg (Nat.beq len 1) (zp2l st fun x y r => some (pc + 1, ls, zI (zcmp x y) :: r))
  | .i2l => zg (Nat.beq len 1) (zp1i st fun x r => some (pc + 1, ls, zL x :: r))
  | .l2i => zg (Nat.beq len 1) (zp1l st fun x r => some (pc + 1, ls, zI (zw x) :: r))
  | .i2b => zg (Nat.beq len 1) (zp1i st fun x r => some (pc + 1, ls, zI (zi2b x) :: r))
  | .dup => zg (Nat.beq len 1) (zp1 st fun v r => zg (Nat.beq (zcat v) 1) (some (pc + 1, ls, v :: v :: r)))
  | .pop => zg (Nat.beq len 1) (zp1 st fun v r => zg (Nat.beq (zcat v) 1) (some (pc + 1, ls, r)))
  | .dup_x1 => zg (Nat.beq len 1) (zp1 st fun v r => zp1 r fun w r => zg (Nat.beq (zcat v) 1 && Nat.beq (zcat w) 1) (some (pc + 1, ls, v :: w :: v :: r)))
  | .dup2 => zg (Nat.beq len 1) (zp1 st fun v r => zp1 r fun w r => zg (Nat.beq (zcat v) 1 && Nat.beq (zcat w) 1) (some (pc + 1, ls, v :: w :: v :: w :: r)))
  | .goto off => zg (Nat.beq len 3 && decide ((pc : Int) + off = (a : Int))) (some (a, ls, st))
  | .ifCond c off => zg (Nat.beq len 3 && decide ((pc : Int) + off = (a : Int))) (zp1i st fun x r => if zcp c x 0 = true then some (a, ls, r) else some (pc + 3, ls, r))
  | .if_icmp c off => zg (Nat.beq len 3 && decide ((pc : Int) + off = (a : Int))) (zp2i st fun x y r => if zcp c x y = true then some (a, ls, r) else some (pc + 3, ls, r))
  | .if_acmp c off => zg (Nat.beq len 3 && decide ((pc : Int) + off = (a : Int))) (zpac st fun t x u y r => zg (Nat.ble t 89 && Nat.ble u 89) (if zca c x y = true then some (a, ls, r) else some (pc + 3, ls, r)))
  | .tableswitch df lo hi offs => zg (decide ((offs.toList.length : Int) = hi - lo + 1)) (zp1i st fun x r => if 0 ≤ (pc : Int) + zsw x lo hi df offs.toList then some (((pc : Int) + zsw x lo hi df offs.toList).toNat, ls, r) else none)
  | .lookupswitch df ps => zg ((ps.toList.zip (ps.toList.drop 1)).all (fun (a, next) => a.1 < next.1)) (zp1i st fun x r => if 0 ≤ (pc : Int) + zlk x df ps.toList then some (((pc : Int) + zlk x df ps.toList).toNat, ls, r) else none)
  | _ => none
