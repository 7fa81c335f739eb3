/-! BEHIND THE CONSTRUCTORS: all cells are made, references that stay lead where the layout says; the state is m alone -/
def zab (t : Nat) : Int × Int := match t with | 11 => (3, 2) | 13 => (29, 6) | 14 => (30, 6) | _ => (0, 0)
def zoff (t j : Nat) : Int := (zof.getD t []).getD j 0
def zr0 : zM := fun x j => match (zKd (zlay.getD x.toNat 99)).1 with
  | 5 => (zab (zlay.getD x.toNat 99)).1 + (zab (zlay.getD x.toNat 99)).2 * j
  | _ => match (zsk (zlay.getD x.toNat 99) j.toNat).1 with | 6 => (x - 3) / 2 | _ => x + zoff (zlay.getD x.toNat 99) j.toNat
theorem zr0_obj : ∀ X, X < 148 → (zKd (zlay.getD X 99)).1 = 0 → ∀ j, j < (zKd (zlay.getD X 99)).2.1 → (zsk (zlay.getD X 99) j).1 = 2 → 0 ≤ (X : Int) + zoff (zlay.getD X 99) j := by decide +kernel
theorem zab_ok : ∀ t, t < 37 → (zKd t).1 = 5 → 0 ≤ (zab t).1 ∧ 0 ≤ (zab t).2 := by decide +kernel
/-- Prop-valued looks at a stack -/
def zq1 (st : List zV) (k : zV → List zV → Prop) : Prop := match st with | v :: r => k v r | _ => False
def zq1i (st : List zV) (k : Int → List zV → Prop) : Prop := match st with | .inl a :: r => k a r | _ => False
def zq2i (st : List zV) (k : Int → Int → List zV → Prop) : Prop := match st with | .inl b :: .inl a :: r => k a b r | _ => False
def zq2l (st : List zV) (k : Int → Int → List zV → Prop) : Prop := match st with | .inr (.inl b) :: .inr (.inl a) :: r => k a b r | _ => False
def zq1r (st : List zV) (k : Nat → Int → List zV → Prop) : Prop := match st with | .inr (.inr (.inl (t, x))) :: r => k t x r | _ => False
def zq2ir (st : List zV) (k : Int → Nat → Int → List zV → Prop) : Prop := match st with | .inl i :: .inr (.inr (.inl (t, x))) :: r => k i t x r | _ => False
def zq3ir (st : List zV) (k : Int → Int → Nat → Int → List zV → Prop) : Prop := match st with | .inl v :: .inl i :: .inr (.inr (.inl (t, x))) :: r => k v i t x r | _ => False
def zq3lr (st : List zV) (k : Int → Int → Nat → Int → List zV → Prop) : Prop := match st with | .inr (.inl v) :: .inl i :: .inr (.inr (.inl (t, x))) :: r => k v i t x r | _ => False
def zqac (st : List zV) (k : Nat → Int → Nat → Int → List zV → Prop) : Prop := match st with | .inr (.inr (.inl (u, y))) :: .inr (.inr (.inl (t, x))) :: r => k t x u y r | _ => False
def zq3rr (st : List zV) (k : Nat → Int → Int → Nat → Int → List zV → Prop) : Prop := match st with | .inr (.inr (.inl (u, v))) :: .inl i :: .inr (.inr (.inl (t, x))) :: r => k u v i t x r | _ => False
theorem zqac_inv {st : List zV} {k : Nat → Int → Nat → Int → List zV → Prop} (h : zqac st k) : ∃ t x u y r, st = zR u y :: zR t x :: r ∧ k t x u y r := by
  unfold zqac at h
  split at h
  · exact ⟨_, _, _, _, _, rfl, h⟩
  · cases h
theorem zq3rr_inv {st : List zV} {k : Nat → Int → Int → Nat → Int → List zV → Prop} (h : zq3rr st k) : ∃ u v i t x r, st = zR u v :: zI i :: zR t x :: r ∧ k u v i t x r := by
  unfold zq3rr at h
  split at h
  · exact ⟨_, _, _, _, _, _, rfl, h⟩
  · cases h
def zqb (b : Bool) (P : Prop) : Prop := match b with | true => P | false => False
theorem zq1_inv {st : List zV} {k : zV → List zV → Prop} (h : zq1 st k) : ∃ v r, st = v :: r ∧ k v r := by
  unfold zq1 at h
  split at h
  · exact ⟨_, _, rfl, h⟩
  · cases h
theorem zq1i_inv {st : List zV} {k : Int → List zV → Prop} (h : zq1i st k) : ∃ a r, st = zI a :: r ∧ k a r := by
  unfold zq1i at h
  split at h
  · exact ⟨_, _, rfl, h⟩
  · cases h
theorem zq2i_inv {st : List zV} {k : Int → Int → List zV → Prop} (h : zq2i st k) : ∃ a b r, st = zI b :: zI a :: r ∧ k a b r := by
  unfold zq2i at h
  split at h
  · exact ⟨_, _, _, rfl, h⟩
  · cases h
theorem zq2l_inv {st : List zV} {k : Int → Int → List zV → Prop} (h : zq2l st k) : ∃ a b r, st = zL b :: zL a :: r ∧ k a b r := by
  unfold zq2l at h
  split at h
  · exact ⟨_, _, _, rfl, h⟩
  · cases h
theorem zq1r_inv {st : List zV} {k : Nat → Int → List zV → Prop} (h : zq1r st k) : ∃ t x r, st = zR t x :: r ∧ k t x r := by
  unfold zq1r at h
  split at h
  · exact ⟨_, _, _, rfl, h⟩
  · cases h
theorem zq2ir_inv {st : List zV} {k : Int → Nat → Int → List zV → Prop} (h : zq2ir st k) : ∃ i t x r, st = zI i :: zR t x :: r ∧ k i t x r := by
  unfold zq2ir at h
  split at h
  · exact ⟨_, _, _, _, rfl, h⟩
  · cases h
theorem zq3ir_inv {st : List zV} {k : Int → Int → Nat → Int → List zV → Prop} (h : zq3ir st k) : ∃ v i t x r, st = zI v :: zI i :: zR t x :: r ∧ k v i t x r := by
  unfold zq3ir at h
  split at h
  · exact ⟨_, _, _, _, _, rfl, h⟩
  · cases h
theorem zq3lr_inv {st : List zV} {k : Int → Int → Nat → Int → List zV → Prop} (h : zq3lr st k) : ∃ v i t x r, st = zL v :: zI i :: zR t x :: r ∧ k v i t x r := by
  unfold zq3lr at h
  split at h
  · exact ⟨_, _, _, _, _, rfl, h⟩
  · cases h
theorem zqb_inv {b : Bool} {P : Prop} (h : zqb b P) : b = true ∧ P := by
  cases b
  · cases h
  · exact ⟨rfl, h⟩
/-- a branch -/
def zcj (c : ClassFile.Cond) (x y : Int) (A B : Prop) : Prop := match c with
  | .eq => if x = y then A else B
  | .ne => if x = y then B else A
  | .lt => if x < y then A else B
  | .ge => if x < y then B else A
  | .gt => if y < x then A else B
  | .le => if y < x then B else A
def zcja (c : ClassFile.ACond) (x y : Int) (A B : Prop) : Prop := match c with
  | .eq => if x = y then A else B
  | .ne => if x = y then B else A
/-- a target -/
def ztg (y : Int) (k : Nat → Prop) : Prop := match y with | .ofNat n => k n | .negSucc _ => False
/-- a switch -/
def zswk (x : Int) (pc : Nat) (d : Int) (k : Nat → Prop) : Int → List Int → Prop
  | _, [] => ztg ((pc : Int) + d) k
  | lo, o :: t => if x = lo then ztg ((pc : Int) + o) k else zswk x pc d k (lo + 1) t
def zlkk (x : Int) (pc : Nat) (d : Int) (k : Nat → Prop) : List (Int × Int) → Prop
  | [] => ztg ((pc : Int) + d) k
  | q :: t => if x = q.1 then ztg ((pc : Int) + q.2) k else zlkk x pc d k t
/-- an index is within; a number is 0 or 1; a divisor isn't 0: all three are gone where the number is written out -/
def zin (i : Int) (n : Nat) (P : Prop) : Prop := match i with | .ofNat k => (match Nat.blt k n with | true => P | false => False) | .negSucc _ => False
def zbl (x : Int) (P : Prop) : Prop := match x with | .ofNat k => (match Nat.ble k 1 with | true => P | false => False) | .negSucc _ => False
def zdv (y : Int) (P : Prop) : Prop := match y with | .ofNat k => (match Nat.beq k 0 with | true => False | false => P) | .negSucc _ => P
theorem zin_iff {i : Int} {n : Nat} {P : Prop} : zin i n P ↔ (0 ≤ i ∧ i < (n : Int)) ∧ P := by
  unfold zin
  split
  · rename_i k
    rw [show Int.ofNat k = (k : Int) from rfl]
    split
    · rename_i h
      have h : k < n := by simpa [Nat.blt_eq] using h
      exact ⟨fun q => ⟨by omega, q⟩, fun q => q.2⟩
    · rename_i h
      have h : ¬ k < n := by
        intro z
        have : Nat.blt k n = true := by simpa [Nat.blt_eq] using z
        rw [this] at h; cases h
      exact ⟨fun q => q.elim, fun q => h (by omega)⟩
  · exact ⟨fun q => q.elim, fun q => by omega⟩
theorem zbl_iff {x : Int} {P : Prop} : zbl x P ↔ (0 ≤ x ∧ x ≤ 1) ∧ P := by
  unfold zbl
  split
  · rename_i k
    rw [show Int.ofNat k = (k : Int) from rfl]
    split
    · rename_i h
      have h := Nat.le_of_ble_eq_true h
      exact ⟨fun q => ⟨by omega, q⟩, fun q => q.2⟩
    · rename_i h
      have h : ¬ k ≤ 1 := by
        intro z
        rw [Nat.ble_eq_true_of_le z] at h; cases h
      exact ⟨fun q => q.elim, fun q => h (by omega)⟩
  · exact ⟨fun q => q.elim, fun q => by omega⟩
theorem zdv_iff {y : Int} {P : Prop} : zdv y P ↔ ¬ y = 0 ∧ P := by
  unfold zdv
  split
  · rename_i k
    rw [show Int.ofNat k = (k : Int) from rfl]
    split
    · rename_i h
      have h := Nat.eq_of_beq_eq_true h
      subst h
      exact ⟨fun q => q.elim, fun q => q.1 rfl⟩
    · rename_i h
      have h : ¬ k = 0 := by intro z; subst z; cases h
      exact ⟨fun q => ⟨by omega, q⟩, fun q => q.2⟩
  · exact ⟨fun q => ⟨by omega, q⟩, fun q => q.2⟩
theorem ztg_iff {y : Int} {k : Nat → Prop} : ztg y k ↔ 0 ≤ y ∧ k y.toNat := by
  unfold ztg
  split
  · rename_i k
    exact ⟨fun q => ⟨Int.natCast_nonneg k, q⟩, fun q => q.2⟩
  · exact ⟨fun q => q.elim, fun q => by omega⟩
/-- what must hold for an instruction to go on well -/
def zsem (q : zE) (pc : Nat) (ls st : List zV) (m : zM) (kN : Nat → List zV → List zV → zM → Prop) (kR : List zV → Prop) (kC : Nat → List zV → Nat → List zV → List zV → Prop) : Prop := match q with
  | (_, ins, len, (a, b, c, e), d) => match ins with
    | .getfield _ => zqb (Nat.beq len 3) (zq1r st fun t x r => zqb (Nat.beq t a) (match c with
        | 0 => kN (pc + 3) ls (zI (m x b) :: r) m
        | 3 => kN (pc + 3) ls (zI (m x b) :: r) m
        | 2 => kN (pc + 3) ls (zR e (x + zoff a b) :: r) m
        | 5 => 0 ≤ m x b ∧ kN (pc + 3) ls (zR e (zdec e (m x b)) :: r) m
        | 6 => kN (pc + 3) ls (zI ((x - 3) / 2) :: r) m
        | _ => False))
    | .putfield _ => zqb (Nat.beq len 3) (zq1 st fun v r => zq1r r fun t x r => zqb (Nat.beq t a) (match c with
        | 0 => zq1i [v] fun y _ => kN (pc + 3) ls r (zup m x b y)
        | 3 => zq1i [v] fun y _ => zbl y (kN (pc + 3) ls r (zup m x b y))
        | 5 => zq1r [v] fun u y _ => zqb (Nat.beq u e) (kN (pc + 3) ls r (zup m x b (zenc e y)))
        | _ => False))
    | .iaload => zqb (Nat.beq len 1) (zq2ir st fun i t x r => match Nat.beq t 90 with
        | true => (0 ≤ i ∧ i < m (-2) (-1)) ∧ kN (pc + 1) ls (zI (m (-2) i) :: r) m
        | false => zqb (Nat.beq (zKd t).1 1) (zin i (zKd t).2.1 (kN (pc + 1) ls (zI (m x i) :: r) m)))
    | .baload => zqb (Nat.beq len 1) (zq2ir st fun i t x r => zqb (Nat.beq (zKd t).1 3 || Nat.beq (zKd t).1 4) (zin i (zKd t).2.1 (kN (pc + 1) ls (zI (m x i) :: r) m)))
    | .laload => zqb (Nat.beq len 1) (zq2ir st fun i t x r => zqb (Nat.beq (zKd t).1 2) (zin i (zKd t).2.1 (kN (pc + 1) ls (zL (m x i) :: r) m)))
    | .aaload => zqb (Nat.beq len 1) (zq2ir st fun i t x r => match Nat.beq (zKd t).1 6 with
        | true => zin i (zKd t).2.1 (0 ≤ m x i ∧ kN (pc + 1) ls (zR (zKd t).2.2 (zdec (zKd t).2.2 (m x i)) :: r) m)
        | false => zqb (Nat.beq (zKd t).1 5) (zin i (zKd t).2.1 (kN (pc + 1) ls (zR (zKd t).2.2 ((zab t).1 + (zab t).2 * i) :: r) m)))
    | .aastore => zqb (Nat.beq len 1) (zq3rr st fun u v i t x r => zqb (Nat.beq (zKd t).1 6 && Nat.beq u (zKd t).2.2) (zin i (zKd t).2.1 (kN (pc + 1) ls r (zup m x i (zenc (zKd t).2.2 v)))))
    | .iastore => zqb (Nat.beq len 1) (zq3ir st fun v i t x r => zqb (Nat.beq (zKd t).1 1) (zin i (zKd t).2.1 (kN (pc + 1) ls r (zup m x i v))))
    | .bastore => zqb (Nat.beq len 1) (zq3ir st fun v i t x r => match Nat.beq (zKd t).1 3 with
        | true => zin i (zKd t).2.1 ((-128 ≤ v ∧ v < 128) ∧ kN (pc + 1) ls r (zup m x i v))
        | false => zqb (Nat.beq (zKd t).1 4) (zin i (zKd t).2.1 (zbl v (kN (pc + 1) ls r (zup m x i v)))))
    | .lastore => zqb (Nat.beq len 1) (zq3lr st fun v i t x r => zqb (Nat.beq (zKd t).1 2) (zin i (zKd t).2.1 (kN (pc + 1) ls r (zup m x i v))))
    | .arraylength => zqb (Nat.beq len 1) (zq1r st fun t _ r => match Nat.beq t 90 with
        | true => kN (pc + 1) ls (zI (m (-2) (-1)) :: r) m
        | false => zqb (Nat.ble 1 (zKd t).1 && Nat.ble (zKd t).1 5) (kN (pc + 1) ls (zI ((zKd t).2.1 : Int) :: r) m))
    | .ldc _ => zqb (Nat.beq len 2) (match a with | 0 => kN (pc + 2) ls (zI d :: st) m | _ => kN (pc + 2) ls (zR 91 0 :: st) m)
    | .ldc_w _ => zqb (Nat.beq len 3) (match a with | 0 => kN (pc + 3) ls (zI d :: st) m | _ => False)
    | .ldc2_w _ => zqb (Nat.beq len 3) (kN (pc + 3) ls (zL d :: st) m)
    | .ireturn => zqb (Nat.beq len 1) (zq1i st fun x r => zqb r.isEmpty (match c with | 0 => kR [zI x] | _ => zbl x (kR [zI x])))
    | .areturn => zqb (Nat.beq len 1) (zq1r st fun t x r => zqb (r.isEmpty && Nat.beq t c) (kR [zR t x]))
    | .lreturn => zqb (Nat.beq len 1) (match st with | .inr (.inl x) :: r => zqb r.isEmpty (kR [zL x]) | _ => False)
    | .return_ => zqb (Nat.beq len 1 && st.isEmpty) (kR [])
    | .invokespecial _ => zqb (Nat.beq len 3 && !Nat.beq a 9999 && (Nat.ble b st.length && Nat.ble (zsum (st.drop b)) 8)) (zq1r (st.take b).reverse fun t _ _ => zqb (Nat.beq t e) (kC a (st.take b).reverse (pc + 3) ls (st.drop b)))
    | .invokevirtual _ => zqb (Nat.beq len 3 && (Nat.ble b st.length && Nat.ble (zsum (st.drop b)) 8)) (zq1r (st.take b).reverse fun t _ _ => zqb (Nat.beq t e) (kC a (st.take b).reverse (pc + 3) ls (st.drop b)))
    | .invokestatic _ => zqb (Nat.beq len 3 && (Nat.ble b st.length && Nat.ble (zsum (st.drop b)) 8)) (kC a (st.take b).reverse (pc + 3) ls (st.drop b))
    | .idiv => zqb (Nat.beq len 1) (zq2i st fun x y r => zdv y (kN (pc + 1) ls (zI (zw (x.tdiv y)) :: r) m))
    | .irem => zqb (Nat.beq len 1) (zq2i st fun x y r => zdv y (kN (pc + 1) ls (zI (x.tmod y) :: r) m))
    | .ldiv => zqb (Nat.beq len 1) (zq2l st fun x y r => zdv y (kN (pc + 1) ls (zL (zwl (x.tdiv y)) :: r) m))
    | .lrem => zqb (Nat.beq len 1) (zq2l st fun x y r => zdv y (kN (pc + 1) ls (zL (x.tmod y) :: r) m))
    | .ifCond cd off => zqb (Nat.beq len 3 && decide ((pc : Int) + off = (a : Int))) (zq1i st fun x r => zcj cd x 0 (kN a ls r m) (kN (pc + 3) ls r m))
    | .if_icmp cd off => zqb (Nat.beq len 3 && decide ((pc : Int) + off = (a : Int))) (zq2i st fun x y r => zcj cd x y (kN a ls r m) (kN (pc + 3) ls r m))
    | .if_acmp cd off => zqb (Nat.beq len 3 && decide ((pc : Int) + off = (a : Int))) (zqac st fun t x u y r => zqb (Nat.ble t 89 && Nat.ble u 89) (zcja cd x y (kN a ls r m) (kN (pc + 3) ls r m)))
    | .tableswitch df lo hi offs => zqb (decide ((offs.toList.length : Int) = hi - lo + 1)) (zq1i st fun x r => zswk x pc df (fun t => kN t ls r m) lo offs.toList)
    | .lookupswitch df ps => zqb ((ps.toList.zip (ps.toList.drop 1)).all (fun (a, next) => a.1 < next.1)) (zq1i st fun x r => zlkk x pc df (fun t => kN t ls r m) ps.toList)
    | _ => match zpure ins len a d pc ls st with | some n => kN n.1 n.2.1 n.2.2 m | none => False
