def zow : List Nat := [0, 0, 0, 0, 0, 0, 0, 0, 0, 0, 0, 0, 0, 0, 0, 0, 1, 1, 2, 2, 2, 2, 2, 2, 2, 2, 3, 3, 3, 3, 3, 3, 3, 3, 3, 3, 3, 3, 3, 3, 3, 3, 3, 3, 4, 4, 4, 7, 4, 4, 4, 5, 5, 5, 5, 5, 5, 5, 5, 5, 5, 5, 5, 5, 5, 5, 5, 5, 6, 6, 6, 6, 6, 6, 6, 6, 6, 6, 6, 7, 7, 7, 7, 8, 8, 8, 8, 8, 8, 8, 8, 8, 8, 8, 8, 9, 9, 9, 9, 9, 9, 9, 9, 9, 9, 9, 9, 9, 9, 9, 9, 9, 9, 9, 9, 9, 9, 9, 9, 9, 9, 9, 9, 10, 10, 10, 10, 10, 10, 10, 10, 10, 10, 10, 10, 10, 10, 10, 10, 10, 10, 10, 10, 10, 10, 10, 10, 10, 10, 10, 10, 10, 10, 10, 10, 10, 10, 10, 10, 10, 10, 10, 10, 10, 10, 10, 10, 10, 10, 10, 10, 10, 10, 10, 10, 10, 10, 10, 10, 10, 10, 10, 10, 10, 10, 10, 10, 10, 10, 10, 10, 10, 10, 10, 10, 10, 10, 10, 10, 10, 10, 10, 3, 3, 4, 7, 11, 11, 11, 11, 11, 12]
def znest : List (String × Nat × MethodName) := [(RX9, 40, yX0_init), (RX3, 96, yX9_within)]
def zfr (M : Nat) : Nat := (zrm.getD M (99, 999)).1
def zlo (M : Nat) : Nat := (zrm.getD M (99, 999)).2
def znpar (N : Nat) : Option Nat := (parseMethodDescriptor (zmi N).1.desc).map fun d => d.parameters.length
/-- room for a call -/
def zrmok (M N : Nat) : Bool := Nat.ble (zfr N + 1) (zfr M) && Nat.ble (8 + ((zmi N).2.2.1 + 11) + zlo N) (zlo M)
def zatk (t : ArrayType) : Nat := match t with | .int => 1 | .long => 2 | .byte => 3 | .boolean => 4 | _ => 9
/-- what an instruction's row of the table must keep to -/
def zvl (M : Nat) (q : zE) : Bool := match q with
  | (_, ins, _, (a, b, c, e), d) => match ins with
    | .getfield i => decide (a < 11) && (Nat.ble (b + 1) (zKd a).2.1 && (decide (zsk a b = (c, e)) && (zflt.getD (zow.getD M 99) []).any fun z => Nat.beq z.1 i && (Nat.beq z.2.1 a && Nat.beq z.2.2.1 b)))
    | .putfield i => decide (a < 11) && (Nat.ble (b + 1) (zKd a).2.1 && (decide (zsk a b = (c, e)) && (((zflt.getD (zow.getD M 99) []).any fun z => Nat.beq z.1 i && (Nat.beq z.2.1 a && Nat.beq z.2.2.1 b)) && (decide (((zcs a).2.1 b).2.2.2 = false) || (decide (((zcs a).2.1 b).2.2.2 = true) && (decide ((zmi M).1.name = "<init>") && decide (((zcs a).2.1 b).1 = (zmi M).1.cls)))))))
    | .new i => decide (a < 11) && (decide (Cond.classLink (zmi M).1.cls i (zcs a).1 ∈ lw_tbl) && (decide (Cond.instantiable (zcs a).1 (zcs a).2.2 ∈ lw_tbl) && decide (Cond.initialized (zcs a).1 ∈ lw_tbl)))
    | .newarray t => Nat.beq (zatk t) a && Nat.ble a 4
    | .anewarray i => decide (a = 7 ∨ a = 1 ∨ a = 2) && decide (Cond.classLink (zmi M).1.cls i (zcs a).1 ∈ lw_tbl)
    | .ldc i => match a with | 0 => decide (-2147483648 ≤ d ∧ d < 2147483648) && decide (Cond.constant (zmi M).1.cls i (Int32.ofInt d) ∈ lw_tbl) | _ => Nat.beq i 63 && decide ((zmi M).1.cls = RX8)
    | .ldc_w i => Nat.beq a 0 && (decide (-2147483648 ≤ d ∧ d < 2147483648) && decide (Cond.constant (zmi M).1.cls i (Int32.ofInt d) ∈ lw_tbl))
    | .ldc2_w i => decide (-9223372036854775808 ≤ d ∧ d < 9223372036854775808) && decide (Cond.constantLong (zmi M).1.cls i (Int64.ofInt d) ∈ lw_tbl)
    | .ireturn => (Nat.beq c 3 && decide ((zmi M).2.2.2 = some .boolean)) || (Nat.beq c 0 && decide ((zmi M).2.2.2 = some .int))
    | .areturn => decide (c < 11) && decide ((zmi M).2.2.2 = some (.object (zcs c).1))
    | .lreturn => decide ((zmi M).2.2.2 = some .long)
    | .return_ => decide ((zmi M).2.2.2 = none)
    | .invokespecial i => match Nat.beq a 9999 with
      | true => decide (Cond.methodLink (zmi M).1.cls i Lib.objectInit ∈ lw_tbl) && (Nat.ble 1 (zfr M) && Nat.ble 20 (zlo M))
      | false => Nat.ble (a + 1) 211 && (decide (znpar a = some (b - 1)) && (Nat.ble 1 b && (zrmok M a && (decide ((zmi a).1.name = "<init>") && (Nat.beq (zmwt.getD a (9, 0, 0)).1 0 && (match d with | 0 => (zmlt.getD (zow.getD M 99) []).any fun z => Nat.beq z.1 i && Nat.beq z.2.1 a | _ => decide (((zmi M).1.cls, i, (zmi a).1) ∈ znest)))))))
    | .invokevirtual i => match Nat.ble 1000 a with
      | true => (Nat.beq a 1000 || Nat.beq a 1001) && decide ((zmi M).1.cls = RX8)
      | false => Nat.ble (a + 1) 211 && (decide (znpar a = some (b - 1)) && (Nat.ble 1 b && (zrmok M a && (decide (e < 11 ∧ (zcs e).1 = (zmi a).1.cls) && (Nat.beq (zmwt.getD a (9, 0, 0)).1 0 && (decide ((zmwt.getD a (9, 0, 0)).2.2 ≠ 9999) && ((zmlt.getD (zow.getD M 99) []).any fun z => Nat.beq z.1 i && Nat.beq z.2.1 a)))))))
    | .invokestatic i => match Nat.ble 1000 a with
      | true => Nat.beq a 1002 && Nat.beq M 211
      | false => Nat.ble (a + 1) 211 && (decide (znpar a = some b) && (zrmok M a && (Nat.beq (zmwt.getD a (9, 0, 0)).1 1 && (match d with | 0 => (zmlt.getD (zow.getD M 99) []).any fun z => Nat.beq z.1 i && Nat.beq z.2.1 a | _ => decide (((zmi M).1.cls, i, (zmi a).1) ∈ znest)))))
    | _ => true
