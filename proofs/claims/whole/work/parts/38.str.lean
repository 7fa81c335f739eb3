/-! String.length and String.charAt of the words' text, as contracts; names as printed -/
def RJ0 : String := "java/lang/String"
def RJ1 : String := "java/lang/StringLatin1"
def RJ3 : String := "jdk/internal/util/Preconditions"
abbrev cJ0_length : ByteArray := prog_17_method_54_code
def yJ0_length : MethodName := ⟨RJ0, "length", "()I"⟩
abbrev cJ0_charAt : ByteArray := prog_17_method_56_code
def yJ0_charAt : MethodName := ⟨RJ0, "charAt", "(I)C"⟩
abbrev cJ0_coder : ByteArray := prog_17_method_152_code
def yJ0_coder : MethodName := ⟨RJ0, "coder", "()B"⟩
abbrev cJ0_isLatin1 : ByteArray := prog_17_method_154_code
def yJ0_isLatin1 : MethodName := ⟨RJ0, "isLatin1", "()Z"⟩
abbrev cJ0_checkIndex : ByteArray := prog_17_method_155_code
def yJ0_checkIndex : MethodName := ⟨RJ0, "checkIndex", "(II)V"⟩
abbrev cJ1_charAt : ByteArray := prog_18_method_2_code
def yJ1_charAt : MethodName := ⟨RJ1, "charAt", "([BI)C"⟩
abbrev cJ3_checkIndex : ByteArray := prog_22_method_11_code
def yJ3_checkIndex : MethodName := ⟨RJ3, "checkIndex", "(IILjava/util/function/BiFunction;)I"⟩
/-- the words that are used, by their places -/
def jwl : List Cond := [
  .fieldLink RJ0 38 "java/lang/String" "COMPACT_STRINGS" "Z", .fieldLink RJ0 15 "java/lang/String" "coder" "B", .fieldLink RJ0 9 "java/lang/String" "value" "[B", .fieldLink RJ0 1053 "jdk/internal/util/Preconditions" "SIOOBE_FORMATTER" "Ljava/util/function/BiFunction;",
  .methodLink RJ0 335 yJ0_coder, .methodLink RJ0 492 yJ0_isLatin1, .methodLink RJ0 495 yJ1_charAt, .methodLink RJ1 9 yJ0_checkIndex, .methodLink RJ0 1059 yJ3_checkIndex, .methodLink RX8 65 yJ0_length, .methodLink RX8 70 yJ0_charAt,
  .instanceMethod yJ0_coder, .instanceMethod yJ0_isLatin1, .instanceMethod yJ0_length, .instanceMethod yJ0_charAt, .selects RJ0 yJ0_coder yJ0_coder, .selects RJ0 yJ0_isLatin1 yJ0_isLatin1, .selects RJ0 yJ0_length yJ0_length, .selects RJ0 yJ0_charAt yJ0_charAt,
  .static yJ1_charAt, .static yJ0_checkIndex, .static yJ3_checkIndex, .initialized RJ0, .initialized RJ1, .initialized RJ3,
  .code yJ0_coder cJ0_coder 1 (some .byte), .code yJ0_isLatin1 cJ0_isLatin1 1 (some .boolean), .code yJ0_length cJ0_length 1 (some .int), .code yJ0_charAt cJ0_charAt 2 (some .char), .code yJ1_charAt cJ1_charAt 2 (some .char), .code yJ0_checkIndex cJ0_checkIndex 2 none, .code yJ3_checkIndex cJ3_checkIndex 3 (some .int)]
set_option maxRecDepth 100000 in
theorem jwl_in : ∀ w ∈ jwl, w ∈ lw_tbl := by decide +kernel
theorem jwl_g : ∀ w ∈ jwl, goodWord w = true := by decide +kernel
theorem jw {w : Cond} (i : Nat) (h : jwl[i]? = some w) : w ∈ zT := zT_of (jwl_in w (List.mem_of_getElem? h)) (jwl_g w (List.mem_of_getElem? h))
def jRm (f k : Nat) : Room := { frames := f, cells := 0, slots := 0, locals := k }
def jPs (B : zB) (adV : Nat) (vf : Value) (U : State) (H : Heap) : Prop := vk_S 1 [110] [zwby] (fun _ => B.2.2) (fun _ => adV) (zA B) U H ∧ va_Z "java/lang/String" "COMPACT_STRINGS" "Z" (.int 1) (zA B) U H ∧ va_Z "jdk/internal/util/Preconditions" "SIOOBE_FORMATTER" "Ljava/util/function/BiFunction;" vf (zA B) U H ∧ vf.category = 1
theorem jPs.moved {B : zB} {adV : Nat} {vf : Value} {u U : State} {H : Heap} (hvm : u.vm.Alike U.vm) (h : jPs B adV vf u H) : jPs B adV vf U H := ⟨h.1.moved hvm, h.2.1.moved hvm, h.2.2.1.moved hvm, h.2.2.2⟩
def jPc (B : zB) (adV : Nat) (vf : Value) (av : List Value) : Array Value → State → Prop := fun v U => v = av.toArray ∧ jPs B adV vf U U.heap
theorem jPc_blind {B : zB} {adV : Nat} {vf : Value} {av : List Value} : FrameBlind (jPc B adV vf av) := by
  intro a U g mk h
  exact ⟨h.1, h.2.moved (U := U.calling g mk a) (Vm.Alike.refl U.vm)⟩
def jQc (o' : Option Value) : Array Value → State → Outcome → State → Prop := fun _ st o t => o = .returned o' ∧ t.heap = st.heap
def jws (y : MethodName) (cc : ByteArray) (n : Nat) (ret : Option FieldType) : List Cond := .code y cc n ret :: zT
abbrev jN : Addr → Prop := fun _ => False
section JST
variable {p : Program} {l : Launch} {e : Env} {R : Room} {s : State} {m : MethodId} {args : Array Value} {below : List Frame} {meth : Method} {c : Code} {H : Heap} {locs : List Loc} {cells slots : Nat} {Q : State → Prop}
variable {B : zB} {adV : Nat} {vf : Value}
theorem jcall {pc : Nat} {arr : Array Slot} {st0 rest : List Value} {o' : Option Value} {aa : Array Value} (hr : va_Run p l e R s m args below meth c H locs cells slots 0 0 (F0 m pc arr st0) rest (jQc o' aa) jN) (k : W p l e R s m args below meth c H locs cells slots Q (F0 m (pc + 3) arr (o'.toList ++ rest))) : W p l e R s m args below meth c H locs cells slots Q (F0 m pc arr st0) := by
  intro T hT X
  obtain ⟨v, s0, t, T', L, e1, X', hL, e2, e3, ⟨hv, hh⟩, hgo⟩ := hr T hT X
  have hL0 : L = [] := by
    cases L with
    | nil => rfl
    | cons q r => exact (hL q List.mem_cons_self).elim
  subst hL0
  rw [List.append_nil] at X'
  have hv : v = o' := Outcome.returned.inj hv
  subst hv
  obtain ⟨t2, a1, b1⟩ := k T' (by rw [e2, hh, e1]) X'
  exact ⟨t2, hgo t2 a1, b1⟩
theorem jCB {own : String} {index : Nat} {y : MethodName} {bytes : ByteArray} {maxL n f k : Nat} {ret : Option FieldType} (hts : ∀ w ∈ zT, w.before args s = true) (hc : Cond.code y bytes maxL ret ∈ zT) (hi : Cond.initialized y.cls ∈ zT) (hl : Cond.methodLink own index y ∈ zT) (hd : y.cls ≠ "java/lang/invoke/MethodHandle" ∧ y.cls ≠ "java/lang/invoke/VarHandle" ∧ (parseMethodDescriptor y.desc).map (fun d => d.parameters.length) = some n) (hR : f + 1 ≤ R.frames ∧ 8 + (maxL + 11) + k ≤ R.locals) : CallB R s args own index y bytes maxL ret (jws y bytes maxL ret) (jRm f k) 0 0 n := by
  refine ⟨rfl, rfl, hR.1, hR.2, fun w hw a' U hW => ?_, List.mem_cons_self, hts _ hc, hts _ hi, ⟨hd.1, hd.2.1⟩, fun sig h => ?_, hts _ hl⟩
  · have hz : w ∈ zT := by
      rcases List.mem_cons.mp hw with q | q
      · rw [q]; exact hc
      · exact q
    exact word_at hW (zT_good w hz).2 (hts w hz)
  · have h2 := hd.2.2
    rw [h] at h2
    exact (Option.some.inj h2).symm
theorem jhead {y : MethodName} {cc : ByteArray} {n : Nat} {ret : Option FieldType} {rm : Room} {av : List Value} {o' : Option Value} (hy : plainName y.cls = true) (hlen : (lg_sl av).length ≤ n)
    (body : ∀ (p : Program) (e : Env) (s : State) (m : MethodId) (below : List Frame) (meth : Method) (c : Code) (arr : Array Slot), p.tables.exec = Jvm.exec → c.code = cc → c.maxLocals = n → s.vm.findClass y.cls = some m.cls → (∀ w ∈ zT, w.before av.toArray s = true) → meth.sig.returnType = ret → meth.locks = false → jPs B adV vf s s.heap → lv_has arr n (lv_args 0 av) → W p l e rm s m av.toArray below meth c s.heap [] 0 0 (MQ below (jQc o') av.toArray s 0 0 jN) (F0 m 0 arr [])) : Met l y (jws y cc n ret) rm (jPc B adV vf av) (jQc o') 0 0 jN := by
  refine Met.ofW (cc := cc) (maxL := n) (ret := ret) hy rfl ?_
  intro p e s m args below meth c s₁ Bd hml hv
  obtain ⟨rfl, hP⟩ := hv
  have hts : ∀ w ∈ zT, w.before av.toArray s = true := fun w hw => atoms_spec (ws := jws y cc n ret) Bd.pre w (List.mem_cons_of_mem _ hw)
  rw [lg_entry_eq]
  exact body p e s m below meth c _ Bd.exec Bd.bytes hml (findClass_of_methodNamed Bd.named) hts Bd.returns Bd.notSynchronized hP (lv_entry av hlen)
theorem jm_coder : Met l yJ0_coder (jws yJ0_coder cJ0_coder 1 (some .byte)) (jRm 0 0) (jPc B adV vf [.ref B.2.2]) (jQc (some (.int 0))) 0 0 jN := by
  refine jhead (by decide) (by simp [lg_sl, Value.category]) ?_
  intro p e s m below meth c arr hx hb hml hown hts hr hlk hP hl
  refine va_gets (C := "java/lang/String") (n := "COMPACT_STRINGS") (d := "Z") (v := .int 1) hx hb hP.2.1 va_S.rf hown (hts _ (jw 0 rfl)) (fun x h => h) (by decide +kernel) ?_
  refine lv_if_eq (off := 10) (tgt := 13) hx hb (by decide +kernel) (by decide) (fun z => absurd z (by decide)) fun _ => ?_
  refine lv_aload_n (k := 0) hx hb (by decide +kernel) rfl (lv_at hl 0 rfl) ?_
  refine vk_getf hx hb (hP.1.1 0 (by decide)).2.1 va_S.rf hown (hts _ (jw 1 rfl)) (fun x h => h) (by decide +kernel) ?_
  refine lv_goto (off := 4) (tgt := 14) hx hb (by decide +kernel) (by decide) ?_
  exact W.zret (v := 0) (ty := .byte) hx hb hr (by first | rfl | decide) (fun t h _ => ⟨rfl, h⟩) (fun q hq => by cases hq) (by decide +kernel) hlk
theorem jm_isLatin1 : Met l yJ0_isLatin1 (jws yJ0_isLatin1 cJ0_isLatin1 1 (some .boolean)) (jRm 0 0) (jPc B adV vf [.ref B.2.2]) (jQc (some (.int 1))) 0 0 jN := by
  refine jhead (by decide) (by simp [lg_sl, Value.category]) ?_
  intro p e s m below meth c arr hx hb hml hown hts hr hlk hP hl
  refine va_gets (C := "java/lang/String") (n := "COMPACT_STRINGS") (d := "Z") (v := .int 1) hx hb hP.2.1 va_S.rf hown (hts _ (jw 0 rfl)) (fun x h => h) (by decide +kernel) ?_
  refine lv_if_eq (off := 14) (tgt := 17) hx hb (by decide +kernel) (by decide) (fun z => absurd z (by decide)) fun _ => ?_
  refine lv_aload_n (k := 0) hx hb (by decide +kernel) rfl (lv_at hl 0 rfl) ?_
  refine vk_getf hx hb (hP.1.1 0 (by decide)).2.1 va_S.rf hown (hts _ (jw 1 rfl)) (fun x h => h) (by decide +kernel) ?_
  refine lv_if_ne (off := 7) (tgt := 17) hx hb (by decide +kernel) (by decide) (fun z => absurd rfl z) fun _ => ?_
  refine lv_iconst (n := 1) (v := 1) hx hb (by decide +kernel) (by decide) ?_
  refine lv_goto (off := 4) (tgt := 18) hx hb (by decide +kernel) (by decide) ?_
  exact W.zret (v := 1) (ty := .boolean) hx hb hr (by first | rfl | decide) (fun t h _ => ⟨rfl, h⟩) (fun q hq => by cases hq) (by decide +kernel) hlk
theorem jrecv (h : jPs B adV vf s H) : ∃ cellB : Cell, H[B.2.2]? = some cellB ∧ cellB.vm.isStatics = false ∧ s.vm.findClass RJ0 = some cellB.cls := by
  obtain ⟨cell, h1, h2, h3, -⟩ := (h.1.1 0 (by decide)).1
  exact ⟨cell, h1, h2, h3⟩
theorem jpre {av : List Value} (h : jPs B adV vf s H) : ∀ U : State, U.heap = H → s.WarmedH U.vm → jPc B adV vf av av.toArray U := by
  intro U hU hw
  refine ⟨rfl, ?_⟩
  rw [hU]
  exact h.moved hw.alike
theorem jm_length : Met l yJ0_length (jws yJ0_length cJ0_length 1 (some .int)) (jRm 1 20) (jPc B adV vf [.ref B.2.2]) (jQc (some (.int (Int32.ofInt 110)))) 0 0 jN := by
  refine jhead (by decide) (by simp [lg_sl, Value.category]) ?_
  intro p e s m below meth c arr hx hb hml hown hts hr hlk hP hl
  refine lv_aload_n (k := 0) hx hb (by decide +kernel) rfl (lv_at hl 0 rfl) ?_
  refine vk_getf hx hb (hP.1.1 0 (by decide)).2.2.1 va_S.rf hown (hts _ (jw 2 rfl)) (fun x h => h) (by decide +kernel) ?_
  refine va_tlen (v := 110) hx hb (hP.1.1 0 (by decide)).2.2.2 va_S.rf (by decide) (by decide +kernel) ?_
  refine lv_aload_n (k := 0) hx hb (by decide +kernel) rfl (lv_at hl 0 rfl) ?_
  refine jcall (va_runV (b := B.2.2) (As := []) (rest := [.int 110]) (C := RJ0) ⟨hx, hb, hml.trans hl.1.symm, hown, hts⟩ (jm_coder (adV := adV) (vf := vf)) ⟨jCB (n := 0) hts (jw 25 rfl) (jw 22 rfl) (jw 4 rfl) (by decide) ⟨by decide, by decide⟩, hts _ (jw 11 rfl), hts _ (jw 15 rfl)⟩ ⟨jPc_blind, jrecv hP, jpre hP⟩ rfl rfl rfl rfl (lv_room (by decide)) (show decode cJ0_length 6 = .ok (.invokevirtual 335, 3) by decide +kernel) ⟨by decide, by decide⟩) ?_
  refine lv_ishr hx hb (by decide +kernel) ?_
  exact W.iret hx hb hr (fun t h _ => ⟨by rw [show (110 : Int32) >>> ((0 : Int32) &&& (31 : Int32)) = Int32.ofInt 110 by decide +kernel], h⟩) (fun q hq => by cases hq) (by decide +kernel) hlk
theorem jm_check3 {i n : Int32} (h0 : ¬ i < 0) (h1 : i < n) : Met l yJ3_checkIndex (jws yJ3_checkIndex cJ3_checkIndex 3 (some .int)) (jRm 0 0) (jPc B adV vf [.int i, .int n, vf]) (jQc (some (.int i))) 0 0 jN := by
  by_cases hc : vf.category = 1
  · have e1 : ∀ i : Int32, (Value.int i).category = 1 := fun _ => rfl
    refine jhead (by decide) (by simp [lg_sl, hc, e1]) ?_
    intro p e s m below meth c arr hx hb hml hown hts hr hlk hP hl
    refine lv_iload_n (k := 0) hx hb (by decide +kernel) rfl (lv_at hl 0 rfl) ?_
    refine lv_if_lt (off := 8) (tgt := 9) hx hb (by decide +kernel) (by decide) (fun z => absurd z h0) fun _ => ?_
    refine lv_iload_n (k := 0) hx hb (by decide +kernel) rfl (lv_at hl 0 rfl) ?_
    refine lv_iload_n (k := 1) hx hb (by decide +kernel) rfl (lv_at hl 1 rfl) ?_
    refine lv_icmp_lt (off := 10) (tgt := 16) hx hb (by decide +kernel) (by decide) (fun _ => ?_) fun z => absurd h1 z
    refine lv_iload_n (k := 0) hx hb (by decide +kernel) rfl (lv_at hl 0 rfl) ?_
    exact W.iret hx hb hr (fun t h _ => ⟨rfl, h⟩) (fun q hq => by cases hq) (by decide +kernel) hlk
  · refine Met.ofW (cc := cJ3_checkIndex) (maxL := 3) (ret := some .int) (by decide) rfl ?_
    intro p e s m args below meth c s₁ Bd hml hv
    exact absurd hv.2.2.2.2 hc
theorem jm_check {i n : Int32} (h0 : ¬ i < 0) (h1 : i < n) : Met l yJ0_checkIndex (jws yJ0_checkIndex cJ0_checkIndex 2 none) (jRm 1 22) (jPc B adV vf [.int i, .int n]) (jQc none) 0 0 jN := by
  refine jhead (by decide) (by simp [lg_sl, Value.category]) ?_
  intro p e s m below meth c arr hx hb hml hown hts hr hlk hP hl
  refine lv_iload_n (k := 0) hx hb (by decide +kernel) rfl (lv_at hl 0 rfl) ?_
  refine lv_iload_n (k := 1) hx hb (by decide +kernel) rfl (lv_at hl 1 rfl) ?_
  refine va_gets (C := "jdk/internal/util/Preconditions") (n := "SIOOBE_FORMATTER") (d := "Ljava/util/function/BiFunction;") (v := vf) hx hb hP.2.2.1 va_S.rf hown (hts _ (jw 3 rfl)) (fun x h => h) (by decide +kernel) ?_
  refine jcall (va_runS (As := [.int i, .int n, vf]) (rest := []) ⟨hx, hb, hml.trans hl.1.symm, hown, hts⟩ (jm_check3 (B := B) (adV := adV) (vf := vf) h0 h1) ⟨jCB (n := 3) hts (jw 31 rfl) (jw 24 rfl) (jw 8 rfl) (by decide) ⟨by decide, by decide⟩, hts _ (jw 21 rfl)⟩ ⟨jPc_blind, jpre hP⟩ rfl rfl rfl rfl (lv_room (by decide)) (show decode cJ0_checkIndex 5 = .ok (.invokestatic 1059, 3) by decide +kernel) ⟨by decide, by decide⟩) ?_
  refine lv_pop (va := .int i) hx hb (by decide +kernel) rfl ?_
  exact W.vret hx hb hr (fun t h _ => ⟨rfl, h⟩) (fun q hq => by cases hq) (by decide +kernel) hlk
theorem jb : ∀ j, j < 110 → ((zwby.getD j 0 &&& 255).toUInt32 % 65536).toInt32 = zwby.getD j 0 ∧ (zwby.getD j 0).toUInt32.toUInt16.toUInt32.toInt32 = zwby.getD j 0 := by decide +kernel
theorem jlt {k : Int} (h0 : 0 ≤ k) (h1 : k < 110) : ¬ (Int32.ofInt k) < 0 ∧ (Int32.ofInt k) < 110 := by
  have e : (Int32.ofInt k).toInt = k := zi_toInt (by unfold zri; omega)
  rw [Int32.lt_iff_toInt_lt, Int32.lt_iff_toInt_lt, e]
  exact ⟨by show ¬ k < 0; omega, by show k < 110; omega⟩
theorem jm_charAt1 {k : Int} (h0 : 0 ≤ k) (h1 : k < 110) : Met l yJ1_charAt (jws yJ1_charAt cJ1_charAt 2 (some .char)) (jRm 2 43) (jPc B adV vf [.ref adV, .int (Int32.ofInt k)]) (jQc (some (.int (zwby.getD k.toNat 0)))) 0 0 jN := by
  refine jhead (by decide) (by simp [lg_sl, Value.category]) ?_
  intro p e s m below meth c arr hx hb hml hown hts hr hlk hP hl
  have hb2 := jb k.toNat (by omega)
  refine lv_iload_n (k := 1) hx hb (by decide +kernel) rfl (lv_at hl 1 rfl) ?_
  refine lv_aload_n (k := 0) hx hb (by decide +kernel) rfl (lv_at hl 0 rfl) ?_
  refine va_tlen (v := 110) hx hb (hP.1.1 0 (by decide)).2.2.2 va_S.rf (by decide) (by decide +kernel) ?_
  refine jcall (va_runS (As := [.int (Int32.ofInt k), .int 110]) (rest := []) ⟨hx, hb, hml.trans hl.1.symm, hown, hts⟩ (jm_check (B := B) (adV := adV) (vf := vf) (jlt h0 h1).1 (jlt h0 h1).2) ⟨jCB (n := 2) hts (jw 30 rfl) (jw 22 rfl) (jw 7 rfl) (by decide) ⟨by decide, by decide⟩, hts _ (jw 20 rfl)⟩ ⟨jPc_blind, jpre hP⟩ rfl rfl rfl rfl (lv_room (by decide)) (show decode cJ1_charAt 3 = .ok (.invokestatic 9, 3) by decide +kernel) ⟨by decide, by decide⟩) ?_
  refine lv_aload_n (k := 0) hx hb (by decide +kernel) rfl (lv_at hl 0 rfl) ?_
  refine lv_iload_n (k := 1) hx hb (by decide +kernel) rfl (lv_at hl 1 rfl) ?_
  refine va_tb (v := .int (zwby.getD k.toNat 0)) hx hb (hP.1.1 0 (by decide)).2.2.2 va_S.rf (zvp_in h0 (by show k < 110; omega) (by decide)) (by rw [zcl h0 (by omega)]; rfl) (by decide +kernel) ?_
  refine lv_sipush (n := 255) (v := 255) hx hb (by decide +kernel) (by decide) ?_
  refine lv_iand hx hb (by decide +kernel) ?_
  refine lv_i2c hx hb (by decide +kernel) hb2.1 ?_
  exact W.zret (ty := .char) hx hb hr (congrArg Value.int hb2.2) (fun t h _ => ⟨rfl, h⟩) (fun q hq => by cases hq) (by decide +kernel) hlk
theorem jm_charAt {k : Int} (h0 : 0 ≤ k) (h1 : k < 110) : Met l yJ0_charAt (jws yJ0_charAt cJ0_charAt 2 (some .char)) (jRm 3 64) (jPc B adV vf [.ref B.2.2, .int (Int32.ofInt k)]) (jQc (some (.int (zwby.getD k.toNat 0)))) 0 0 jN := by
  refine jhead (by decide) (by simp [lg_sl, Value.category]) ?_
  intro p e s m below meth c arr hx hb hml hown hts hr hlk hP hl
  have hb2 := jb k.toNat (by omega)
  refine lv_aload_n (k := 0) hx hb (by decide +kernel) rfl (lv_at hl 0 rfl) ?_
  refine jcall (va_runV (b := B.2.2) (As := []) (rest := []) (C := RJ0) ⟨hx, hb, hml.trans hl.1.symm, hown, hts⟩ (jm_isLatin1 (adV := adV) (vf := vf)) ⟨jCB (n := 0) hts (jw 26 rfl) (jw 22 rfl) (jw 5 rfl) (by decide) ⟨by decide, by decide⟩, hts _ (jw 12 rfl), hts _ (jw 16 rfl)⟩ ⟨jPc_blind, jrecv hP, jpre hP⟩ rfl rfl rfl rfl (lv_room (by decide)) (show decode cJ0_charAt 1 = .ok (.invokevirtual 492, 3) by decide +kernel) ⟨by decide, by decide⟩) ?_
  refine lv_if_eq (off := 12) (tgt := 16) hx hb (by decide +kernel) (by decide) (fun z => absurd z (by decide)) fun _ => ?_
  refine lv_aload_n (k := 0) hx hb (by decide +kernel) rfl (lv_at hl 0 rfl) ?_
  refine vk_getf hx hb (hP.1.1 0 (by decide)).2.2.1 va_S.rf hown (hts _ (jw 2 rfl)) (fun x h => h) (by decide +kernel) ?_
  refine lv_iload_n (k := 1) hx hb (by decide +kernel) rfl (lv_at hl 1 rfl) ?_
  refine jcall (va_runS (As := [.ref adV, .int (Int32.ofInt k)]) (rest := []) ⟨hx, hb, hml.trans hl.1.symm, hown, hts⟩ (jm_charAt1 (B := B) (adV := adV) (vf := vf) h0 h1) ⟨jCB (n := 2) hts (jw 29 rfl) (jw 23 rfl) (jw 6 rfl) (by decide) ⟨by decide, by decide⟩, hts _ (jw 19 rfl)⟩ ⟨jPc_blind, jpre hP⟩ rfl rfl rfl rfl (lv_room (by decide)) (show decode cJ0_charAt 12 = .ok (.invokestatic 495, 3) by decide +kernel) ⟨by decide, by decide⟩) ?_
  exact W.zret (ty := .char) hx hb hr (congrArg Value.int hb2.2) (fun t h _ => ⟨rfl, h⟩) (fun q hq => by cases hq) (by decide +kernel) hlk
end JST
theorem j91 : (zmi 91).1.cls = RX8 ∧ zfr 91 = 5 ∧ zlo 91 = 151 := by decide +kernel
theorem jd15 : decode (zmi 91).2.1 15 = .ok (.invokevirtual 65, 3) := by decide +kernel
theorem jd25 : decode (zmi 91).2.1 25 = .ok (.invokevirtual 70, 3) := by decide +kernel
theorem zG_len {Ω : zΩ} {ls st : List zV} {m : zM} {Q : List zV → zM → Prop} (h8 : zsum st ≤ 8) (h : zG Ω 91 18 ls (zI 110 :: st) m Q) : zG Ω 91 15 ls (zR 91 0 :: st) m Q := by
  intro p e s mi args below meth c H locs arr K0 X hW hS hlv hls hst hK0 hsz
  obtain ⟨hx, hb, hml, hown, hts, hr, hlocks, hin, hB, hU⟩ := id X
  obtain ⟨w1, w2, w3, ⟨x1, ⟨adV, x2⟩, x3, vf, x4, x5⟩, w5⟩ := id hW
  have hP : jPs Ω.2.1 adV vf s H := ⟨x2, x3, x4, x5⟩
  rw [j91.1] at hown
  have z2 := zss_mono hK0
  refine jcall (va_runV (b := Ω.2.1.2.2) (As := []) (rest := st.map (zv Ω.2.1)) (C := RJ0) ⟨hx, hb, hml.trans hlv.2.1.symm, hown, hts⟩ (jm_length (adV := adV) (vf := vf)) ⟨jCB (n := 0) hts (jw 27 rfl) (jw 22 rfl) (jw 9 rfl) (by decide) ⟨by show 1 + 1 ≤ zfr 91; rw [j91.2.1]; decide, by show _ ≤ zlo 91; rw [j91.2.2]; decide⟩, hts _ (jw 13 rfl), hts _ (jw 17 rfl)⟩ ⟨jPc_blind, jrecv hP, jpre hP⟩ rfl rfl rfl rfl (lv_room (by rw [zsum_cat]; exact h8)) jd15 ⟨by show 147 - K0 + 0 ≤ 147 - K0; omega, by show zss 147 - zss K0 + 0 ≤ zss 147 - zss K0; omega⟩) ?_
  exact h p e s mi args below meth c H locs arr K0 X hW hS hlv hls (zoks_cons (by show zri 110; unfold zri; omega) (zoks_tail hst)) hK0 hsz
theorem zG_charAt {Ω : zΩ} {ls st : List zV} {k : Int} {m : zM} {Q : List zV → zM → Prop} (h8 : zsum st ≤ 8) (k0 : 0 ≤ k) (k1 : k < 110) (h : zG Ω 91 28 ls (zI (zwby.getD k.toNat 0).toInt :: st) m Q) : zG Ω 91 25 ls (zI k :: zR 91 0 :: st) m Q := by
  intro p e s mi args below meth c H locs arr K0 X hW hS hlv hls hst hK0 hsz
  obtain ⟨hx, hb, hml, hown, hts, hr, hlocks, hin, hB, hU⟩ := id X
  obtain ⟨w1, w2, w3, ⟨x1, ⟨adV, x2⟩, x3, vf, x4, x5⟩, w5⟩ := id hW
  have hP : jPs Ω.2.1 adV vf s H := ⟨x2, x3, x4, x5⟩
  rw [j91.1] at hown
  have z2 := zss_mono hK0
  refine jcall (va_runV (b := Ω.2.1.2.2) (As := [.int (Int32.ofInt k)]) (rest := st.map (zv Ω.2.1)) (C := RJ0) ⟨hx, hb, hml.trans hlv.2.1.symm, hown, hts⟩ (jm_charAt (adV := adV) (vf := vf) k0 k1) ⟨jCB (n := 1) hts (jw 28 rfl) (jw 22 rfl) (jw 10 rfl) (by decide) ⟨by show 3 + 1 ≤ zfr 91; rw [j91.2.1]; decide, by show _ ≤ zlo 91; rw [j91.2.2]; decide⟩, hts _ (jw 14 rfl), hts _ (jw 18 rfl)⟩ ⟨jPc_blind, jrecv hP, jpre hP⟩ rfl rfl rfl rfl (lv_room (by rw [zsum_cat]; exact h8)) jd25 ⟨by show 147 - K0 + 0 ≤ 147 - K0; omega, by show zss 147 - zss K0 + 0 ≤ zss 147 - zss K0; omega⟩) ?_
  have hw := h p e s mi args below meth c H locs arr K0 X hW hS hlv hls (zoks_cons (zi_ri _) (zoks_tail (zoks_tail hst))) hK0 hsz
  rw [List.map_cons, show zv Ω.2.1 (zI (zwby.getD k.toNat 0).toInt) = .int (zwby.getD k.toNat 0) from congrArg Value.int (zi_of _)] at hw
  exact hw
