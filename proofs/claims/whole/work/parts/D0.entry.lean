/-! what holds at the law's entry, in the words of the cells -/
theorem en_arr {args : Array Value} {s : State} {ty : FieldType} (h : (Cond.arrayClass ty).before args s = true) : ∃ cA : ClassId, ArrOfT s cA ty ∧ s.vm.findClass ("[" ++ ty.toString) = some cA := by
  obtain ⟨c, k, comp, h1, h2, h3⟩ := Cond.arrayClass_spec h
  exact ⟨c, fun n z => ⟨(fun k h => by cases h), k, h2, comp, h3⟩, h1⟩
theorem en_ref {s : State} {C : String} (h : va_AO C s) : ∃ cA : ClassId, ArrOfT s cA (.object C) ∧ va_RA s cA (.object C) := by
  obtain ⟨comp, c, k, h1, h2, h3, h4, h5⟩ := Cond.arrayOver_spec h
  exact ⟨c, fun n z => ⟨(fun k h => by cases h), k, h3, comp, h4⟩, k, comp, h3, h4, h1, h5⟩
set_option maxRecDepth 100000 in
theorem en_cls : ∀ a, a < 11 → Cond.instantiable (zcs a).1 (zcs a).2.2 ∈ lw_tbl := by decide +kernel
def en_tw : List Cond := [.laysStatic "java/lang/String" "COMPACT_STRINGS" "Z", .initialized "java/lang/String", .laysStatic "jdk/internal/util/Preconditions" "SIOOBE_FORMATTER" "Ljava/util/function/BiFunction;", .initialized "jdk/internal/util/Preconditions", .laysStatic "java/lang/Throwable" "UNASSIGNED_STACK" "[Ljava/lang/StackTraceElement;", .laysStatic "java/lang/Throwable" "SUPPRESSED_SENTINEL" "Ljava/util/List;", .initialized "java/lang/Throwable",
  .stringRef RX8 63 zwtx, .stringRef RX9 304 "no such station", .stringRef RX9 314 "no such what", .castable eI eI, .castable eN eN, .arrayClass .int, .arrayClass .long, .arrayClass .byte, .arrayClass .boolean, .arrayOver (.object RX7), .arrayOver (.object RX1), .arrayOver (.object RX2)]
set_option maxRecDepth 100000 in
theorem en_tw_in : ∀ w ∈ en_tw, w ∈ lw_tbl := by decide +kernel
set_option maxRecDepth 100000 in
theorem en_dn_in : ∀ y ∈ dnl, Cond.declares y ∈ lw_tbl := by decide +kernel
set_option maxRecDepth 100000 in
theorem en_ne_in : ∀ q ∈ znest, Cond.methodLinkNest q.1 q.2.1 q.2.2 "LordsRoad" ∈ lw_tbl := by decide +kernel
theorem en_t {args : Array Value} {s : State} (hts : ∀ w ∈ lw_tbl, w.before args s = true) {w : Cond} (i : Nat) (h : en_tw[i]? = some w) : w.before args s = true := hts w (en_tw_in w (List.mem_of_getElem? h))
def en_nw : List Cond := [.exactly (.string RX8 63) "java/lang/String", .eq (.field (.string RX8 63) "java/lang/String" "coder" "B") (.int 0), .arrayOf (.field (.string RX8 63) "java/lang/String" "value" "[B") .byte, .eq (.length (.field (.string RX8 63) "java/lang/String" "value" "[B")) (.int (Int32.ofNat 110)), .eq (.static "java/lang/String" "COMPACT_STRINGS" "Z") (.int 1),
  .isRef (.static "jdk/internal/util/Preconditions" "SIOOBE_FORMATTER" "Ljava/util/function/BiFunction;"), .isRef (.static "java/lang/Throwable" "UNASSIGNED_STACK" "[Ljava/lang/StackTraceElement;"), .isRef (.static "java/lang/Throwable" "SUPPRESSED_SENTINEL" "Ljava/util/List;"), .exactly (.string RX9 304) "java/lang/String", .exactly (.string RX9 314) "java/lang/String", .not (.castable eN eI)]
set_option maxRecDepth 100000 in
theorem en_nw_in : ∀ w ∈ en_nw, w ∈ flatC (Jvm.Cond.and given_1 narrow_1) := by decide +kernel
set_option maxRecDepth 100000 in
theorem en_by_in : ∀ j, j < 110 → Cond.eq (.elem (.field (.string RX8 63) "java/lang/String" "value" "[B") (.int (Int32.ofNat j))) (.int (zwby.getD j 0)) ∈ flatC (Jvm.Cond.and given_1 narrow_1) := by decide +kernel
theorem en_n {args : Array Value} {s : State} (hgv : (Jvm.Cond.and given_1 narrow_1).before args s = true) {w : Cond} (i : Nat) (h : en_nw[i]? = some w) : w.before args s = true := flat_of_before _ hgv w (en_nw_in w (List.mem_of_getElem? h))
/-- the classes -/
theorem en_K {args : Array Value} {s : State} (hts : ∀ w ∈ lw_tbl, w.before args s = true) : ∃ (cA : Nat → ClassId) (D : va_G), va_K D vwCl (ztys cA) s := by
  obtain ⟨c0, i0, k0⟩ := u_known (ws := lw_tbl) hts (fun w hw => (List.mem_filter.mp (zin_all 0 (by decide) w hw)).1) (hts _ (en_cls 0 (by decide)))
  have hk : ∀ a : Nat, ∃ q : ClassId × (Nat → Nat), a < 11 → u_Kn s (zcs a).1 (zcs a).2.1 (zcs a).2.2 q.1 q.2 := by
    intro a
    by_cases h : a < 11
    · obtain ⟨c, i, k⟩ := u_known (ws := lw_tbl) hts (fun w hw => (List.mem_filter.mp (zin_all a h w hw)).1) (hts _ (en_cls a h))
      exact ⟨(c, i), fun _ => k⟩
    · exact ⟨(c0, i0), fun z => absurd z h⟩
  obtain ⟨q, hq⟩ := Classical.axiomOfChoice hk
  obtain ⟨a1, p1, r1⟩ := en_arr (en_t hts 12 rfl)
  obtain ⟨a2, p2, r2⟩ := en_arr (en_t hts 13 rfl)
  obtain ⟨a3, p3, r3⟩ := en_arr (en_t hts 14 rfl)
  obtain ⟨a4, p4, r4⟩ := en_arr (en_t hts 15 rfl)
  obtain ⟨a5, p5, r5⟩ := en_ref (va_AO.of (en_t hts 16 rfl))
  obtain ⟨a6, p6, r6⟩ := en_ref (va_AO.of (en_t hts 17 rfl))
  obtain ⟨a7, p7, r7⟩ := en_ref (va_AO.of (en_t hts 18 rfl))
  refine ⟨fun k => if k = 1 then a1 else if k = 2 then a2 else if k = 3 then a3 else if k = 4 then a4 else if k = 17 then a5 else if k = 11 then a6 else a7, (fun a => (q a).1, fun a => (q a).2), fun c r hr => ?_, fun k r hr => ?_⟩
  · have hc : c < 11 := (List.getElem?_eq_some_iff.mp hr).1
    have h := hq c hc
    have e : zcs c = r := by
      unfold zcs
      rw [List.getD_eq_getElem?_getD, hr]
      rfl
    rw [e] at h
    exact h
  · match k, hr with
    | 0, hr =>
      have hr : some (a1, FieldType.int) = some r := hr
      cases hr; exact ⟨p1, r1⟩
    | 1, hr =>
      have hr : some (a2, FieldType.long) = some r := hr
      cases hr; exact ⟨p2, r2⟩
    | 2, hr =>
      have hr : some (a3, FieldType.byte) = some r := hr
      cases hr; exact ⟨p3, r3⟩
    | 3, hr =>
      have hr : some (a4, FieldType.boolean) = some r := hr
      cases hr; exact ⟨p4, r4⟩
    | 4, hr =>
      have hr : some (a5, FieldType.object RX7) = some r := hr
      cases hr; exact ⟨p5, r5⟩
    | 5, hr =>
      have hr : some (a6, FieldType.object RX1) = some r := hr
      cases hr; exact ⟨p6, r6⟩
    | 6, hr =>
      have hr : some (a7, FieldType.object RX2) = some r := hr
      cases hr; exact ⟨p7, r7⟩
    | k + 7, hr =>
      have hr : (none : Option (ClassId × FieldType)) = some r := hr
      cases hr
theorem en_str {args : Array Value} {s : State} {own tx : String} {k : Nat} (h1 : (Cond.stringRef own k tx).before args s = true) (h2 : (Cond.exactly (.string own k) "java/lang/String").before args s = true) : ∃ a, vk_R own k tx a s := by
  obtain ⟨a, c, cA, kA, q1, -⟩ := Cond.exactly_spec (args := args) (first := s) (o := none) (s := s) (idx := []) (t := .string own k) (cls := "java/lang/String") h2
  exact ⟨a, vk_R.of h1 q1⟩
/-- the text of the words -/
theorem en_txt {args : Array Value} {s : State} {A : Nat → Prop} (hts : ∀ w ∈ lw_tbl, w.before args s = true) (hgv : (Jvm.Cond.and given_1 narrow_1).before args s = true) (hA : ∀ a : Nat, a < s.heap.size → ¬ A a) : ∃ bs adV : Nat, vk_S 1 [110] [zwby] (fun _ => bs) (fun _ => adV) A s s.heap ∧ vk_R RX8 63 zwtx bs s := by
  obtain ⟨adK, adV, h1, h2⟩ := vk_Sof (args := args) (s := s) (N := 1) (tm := fun _ => .string RX8 63) (len := [110]) (byt := [zwby]) (A := A)
    (fun i hi => by
      have e : i = 0 := by omega
      subst e; decide)
    (fun i hi => en_n hgv 0 rfl) (fun i hi => en_n hgv 1 rfl) (fun i hi => en_n hgv 2 rfl)
    (fun i hi => by
      have e : i = 0 := by omega
      subst e; exact en_n hgv 3 rfl)
    (fun i hi j hj => by
      have e : i = 0 := by omega
      subst e; exact flat_of_before _ hgv _ (en_by_in j hj))
    (fun i j hi hj hn => absurd (show i = j by omega) hn) hA
  refine ⟨adK 0, adV 0, ⟨fun i hi => ?_, fun i j hi hj _ => by omega⟩, vk_R.of (en_t hts 7 rfl) (h2 0 (by decide))⟩
  have e : i = 0 := by omega
  subst e
  exact h1.1 0 (by decide)
theorem en_X {args : Array Value} {s : State} {b bs adV L : Nat} {xs : Nat → Int32} (hts : ∀ w ∈ lw_tbl, w.before args s = true) (hgv : (Jvm.Cond.and given_1 narrow_1).before args s = true) (hX : va_X b L xs s s.heap) (h1 : vk_S 1 [110] [zwby] (fun _ => bs) (fun _ => adV) (zA (s.heap.size, b, bs)) s s.heap) : zXs (s.heap.size, b, bs) L xs s s.heap := by
  have hA : ∀ a : Nat, a < s.heap.size → ¬ zA (s.heap.size, b, bs) a := fun a h z => Nat.not_le.mpr h z
  refine ⟨hX, ⟨adV, h1⟩, va_Zof (en_t hts 0 rfl) (en_t hts 1 rfl) (va_eqt (en_n hgv 4 rfl)) hA, ?_⟩
  rcases va_Zqof (en_t hts 2 rfl) (en_t hts 3 rfl) (en_n hgv 5 rfl) hA with z | ⟨t, z⟩
  · exact ⟨_, z, rfl⟩
  · exact ⟨_, z, rfl⟩
theorem en_U {args : Array Value} {s : State} {B : zB} {cA : Nat → ClassId} {D : va_G} (hts : ∀ w ∈ lw_tbl, w.before args s = true) (hK : va_K D vwCl (ztys cA) s) (hR : vk_R RX8 63 zwtx B.2.2 s) : zUd B cA D s := by
  refine ⟨hK, fun q hq => va_Nw.of rfl (hts _ (en_ne_in q hq)), fun a ha => ?_, hR⟩
  rcases ha with rfl | rfl | rfl
  · exact va_AO.of (en_t hts 16 rfl)
  · exact va_AO.of (en_t hts 17 rfl)
  · exact va_AO.of (en_t hts 18 rfl)
theorem en_T {args : Array Value} {s : State} {b bs : Nat} (hts : ∀ w ∈ lw_tbl, w.before args s = true) (hgv : (Jvm.Cond.and given_1 narrow_1).before args s = true) : zTh (s.heap.size, b, bs) s s.heap := by
  have hA : ∀ a : Nat, a < s.heap.size → ¬ zA (s.heap.size, b, bs) a := fun a h z => Nat.not_le.mpr h z
  refine ⟨vx_Zqof (en_t hts 4 rfl) (en_t hts 6 rfl) (en_n hgv 6 rfl) hA, vx_Zqof (en_t hts 5 rfl) (en_t hts 6 rfl) (en_n hgv 7 rfl) hA, en_str (en_t hts 8 rfl) (en_n hgv 8 rfl), en_str (en_t hts 9 rfl) (en_n hgv 9 rfl), va_Nw.of rfl (en_t hts 10 rfl), va_Nw.of rfl (en_t hts 11 rfl), va_Nc.of (en_n hgv 10 rfl), fun y hy => va_Nw.of rfl (hts _ (en_dn_in y hy))⟩
/-- String.length and String.charAt -/
theorem en_P {Ω : zΩ} : ZPr Ω := ⟨fun ls st m Q h1 h => zG_len (Nat.le_trans h1 (by decide)) h, fun ls st k m Q h1 k0 k1 h => zG_charAt (Nat.le_trans h1 (by decide)) k0 k1 h⟩
