/-! LordsRoad.look throws; LordsRoadLaw.look catches -/
abbrev cL_look : ByteArray := method_3_code
def yL_look : MethodName := ⟨RL, "look", "(LLordsRoad;II[J)I"⟩
def eI : String := "java/lang/IndexOutOfBoundsException"
def eN : String := "java/util/NoSuchElementException"
abbrev eS : List String := ["java/lang/RuntimeException", "java/lang/Exception"]
abbrev lhh : List (Nat × Nat × Nat × Nat) := [(0, 10, 13, 13), (0, 10, 17, 15)]
def kwl : List Cond := [.classLink RX9 302 eI, .initialized eI, .classLink RX9 312 eN, .initialized eN, .fieldLink RX9 12 "LordsRoad" "road" "LLordsRoad$Road;", .methodLink RX9 131 yX4_stationOf,
  .fieldLink RX9 135 "LordsRoad$Station" "next" "LLordsRoad$Station;", .fieldLink RX9 140 "LordsRoad$Station" "hours" "I", .fieldLink RX9 143 "LordsRoad$Station" "houses" "I", .fieldLink RX9 146 "LordsRoad$Station" "duty" "I", .fieldLink RX9 149 "LordsRoad$Station" "shut" "I", .fieldLink RX9 152 "LordsRoad$Station" "gate" "Z",
  .methodLink RX9 123 yX4_has, .code yX9_look cX9_look 4 (some .int), .methodLink RL 7 yX9_look, .instanceMethod yX9_look, .selects RX9 yX9_look yX9_look, .initialized RX9, .classLink RL 13 eI, .classLink RL 15 eN, .codeWith yL_look cL_look 5 (some .int) lhh, .methodLink RL 116 yL_look, .static yL_look, .initialized RL, .instanceMethod yX4_has, .selects RX4 yX4_has yX4_has,
  .fieldLink RX9 309 "LordsRoad$Station" "number" "I", .instanceMethod yX4_stationOf, .selects RX4 yX4_stationOf yX4_stationOf]
set_option maxRecDepth 100000 in
theorem kwl_in : ∀ w ∈ kwl, w ∈ lw_tbl := by decide +kernel
theorem kwl_g : ∀ w ∈ kwl, goodWord w = true := by decide +kernel
theorem kw {w : Cond} (i : Nat) (h : kwl[i]? = some w) : w ∈ zT := zT_of (kwl_in w (List.mem_of_getElem? h)) (kwl_g w (List.mem_of_getElem? h))
def dnl : List MethodName := [⟨"java/lang/RuntimeException", "<init>", "(Ljava/lang/String;)V"⟩, ⟨"java/lang/Exception", "<init>", "(Ljava/lang/String;)V"⟩, ⟨"java/lang/Throwable", "<init>", "(Ljava/lang/String;)V"⟩]
set_option maxRecDepth 100000 in
theorem atI_g : ∀ w ∈ vx_atS RX9 306 eI eS, w = .castable eI eI ∨ w ∈ dnl.map Cond.declares ∨ (w ∈ lw_tbl ∧ goodWord w = true) := by decide +kernel
abbrev eR : ByteArray := prog_21_method_4_code
set_option maxRecDepth 100000 in
theorem atN_g : ∀ w ∈ vy_at RX9 316 eN 13 eR eS, w = .castable eN eN ∨ w ∈ dnl.map Cond.declares ∨ (w ∈ lw_tbl ∧ goodWord w = true) := by decide +kernel
theorem atI_o : ∀ w ∈ Cond.classLink RX9 302 eI :: Cond.initialized eI :: vx_atS RX9 306 eI eS, vx_ot w = true := by decide +kernel
theorem atN_o : ∀ w ∈ Cond.classLink RX9 312 eN :: Cond.initialized eN :: vy_at RX9 316 eN 13 eR eS, vx_ot w = true := by decide +kernel
/-- what a throw rests on -/
def zTh (B : zB) (U : State) (H : Heap) : Prop := vx_Zq Bundle.tN "UNASSIGNED_STACK" Bundle.steD (zA B) U H ∧ vx_Zq Bundle.tN "SUPPRESSED_SENTINEL" Bundle.listD (zA B) U H ∧ (∃ sa, vk_R RX9 304 "no such station" sa U) ∧ (∃ sb, vk_R RX9 314 "no such what" sb U) ∧ va_Nw (.castable eI eI) U ∧ va_Nw (.castable eN eN) U ∧ va_Nc eN eI U ∧ ∀ y ∈ dnl, va_Nw (.declares y) U
theorem zTh.warm {B : zB} {s U : State} {H : Heap} (hW : s.WarmedH U.vm) (h : zTh B s H) : zTh B U H := by
  obtain ⟨h1, h2, ⟨sa, h3⟩, ⟨sb, h4⟩, h5, h6, h7, h8⟩ := h
  exact ⟨h1.moved hW.alike, h2.moved hW.alike, ⟨sa, h3.warm hW⟩, ⟨sb, h4.warm hW⟩, va_Nw.warmC hW h5, va_Nw.warmC hW h6, h7.moved hW.alike, fun y hy => va_tabs rfl (rfl : (s.setVm U.vm).vm = U.vm) (by rw [Cond.declares_setVm hW.alike]; exact h8 y hy)⟩
theorem zTh.same {B : zB} {u U : State} {H : Heap} (hv : u.vm = U.vm) (h : zTh B u H) : zTh B U H := by
  obtain ⟨h1, h2, ⟨sa, h3⟩, ⟨sb, h4⟩, h5, h6, h7, h8⟩ := h
  have ha : u.vm.Alike U.vm := by rw [hv]; exact Vm.Alike.refl _
  exact ⟨h1.moved ha, h2.moved ha, ⟨sa, h3.same hv.symm⟩, ⟨sb, h4.same hv.symm⟩, va_Nw.same rfl hv h5, va_Nw.same rfl hv h6, h7.moved ha, fun y hy => va_Nw.same rfl hv (h8 y hy)⟩
theorem zTh.kept {B : zB} {U : State} {H H1 : Heap} (h : zTh B U H) (hq : ∀ a : Nat, a < H.size → ¬ zA B a → H1[a]? = H[a]?) : zTh B U H1 := by
  obtain ⟨h1, h2, h3⟩ := h
  exact ⟨h1.kept hq, h2.kept hq, h3⟩
theorem zWd_grow {B : zB} {cA : Nat → ClassId} {D : va_G} {L : Nat} {xs : Nat → Int32} {U : State} {H H1 : Heap} {σ : zS} (h : zWd B cA D L xs U H σ) (hq : ∀ q : Nat, q < H.size → H1[q]? = H[q]?) : zWd B cA D L xs U H1 σ := by
  obtain ⟨w1, w2, w3, ⟨x1, ⟨adV, x2⟩, x3, vf, x4, x5⟩, w5⟩ := h
  refine ⟨w1.kept fun k q hk => hq _ (w1 k q hk).lt, w2, w3, ⟨x1.kept (hq _ ?_), ⟨adV, x2.kept fun a ha _ => hq a ha⟩, x3.kept fun a ha _ => hq a ha, vf, x4.kept fun a ha _ => hq a ha, x5⟩, w5⟩
  obtain ⟨scr, e1, -⟩ := x1
  exact (Array.getElem?_eq_some_iff.mp e1).1
abbrev lkv (m : zM) (a b : Int) : Int := if b = 5 then (if m (3 + 2 * a) 6 = 0 then 0 else 1) else m (3 + 2 * a) (b + 1)
def lPc (B : zB) (cA : Nat → ClassId) (D : va_G) (L : Nat) (xs : Nat → Int32) (av : List zV) (σ : zS) : Array Value → State → Prop := fun v U => zPc B cA D L xs av σ v U ∧ zTh B U U.heap
theorem lPc_blind {B : zB} {cA : Nat → ClassId} {D : va_G} {L : Nat} {xs : Nat → Int32} {av : List zV} {σ : zS} : FrameBlind (lPc B cA D L xs av σ) := by
  intro a U g mk h
  exact ⟨zPc_blind a U g mk h.1, h.2.same rfl⟩
def lQ (m : zM) (a b : Int) : List zV → zS → Prop := fun r σ' => σ' = (147, zr0, m) ∧ (0 ≤ a ∧ a < m 1 1) ∧ (0 ≤ b ∧ b ≤ 5) ∧ r = [zI (lkv m a b)]
def lE (m : zM) (a b : Int) (E : String) : Prop := (¬ (0 ≤ a ∧ a < m 1 1) ∧ E = eI) ∨ ((0 ≤ a ∧ a < m 1 1) ∧ ¬ (0 ≤ b ∧ b ≤ 5) ∧ E = eN)
def lXC (B : zB) (cA : Nat → ClassId) (D : va_G) (L : Nat) (xs : Nat → Int32) (m : zM) (a b : Int) : String → State → State → Prop := fun E st t => lE m a b E ∧ zWd B cA D L xs t t.heap (147, zr0, m) ∧ va_F (zA B) st t
def lR (m : zM) (a b : Int) : List zV → zS → Prop := fun r σ' => (¬ (0 ≤ a ∧ a < m 1 1) ∧ r = [zI 1] ∧ σ' = (147, zr0, m)) ∨ ((0 ≤ a ∧ a < m 1 1) ∧ ¬ (0 ≤ b ∧ b ≤ 5) ∧ r = [zI 2] ∧ σ' = (147, zr0, m)) ∨ ((0 ≤ a ∧ a < m 1 1) ∧ (0 ≤ b ∧ b ≤ 5) ∧ r = [zI 0] ∧ σ' = (147, zr0, zup m 147 0 (lkv m a b)))
def lRm : Room := { frames := 6, cells := 1, slots := 16, locals := 90 }
def lRm2 : Room := { frames := 7, cells := 1, slots := 16, locals := 120 }
set_option maxRecDepth 100000 in
theorem lw_has {Ω : zΩ} {m : zM} {Q : List zV → zM → Prop} {x1 : Int} (h : if x1 < 0 then (Q [zI 0] m) else (if x1 < (m 1 1) then (Q [zI 1] m) else (Q [zI 0] m))) : zG Ω 45 0 [zR 4 1, zI x1] [] m Q := zwq_ok (es := zi_X4_has) (cuts := []) (n := 400) (by decide) rfl (by decide +kernel) h
theorem lk_has {Ω : zΩ} {m : zM} {a : Int} : zG Ω 45 0 [zR 4 1, zI a] [] m (fun r m' => m' = m ∧ r = [zI (if 0 ≤ a ∧ a < m 1 1 then 1 else 0)]) := by
  refine lw_has ?_
  by_cases h1 : a < 0
  · rw [if_pos h1]
    exact ⟨rfl, by rw [if_neg (by omega)]⟩
  · rw [if_neg h1]
    by_cases h2 : a < m 1 1
    · rw [if_pos h2]
      exact ⟨rfl, by rw [if_pos (by omega)]⟩
    · rw [if_neg h2]
      exact ⟨rfl, by rw [if_neg (by omega)]⟩
set_option maxRecDepth 100000 in
theorem lw_st {Ω : zΩ} {m : zM} {Q : List zV → zM → Prop} {x1 : Int} (h : zG Ω 45 0 [zR 4 1, zI x1] [] m (fun r1 m1 => zk1 r1 fun v1 => if v1 = 0 then (Q [zR 7 3] m1) else (if x1 < 12 then (zin x1 12 (Q [zR 7 (3 + 2 * x1)] m1)) else (Q [zR 7 3] m1)))) : zG Ω 204 0 [zR 4 1, zI x1] [] m Q := zwq_ok (es := zi_X4_stationOf) (cuts := []) (n := 400) (by decide) rfl (by decide +kernel) h
theorem lk_st {Ω : zΩ} {m : zM} {a : Int} (h : 0 ≤ a ∧ a < m 1 1) (h12 : m 1 1 ≤ 12) : zG Ω 204 0 [zR 4 1, zI a] [] m (fun r m' => m' = m ∧ r = [zR 7 (3 + 2 * a)]) := by
  refine lw_st (zG.mono lk_has fun r m' ⟨e1, e2⟩ => ?_)
  subst e1
  subst e2
  rw [if_pos h]
  show if (1 : Int) = 0 then (m' = m' ∧ [zR 7 3] = [zR 7 (3 + 2 * a)]) else (if a < 12 then zin a 12 (m' = m' ∧ [zR 7 (3 + 2 * a)] = [zR 7 (3 + 2 * a)]) else (m' = m' ∧ [zR 7 3] = [zR 7 (3 + 2 * a)]))
  rw [if_neg (by decide), if_pos (by omega)]
  exact zin_iff.mpr ⟨⟨h.1, by omega⟩, rfl, rfl⟩
/-- what a look rests on: few stations, each with a next one -/
def lkH (m : zM) : Prop := m 1 1 ≤ 12 ∧ ∀ k, 0 ≤ k → k < m 1 1 → 0 ≤ m (3 + 2 * k) 1
section LKR
variable {p : Program} {l : Launch} {e : Env} {R : Room} {s : State} {mi : MethodId} {args : Array Value} {below : List Frame} {meth : Method} {c : Code} {H : Heap} {locs : List Loc} {cells slots : Nat} {Q : State → Prop}
variable {B : zB} {cA : Nat → ClassId} {D : va_G} {L : Nat} {xs : Nat → Int32} {σ : zS} {m : zM} {a b : Int}
theorem jentry {av : List Value} {n : Nat} (h : (lg_sl av).length ≤ n) (k : ∀ arr : Array Slot, lv_has arr n (lv_args 0 av) → W p l e R s mi args below meth c H locs cells slots Q (F0 mi 0 arr [])) : W p l e R s mi args below meth c H locs cells slots Q (entryFrame mi av.toArray n) := by
  rw [lg_entry_eq]
  exact k _ (lv_entry av h)
theorem lCB {own : String} {index : Nat} {y : MethodName} {bytes : ByteArray} {maxL n : Nat} {ret : Option FieldType} {rm : Room} {mc ms : Nat} (hts : ∀ w ∈ zT, w.before args s = true) (hc : Cond.code y bytes maxL ret ∈ zT) (hi : Cond.initialized y.cls ∈ zT) (hl : Cond.methodLink own index y ∈ zT) (hd : y.cls ≠ "java/lang/invoke/MethodHandle" ∧ y.cls ≠ "java/lang/invoke/VarHandle" ∧ (parseMethodDescriptor y.desc).map (fun d => d.parameters.length) = some n) (hrc : rm.cells = mc) (hrs : rm.slots = ms) (hR : rm.frames + 1 ≤ R.frames ∧ 8 + (maxL + 11) + rm.locals ≤ R.locals) : CallB R s args own index y bytes maxL ret (jws y bytes maxL ret) rm mc ms n := by
  refine ⟨hrc, hrs, hR.1, hR.2, fun w hw a' U hW => ?_, List.mem_cons_self, hts _ hc, hts _ hi, ⟨hd.1, hd.2.1⟩, fun sig h => ?_, hts _ hl⟩
  · have hz : w ∈ zT := by
      rcases List.mem_cons.mp hw with q | q
      · rw [q]; exact hc
      · exact q
    exact word_at hW (zT_good w hz).2 (hts w hz)
  · have h2 := hd.2.2
    rw [h] at h2
    exact (Option.some.inj h2).symm
theorem zrecv {X t : Nat} (hK : va_K D vwCl (ztys cA) s) (hW : zWd B cA D L xs s H σ) (hX : zrho X < σ.1) (hl : zlay.getD X 99 = t) (ht : t < 11) : ∃ cell : Cell, H[B.1 + zrho X]? = some cell ∧ cell.vm.isStatics = false ∧ s.vm.findClass (zcs t).1 = some cell.cls := by
  have hz0 : (zKd (zlay.getD X 99)).1 = 0 := by rw [hl]; exact zcls0 t ht
  exact va_recv hK hW.1 (a := B.1 + zrho X) (q0 := zrho X) (ci := zlay.getD X 99) (by rw [hl]; exact zcs_get t ht) ((zws_get hX).trans (by rw [zen_0 hz0]))
theorem lPc_at {av : List zV} (hB : B.1 ≤ s.heap.size) (hU : zUd B cA D s) (hS : va_S (zA B) s.heap H locs) (hW : zWd B cA D L xs s H (147, zr0, m)) (hT : zTh B s s.heap) : ∀ U : State, U.heap = H → s.WarmedH U.vm → lPc B cA D L xs av (147, zr0, m) (av.map (zv B)).toArray U := by
  intro U hH hw
  refine ⟨zPc_at hB hU hS hW (fun h => absurd h (Nat.lt_irrefl 147)) U hH hw, ?_⟩
  rw [hH]
  exact (hT.kept hS.2.1).warm hw
/-- behind a call that may throw -/
theorem lcont {mc ms pc : Nat} {arr : Array Slot} {st0 rest : List Value} {aa : Array Value} {Q' : List zV → zS → Prop} (hS : va_S (zA B) s.heap H locs) (hr : vx_Run p l e R s mi args below meth c H locs cells slots mc ms (F0 mi pc arr st0) rest (zQc B cA D L xs Q' aa) (lXC B cA D L xs m a b) (zA B))
    (kx : ∀ (E : String) (ce : Cell) (q : Addr) H1 locs1, lE m a b E → zWd B cA D L xs s H1 (147, zr0, m) → va_S (zA B) s.heap H1 locs1 → H1[q]? = some ce → ce.vm = .none → s.vm.findClass E = some ce.cls → vx_W p l e R s mi args below meth c H1 locs1 (cells + mc) (slots + ms) Q (F0 mi pc arr rest) q)
    (k : ∀ r σ' H1 locs1, Q' r σ' → zoks σ'.1 r → zWd B cA D L xs s H1 σ' → va_S (zA B) s.heap H1 locs1 → W p l e R s mi args below meth c H1 locs1 (cells + mc) (slots + ms) Q (F0 mi (pc + 3) arr (r.map (zv B) ++ rest))) : W p l e R s mi args below meth c H locs cells slots Q (F0 mi pc arr st0) := by
  intro T hT X
  rcases hr T hT X with ⟨v, s0, t, T', L1, e1, X', hL, e2, e3, ⟨⟨r, σ', hv, hlen, hQ, hok, hWd⟩, hF⟩, hgo⟩ | ⟨q, s0, t, T', L1, E, ce, e1, X', hL, e2, e3, ⟨hE, hWd, hF⟩, hce, hcv, hcl, st⟩
  · have hal : t.vm.Alike s.vm := by rw [← e3]; exact X'.warmed.alike.symm
    have hS1 : va_S (zA B) s.heap T'.heap (locs ++ L1) := (vx_keep e1 e2 hS (fun q _ h => h) (fun q h => h) hL hF).2.2
    obtain ⟨t2, a1, b1⟩ := k r σ' T'.heap (locs ++ L1) hQ hok (by rw [e2]; exact hWd.moved hal) hS1 T' rfl X'
    refine ⟨t2, ?_, b1⟩
    have ev : v.toList = r.map (zv B) := by
      rw [Outcome.returned.inj hv]
      match r, hlen with
      | [], _ => rfl
      | [_], _ => rfl
    rw [ev] at hgo
    exact hgo t2 a1
  · have hal : t.vm.Alike s.vm := by rw [← e3]; exact X'.warmed.alike.symm
    have hS1 : va_S (zA B) s.heap T'.heap (locs ++ L1) := (vx_keep e1 e2 hS (fun q _ h => h) (fun q h => h) hL hF).2.2
    obtain ⟨t2, a1, b1⟩ := kx E ce q T'.heap (locs ++ L1) hE (by rw [e2]; exact hWd.moved hal) hS1 (by rw [e2]; exact hce) hcv hcl T' rfl X'
    exact ⟨t2, st.trans a1, b1⟩
theorem lXC_at {E : String} (hE : lE m a b E) (hW : zWd B cA D L xs s H (147, zr0, m)) (hS : va_S (zA B) s.heap H locs) : ∀ t : State, s.vm.Alike t.vm → H.size ≤ t.heap.size → (∀ q : Nat, q < H.size → t.heap[q]? = H[q]?) → lXC B cA D L xs m a b E s t := by
  intro t h1 h2 h3
  exact ⟨hE, (zWd_grow hW h3).moved h1, Nat.le_trans hS.1 h2, fun q hq hn => (h3 q (Nat.lt_of_lt_of_le hq hS.1)).trans (hS.2.1 q hq hn)⟩
end LKR
theorem lz_0 : zr0 0 0 = 1 ∧ zr0 1 0 = 2 := by decide +kernel
theorem lz_2 {a : Int} : zr0 2 a = 3 + 2 * a := rfl
theorem lz_k : zlay.getD 0 99 = 9 ∧ zlay.getD 1 99 = 4 ∧ zlay.getD 2 99 = 11 ∧ zlay.getD 147 99 = 35 := by decide +kernel
theorem l_of0 {x : Int} (h : zri x) : Int32.ofInt x = 0 ↔ x = 0 := by
  constructor
  · intro q
    have := zi_toInt h
    rw [q] at this
    exact this.symm
  · intro q
    rw [q]; rfl
