theorem zXs.moved {B : zB} {L : Nat} {xs : Nat → Int32} {u U : State} {H : Heap} (hvm : u.vm.Alike U.vm) (h : zXs B L xs u H) : zXs B L xs U H := by
  obtain ⟨h1, ⟨adV, h2⟩, h3, vf, h4, h5⟩ := h
  exact ⟨h1.moved hvm, ⟨adV, h2.moved hvm⟩, h3.moved hvm, vf, h4.moved hvm, h5⟩
theorem zWd.moved {B : zB} {cA : Nat → ClassId} {D : va_G} {L : Nat} {xs : Nat → Int32} {u U : State} {H : Heap} {σ : zS} (hvm : u.vm.Alike U.vm) (h : zWd B cA D L xs u H σ) : zWd B cA D L xs U H σ := by
  obtain ⟨h1, h2, h3, h4, h5⟩ := h
  exact ⟨h1, h2, h3, h4.moved hvm, h5⟩
theorem znest_on : ∀ q ∈ znest, (Cond.methodLinkNest q.1 q.2.1 q.2.2 "LordsRoad").onTables = true := fun _ _ => rfl
theorem zUd.same {B : zB} {cA : Nat → ClassId} {D : va_G} {u U : State} (hv : u.vm = U.vm) (h : zUd B cA D u) : zUd B cA D U := by
  obtain ⟨h1, h2, h3, h4⟩ := h
  have ha : u.vm.Alike U.vm := by rw [hv]; exact Vm.Alike.refl _
  exact ⟨h1.moved ha, fun q hq => (h2 q hq).same (znest_on q hq) hv, fun a ha2 => (h3 a ha2).moved ha, h4.same hv.symm⟩
theorem zUd.warm {B : zB} {cA : Nat → ClassId} {D : va_G} {s U : State} (hW : s.WarmedH U.vm) (h : zUd B cA D s) : zUd B cA D U := by
  obtain ⟨h1, h2, h3, h4⟩ := h
  exact ⟨h1.moved hW.alike, fun q hq => va_Nw.warmM hW (h2 q hq), fun a ha2 => (h3 a ha2).moved hW.alike, h4.warm hW⟩
/-- a call's start and end -/
def zPc (B : zB) (cA : Nat → ClassId) (D : va_G) (L : Nat) (xs : Nat → Int32) (av : List zV) (σ : zS) : Array Value → State → Prop := fun v U => v = (av.map (zv B)).toArray ∧ zWd B cA D L xs U U.heap σ ∧ zUd B cA D U ∧ B.1 ≤ U.heap.size ∧ (σ.1 < 147 → U.heap.size = B.1 + σ.1)
def zQc (B : zB) (cA : Nat → ClassId) (D : va_G) (L : Nat) (xs : Nat → Int32) (Q : List zV → zS → Prop) : Array Value → State → Outcome → State → Prop := fun _ st o t => (∃ (r : List zV) (σ' : zS), o = .returned (r.map (zv B)).head? ∧ r.length ≤ 1 ∧ Q r σ' ∧ zoks σ'.1 r ∧ zWd B cA D L xs t t.heap σ') ∧ va_F (zA B) st t
theorem zPc_blind {B : zB} {cA : Nat → ClassId} {D : va_G} {L : Nat} {xs : Nat → Int32} {av : List zV} {σ : zS} : FrameBlind (zPc B cA D L xs av σ) := by
  intro a U g mk h
  obtain ⟨h1, h2, h3, h4, h5⟩ := h
  exact ⟨h1, h2.moved (U := U.calling g mk a) (Vm.Alike.refl U.vm), h3.same rfl, h4, h5⟩
def zwsM (M : Nat) : List Cond := .code (zmi M).1 (zmi M).2.1 (zmi M).2.2.1 (zmi M).2.2.2 :: zT
def zroom (M mc ms : Nat) : Room := { frames := zfr M, cells := mc, slots := ms, locals := zlo M }
set_option maxRecDepth 100000 in
theorem zmt_eq : zmt = zmc ++ [(yL_law, cL_law, 7, some .boolean)] := rfl
theorem zmc_len : zmc.length = 211 := by decide +kernel
theorem zcode_in {N : Nat} (h : N < 211) : Cond.code (zmi N).1 (zmi N).2.1 (zmi N).2.2.1 (zmi N).2.2.2 ∈ zT := by
  refine zT_of (zmc_ok (zmi N) ?_) rfl
  unfold zmi
  rw [zmt_eq, List.getD_eq_getElem?_getD, List.getElem?_append_left (by rw [zmc_len]; exact h), List.getElem?_eq_getElem (by rw [zmc_len]; exact h)]
  exact List.getElem_mem _
theorem zcls_mh : ∀ N, N < 211 → (zmi N).1.cls ≠ "java/lang/invoke/MethodHandle" ∧ (zmi N).1.cls ≠ "java/lang/invoke/VarHandle" := by decide +kernel
theorem zinit_in {N : Nat} (h : N < 212) : Cond.initialized (zmi N).1.cls ∈ zT := by
  have h1 := zini_ok _ (zow_lt N h)
  rw [zow_cn N h] at h1
  exact zT_of (List.mem_of_getElem? h1) rfl
theorem zmw_all (N : Nat) (h : N < 211) : (((zmwt.getD N (9, 0, 0)).1 = 1 ∧ lw_tbl[(zmwt.getD N (9, 0, 0)).2.1]? = some (Cond.static (zmi N).1)) ∨ ((zmwt.getD N (9, 0, 0)).1 = 0 ∧ lw_tbl[(zmwt.getD N (9, 0, 0)).2.1]? = some (Cond.instanceMethod (zmi N).1) ∧ ((zmwt.getD N (9, 0, 0)).2.2 = 9999 ∨ lw_tbl[(zmwt.getD N (9, 0, 0)).2.2]? = some (Cond.selects (zmi N).1.cls (zmi N).1 (zmi N).1)))) := by
  by_cases h0 : N < 30
  · exact zmw_0 N h0 (by omega)
  by_cases h1 : N < 60
  · exact zmw_30 N h1 (by omega)
  by_cases h2 : N < 90
  · exact zmw_60 N h2 (by omega)
  by_cases h3 : N < 120
  · exact zmw_90 N h3 (by omega)
  by_cases h4 : N < 150
  · exact zmw_120 N h4 (by omega)
  by_cases h5 : N < 180
  · exact zmw_150 N h5 (by omega)
  by_cases h6 : N < 210
  · exact zmw_180 N h6 (by omega)
  · exact zmw_210 N h (by omega)
theorem zstat_in {N : Nat} (h : N < 211) (hs : Nat.beq (zmwt.getD N (9, 0, 0)).1 1 = true) : Cond.static (zmi N).1 ∈ zT := by
  rcases zmw_all N h with z | z
  · exact zT_of (List.mem_of_getElem? z.2) rfl
  · have := zb_len hs; omega
theorem zinst_in {N : Nat} (h : N < 211) (hs : Nat.beq (zmwt.getD N (9, 0, 0)).1 0 = true) : Cond.instanceMethod (zmi N).1 ∈ zT ∧ ((zmwt.getD N (9, 0, 0)).2.2 ≠ 9999 → Cond.selects (zmi N).1.cls (zmi N).1 (zmi N).1 ∈ zT) := by
  rcases zmw_all N h with z | z
  · have := zb_len hs; omega
  · refine ⟨zT_of (List.mem_of_getElem? z.2.1) rfl, fun hn => ?_⟩
    rcases z.2.2 with q | q
    · exact absurd q hn
    · exact zT_of (List.mem_of_getElem? q) rfl
theorem zinit_ret : ∀ N, N < 211 → (zmi N).1.name = "<init>" → (zmi N).2.2.2 = none := by decide +kernel
theorem zheap_call {i : Instr} {len a b c e pc : Nat} {d : Int} {ls st : List zV} {s : zS} {q : Nat × List zV × zN × zS} (h0 : zheap i len a b c e d pc ls st s = some (.inr (.inr q))) : (∃ x, i = .invokestatic x) ∨ (∃ x, i = .invokevirtual x) ∨ ∃ x, i = .invokespecial x := by
  cases i with
  | invokestatic x => exact Or.inl ⟨_, rfl⟩
  | invokevirtual x => exact Or.inr (Or.inl ⟨_, rfl⟩)
  | invokespecial x => exact Or.inr (Or.inr ⟨_, rfl⟩)
  | getfield _ =>
    exfalso
    obtain ⟨_, h1⟩ := zg_inv h0
    obtain ⟨_, _, _, _, h2⟩ := zp1r_inv h1
    obtain ⟨_, h3⟩ := zg_inv h2
    obtain ⟨_, _, h4⟩ := Option.bind_eq_some_iff.mp h3
    cases h4
  | putfield _ =>
    exfalso
    obtain ⟨_, h1⟩ := zg_inv h0
    obtain ⟨_, _, _, h2⟩ := zp1_inv h1
    obtain ⟨_, _, _, _, h3⟩ := zp1r_inv h2
    obtain ⟨_, h4⟩ := zg_inv h3
    obtain ⟨_, _, h5⟩ := Option.bind_eq_some_iff.mp h4
    cases h5
  | iaload =>
    exfalso
    obtain ⟨_, h1⟩ := zg_inv h0
    obtain ⟨_, _, _, _, _, h2⟩ := zp2ir_inv h1
    split at h2
    · obtain ⟨_, h3⟩ := zg_inv h2
      cases h3
    · obtain ⟨_, h3⟩ := zg_inv h2
      cases h3
  | baload =>
    exfalso
    obtain ⟨_, h1⟩ := zg_inv h0
    obtain ⟨_, _, _, _, _, h2⟩ := zp2ir_inv h1
    obtain ⟨_, h3⟩ := zg_inv h2
    cases h3
  | laload =>
    exfalso
    obtain ⟨_, h1⟩ := zg_inv h0
    obtain ⟨_, _, _, _, _, h2⟩ := zp2ir_inv h1
    obtain ⟨_, h3⟩ := zg_inv h2
    cases h3
  | aaload =>
    exfalso
    obtain ⟨_, h1⟩ := zg_inv h0
    obtain ⟨_, _, _, _, _, h2⟩ := zp2ir_inv h1
    split at h2
    · obtain ⟨_, h3⟩ := zg_inv h2
      cases h3
    obtain ⟨_, h3⟩ := zg_inv h2
    cases h3
  | iastore =>
    exfalso
    obtain ⟨_, h1⟩ := zg_inv h0
    obtain ⟨_, _, _, _, _, _, h2⟩ := zp3ir_inv h1
    obtain ⟨_, h3⟩ := zg_inv h2
    cases h3
  | bastore =>
    exfalso
    obtain ⟨_, h1⟩ := zg_inv h0
    obtain ⟨_, _, _, _, _, _, h2⟩ := zp3ir_inv h1
    obtain ⟨_, h3⟩ := zg_inv h2
    cases h3
  | lastore =>
    exfalso
    obtain ⟨_, h1⟩ := zg_inv h0
    obtain ⟨_, _, _, _, _, _, h2⟩ := zp3lr_inv h1
    obtain ⟨_, h3⟩ := zg_inv h2
    cases h3
  | aastore =>
    exfalso
    obtain ⟨_, h1⟩ := zg_inv h0
    obtain ⟨_, _, _, _, _, _, _, h2⟩ := zp3rr_inv h1
    split at h2
    · obtain ⟨_, h3⟩ := zg_inv h2
      cases h3
    obtain ⟨_, h3⟩ := zg_inv h2
    cases h3
  | arraylength =>
    exfalso
    obtain ⟨_, h1⟩ := zg_inv h0
    obtain ⟨_, _, _, _, h2⟩ := zp1r_inv h1
    split at h2
    · cases h2
    · obtain ⟨_, h3⟩ := zg_inv h2
      cases h3
  | ldc _ =>
    exfalso
    obtain ⟨_, h1⟩ := zg_inv h0
    split at h1
    · cases h1
    · cases h1
  | ldc_w _ =>
    exfalso
    obtain ⟨_, h1⟩ := zg_inv h0
    split at h1
    · cases h1
    · cases h1
  | ldc2_w _ =>
    exfalso
    obtain ⟨_, h1⟩ := zg_inv h0
    cases h1
  | new _ =>
    exfalso
    obtain ⟨_, h1⟩ := zg_inv h0
    cases h1
  | newarray _ =>
    exfalso
    obtain ⟨_, h1⟩ := zg_inv h0
    obtain ⟨_, _, _, h2⟩ := zp1i_inv h1
    obtain ⟨_, h3⟩ := zg_inv h2
    cases h3
  | anewarray _ =>
    exfalso
    obtain ⟨_, h1⟩ := zg_inv h0
    obtain ⟨_, _, _, h2⟩ := zp1i_inv h1
    obtain ⟨_, h3⟩ := zg_inv h2
    cases h3
  | ireturn =>
    exfalso
    obtain ⟨_, h1⟩ := zg_inv h0
    obtain ⟨_, _, _, h2⟩ := zp1i_inv h1
    obtain ⟨_, h3⟩ := zg_inv h2
    cases h3
  | areturn =>
    exfalso
    obtain ⟨_, h1⟩ := zg_inv h0
    obtain ⟨_, _, _, _, h2⟩ := zp1r_inv h1
    obtain ⟨_, h3⟩ := zg_inv h2
    cases h3
  | lreturn =>
    exfalso
    obtain ⟨_, h1⟩ := zg_inv h0
    obtain ⟨_, _, _, h2⟩ := zp1l_inv h1
    obtain ⟨_, h3⟩ := zg_inv h2
    cases h3
  | return_ =>
    exfalso
    obtain ⟨_, h1⟩ := zg_inv h0
    cases h1
  | _ => cases h0
section ZCL
variable {p : Program} {l : Launch} {e : Env} {R : Room} {s : State} {m : MethodId} {args : Array Value} {below : List Frame} {meth : Method} {c : Code} {H : Heap} {locs : List Loc} {cells slots : Nat} {Q : State → Prop}
variable {B : zB} {cA : Nat → ClassId} {D : va_G} {L : Nat} {xs : Nat → Int32} {σ : zS}
theorem zws_warm {N : Nat} (hN : N < 211) (hts : ∀ w ∈ zT, w.before args s = true) : ∀ w ∈ zwsM N, ∀ (a' : Array Value) (U : State), s.WarmedH U.vm → w.before a' U = true := by
  intro w hw a' U hW
  have hz : w ∈ zT := by
    rcases List.mem_cons.mp hw with q | q
    · rw [q]; exact zcode_in hN
    · exact q
  exact word_at hW (zT_good w hz).2 (hts w hz)
theorem zsum_cat (st : List zV) : ((st.map (zv B)).map fun v => v.category).sum = zsum st := by
  unfold zsum
  rw [List.map_map]
  congr 2
  funext v
  exact zv_cat B v
/-- behind a call -/
theorem zcont {mc ms pc : Nat} {arr : Array Slot} {st0 rest : List Value} {aa : Array Value} {Q' : List zV → zS → Prop} (hS : va_S (zA B) s.heap H locs) (hr : va_Run p l e R s m args below meth c H locs cells slots mc ms (F0 m pc arr st0) rest (zQc B cA D L xs Q' aa) (zA B))
    (k : ∀ r σ' H1 locs1, Q' r σ' → zoks σ'.1 r → zWd B cA D L xs s H1 σ' → va_S (zA B) s.heap H1 locs1 → W p l e R s m args below meth c H1 locs1 (cells + mc) (slots + ms) Q (F0 m (pc + 3) arr (r.map (zv B) ++ rest))) : W p l e R s m args below meth c H locs cells slots Q (F0 m pc arr st0) := by
  intro T hT X
  obtain ⟨v, s0, t, T', L1, e1, X', hL, e2, e3, ⟨⟨r, σ', hv, hlen, hQ, hok, hWd⟩, hF⟩, hgo⟩ := hr T hT X
  have hal : t.vm.Alike s.vm := by rw [← e3]; exact X'.warmed.alike.symm
  have hS1 : va_S (zA B) s.heap T'.heap (locs ++ L1) := by
    obtain ⟨f1, f2⟩ := hF
    rw [e1] at f1 f2
    rw [e2]
    refine ⟨Nat.le_trans hS.1 f1, fun q h1 h2 => (f2 q (Nat.lt_of_lt_of_le h1 hS.1) h2).trans (hS.2.1 q h1 h2), fun q hq => ?_⟩
    rcases List.mem_append.mp hq with z | z
    · exact hS.2.2 q z
    · exact hL q z
  obtain ⟨t2, a1, b1⟩ := k r σ' T'.heap (locs ++ L1) hQ hok (by rw [e2]; exact hWd.moved hal) hS1 T' rfl X'
  refine ⟨t2, ?_, b1⟩
  have ev : v.toList = r.map (zv B) := by
    rw [Outcome.returned.inj hv]
    match r, hlen with
    | [], _ => rfl
    | [_], _ => rfl
  rw [ev] at hgo
  exact hgo t2 a1
theorem zPc_at {av : List zV} (hB : B.1 ≤ s.heap.size) (hU : zUd B cA D s) (hS : va_S (zA B) s.heap H locs) (hW : zWd B cA D L xs s H σ) (hsz : σ.1 < 147 → H.size = B.1 + σ.1) : ∀ U : State, U.heap = H → s.WarmedH U.vm → zPc B cA D L xs av σ (av.map (zv B)).toArray U := by
  intro U hH hw
  refine ⟨rfl, ?_, hU.warm hw, ?_, ?_⟩
  · rw [hH]; exact hW.moved hw.alike
  · rw [hH]; exact Nat.le_trans hB hS.1
  · rw [hH]; exact hsz
theorem zcall_ok {M pc N b cs ee : Nat} {i : Instr} {len : Nat} {d : Int} {arr : Array Slot} {ls st av : List zV} {pc' : Nat} {ls' st' : List zV} {σ' : zS} {mc ms : Nat} {Q' : List zV → zS → Prop} (hM : M < 212) (hN : N < 211) (X : zCx B cA D p s m args meth c M) (hdg : decode (zmi M).2.1 pc = .ok (i, len)) (hvl : zvl M (pc, i, len, (N, b, cs, ee), d) = true)
    (hfr : zfr M ≤ R.frames ∧ zlo M ≤ R.locals) (hW : zWd B cA D L xs s H σ) (hS : va_S (zA B) s.heap H locs) (hlv : zlv B arr (zmi M).2.2.1 ls) (hst : zoks σ.1 st) (hsz : σ.1 < 147 → H.size = B.1 + σ.1)
    (h0 : zheap i len N b cs ee d pc ls st σ = some (.inr (.inr (N, av, (pc', ls', st'), σ')))) (hMt : Met l (zmi N).1 (zwsM N) (zroom N mc ms) (zPc B cA D L xs av σ) (zQc B cA D L xs Q') mc ms (zA B)) (hroom : cells + mc ≤ R.cells ∧ slots + ms ≤ R.slots)
    (k : ∀ r σ1 H1 locs1, Q' r σ1 → zoks σ1.1 r → zWd B cA D L xs s H1 σ1 → va_S (zA B) s.heap H1 locs1 → W p l e R s m args below meth c H1 locs1 (cells + mc) (slots + ms) Q (F0 m pc' arr ((r ++ st').map (zv B)))) : ls' = ls ∧ σ' = σ ∧ (∀ v ∈ av, v ∈ st) ∧ (∀ v ∈ st', v ∈ st) ∧ W p l e R s m args below meth c H locs cells slots Q (F0 m pc arr (st.map (zv B))) := by
  obtain ⟨hx, hb, hml, hown, hts, hr, hlocks, hin, hB, hU⟩ := X
  have hU0 := hU
  obtain ⟨hK, hNs, hO, hstr⟩ := hU
  have hfix : CallFix p m c (zmi M).2.1 arr.size s args zT (zmi M).1.cls := ⟨hx, hb, hml.trans hlv.2.1.symm, hown, hts⟩
  have hcode := hts _ (zcode_in hN)
  have hini := hts _ (zinit_in (N := N) (by omega))
  have hsub : (∀ v ∈ (st.take b).reverse, v ∈ st) ∧ (∀ v ∈ st.drop b, v ∈ st) := ⟨fun v hv => List.mem_of_mem_take (List.mem_reverse.mp hv), fun v hv => List.mem_of_mem_drop hv⟩
  have hstk : st.map (zv B) = (((st.take b).reverse).map (zv B)).reverse ++ (st.drop b).map (zv B) := by
    rw [← List.map_reverse, List.reverse_reverse, ← List.map_append, List.take_append_drop]
  have room8 : ∀ {g : JFrame}, g = F0 m pc arr (st.map (zv B)) → zsum (st.drop b) ≤ 8 → 2 * g.monitorRoom + (((st.drop b).map (zv B)).map fun v => v.category).sum ≤ 8 := by
    intro g hg h8
    subst hg
    have := lv_room (m := m) (pc := pc) (ls := arr) (rest := st.map (zv B)) (st := (st.drop b).map (zv B)) (by rw [zsum_cat]; exact h8)
    exact this
  have rm : ∀ {n : Nat}, zrmok M N = true → (zroom N mc ms).cells = mc ∧ (zroom N mc ms).slots = ms ∧ (zroom N mc ms).frames + 1 ≤ R.frames ∧ 8 + ((zmi N).2.2.1 + 11) + (zroom N mc ms).locals ≤ R.locals := by
    intro n h
    obtain ⟨r1, r2⟩ := zb_and h
    have r1 := Nat.le_of_ble_eq_true r1
    have r2 := Nat.le_of_ble_eq_true r2
    refine ⟨rfl, rfl, ?_, ?_⟩
    · show zfr N + 1 ≤ R.frames; omega
    · show _ + zlo N ≤ R.locals; omega
  have sg : ∀ {n : Nat}, znpar N = some n → ∀ sig, parseMethodDescriptor (zmi N).1.desc = some sig → n = sig.parameters.length := by
    intro n h sig hs
    unfold znpar at h
    rw [hs] at h
    exact (Option.some.inj h).symm
  have cb : ∀ {n idx : Nat}, znpar N = some n → zrmok M N = true → (Cond.methodLink (zmi M).1.cls idx (zmi N).1).before args s = true → CallB R s args (zmi M).1.cls idx (zmi N).1 (zmi N).2.1 (zmi N).2.2.1 (zmi N).2.2.2 (zwsM N) (zroom N mc ms) mc ms n := by
    intro n idx h1 h2 h3
    obtain ⟨r1, r2, r3, r4⟩ := rm (n := n) h2
    exact ⟨r1, r2, r3, r4, zws_warm hN hts, List.mem_cons_self, hcode, hini, zcls_mh N hN, sg h1, h3⟩
  have cn : ∀ {n idx : Nat}, znpar N = some n → zrmok M N = true → ((zmi M).1.cls, idx, (zmi N).1) ∈ znest → va_CN R s args (zmi M).1.cls idx (zmi N).1 "LordsRoad" (zmi N).2.1 (zmi N).2.2.1 (zmi N).2.2.2 (zwsM N) (zroom N mc ms) mc ms n := by
    intro n idx h1 h2 h3
    obtain ⟨r1, r2, r3, r4⟩ := rm (n := n) h2
    exact ⟨⟨r1, r2, r3, r4, zws_warm hN hts, List.mem_cons_self⟩, hcode, hini, zcls_mh N hN, sg h1, va_Nw.use rfl (hNs _ h3)⟩
  cases i with
  | invokestatic idx =>
    obtain ⟨h1, hq1⟩ := zg_inv h0
    obtain ⟨h2, hq2⟩ := zg_inv hq1
    obtain ⟨h2, h3⟩ := zb_and h2
    have h2 := Nat.le_of_ble_eq_true h2
    have h3 := Nat.le_of_ble_eq_true h3
    cases zb_len h1
    cases hq2
    refine ⟨rfl, rfl, hsub.1, hsub.2, ?_⟩
    simp only [zvl] at hvl
    split at hvl
    · rename_i hq
      have := Nat.le_of_ble_eq_true hq
      omega
    obtain ⟨v1, hvl⟩ := zb_and hvl
    obtain ⟨v2, hvl⟩ := zb_and hvl
    obtain ⟨v3, hvl⟩ := zb_and hvl
    obtain ⟨v4, v5⟩ := zb_and hvl
    have v2 := of_decide_eq_true v2
    have hpre : PreS s H (zPc B cA D L xs ((st.take b).reverse) σ) (((st.take b).reverse).map (zv B)) := ⟨zPc_blind, zPc_at hB hU0 hS hW hsz⟩
    have hlen : (((st.take b).reverse).map (zv B)).length = b := by rw [List.length_map, List.length_reverse, List.length_take]; omega
    have hrun : va_Run p l e R s m args below meth c H locs cells slots mc ms (F0 m pc arr (st.map (zv B))) ((st.drop b).map (zv B)) (zQc B cA D L xs Q' (((st.take b).reverse).map (zv B)).toArray) (zA B) := by
      split at v5
      · exact va_runS hfix hMt ⟨cb v2 v3 (hts _ (zmlink hM v5)), hts _ (zstat_in hN v4)⟩ hpre rfl hlen rfl hstk (room8 rfl h3) hdg hroom
      · exact va_runSN hfix hMt ⟨cn v2 v3 (of_decide_eq_true v5), hts _ (zstat_in hN v4), trivial⟩ hpre rfl hlen rfl hstk (room8 rfl h3) hdg hroom
    exact zcont hS hrun fun r σ1 H1 locs1 q1 q2 q3 q4 => by rw [← List.map_append]; exact k r σ1 H1 locs1 q1 q2 q3 q4
  | invokevirtual idx =>
    obtain ⟨h1, hq1⟩ := zg_inv h0
    obtain ⟨h2, hq2⟩ := zg_inv hq1
    obtain ⟨h2, h3⟩ := zb_and h2
    have h2 := Nat.le_of_ble_eq_true h2
    have h3 := Nat.le_of_ble_eq_true h3
    obtain ⟨t, x, r, hav, hq3⟩ := zp1r_inv hq2
    obtain ⟨h4, hq4⟩ := zg_inv hq3
    cases zb_len h1
    cases zb_len h4
    cases hq4
    refine ⟨rfl, rfl, hsub.1, hsub.2, ?_⟩
    simp only [zvl] at hvl
    split at hvl
    · rename_i hq
      have := Nat.le_of_ble_eq_true hq
      omega
    obtain ⟨v1, hvl⟩ := zb_and hvl
    obtain ⟨v2, hvl⟩ := zb_and hvl
    obtain ⟨v2b, hvl⟩ := zb_and hvl
    obtain ⟨v3, hvl⟩ := zb_and hvl
    obtain ⟨v6, hvl⟩ := zb_and hvl
    obtain ⟨v4, hvl⟩ := zb_and hvl
    obtain ⟨v7, v5⟩ := zb_and hvl
    have v2 := of_decide_eq_true v2
    have v2b := Nat.le_of_ble_eq_true v2b
    obtain ⟨v6, v6b⟩ := of_decide_eq_true v6
    have v7 := of_decide_eq_true v7
    have hrx : zok σ.1 (zR ee x) := hst _ (hsub.1 _ (by rw [hav]; exact List.mem_cons_self))
    obtain ⟨X, rfl, hX, hl⟩ := zok_ref hW.2.2.1 hrx (by omega)
    have hz0 : (zKd (zlay.getD X 99)).1 = 0 := by rw [hl]; exact zcls0 ee v6
    have hrecv := va_recv hK hW.1 (a := B.1 + zrho X) (q0 := zrho X) (ci := zlay.getD X 99) (by rw [hl]; exact zcs_get ee v6) ((zws_get hX).trans (by rw [zen_0 hz0]))
    have hAs : ((st.take b).reverse).map (zv B) = .ref (B.1 + zrho X) :: r.map (zv B) := by rw [hav, List.map_cons, zv_ref (by omega)]
    have hpre : PreV s H (zmi N).1.cls (B.1 + zrho X) (zPc B cA D L xs ((st.take b).reverse) σ) (r.map (zv B)) := by
      refine ⟨zPc_blind, by rw [← v6b]; exact hrecv, ?_⟩
      rw [← hAs]
      exact zPc_at hB hU0 hS hW hsz
    have hlen : (r.map (zv B)).length = b - 1 := by
      have : (((st.take b).reverse).map (zv B)).length = b := by rw [List.length_map, List.length_reverse, List.length_take]; omega
      rw [hAs] at this
      simp only [List.length_cons] at this
      omega
    have hstk2 : st.map (zv B) = (r.map (zv B)).reverse ++ .ref (B.1 + zrho X) :: (st.drop b).map (zv B) := by
      rw [hstk, hAs]
      simp
    have hrun : va_Run p l e R s m args below meth c H locs cells slots mc ms (F0 m pc arr (st.map (zv B))) ((st.drop b).map (zv B)) (zQc B cA D L xs Q' (Value.ref (B.1 + zrho X) :: r.map (zv B)).toArray) (zA B) :=
      va_runV hfix hMt ⟨cb v2 v3 (hts _ (zmlink hM v5)), hts _ (zinst_in hN v4).1, hts _ ((zinst_in hN v4).2 v7)⟩ hpre rfl hlen rfl hstk2 (room8 rfl h3) hdg hroom
    exact zcont hS hrun fun r σ1 H1 locs1 q1 q2 q3 q4 => by rw [← List.map_append]; exact k r σ1 H1 locs1 q1 q2 q3 q4
  | invokespecial idx =>
    obtain ⟨h1, hq1⟩ := zg_inv h0
    split at hq1
    · rename_i hq
      have := zb_len hq
      omega
    rename_i hna
    obtain ⟨h2, hq2⟩ := zg_inv hq1
    obtain ⟨h2, h3⟩ := zb_and h2
    have h2 := Nat.le_of_ble_eq_true h2
    have h3 := Nat.le_of_ble_eq_true h3
    obtain ⟨t, x, r, hav, hq3⟩ := zp1r_inv hq2
    obtain ⟨h4, hq4⟩ := zg_inv hq3
    cases zb_len h1
    cases zb_len h4
    cases hq4
    refine ⟨rfl, rfl, hsub.1, hsub.2, ?_⟩
    simp only [zvl] at hvl
    rw [hna] at hvl
    obtain ⟨v1, hvl⟩ := zb_and hvl
    obtain ⟨v2, hvl⟩ := zb_and hvl
    obtain ⟨v2b, hvl⟩ := zb_and hvl
    obtain ⟨v3, hvl⟩ := zb_and hvl
    obtain ⟨v6, hvl⟩ := zb_and hvl
    obtain ⟨v4, v5⟩ := zb_and hvl
    have v2 := of_decide_eq_true v2
    have v2b := Nat.le_of_ble_eq_true v2b
    have v6 := of_decide_eq_true v6
    obtain ⟨y, hy⟩ : ∃ y, zv B (zR ee x) = .ref y := by unfold zv; dsimp only; split; exact ⟨_, rfl⟩; split <;> exact ⟨_, rfl⟩
    have hAs : ((st.take b).reverse).map (zv B) = .ref y :: r.map (zv B) := by rw [hav, List.map_cons, hy]
    have hret : (zmi N).2.2.2 = none := zinit_ret N hN v6
    have hpre : PreS s H (zPc B cA D L xs ((st.take b).reverse) σ) (.ref y :: r.map (zv B)) := by
      refine ⟨zPc_blind, ?_⟩
      rw [← hAs]
      exact zPc_at hB hU0 hS hW hsz
    have hlen : (r.map (zv B)).length = b - 1 := by
      have : (((st.take b).reverse).map (zv B)).length = b := by rw [List.length_map, List.length_reverse, List.length_take]; omega
      rw [hAs] at this
      simp only [List.length_cons] at this
      omega
    have hstk2 : st.map (zv B) = (r.map (zv B)).reverse ++ .ref y :: (st.drop b).map (zv B) := by
      rw [hstk, hAs]
      simp
    have cb2 := @cb (b - 1) idx v2 v3
    have cn2 := @cn (b - 1) idx v2 v3
    rw [hret] at cb2 cn2
    have hrun : va_Run p l e R s m args below meth c H locs cells slots mc ms (F0 m pc arr (st.map (zv B))) ((st.drop b).map (zv B)) (zQc B cA D L xs Q' (Value.ref y :: r.map (zv B)).toArray) (zA B) := by
      split at v5
      · exact va_runI hfix hMt ⟨cb2 (hts _ (zmlink hM v5)), v6, hts _ (zinst_in hN v4).1⟩ hpre rfl hlen rfl hstk2 (room8 rfl h3) hdg hroom
      · exact va_runIN hfix hMt ⟨cn2 (of_decide_eq_true v5), v6, hts _ (zinst_in hN v4).1⟩ hpre rfl hlen rfl hstk2 (room8 rfl h3) hdg hroom
    exact zcont hS hrun fun r σ1 H1 locs1 q1 q2 q3 q4 => by rw [← List.map_append]; exact k r σ1 H1 locs1 q1 q2 q3 q4
  | _ => exact absurd (zheap_call h0) (by simp)
end ZCL
