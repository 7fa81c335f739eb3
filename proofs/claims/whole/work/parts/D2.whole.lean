/-! THE CLAIM OUT OF ONE WALK OF THE LAW'S BODY. Your part is whole_start (and what it stands on); all else here is the same for every law, but numbers. -/
def R_law : String := "LordsRoadLaw"
def lw_P (b : Addr) (xs : List Int32) (args : Array Value) (s : State) : Prop := args = #[.ref b] ∧ s.IntsAt b xs ∧ xs.length ≤ 3584 ∧ (Jvm.Cond.and given_1 narrow_1).before args s = true
def lw_Q (_ : Array Value) (s : State) (o : Outcome) (t : State) : Prop := o = .returned (some (.int 1)) ∧ Framed s o t [] 601024 7293034
def lw_Z (below : List Frame) (a : Array Value) (s : State) : State → Prop := fun t => ∃ o, t.status = .running ∧ Ended t below o ∧ lw_Q a s o t
/-- the law's own end, with 1 on the stack, nothing written that was there before, its room as the claim has it -/
theorem lw_ret {p : Program} {l : Launch} {e : Env} {s : State} {m : MethodId} {below : List Frame} {meth : Method} {c : Code} {b : Nat} (hx : p.tables.exec = Jvm.exec) (hb : c.code = code) (hr : meth.sig.returnType = ret) (hlocks : meth.locks = false) {pc : Nat} {H : Heap} {ls : Array Slot} (hdg : decode code pc = .ok (.ireturn, 1)) : W p l e room_1 s m #[Value.ref b] below meth c H [] 601024 7293034 (lw_Z below #[Value.ref b] s) (F0 m pc ls [.int 1]) := by
  intro T hT X
  obtain ⟨fs, hret, hrun, hended, hW, hframe⟩ := X.leave (v := some (.int 1)) (hlocks := hlocks) (fun h => by rw [hr] at h; cases h)
  have hmeth' : T.vm.method? m = some meth := X.method'
  refine ⟨T.setFrames fs, ?_, .returned (some (.int 1)), hrun, hended, rfl, ⟨_, rfl⟩, hW, hframe⟩
  jvm_step X.here [X.here.top, hx, hb, hdg, hmeth', hr, ret, narrow_b1]
  (try refine ⟨rfl, ?_⟩); (try refine ⟨rfl, ?_⟩)
  first | (intro acts; rw [hret _ acts rfl rfl rfl]) | rw [hret _ _ rfl rfl rfl]
  exact Steps.refl _
/-- what holds at the law's entry: the machine, the code, the tables' words (any of lw_tbl by 'hts w (by decide +kernel)'), the script of L ints xs at the cell b, what the Statement gives of the start (any of its parts by flat_of_before) -/
def lw_At (p : Program) (s : State) (m : MethodId) (meth : Method) (c : Code) (b L : Nat) (xs : Nat → Int32) : Prop :=
  p.tables.exec = Jvm.exec ∧ c.code = code ∧ meth.sig.returnType = ret ∧ c.maxLocals = 7 ∧ s.vm.findClass R_law = some m.cls ∧ (∀ w ∈ lw_tbl, w.before #[Value.ref b] s = true) ∧ va_X b L xs s s.heap ∧ b < s.heap.size ∧ meth.locks = false ∧ (Jvm.Cond.and given_1 narrow_1).before #[Value.ref b] s = true ∧ meth.name = "law"
theorem lw_off {l : Launch} (h : l.flags = flags0) : l.stackTraces = false := by
  unfold Launch.stackTraces
  rw [h]
  decide +kernel
set_option maxRecDepth 100000 in
theorem z211 : zmi 211 = (yL_law, cL_law, 7, some .boolean) := rfl
theorem z211_i : zini 211 [zR 90 0] = [zR 90 0, zU, zU, zU, zU, zU, zU] ∧ (zinl [zR 90 0]).length ≤ (zmi 211).2.2.1 := by decide +kernel
theorem z211_r : zfr 211 ≤ 13 ∧ zlo 211 ≤ 486 ∧ zss 147 ≤ 100000 := by decide +kernel
theorem z211_c {B : zB} {cA : Nat → ClassId} {D : va_G} {p : Program} {s : State} {m : MethodId} {args : Array Value} {meth : Method} {c : Code} (hx : p.tables.exec = Jvm.exec) (hb : c.code = code) (hml : c.maxLocals = 7) (hown : s.vm.findClass R_law = some m.cls) (hts : ∀ w ∈ lw_tbl, w.before args s = true) (hr : meth.sig.returnType = ret) (hlocks : meth.locks = false) (hnm : meth.name = "law") (hB : B.1 ≤ s.heap.size) (hU : zUd B cA D s) : zCx B cA D p s m args meth c 211 := by
  unfold zCx
  rw [z211]
  exact ⟨hx, hb, hml, hown, fun w hw => hts w (List.mem_filter.mp hw).1, hr, hlocks, hnm, hB, hU⟩
/-- the law, from its entry -/
theorem whole_start {p : Program} {e : Env} {s : State} {m : MethodId} {below : List Frame} {meth : Method} {c : Code} (l : Launch) (hl : l.stackTraces = false) {b L : Nat} {xs : Nat → Int32} (hL : L ≤ 3584) (C0 : lw_At p s m meth c b L xs) : W p l e room_1 s m #[Value.ref b] below meth c s.heap [] 0 0 (lw_Z below #[Value.ref b] s) (entryFrame m ([Value.ref b] : List Value).toArray 7) := by
  obtain ⟨hx, hb, hr, hml, hown, hts, hX, hbl, hlocks, hgv, hnm⟩ := id C0
  obtain ⟨cA, D, hK⟩ := en_K hts
  obtain ⟨bs, adV, hT1, hT2⟩ := en_txt (A := fun q => s.heap.size ≤ q) hts hgv fun a h z => Nat.not_le.mpr h z
  have hU : zUd (s.heap.size, b, bs) cA D s := en_U hts hK hT2
  have X : zCx (s.heap.size, b, bs) cA D p s m #[Value.ref b] meth c 211 := z211_c hx hb hml hown hts hr hlocks hnm (Nat.le_refl _) hU
  obtain ⟨S, hS⟩ : ∃ S : Int → Int, S = fun j => if j = -1 then (L : Int) else (xs j.toNat).toInt := ⟨_, rfl⟩
  have hS1 : S (-1) = (L : Int) := by rw [hS]; exact if_pos rfl
  have hS2 : ∀ j : Nat, j < L → S j = (xs j).toInt := fun j hj => by
    rw [hS]
    show (if (j : Int) = -1 then (L : Int) else (xs (j : Int).toNat).toInt) = _
    rw [if_neg (by omega), Int.toNat_natCast]
  have hSC : SCR (l, (s.heap.size, b, bs), cA, D, L, xs) S := ⟨hS1, hS2⟩
  obtain ⟨r1, r2, r3⟩ := z211_r
  have hZ : ∀ n, n ≤ 600 → ∀ (pc : Nat) (H : Heap) (locs : List Loc) (arr : Array Slot), decode (zmi 211).2.1 pc = .ok (.ireturn, 1) → va_S (zA (s.heap.size, b, bs)) s.heap H locs → W p l e room_1 s m #[Value.ref b] below meth c H locs (147 + n) (zss 147 + 16 * n) (lw_Z below #[Value.ref b] s) (F0 m pc arr [.int 1]) := by
    intro n hn pc H locs arr hd hSS
    rw [z211] at hd
    refine va_forget (fun q hq => hSS.2.2 q hq) ?_
    refine W.widen (k := 601024) (n := 7293034) (by omega) (by omega) ?_
    exact lw_ret hx hb hr hlocks hd
  have HJ : ∀ n, n ≤ 600 → zJ (l, (s.heap.size, b, bs), cA, D, L, xs) 211 (zLw (l, (s.heap.size, b, bs), cA, D, L, xs) p e s m #[Value.ref b] below meth c room_1 (lw_Z below #[Value.ref b] s) n) (fun r _ => r = [zI 1]) := fun n hn => zLw_J X ⟨r1, r2⟩ ⟨by show 147 + n ≤ 601024; omega, by show zss 147 + 16 * n ≤ 7293034; omega⟩ (hZ n hn)
  have HL : ∀ n, n < 600 → ZLk (zLw (l, (s.heap.size, b, bs), cA, D, L, xs) p e s m #[Value.ref b] below meth c room_1 (lw_Z below #[Value.ref b] s) n) (zLw (l, (s.heap.size, b, bs), cA, D, L, xs) p e s m #[Value.ref b] below meth c room_1 (lw_Z below #[Value.ref b] s) (n + 1)) := fun n hn => zLw_L hl X (en_T hts hgv) ⟨by decide, by decide⟩ ⟨by show 147 + (n + 1) ≤ 601024; omega, by show zss 147 + 16 * (n + 1) ≤ 7293034; omega⟩
  have loop := l_loop (Ω := (l, (s.heap.size, b, bs), cA, D, L, xs)) (WB_of en_P) hSC (by omega) HJ HL (fun _ => rfl) 512 0 0 _ (VI_m0 S) (Int.le_refl 0) (by decide) (by omega) (by decide)
  have st := l_start (Ω := (l, (s.heap.size, b, bs), cA, D, L, xs)) X rfl ⟨r1, r2⟩ ⟨by show 147 ≤ 601024; decide, by show zss 147 ≤ 7293034; omega⟩ S loop
  have hlv := zini_lv (B := (s.heap.size, b, bs)) (N := 211) (av := [zR 90 0]) z211_i.2
  rw [z211_i.1] at hlv
  have hW : zWd (s.heap.size, b, bs) cA D L xs s s.heap (0, zn0, zmx zn0 S) := by
    refine ⟨fun k q hq => absurd (zws_inv hq).1 (Nat.not_lt_zero _), fun x hx => absurd hx (Nat.not_lt_zero _), Nat.zero_le _, en_X hts hgv hX hT1, hbl, ?_, fun j hj => ?_, by omega⟩
    · show (L : Int) = if (-2 : Int) = -2 then S (-1) else zn0 (-2) (-1)
      rw [if_pos rfl]
      exact hS1.symm
    · show (xs j).toInt = if (-2 : Int) = -2 then S j else zn0 (-2) j
      rw [if_pos rfl]
      exact (hS2 j hj).symm
  have hls : zoks 0 [zR 90 0, zU, zU, zU, zU, zU, zU] := zoks_cons (Or.inl rfl) (zoks_cons trivial (zoks_cons trivial (zoks_cons trivial (zoks_cons trivial (zoks_cons trivial (zoks_cons trivial fun v hv => by cases hv))))))
  have fin := st s.heap [] _ hW va_S.rf hlv hls (fun v hv => by cases hv)
  have e0 : zss 0 = 0 := rfl
  rw [lg_entry_eq]
  have fin : W p l e room_1 s m #[Value.ref b] below meth c s.heap [] 0 (zss 0) (lw_Z below #[Value.ref b] s) (F0 m 0 ((lg_sl [Value.ref b] ++ List.replicate ((zmi 211).2.2.1 - (lg_sl [Value.ref b]).length) Slot.unset).toArray) []) := fin
  rw [e0, z211] at fin
  exact fin
set_option maxHeartbeats 4000000 in
theorem lw_walk (l : Launch) (hl : l.stackTraces = false) (b : Addr) (xs : List Int32) : MetFree l x (headSpec (Jvm.Cond.code x code maxLocals ret :: tables_1) room_1) (lw_P b xs) (fun _ _ _ _ _ => True) lw_Q := by
  refine MetFree.of_bodyS (code := code) (maxLocals := maxLocals) (ret := ret) (by decide) ?_ ?_
  · intro args s m h hn
    obtain ⟨meth, c, h1, h2, h3, h4, h5, h6, -, -⟩ := Cond.code_spec hn (atoms_spec (ws := Jvm.Cond.code x code maxLocals ret :: tables_1) h _ List.mem_cons_self)
    exact ⟨meth, c, h1, h2, h3, h4, h5, h6⟩
  · intro p e s m args below meth c s₁ B hml0 hP _
    obtain ⟨rfl, hx, hbd, hgv⟩ := hP
    obtain ⟨scr, harrAt, hlist, hof, hsmall⟩ := hx
    obtain ⟨hcb, hkn, -, -⟩ := State.arrayAt?_spec harrAt
    have hown : s.vm.findClass R_law = some m.cls := findClass_of_methodNamed B.named
    have hts0 : ∀ c ∈ (Jvm.Cond.code x code maxLocals ret :: tables_1), c.before #[Value.ref b] s = true := atoms_spec (ws := Jvm.Cond.code x code maxLocals ret :: tables_1) B.pre
    have hts : ∀ w ∈ lw_tbl, w.before #[Value.ref b] s = true := k2_hts_sels lw_privs (fun w hw => hts0 w (List.mem_cons_of_mem _ hw)) lw_privs_ok
    have hml : c.maxLocals = 7 := B.maxLocals_eq (hts0 _ List.mem_cons_self)
    have X₀ : Stand p l e room_1 s m #[Value.ref b] below meth c s₁ [] 0 0 := Stand.of_body B
    have hh0 : s₁.heap = s.heap := by rw [B.state]; rfl
    have hsz : scr.slots.size = xs.length := by rw [← Array.length_toList, hlist, List.length_map]
    have hval : ∀ j : Nat, j < xs.length → scr.slots[j]? = some (.int (xs.getD j 0)) := fun j hj => by
      rw [← Array.getElem?_toList, hlist]
      simp [hj]
    have hbl : b < s.heap.size := (Array.getElem?_eq_some_iff.mp hcb).1
    have hX : va_X b xs.length (fun j => xs.getD j 0) s s.heap := ⟨scr, hcb, hof, hkn, hsz, hval⟩
    have K : W p l e room_1 s m #[Value.ref b] below meth c s₁.heap [] 0 0 (lw_Z below #[Value.ref b] s) (entryFrame m ([Value.ref b] : List Value).toArray 7) := by
      rw [hh0]
      exact whole_start l hl hbd ⟨B.exec, B.bytes, B.returns, hml, hown, hts, hX, hbl, B.notSynchronized, hgv, (name_of_methodNamed B.named B.method).1⟩
    obtain ⟨t, a1, o, b1, b2, b3⟩ := K s₁ rfl X₀
    exact ⟨t, o, a1, b1, b2, b3⟩
theorem lw_pre_spec {args : Array Value} {s : State} (h : (Jvm.Cond.and given_1 narrow_1).before args s = true) (hr : rest_1_c.before args s = true) : ∃ (b : Addr) (xs : List Int32), lw_P b xs args s := by
  have hs := flat_of_before _ h
  have hq := flat_of_before _ hr
  have hc : (Cond.count 1).before args s = true := hs _ (by decide +kernel)
  have harr : (Cond.arrayOf (.arg 0) .int).before args s = true := hs _ (by decide +kernel)
  have hle : (Cond.le (.length (.arg 0)) (.int 3584)).before args s = true := hs _ (by decide +kernel)
  have hlen : (Cond.isInt (.length (.arg 0))).before args s = true := hq _ (by decide +kernel)
  have hall : (Cond.all (.arg 0) (.isInt (.elem (.arg 0) (.index 0)))).before args s = true := hq _ (by decide +kernel)
  obtain ⟨b, xs, hb, hx⟩ := State.ints_of_pre rfl harr hlen hall
  have hsm : xs.length < 2 ^ 31 := hx.choose_spec.2.2.2
  have hev : (Term.length (.arg 0)).eval args s none [] s = some (.int xs.length.toInt32) := hx.length_eval hb
  have hv := Cond.le_ints hev (show (Term.int 3584).eval args s none [] s = some (.int 3584) from rfl)
  have hd : xs.length.toInt32 ≤ 3584 := by
    simpa [Cond.before, Cond.holds, hv] using hle
  have hN : xs.length ≤ 3584 := (Int32.ofNat_le_ofNat hsm (by decide)).mp (show Int32.ofNat xs.length ≤ Int32.ofNat 3584 from hd)
  exact ⟨b, xs, Cond.one_arg hc (show args[0]? = some (.ref b) from hb), hx, hN, h⟩
theorem lw_comes (l : Launch) (hl : l.stackTraces = false) : Comes l x (Jvm.Cond.code x code maxLocals ret :: tables_1) room_1 (fun tb e args s => Calls_1 tb e args s ∧ rest_1 tb e args s ∧ Pre_1 tb e args s)
    (fun _ _ args s o t => lw_Q args s o t) := by
  intro p e ha hc hk s m args below hf hfit hheap happ hpre
  obtain ⟨b, xs, hP⟩ := lw_pre_spec hpre.2.2 hpre.2.1
  obtain ⟨k, o, h1, h2, h3, hQ⟩ := lw_walk l hl b xs p e ha hc hk s m args below hf ((Spec.applies_iff_loose hf).mp happ).1 hP trivial
  exact ⟨k, o, h1, h2, h3, hQ⟩
theorem lw_frame {s t : State} {o : Outcome} {args : Array Value} (h : Framed s o t [] 601024 7293034) :
    Framed s o t (fieldLocs frame_1_writes args s ++ arrayLocs frame_1_arrays args s ++ staticLocs frame_1_statics s) 601024 7293034 := h
theorem lw_limb (L : Cond) (hL : ∀ (args : Array Value) (s t : State), L.after args s (.returned (some (.int 1))) t = true) :
    ArmFor flags0 classFile x code maxLocals ret World_1 tables_1 room_1 Calls_1 rest_1 Pre_1
      (fun tb e a s o t => postC L tb e a s o t ∧ Framed s o t (fieldLocs frame_1_writes a s ++ arrayLocs frame_1_arrays a s ++ staticLocs frame_1_statics s) 601024 7293034) := by
  intro l hfl _ _ p e ha hc hk s m args below hf hfit hheap happ hpre
  obtain ⟨k, o, h1, h2, h3, rfl, hF⟩ := lw_comes l (lw_off hfl) p e ha hc hk s m args below hf hfit hheap happ hpre
  exact ⟨k, _, h1, h2, h3, hL args s _, lw_frame hF⟩
theorem i_vc : Claimed_1_1 ∧ Claimed_1_2 := ⟨lw_limb limb_1_1 (fun args s t => by simp [limb_1_1, Cond.after, Cond.holds, Cond.value]), lw_limb limb_1_2 (fun args s t => Cond.after_iff.mpr (by
  first | (rw [show limb_1_2 = Cond.eq .result (.int 1) from rfl, Cond.eq_ints (x := 1) (y := 1) rfl rfl]; simp; done) | (simp [limb_1_2, Cond.value, Term.eval]; done)))⟩
