/-! the law's own look -/
section LKC
variable {l : Launch} {B : zB} {cA : Nat → ClassId} {D : va_G} {L : Nat} {xs : Nat → Int32} {m : zM} {a b : Int}
theorem l_i2l {v : Int} (h : zri v) : (Int32.ofInt v).toInt64 = Int64.ofInt v := by
  apply Int64.toInt_inj.mp
  rw [Int32.toInt_toInt64, zi_toInt h, zl_toInt (by unfold zri at h; unfold zrl; omega)]
def lws : List Cond := .codeWith yL_look cL_look 5 (some .int) lhh :: zT
theorem ll_Met (hl : l.stackTraces = false) (ha : zri a) (hb : zri b) (h12 : lkH m) : Met l yL_look lws lRm2 (lPc B cA D L xs [zR 9 0, zI a, zI b, zR 35 147] (147, zr0, m)) (zQc B cA D L xs (lR m a b)) 1 16 (zA B) := by
  refine va_MetW (cc := cL_look) (maxL := 5) (ret := some .int) (hh := lhh) (by decide) rfl ?_
  intro p e s mi args below meth c s₁ Bd hml hv
  obtain ⟨⟨rfl, hW, hU, hB, hsz⟩, hT⟩ := hv
  have hts : ∀ w ∈ zT, w.before ([zR 9 0, zI a, zI b, zR 35 147].map (zv B)).toArray s = true := fun w hw => atoms_spec (ws := lws) Bd.pre w (List.mem_cons_of_mem _ hw)
  have hown : s.vm.findClass RL = some mi.cls := findClass_of_methodNamed Bd.named
  have htab : c.exceptionTable.toList = tableOf lhh := vx_table (x := yL_look) Bd (hts _ (kw 20 rfl))
  have hx := Bd.exec
  have hcc := Bd.bytes
  have hr := Bd.returns
  have hlk := Bd.notSynchronized
  have hK := hU.1
  have k35 : zok 147 (zR 35 147) := Or.inr (Or.inr ⟨by decide, by decide, lz_k.2.2.2⟩)
  refine jentry (n := 5) (by rw [zinl_len]; show 4 ≤ 5; decide) fun arr hlv => ?_
  have q0 : arr[0]? = some (.val (.ref (B.1 + 0))) := lv_at hlv 0 rfl
  have q1 : arr[1]? = some (.val (.int (Int32.ofInt a))) := lv_at hlv 1 rfl
  have q2 : arr[2]? = some (.val (.int (Int32.ofInt b))) := lv_at hlv 2 rfl
  have q3 : arr[3]? = some (.val (.ref (B.1 + 146))) := lv_at hlv 3 rfl
  refine lv_aload_n (k := 3) hx hcc (by decide +kernel) rfl q3 ?_
  refine lv_iconst (n := 0) (v := Int32.ofInt 0) hx hcc (by decide +kernel) rfl ?_
  refine lv_aload_n (k := 0) hx hcc (by decide +kernel) rfl q0 ?_
  refine lv_iload_n (k := 1) hx hcc (by decide +kernel) rfl q1 ?_
  refine lv_iload_n (k := 2) hx hcc (by decide +kernel) rfl q2 ?_
  refine lcont (m := m) (a := a) (b := b) (Q' := lQ m a b) va_S.rf (vx_runV (b := B.1 + 0) (As := [.int (Int32.ofInt a), .int (Int32.ofInt b)]) (rest := [.int (Int32.ofInt 0), .ref (B.1 + 146)]) (C := RX9) (n := 2) ⟨hx, hcc, hml.trans hlv.1.symm, hown, hts⟩ (lk_Met (B := B) (cA := cA) (D := D) (L := L) (xs := xs) hl ha hb h12) ⟨lCB hts (kw 13 rfl) (kw 17 rfl) (kw 14 rfl) (by decide) rfl rfl ⟨by decide, by decide⟩, hts _ (kw 15 rfl), hts _ (kw 16 rfl)⟩ ⟨lPc_blind, zrecv (X := 0) (t := 9) hK hW (by show zrho 0 < 147; decide) lz_k.1 (by decide), lPc_at (av := [zR 9 0, zI a, zI b]) hB hU va_S.rf hW hT⟩ rfl rfl rfl rfl (lv_room (Nat.le_of_ble_eq_true rfl)) (show decode cL_look 5 = .ok (.invokevirtual 7, 3) by decide +kernel) ⟨by decide, by decide⟩) ?_ ?_
  · intro E ce q H1 locs1 hE hW1 hS1 hce hcv hcl
    rcases hE with ⟨hin, rfl⟩ | ⟨hin, hb5, rfl⟩
    · refine vx_catch (own := RL) (name := eI) hown [] ⟨0, 10, 13, 13⟩ [⟨0, 10, 17, 15⟩] htab (fun z hz => by cases hz) (by decide) (by decide) (hts _ (kw 18 rfl)) (va_Nw.use rfl hT.2.2.2.2.1) hce hcv hcl ?_
      refine lv_astore (i := 4) hx hcc (by decide +kernel) hlv (by decide) rfl fun arr' hlv' => ?_
      refine lv_iconst (n := 1) (v := Int32.ofInt 1) hx hcc (by decide +kernel) rfl ?_
      exact W.iret hx hcc hr (zQ_at (r := [zI 1]) (Nat.le_refl 1) (Or.inl ⟨hin, rfl, rfl⟩) (zoks_cons (by show zri 1; unfold zri; omega) (fun v hv => by cases hv)) hW1 hS1 rfl) hS1.2.2 (by decide +kernel) hlk
    · refine vx_catch (own := RL) (name := eN) hown [⟨0, 10, 13, 13⟩] ⟨0, 10, 17, 15⟩ [] htab (fun z hz => ?_) (by decide) (by decide) (hts _ (kw 19 rfl)) (va_Nw.use rfl hT.2.2.2.2.2.1) hce hcv hcl ?_
      · rcases List.mem_cons.mp hz with rfl | hz
        · exact Or.inr ⟨by decide, eI, hts _ (kw 18 rfl), hT.2.2.2.2.2.2.1⟩
        · cases hz
      refine lv_astore (i := 4) hx hcc (by decide +kernel) hlv (by decide) rfl fun arr' hlv' => ?_
      refine lv_iconst (n := 2) (v := Int32.ofInt 2) hx hcc (by decide +kernel) rfl ?_
      exact W.iret hx hcc hr (zQ_at (r := [zI 2]) (Nat.le_refl 1) (Or.inr (Or.inl ⟨hin, hb5, rfl, rfl⟩)) (zoks_cons (by show zri 2; unfold zri; omega) (fun v hv => by cases hv)) hW1 hS1 rfl) hS1.2.2 (by decide +kernel) hlk
  · intro r σ' H1 locs1 hQ hok hW1 hS1
    obtain ⟨rfl, hin, hb5, rfl⟩ := hQ
    have hz : zri (lkv m a b) := hok _ (List.mem_cons_self)
    refine lv_i2l hx hcc (by decide +kernel) (l_i2l hz) ?_
    refine zh_last (σ := (147, zr0, m)) (t := 35) (x := 147) (i := 0) (v := lkv m a b) hx hcc hB hK hW1 hS1 (by decide +kernel) k35 (by unfold zri at hz; unfold zrl; omega) (by decide +kernel) fun H2 locs2 hW2 hS2 => ?_
    refine lv_goto (off := 11) (tgt := 21) hx hcc (by decide +kernel) (by decide) ?_
    refine lv_iconst (n := 0) (v := Int32.ofInt 0) hx hcc (by decide +kernel) rfl ?_
    exact W.iret hx hcc hr (zQ_at (r := [zI 0]) (Nat.le_refl 1) (Or.inr (Or.inr ⟨hin, hb5, rfl, rfl⟩)) (zoks_cons (by show zri 0; unfold zri; omega) (fun v hv => by cases hv)) hW2 hS2 rfl) hS2.2.2 (by decide +kernel) hlk
end LKC
/-! the law's call of it, at its pc 1103 -/
theorem ld1103 : decode (zmi 211).2.1 1103 = .ok (.invokestatic 116, 3) := by decide +kernel
theorem lc207 : (zmi 211).1.cls = RL := by decide +kernel
section LKD
variable {p : Program} {l : Launch} {e : Env} {R : Room} {s : State} {mi : MethodId} {args : Array Value} {below : List Frame} {meth : Method} {c : Code} {H : Heap} {locs : List Loc} {cells slots : Nat} {Q : State → Prop}
variable {B : zB} {cA : Nat → ClassId} {D : va_G} {L : Nat} {xs : Nat → Int32} {m : zM} {a b : Int}
theorem ll_call {arr : Array Slot} {ls : List zV} (hl : l.stackTraces = false) (ha : zri a) (hb : zri b) (h12 : lkH m) (X : zCx B cA D p s mi args meth c 211) (hT : zTh B s s.heap) (hfr : 8 ≤ R.frames ∧ 160 ≤ R.locals) (hW : zWd B cA D L xs s H (147, zr0, m)) (hS : va_S (zA B) s.heap H locs) (hlv : zlv B arr (zmi 211).2.2.1 ls) (hroom : cells + 1 ≤ R.cells ∧ slots + 16 ≤ R.slots)
    (k : ∀ r σ1 H1 locs1, lR m a b r σ1 → zoks σ1.1 r → zWd B cA D L xs s H1 σ1 → va_S (zA B) s.heap H1 locs1 → W p l e R s mi args below meth c H1 locs1 (cells + 1) (slots + 16) Q (F0 mi 1106 arr (r.map (zv B)))) : W p l e R s mi args below meth c H locs cells slots Q (F0 mi 1103 arr ([zR 35 147, zI b, zI a, zR 9 0].map (zv B))) := by
  obtain ⟨hx, hcc, hml, hown, hts, hr, hlocks, hin, hB, hU⟩ := X
  rw [lc207] at hown
  refine zcont (Q' := lR m a b) hS (vx_runSW (As := [zR 9 0, zI a, zI b, zR 35 147].map (zv B)) (rest := []) (n := 4) (hh := lhh) (y := yL_look) (own := RL) ⟨hx, hcc, hml.trans hlv.2.1.symm, hown, hts⟩ (ll_Met (B := B) (cA := cA) (D := D) (L := L) (xs := xs) hl ha hb h12) ⟨⟨rfl, rfl, hfr.1, Nat.le_trans (by decide) hfr.2, fun w hw a' U hWm => ?_, List.mem_cons_self⟩, hts _ (kw 20 rfl), hts _ (kw 23 rfl), by decide, fun sig h => ?_, hts _ (kw 21 rfl), hts _ (kw 22 rfl)⟩ ⟨lPc_blind, lPc_at hB hU hS hW hT⟩ rfl rfl rfl rfl (lv_room (by decide)) ld1103 hroom) fun r σ1 H1 locs1 q1 q2 q3 q4 => ?_
  · have hz : w ∈ zT := by
      rcases List.mem_cons.mp hw with q | q
      · rw [q]; exact kw 20 rfl
      · exact q
    exact word_at hWm (zT_good w hz).2 (hts w hz)
  · have h2 : (parseMethodDescriptor yL_look.desc).map (fun d => d.parameters.length) = some 4 := by decide
    rw [h] at h2
    exact (Option.some.inj h2).symm
  · rw [List.append_nil]
    exact k r σ1 H1 locs1 q1 q2 q3 q4
end LKD
