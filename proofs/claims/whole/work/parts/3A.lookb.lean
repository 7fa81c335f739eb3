/-! the two bodies -/
section LKB
variable {l : Launch} {B : zB} {cA : Nat → ClassId} {D : va_G} {L : Nat} {xs : Nat → Int32} {m : zM} {a b : Int}
theorem lk_Met (hl : l.stackTraces = false) (ha : zri a) (hb : zri b) (h12 : lkH m) : vx_Met l yX9_look (jws yX9_look cX9_look 4 (some .int)) lRm (lPc B cA D L xs [zR 9 0, zI a, zI b] (147, zr0, m)) (zQc B cA D L xs (lQ m a b)) (lXC B cA D L xs m a b) 1 16 (zA B) := by
  refine vx_ofW (cc := cX9_look) (maxL := 4) (ret := some .int) (by decide) rfl ?_
  intro p e s mi args below meth c s₁ Bd hml hxt hv
  obtain ⟨⟨rfl, hW, hU, hB, hsz⟩, hT⟩ := hv
  have hts : ∀ w ∈ zT, w.before ([zR 9 0, zI a, zI b].map (zv B)).toArray s = true := fun w hw => atoms_spec (ws := jws yX9_look cX9_look 4 (some .int)) Bd.pre w (List.mem_cons_of_mem _ hw)
  have hown : s.vm.findClass RX9 = some mi.cls := findClass_of_methodNamed Bd.named
  have hx := Bd.exec
  have hcc := Bd.bytes
  have hr := Bd.returns
  have hlk := Bd.notSynchronized
  have hK := hU.1
  refine jentry (n := 4) (by rw [zinl_len]; show 3 ≤ 4; decide) fun arr hlv => ?_
  have q0 : arr[0]? = some (.val (.ref (B.1 + 0))) := lv_at hlv 0 rfl
  have q1 : arr[1]? = some (.val (.int (Int32.ofInt a))) := lv_at hlv 1 rfl
  have q2 : arr[2]? = some (.val (.int (Int32.ofInt b))) := lv_at hlv 2 rfl
  have k9 : zok 147 (zR 9 0) := Or.inr (Or.inr ⟨by decide, by decide, lz_k.1⟩)
  have k4 : zok 147 (zR 4 1) := Or.inr (Or.inr ⟨by decide, by decide, lz_k.2.1⟩)
  have g9 : zget 2 4 (zr0 0 0) (m 0 0) = some (zR 4 1) := by rw [lz_0.1]; rfl
  refine lv_aload_n (k := 0) hx hcc (by decide +kernel) rfl q0 ?_
  refine zh_get (σ := (147, zr0, m)) (a := 9) (b := 0) (cs := 2) (ee := 4) (x := 0) (v := zR 4 1) hx hcc hts hown hK hW (by decide) (zin_all 9 (by decide)) (by decide +kernel) (by decide +kernel) (hts _ (kw 4 rfl)) (by decide +kernel) k9 g9 fun _ => ?_
  refine lv_iload_n (k := 1) hx hcc (by decide +kernel) rfl q1 ?_
  have hMt : Met l (zmi 45).1 (zwsM 45) (zroom 45 0 0) (zPc B cA D L xs [zR 4 1, zI a] (147, zr0, m)) (zQc B cA D L xs (fun r σ' => ∃ m', σ' = (147, zr0, m') ∧ m' = m ∧ r = [zI (if 0 ≤ a ∧ a < m 1 1 then 1 else 0)])) 0 0 (zA B) := by
    have := zMet (l := l) (Kend := 147) (N := 45) (av := [zR 4 1, zI a]) (σ := (147, zr0, m)) (by decide) (zoks_cons k4 (zoks_cons ha (fun v hv => by cases hv))) (by show 2 ≤ _; decide +kernel) (lk_has (Ω := (l, B, cA, D, L, xs)) (m := m) (a := a))
    rwa [Nat.sub_self, Nat.sub_self] at this
  refine zcont (va_S.rf) (va_runV (b := B.1 + 1) (As := [.int (Int32.ofInt a)]) (rest := []) (C := (zmi 45).1.cls) (n := 1) ⟨hx, hcc, hml.trans hlv.1.symm, hown, hts⟩ hMt ⟨⟨rfl, rfl, by show zfr 45 + 1 ≤ 6; decide +kernel, by show 8 + ((zmi 45).2.2.1 + 11) + zlo 45 ≤ 90; decide +kernel, zws_warm (by decide) hts, List.mem_cons_self, hts _ (zcode_in (by decide)), hts _ (zinit_in (by decide)), zcls_mh 45 (by decide), fun sig h => ?_, hts _ (kw 12 rfl)⟩, hts _ (kw 24 rfl), hts _ (kw 25 rfl)⟩ ⟨zPc_blind, zrecv (X := 1) (t := 4) hK hW (by show zrho 1 < 147; decide) lz_k.2.1 (by decide), zPc_at (av := [zR 4 1, zI a]) hB hU va_S.rf hW (fun h => absurd h (Nat.lt_irrefl 147))⟩ rfl rfl rfl rfl (lv_room (by decide)) (show decode cX9_look 5 = .ok (.invokevirtual 123, 3) by decide +kernel) ⟨by decide, by decide⟩) ?_
  · have h2 : znpar 45 = some 1 := by decide +kernel
    unfold znpar at h2
    rw [h] at h2
    exact (Option.some.inj h2).symm
  intro r σ1 H1 locs1 hQ hok hW1 hS1
  obtain ⟨m', rfl, rfl, rfl⟩ := hQ
  by_cases hin : 0 ≤ a ∧ a < m' 1 1
  · rw [if_pos hin]
    refine lv_if_ne (x := 1) (off := 14) (tgt := 22) hx hcc (by decide +kernel) (by decide) (fun _ => ?_) (fun z => absurd z (by decide))
    refine lv_aload_n (k := 0) hx hcc (by decide +kernel) rfl q0 ?_
    refine zh_get (σ := (147, zr0, m')) (a := 9) (b := 0) (cs := 2) (ee := 4) (x := 0) (v := zR 4 1) hx hcc hts hown hK hW1 (by decide) (zin_all 9 (by decide)) (by decide +kernel) (by decide +kernel) (hts _ (kw 4 rfl)) (by decide +kernel) k9 g9 fun _ => ?_
    refine lv_iload_n (k := 1) hx hcc (by decide +kernel) rfl q1 ?_
    have hMs : Met l (zmi 204).1 (zwsM 204) (zroom 204 0 0) (zPc B cA D L xs [zR 4 1, zI a] (147, zr0, m')) (zQc B cA D L xs (fun r σ' => ∃ m1, σ' = (147, zr0, m1) ∧ m1 = m' ∧ r = [zR 7 (3 + 2 * a)])) 0 0 (zA B) := by
      have := zMet (l := l) (Kend := 147) (N := 204) (av := [zR 4 1, zI a]) (σ := (147, zr0, m')) (by decide) (zoks_cons k4 (zoks_cons ha (fun v hv => by cases hv))) (by show 2 ≤ _; decide +kernel) (lk_st (Ω := (l, B, cA, D, L, xs)) (m := m') (a := a) hin h12.1)
      rwa [Nat.sub_self, Nat.sub_self] at this
    refine zcont hS1 (va_runV (b := B.1 + 1) (As := [.int (Int32.ofInt a)]) (rest := []) (C := (zmi 204).1.cls) (n := 1) ⟨hx, hcc, hml.trans hlv.1.symm, hown, hts⟩ hMs ⟨⟨rfl, rfl, by show zfr 204 + 1 ≤ 6; decide +kernel, by show 8 + ((zmi 204).2.2.1 + 11) + zlo 204 ≤ 90; decide +kernel, zws_warm (by decide) hts, List.mem_cons_self, hts _ (zcode_in (by decide)), hts _ (zinit_in (by decide)), zcls_mh 204 (by decide), fun sig h => ?_, hts _ (kw 5 rfl)⟩, hts _ (kw 27 rfl), hts _ (kw 28 rfl)⟩ ⟨zPc_blind, zrecv (X := 1) (t := 4) hK hW1 (by show zrho 1 < 147; decide) lz_k.2.1 (by decide), zPc_at (av := [zR 4 1, zI a]) hB hU hS1 hW1 (fun h => absurd h (Nat.lt_irrefl 147))⟩ rfl rfl rfl rfl (lv_room (by decide)) (show decode cX9_look 27 = .ok (.invokevirtual 131, 3) by decide +kernel) ⟨by decide, by decide⟩) ?_
    · have h2 : znpar 204 = some 1 := by decide +kernel
      unfold znpar at h2
      rw [h] at h2
      exact (Option.some.inj h2).symm
    intro r2 σ2 H2 locs2 hQ2 hok2 hW2 hS2
    obtain ⟨m2, rfl, e2, rfl⟩ := hQ2
    subst e2
    have k7 : zok 147 (zR 7 (3 + 2 * a)) := zoks_head hok2
    obtain ⟨X, hX, hX1, hX2⟩ := zok_ref (Nat.le_refl 147) k7 (by decide)
    show W p l e _ s mi _ below meth c H2 locs2 _ _ _ (F0 mi _ arr (zv B (zR 7 (3 + 2 * a)) :: []))
    rw [hX] at k7 ⊢
    rw [zv_ref (by decide)]
    refine lv_astore_n (k := 3) (x := B.1 + zrho X) hx hcc (by decide +kernel) rfl hlv (by decide) rfl fun arr' hlv' => ?_
    have r2 : arr'[2]? = some (.val (.int (Int32.ofInt b))) := lv_at hlv' 3 rfl
    have r3 : arr'[3]? = some (.val (.ref (B.1 + zrho X))) := lv_at hlv' 0 rfl
    refine lv_iload_n (k := 2) hx hcc (by decide +kernel) rfl r2 ?_
    have eb : (Int32.ofInt b).toInt = b := zi_toInt hb
    by_cases hb5 : 0 ≤ b ∧ b ≤ 5
    · have fin : ∀ (t : Nat) (v : Int), decode cX9_look t = .ok (.ireturn, 1) → zri v → lkv m2 a b = v → W p l e lRm s mi ([zR 9 0, zI a, zI b].map (zv B)).toArray below meth c H2 locs2 (0 + 0 + 0) (0 + 0 + 0) (vx_MQ below (zQc B cA D L xs (lQ m2 a b)) (lXC B cA D L xs m2 a b) ([zR 9 0, zI a, zI b].map (zv B)).toArray s 1 16 (zA B)) (F0 mi t arr' [.int (Int32.ofInt v)]) := fun t v hd hz hv =>
        W.widen (k := 1) (n := 16) (by decide) (by decide) (vx_ret (W.iret hx hcc hr (zQ_at (r := [zI v]) (Nat.le_refl 1) ⟨rfl, hin, hb5, by rw [hv]⟩ (zoks_cons hz (fun v hv => by cases hv)) hW2 hS2 rfl) hS2.2.2 hd hlk))
      have fld : ∀ (t idx j : Nat), decode cX9_look t = .ok (.aload_n 3, 1) → decode cX9_look (t + 1) = .ok (.getfield idx, 3) → decode cX9_look (t + 1 + 3) = .ok (.ireturn, 1) → zsk 7 j = (0, 0) → j < (zKd 7).2.1 → Cond.fieldLink RX9 idx ((zcs 7).2.1 j).1 ((zcs 7).2.1 j).2.1 ((zcs 7).2.1 j).2.2.1 ∈ zT → lkv m2 a b = m2 X j → W p l e lRm s mi ([zR 9 0, zI a, zI b].map (zv B)).toArray below meth c H2 locs2 (0 + 0 + 0) (0 + 0 + 0) (vx_MQ below (zQc B cA D L xs (lQ m2 a b)) (lXC B cA D L xs m2 a b) ([zR 9 0, zI a, zI b].map (zv B)).toArray s 1 16 (zA B)) (F0 mi t arr' []) := fun t idx j d1 d2 d3 hs hj hw hv => by
        refine lv_aload_n (k := 3) hx hcc d1 rfl r3 ?_
        rw [← zv_ref (t := 7) (by decide)]
        exact zh_get (σ := (147, zr0, m2)) (a := 7) (b := j) (cs := 0) (ee := 0) (x := X) (v := zI (m2 X j)) hx hcc hts hown hK hW2 (by decide) (zin_all 7 (by decide)) hj hs (hts _ hw) d2 k7 rfl fun hz => fin _ _ d3 hz hv
      have hc : b = 0 ∨ b = 1 ∨ b = 2 ∨ b = 3 ∨ b = 4 ∨ b = 5 := by omega
      rcases hc with rfl | rfl | rfl | rfl | rfl | rfl
      · refine lv_tableIn (dflt := 81) (lo := 0) (hi := 5) (offs := #[40, 48, 53, 58, 63, 68]) (len := 40) (off := 40) (tgt := 72) hx hcc (by decide +kernel) (by decide) (by decide) (by decide) (by decide) ?_
        have hn0 : 0 ≤ m2 X 1 := by rw [← hX]; exact h12.2 a hin.1 hin.2
        refine lv_aload_n (k := 3) hx hcc (by decide +kernel) rfl r3 ?_
        rw [← zv_ref (t := 7) (by decide)]
        refine zh_get (σ := (147, zr0, m2)) (a := 7) (b := 1) (cs := 5) (ee := 7) (x := X) (v := zR 7 (3 + 2 * m2 X 1)) hx hcc hts hown hK hW2 (by decide) (zin_all 7 (by decide)) (by decide +kernel) (by decide +kernel) (hts _ (kw 6 rfl)) (by decide +kernel) k7 (by show zg (decide (0 ≤ m2 X 1)) _ = _; rw [decide_eq_true hn0]; rfl) fun k8 => ?_
        have k8 : zok 147 (zR 7 (3 + 2 * m2 X 1)) := k8
        obtain ⟨Y, hY, hY1, hY2⟩ := zok_ref (Nat.le_refl 147) k8 (by decide)
        rw [hY] at k8 ⊢
        refine zh_get (σ := (147, zr0, m2)) (a := 7) (b := 11) (cs := 6) (ee := 0) (x := Y) (v := zI (zr0 Y 11)) hx hcc hts hown hK hW2 (by decide) (zin_all 7 (by decide)) (by decide +kernel) (by decide +kernel) (hts _ (kw 26 rfl)) (by decide +kernel) k8 rfl fun hz => fin _ _ (by decide +kernel) hz ?_
        have e9 := zr0_f (X := Y) (t := 7) (j := 11) hY2 (by decide +kernel) (by decide +kernel)
        have e9 : zr0 (Y : Int) 11 = ((Y : Int) - 3) / 2 := e9
        rw [e9]
        have e8 : lkv m2 a 0 = m2 X 1 := by rw [← hX]; rfl
        rw [e8]
        omega
      · exact lv_tableIn (dflt := 81) (lo := 0) (hi := 5) (offs := #[40, 48, 53, 58, 63, 68]) (len := 40) (off := 48) (tgt := 80) hx hcc (by decide +kernel) (by decide) (by decide) (by decide) (by decide) (fld 80 140 2 (by decide +kernel) (by decide +kernel) (by decide +kernel) (by decide +kernel) (by decide +kernel) (kw 7 rfl) (by rw [← hX]; rfl))
      · exact lv_tableIn (dflt := 81) (lo := 0) (hi := 5) (offs := #[40, 48, 53, 58, 63, 68]) (len := 40) (off := 53) (tgt := 85) hx hcc (by decide +kernel) (by decide) (by decide) (by decide) (by decide) (fld 85 143 3 (by decide +kernel) (by decide +kernel) (by decide +kernel) (by decide +kernel) (by decide +kernel) (kw 8 rfl) (by rw [← hX]; rfl))
      · exact lv_tableIn (dflt := 81) (lo := 0) (hi := 5) (offs := #[40, 48, 53, 58, 63, 68]) (len := 40) (off := 58) (tgt := 90) hx hcc (by decide +kernel) (by decide) (by decide) (by decide) (by decide) (fld 90 146 4 (by decide +kernel) (by decide +kernel) (by decide +kernel) (by decide +kernel) (by decide +kernel) (kw 9 rfl) (by rw [← hX]; rfl))
      · exact lv_tableIn (dflt := 81) (lo := 0) (hi := 5) (offs := #[40, 48, 53, 58, 63, 68]) (len := 40) (off := 63) (tgt := 95) hx hcc (by decide +kernel) (by decide) (by decide) (by decide) (by decide) (fld 95 149 5 (by decide +kernel) (by decide +kernel) (by decide +kernel) (by decide +kernel) (by decide +kernel) (kw 10 rfl) (by rw [← hX]; rfl))
      · refine lv_tableIn (dflt := 81) (lo := 0) (hi := 5) (offs := #[40, 48, 53, 58, 63, 68]) (len := 40) (off := 68) (tgt := 100) hx hcc (by decide +kernel) (by decide) (by decide) (by decide) (by decide) ?_
        refine lv_aload_n (k := 3) hx hcc (by decide +kernel) rfl r3 ?_
        rw [← zv_ref (t := 7) (by decide)]
        refine zh_get (σ := (147, zr0, m2)) (a := 7) (b := 6) (cs := 3) (ee := 0) (x := X) (v := zI (m2 X 6)) hx hcc hts hown hK hW2 (by decide) (zin_all 7 (by decide)) (by decide +kernel) (by decide +kernel) (hts _ (kw 11 rfl)) (by decide +kernel) k7 rfl fun hz => ?_
        have hv : lkv m2 a 5 = if m2 X 6 = 0 then 0 else 1 := by rw [← hX]; rfl
        refine lv_if_eq (off := 7) (tgt := 111) hx hcc (by decide +kernel) (by decide) (fun z => ?_) (fun z => ?_)
        · refine lv_iconst (n := 0) hx hcc (by decide +kernel) rfl ?_
          exact fin _ 0 (by decide +kernel) (by unfold zri; omega) (by rw [hv, if_pos ((l_of0 hz).mp z)])
        · refine lv_iconst (n := 1) hx hcc (by decide +kernel) rfl ?_
          refine lv_goto (off := 4) (tgt := 112) hx hcc (by decide +kernel) (by decide) ?_
          exact fin _ 1 (by decide +kernel) (by unfold zri; omega) (by rw [hv, if_neg (fun q => z ((l_of0 hz).mpr q))])
    · refine lv_tableOut (dflt := 81) (lo := 0) (hi := 5) (offs := #[40, 48, 53, 58, 63, 68]) (len := 40) (tgt := 113) hx hcc (by decide +kernel) (by rw [eb]; omega) (by decide) ?_
      obtain ⟨sb, hsb⟩ := hT.2.2.2.1
      refine vy_throw (cls := eN) (names := eS) (ik := 312) (is := 314) (ic := 316) (ix := 13) (rx := eR) (own := RX9) (A := zA B) hx hcc hl (by decide +kernel) (by decide +kernel) (by decide +kernel) (by decide +kernel) hown (by decide) (by decide) (hts _ (kw 2 rfl)) (hts _ (kw 3 rfl)) hsb (fun w hw => ?_) atN_o hT.1 hT.2.1 hS2 (hlv'.1.trans hml.symm) (by decide +kernel) (by decide +kernel) (by decide +kernel) (by decide +kernel) (by decide +kernel) (fun x hx => (hxt x hx).elim) (by decide) (by decide) (by decide) (by decide) hlk (lXC_at (Or.inr ⟨hin, hb5, rfl⟩) hW2 hS2) hS2.2.2 (by decide) (by decide)
      rcases atN_g w hw with q | q | q
      · rw [q]; exact va_Nw.use rfl hT.2.2.2.2.2.1
      · obtain ⟨y, hy, rfl⟩ := List.mem_map.mp q
        exact va_Nw.use rfl (hT.2.2.2.2.2.2.2 y hy)
      · exact hts w (zT_of q.1 q.2)
  · rw [if_neg hin]
    refine lv_if_ne (x := 0) (off := 14) (tgt := 22) hx hcc (by decide +kernel) (by decide) (fun z => absurd rfl z) (fun _ => ?_)
    obtain ⟨sa, hsa⟩ := hT.2.2.1
    show W p l e _ s mi _ below meth c H1 locs1 _ _ _ (F0 mi _ arr [])
    refine vx_throwSW (cls := eI) (names := eS) (ik := 302) (is := 304) (ic := 306) (own := RX9) (A := zA B) hx hcc hl hown (by decide) (by decide) (hts _ (kw 0 rfl)) (hts _ (kw 1 rfl)) hsa (fun w hw => ?_) atI_o hT.1 hT.2.1 hS1 (hlv.1.trans hml.symm) (by decide +kernel) (by decide +kernel) (by decide +kernel) (by decide +kernel) (by decide +kernel) (fun x hx => (hxt x hx).elim) (by decide) (by decide) (by decide) (by decide) hlk (lXC_at (Or.inl ⟨hin, rfl⟩) hW1 hS1) hS1.2.2 (by decide) (by decide)
    rcases atI_g w hw with q | q | q
    · rw [q]; exact va_Nw.use rfl hT.2.2.2.2.1
    · obtain ⟨y, hy, rfl⟩ := List.mem_map.mp q
      exact va_Nw.use rfl (hT.2.2.2.2.2.2.2 y hy)
    · exact hts w (zT_of q.1 q.2)
end LKB
