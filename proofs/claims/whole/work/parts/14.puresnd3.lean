section ZPU
variable {p : Program} {l : Launch} {e : Env} {R : Room} {s : State} {m : MethodId} {args : Array Value} {below : List Frame} {meth : Method} {c : Code} {H : Heap} {locs : List Loc} {cells slots : Nat} {Q : State → Prop}
theorem zb_len {len k : Nat} (h : Nat.beq len k = true) : len = k := Nat.eq_of_beq_eq_true h
theorem zb_and {a b : Bool} (h : (a && b) = true) : a = true ∧ b = true := by simpa using h
theorem zb_cat {B : zB} {v : zV} {k : Nat} (h : Nat.beq (zcat v) k = true) : (zv B v).category = k := by rw [zv_cat]; exact Nat.eq_of_beq_eq_true h
theorem z_pairs {x d : Int} : ∀ ps : List (Int × Int), Op.lookupswitch.offset ps d x = zlk x d ps := by
  intro ps
  induction ps with
  | nil => rfl
  | cons q t ih =>
    obtain ⟨a, o⟩ := q
    unfold zlk
    by_cases h : x = a
    · rw [if_pos h]
      simp [Op.lookupswitch.offset, h]
    · rw [if_neg h, ← ih]
      simp [Op.lookupswitch.offset, Ne.symm h, h]
set_option maxHeartbeats 4000000 in
theorem zpure_ok {B : zB} {cc : ByteArray} {nL K pc len a pc' : Nat} {d : Int} {i : Instr} {ls st ls' st' : List zV} {arr : Array Slot} (hx : p.tables.exec = Jvm.exec) (hb : c.code = cc) (hdg : decode cc pc = .ok (i, len))
    (h0 : zpure i len a d pc ls st = some (pc', ls', st')) (hlv : zlv B arr nL ls) (hls : zoks K ls) (hst : zoks K st)
    (k : ∀ arr', zlv B arr' nL ls' → zoks K ls' → zoks K st' → W p l e R s m args below meth c H locs cells slots Q (F0 m pc' arr' (st'.map (zv B)))) : W p l e R s m args below meth c H locs cells slots Q (F0 m pc arr (st.map (zv B))) := by
  have ld : ∀ {n : Nat} {v : zV}, ls.getD n zU = v → v ≠ zU → arr[n]? = some (.val (zv B v)) ∧ zok K v := by
    intro n v h1 h2
    have h3 := zget_of h1 h2
    exact ⟨hlv.2.2.2 n v h3 h2, hls v (List.mem_of_getElem? h3)⟩
  cases i with
  | iconst n =>
    obtain ⟨h1, hq1⟩ := zg_inv h0
    obtain ⟨h1, h2⟩ := zb_and h1
    obtain ⟨h2, h3⟩ := zb_and h2
    have h2 := of_decide_eq_true h2
    have h3 := of_decide_eq_true h3
    cases zb_len h1; cases hq1
    exact lv_iconst hx hb hdg rfl (k _ hlv hls (zoks_cons (by show zri n; unfold zri; omega) hst))
  | bipush n =>
    obtain ⟨h1, hq1⟩ := zg_inv h0
    obtain ⟨h1, h2⟩ := zb_and h1
    obtain ⟨h2, h3⟩ := zb_and h2
    have h2 := of_decide_eq_true h2
    have h3 := of_decide_eq_true h3
    cases zb_len h1; cases hq1
    exact lv_bipush hx hb hdg (z_bi h2 h3) (k _ hlv hls (zoks_cons (by show zri n; unfold zri; omega) hst))
  | sipush n =>
    obtain ⟨h1, hq1⟩ := zg_inv h0
    obtain ⟨h1, h2⟩ := zb_and h1
    obtain ⟨h2, h3⟩ := zb_and h2
    have h2 := of_decide_eq_true h2
    have h3 := of_decide_eq_true h3
    cases zb_len h1; cases hq1
    exact lv_sipush hx hb hdg (z_si h2 h3) (k _ hlv hls (zoks_cons (by show zri n; unfold zri; omega) hst))
  | lconst n =>
    obtain ⟨h1, hq1⟩ := zg_inv h0
    cases zb_len h1; cases hq1
    exact lv_lconst hx hb hdg rfl (k _ hlv hls (zoks_cons (by show zrl _; unfold zrl; omega) hst))
  | iload n =>
    obtain ⟨h1, hq1⟩ := zg_inv h0
    obtain ⟨x, r, e1, hq2⟩ := zp1i_inv hq1
    cases zb_len h1; cases hq2
    obtain ⟨e2, e3⟩ := ld (List.cons.inj e1).1 (by intro q; cases q)
    exact lv_iload hx hb hdg e2 (k _ hlv hls (zoks_cons e3 hst))
  | iload_n n =>
    obtain ⟨h1, hq1⟩ := zg_inv h0
    obtain ⟨x, r, e1, hq2⟩ := zp1i_inv hq1
    cases zb_len h1; cases hq2
    obtain ⟨e2, e3⟩ := ld (List.cons.inj e1).1 (by intro q; cases q)
    exact lv_iload_n hx hb hdg rfl e2 (k _ hlv hls (zoks_cons e3 hst))
  | lload n =>
    obtain ⟨h1, hq1⟩ := zg_inv h0
    obtain ⟨x, r, e1, hq2⟩ := zp1l_inv hq1
    cases zb_len h1; cases hq2
    obtain ⟨e2, e3⟩ := ld (List.cons.inj e1).1 (by intro q; cases q)
    exact lv_lload hx hb hdg e2 (k _ hlv hls (zoks_cons e3 hst))
  | lload_n n =>
    obtain ⟨h1, hq1⟩ := zg_inv h0
    obtain ⟨x, r, e1, hq2⟩ := zp1l_inv hq1
    cases zb_len h1; cases hq2
    obtain ⟨e2, e3⟩ := ld (List.cons.inj e1).1 (by intro q; cases q)
    exact lv_lload_n hx hb hdg rfl e2 (k _ hlv hls (zoks_cons e3 hst))
  | aload n =>
    obtain ⟨h1, hq1⟩ := zg_inv h0
    obtain ⟨t, x, r, e1, hq2⟩ := zp1r_inv hq1
    cases zb_len h1; cases hq2
    obtain ⟨e2, e3⟩ := ld (List.cons.inj e1).1 (by intro q; cases q)
    have k2 := k _ hlv hls (zoks_cons e3 hst)
    obtain ⟨y, hy⟩ : ∃ y, zv B (zR t x) = .ref y := by unfold zv; dsimp only; split; exact ⟨_, rfl⟩; split <;> exact ⟨_, rfl⟩
    rw [List.map_cons, hy] at k2
    rw [hy] at e2
    exact lv_aload hx hb hdg e2 k2
  | aload_n n =>
    obtain ⟨h1, hq1⟩ := zg_inv h0
    obtain ⟨t, x, r, e1, hq2⟩ := zp1r_inv hq1
    cases zb_len h1; cases hq2
    obtain ⟨e2, e3⟩ := ld (List.cons.inj e1).1 (by intro q; cases q)
    have k2 := k _ hlv hls (zoks_cons e3 hst)
    obtain ⟨y, hy⟩ : ∃ y, zv B (zR t x) = .ref y := by unfold zv; dsimp only; split; exact ⟨_, rfl⟩; split <;> exact ⟨_, rfl⟩
    rw [List.map_cons, hy] at k2
    rw [hy] at e2
    exact lv_aload_n hx hb hdg rfl e2 k2
  | istore n =>
    obtain ⟨h1, hq1⟩ := zg_inv h0
    obtain ⟨h1, h2⟩ := zb_and h1
    obtain ⟨x, r, rfl, hq2⟩ := zp1i_inv hq1
    cases zb_len h1; cases hq2
    have hn : n < nL := by have := Nat.le_of_ble_eq_true h2; have := hlv.1; omega
    exact lv_istore hx hb hdg (zlv_has hlv) hn rfl fun arr' h' => k arr' (zlv_set1 (v := zI x) hlv h') (zoks_set1 hls (zoks_head hst)) (zoks_tail hst)
  | istore_n n =>
    obtain ⟨h1, hq1⟩ := zg_inv h0
    obtain ⟨h1, h2⟩ := zb_and h1
    obtain ⟨x, r, rfl, hq2⟩ := zp1i_inv hq1
    cases zb_len h1; cases hq2
    have hn : n.val < nL := by have := Nat.le_of_ble_eq_true h2; have := hlv.1; omega
    exact lv_istore_n hx hb hdg rfl (zlv_has hlv) hn rfl fun arr' h' => k arr' (zlv_set1 (v := zI x) hlv h') (zoks_set1 hls (zoks_head hst)) (zoks_tail hst)
  | lstore n =>
    obtain ⟨h1, hq1⟩ := zg_inv h0
    obtain ⟨h1, h2⟩ := zb_and h1
    obtain ⟨x, r, rfl, hq2⟩ := zp1l_inv hq1
    cases zb_len h1; cases hq2
    have hn : n + 1 < nL := by have := Nat.le_of_ble_eq_true h2; have := hlv.1; omega
    exact lv_lstore hx hb hdg (zlv_has hlv) hn rfl fun arr' h' => k arr' (zlv_set2 (v := zL x) hlv h') (zoks_set2 hls (zoks_head hst)) (zoks_tail hst)
  | lstore_n n =>
    obtain ⟨h1, hq1⟩ := zg_inv h0
    obtain ⟨h1, h2⟩ := zb_and h1
    obtain ⟨x, r, rfl, hq2⟩ := zp1l_inv hq1
    cases zb_len h1; cases hq2
    have hn : n.val + 1 < nL := by have := Nat.le_of_ble_eq_true h2; have := hlv.1; omega
    exact lv_lstore_n hx hb hdg rfl (zlv_has hlv) hn rfl fun arr' h' => k arr' (zlv_set2 (v := zL x) hlv h') (zoks_set2 hls (zoks_head hst)) (zoks_tail hst)
  | astore n =>
    obtain ⟨h1, hq1⟩ := zg_inv h0
    obtain ⟨h1, h2⟩ := zb_and h1
    obtain ⟨t, x, r, rfl, hq2⟩ := zp1r_inv hq1
    cases zb_len h1; cases hq2
    have hn : n < nL := by have := Nat.le_of_ble_eq_true h2; have := hlv.1; omega
    obtain ⟨y, hy⟩ : ∃ y, zv B (zR t x) = .ref y := by unfold zv; dsimp only; split; exact ⟨_, rfl⟩; split <;> exact ⟨_, rfl⟩
    rw [List.map_cons, hy]
    exact lv_astore hx hb hdg (zlv_has hlv) hn rfl fun arr' h' => k arr' (zlv_set1 (v := zR t x) hlv (by rw [hy]; exact h')) (zoks_set1 hls (zoks_head hst)) (zoks_tail hst)
  | astore_n n =>
    obtain ⟨h1, hq1⟩ := zg_inv h0
    obtain ⟨h1, h2⟩ := zb_and h1
    obtain ⟨t, x, r, rfl, hq2⟩ := zp1r_inv hq1
    cases zb_len h1; cases hq2
    have hn : n.val < nL := by have := Nat.le_of_ble_eq_true h2; have := hlv.1; omega
    obtain ⟨y, hy⟩ : ∃ y, zv B (zR t x) = .ref y := by unfold zv; dsimp only; split; exact ⟨_, rfl⟩; split <;> exact ⟨_, rfl⟩
    rw [List.map_cons, hy]
    exact lv_astore_n hx hb hdg rfl (zlv_has hlv) hn rfl fun arr' h' => k arr' (zlv_set1 (v := zR t x) hlv (by rw [hy]; exact h')) (zoks_set1 hls (zoks_head hst)) (zoks_tail hst)
  | iinc n q =>
    obtain ⟨h1, hq1⟩ := zg_inv h0
    obtain ⟨h1, h2⟩ := zb_and h1
    obtain ⟨x, r, e1, hq2⟩ := zp1i_inv hq1
    cases zb_len h1; cases hq2
    have hn : n < nL := by have := Nat.le_of_ble_eq_true h2; have := hlv.1; omega
    have hg := zget_of (List.cons.inj e1).1 (by intro q; cases q)
    have hm := zpos_mem B ls 0 n (zI x) hg (by intro q; cases q)
    rw [Nat.zero_add] at hm
    obtain ⟨j, hj⟩ := List.getElem?_of_mem hm
    refine lv_iinc (v := Int32.ofInt (zw (x + q))) hx hb hdg (zlv_has hlv) (k := j) hj (by rw [zi_w, Int32.ofInt_add]) hn rfl fun arr' h' => k arr' (zlv_set1 (v := zI (zw (x + q))) hlv h') (zoks_set1 hls (zw_ri _)) hst
  | iadd =>
    obtain ⟨h1, hq1⟩ := zg_inv h0
    obtain ⟨x, y, r, rfl, hq2⟩ := zp2i_inv hq1
    cases zb_len h1; cases hq2
    refine lv_iadd hx hb hdg ?_
    rw [z32_bits]
    exact k _ hlv hls (zoks_cons (zw_ri _) (zoks_tail (zoks_tail hst)))
  | isub =>
    obtain ⟨h1, hq1⟩ := zg_inv h0
    obtain ⟨x, y, r, rfl, hq2⟩ := zp2i_inv hq1
    cases zb_len h1; cases hq2
    refine lv_isub hx hb hdg ?_
    rw [z32_sub]
    exact k _ hlv hls (zoks_cons (zw_ri _) (zoks_tail (zoks_tail hst)))
  | imul =>
    obtain ⟨h1, hq1⟩ := zg_inv h0
    obtain ⟨x, y, r, rfl, hq2⟩ := zp2i_inv hq1
    cases zb_len h1; cases hq2
    refine lv_imul hx hb hdg ?_
    rw [z32_mul]
    exact k _ hlv hls (zoks_cons (zw_ri _) (zoks_tail (zoks_tail hst)))
  | iand =>
    obtain ⟨h1, hq1⟩ := zg_inv h0
    obtain ⟨x, y, r, rfl, hq2⟩ := zp2i_inv hq1
    cases zb_len h1; cases hq2
    refine lv_iand hx hb hdg ?_
    rw [← zi_of (Int32.ofInt x &&& Int32.ofInt y)]
    exact k _ hlv hls (zoks_cons (zi_ri _) (zoks_tail (zoks_tail hst)))
  | ixor =>
    obtain ⟨h1, hq1⟩ := zg_inv h0
    obtain ⟨x, y, r, rfl, hq2⟩ := zp2i_inv hq1
    cases zb_len h1; cases hq2
    refine lv_ixor hx hb hdg ?_
    rw [← zi_of (Int32.ofInt x ^^^ Int32.ofInt y)]
    exact k _ hlv hls (zoks_cons (zi_ri _) (zoks_tail (zoks_tail hst)))
  | ior =>
    obtain ⟨h1, hq1⟩ := zg_inv h0
    obtain ⟨x, y, r, rfl, hq2⟩ := zp2i_inv hq1
    cases zb_len h1; cases hq2
    refine lv_ior hx hb hdg ?_
    rw [← zi_of (Int32.ofInt x ||| Int32.ofInt y)]
    exact k _ hlv hls (zoks_cons (zi_ri _) (zoks_tail (zoks_tail hst)))
  | ishl =>
    obtain ⟨h1, hq1⟩ := zg_inv h0
    obtain ⟨x, y, r, rfl, hq2⟩ := zp2i_inv hq1
    cases zb_len h1; cases hq2
    refine lv_ishl hx hb hdg ?_
    rw [← zi_of (Int32.ofInt x <<< (Int32.ofInt y &&& 31))]
    exact k _ hlv hls (zoks_cons (zi_ri _) (zoks_tail (zoks_tail hst)))
  | ishr =>
    obtain ⟨h1, hq1⟩ := zg_inv h0
    obtain ⟨x, y, r, rfl, hq2⟩ := zp2i_inv hq1
    cases zb_len h1; cases hq2
    refine lv_ishr hx hb hdg ?_
    rw [← zi_of (Int32.ofInt x >>> (Int32.ofInt y &&& 31))]
    exact k _ hlv hls (zoks_cons (zi_ri _) (zoks_tail (zoks_tail hst)))
  | idiv =>
    obtain ⟨h1, hq1⟩ := zg_inv h0
    obtain ⟨x, y, r, rfl, hq2⟩ := zp2i_inv hq1
    split at hq2
    · cases hq2
    rename_i hy
    cases zb_len h1; cases hq2
    have r2 := zoks_head hst
    have r1 := zoks_head (zoks_tail hst)
    refine lv_idiv hx hb hdg (z32_ne r2 hy) ?_
    rw [z32_div r1 r2]
    exact k _ hlv hls (zoks_cons (zw_ri _) (zoks_tail (zoks_tail hst)))
  | irem =>
    obtain ⟨h1, hq1⟩ := zg_inv h0
    obtain ⟨x, y, r, rfl, hq2⟩ := zp2i_inv hq1
    split at hq2
    · cases hq2
    rename_i hy
    cases zb_len h1; cases hq2
    have r2 := zoks_head hst
    have r1 := zoks_head (zoks_tail hst)
    refine lv_irem hx hb hdg (z32_ne r2 hy) ?_
    rw [z32_rem r1 r2]
    exact k _ hlv hls (zoks_cons (z_tmod_ri r1 hy) (zoks_tail (zoks_tail hst)))
  | ladd =>
    obtain ⟨h1, hq1⟩ := zg_inv h0
    obtain ⟨x, y, r, rfl, hq2⟩ := zp2l_inv hq1
    cases zb_len h1; cases hq2
    refine lv_ladd hx hb hdg ?_
    rw [z64_add]
    exact k _ hlv hls (zoks_cons (zwl_rl _) (zoks_tail (zoks_tail hst)))
  | lsub =>
    obtain ⟨h1, hq1⟩ := zg_inv h0
    obtain ⟨x, y, r, rfl, hq2⟩ := zp2l_inv hq1
    cases zb_len h1; cases hq2
    refine lv_lsub hx hb hdg ?_
    rw [z64_sub]
    exact k _ hlv hls (zoks_cons (zwl_rl _) (zoks_tail (zoks_tail hst)))
  | lmul =>
    obtain ⟨h1, hq1⟩ := zg_inv h0
    obtain ⟨x, y, r, rfl, hq2⟩ := zp2l_inv hq1
    cases zb_len h1; cases hq2
    refine lv_lmul hx hb hdg ?_
    rw [z64_mul]
    exact k _ hlv hls (zoks_cons (zwl_rl _) (zoks_tail (zoks_tail hst)))
  | ldiv =>
    obtain ⟨h1, hq1⟩ := zg_inv h0
    obtain ⟨x, y, r, rfl, hq2⟩ := zp2l_inv hq1
    split at hq2
    · cases hq2
    rename_i hy
    cases zb_len h1; cases hq2
    have r2 := zoks_head hst
    have r1 := zoks_head (zoks_tail hst)
    refine lv_ldiv hx hb hdg (z64_ne r2 hy) ?_
    rw [z64_div r1 r2]
    exact k _ hlv hls (zoks_cons (zwl_rl _) (zoks_tail (zoks_tail hst)))
  | lrem =>
    obtain ⟨h1, hq1⟩ := zg_inv h0
    obtain ⟨x, y, r, rfl, hq2⟩ := zp2l_inv hq1
    split at hq2
    · cases hq2
    rename_i hy
    cases zb_len h1; cases hq2
    have r2 := zoks_head hst
    have r1 := zoks_head (zoks_tail hst)
    refine lv_lrem hx hb hdg (z64_ne r2 hy) ?_
    rw [z64_rem r1 r2]
    exact k _ hlv hls (zoks_cons (z_tmod_rl r1 hy) (zoks_tail (zoks_tail hst)))
  | lneg =>
    obtain ⟨h1, hq1⟩ := zg_inv h0
    obtain ⟨x, r, rfl, hq2⟩ := zp1l_inv hq1
    cases zb_len h1; cases hq2
    refine lv_lneg hx hb hdg ?_
    rw [z64_neg]
    exact k _ hlv hls (zoks_cons (zwl_rl _) (zoks_tail hst))
  | lcmp =>
    obtain ⟨h1, hq1⟩ := zg_inv h0
    obtain ⟨x, y, r, rfl, hq2⟩ := zp2l_inv hq1
    cases zb_len h1; cases hq2
    refine W.lcmp hx hb hdg ?_
    rw [z_cmp (zoks_head (zoks_tail hst)) (zoks_head hst)]
    exact k _ hlv hls (zoks_cons (z_cmp_ri _ _) (zoks_tail (zoks_tail hst)))
  | i2l =>
    obtain ⟨h1, hq1⟩ := zg_inv h0
    obtain ⟨x, r, rfl, hq2⟩ := zp1i_inv hq1
    cases zb_len h1; cases hq2
    have r1 := zoks_head hst
    exact lv_i2l hx hb hdg (z_i2l r1) (k _ hlv hls (zoks_cons (by show zrl x; have r1 : zri x := r1; unfold zri at r1; unfold zrl; omega) (zoks_tail hst)))
  | l2i =>
    obtain ⟨h1, hq1⟩ := zg_inv h0
    obtain ⟨x, r, rfl, hq2⟩ := zp1l_inv hq1
    cases zb_len h1; cases hq2
    exact lv_l2i hx hb hdg (z_l2i (zoks_head hst)) (k _ hlv hls (zoks_cons (zw_ri _) (zoks_tail hst)))
  | i2b =>
    obtain ⟨h1, hq1⟩ := zg_inv h0
    obtain ⟨x, r, rfl, hq2⟩ := zp1i_inv hq1
    cases zb_len h1; cases hq2
    exact lv_i2b hx hb hdg (z_i2b (zoks_head hst)) (k _ hlv hls (zoks_cons (by show zri (zi2b x); unfold zri zi2b; omega) (zoks_tail hst)))
  | dup =>
    obtain ⟨h1, hq1⟩ := zg_inv h0
    obtain ⟨v, r, rfl, hq2⟩ := zp1_inv hq1
    obtain ⟨h2, hq3⟩ := zg_inv hq2
    cases zb_len h1; cases hq3
    exact lv_dup hx hb hdg (zb_cat h2) (k _ hlv hls (zoks_cons (zoks_head hst) hst))
  | pop =>
    obtain ⟨h1, hq1⟩ := zg_inv h0
    obtain ⟨v, r, rfl, hq2⟩ := zp1_inv hq1
    obtain ⟨h2, hq3⟩ := zg_inv hq2
    cases zb_len h1; cases hq3
    exact lv_pop hx hb hdg (zb_cat h2) (k _ hlv hls (zoks_tail hst))
  | dup_x1 =>
    obtain ⟨h1, hq1⟩ := zg_inv h0
    obtain ⟨v, r, rfl, hq2⟩ := zp1_inv hq1
    obtain ⟨w, r, rfl, hq3⟩ := zp1_inv hq2
    obtain ⟨h2, hq4⟩ := zg_inv hq3
    obtain ⟨h2, h3⟩ := zb_and h2
    cases zb_len h1; cases hq4
    exact lv_dup_x1 hx hb hdg (zb_cat h2) (zb_cat h3) (k _ hlv hls (zoks_cons (zoks_head hst) (zoks_cons (zoks_head (zoks_tail hst)) (zoks_cons (zoks_head hst) (zoks_tail (zoks_tail hst))))))
  | dup2 =>
    obtain ⟨h1, hq1⟩ := zg_inv h0
    obtain ⟨v, r, rfl, hq2⟩ := zp1_inv hq1
    obtain ⟨w, r, rfl, hq3⟩ := zp1_inv hq2
    obtain ⟨h2, hq4⟩ := zg_inv hq3
    obtain ⟨h2, h3⟩ := zb_and h2
    cases zb_len h1; cases hq4
    exact lv_dup2_11 hx hb hdg (zb_cat h2) (zb_cat h3) (k _ hlv hls (zoks_cons (zoks_head hst) (zoks_cons (zoks_head (zoks_tail hst)) hst)))
  | goto off =>
    obtain ⟨h1, hq1⟩ := zg_inv h0
    obtain ⟨h1, h2⟩ := zb_and h1
    cases zb_len h1; cases hq1
    exact lv_goto hx hb hdg (of_decide_eq_true h2) (k _ hlv hls hst)
  | ifCond cd off =>
    obtain ⟨h1, hq1⟩ := zg_inv h0
    obtain ⟨h1, h2⟩ := zb_and h1
    obtain ⟨x, r, rfl, hq2⟩ := zp1i_inv hq1
    have h2 := of_decide_eq_true h2
    cases zb_len h1
    have r1 := zoks_head hst
    have r2 := zoks_tail hst
    have e0 := z32_eq r1 z_ri0
    have e1 := z32_lt r1 z_ri0
    have e2 := z32_lt z_ri0 r1
    have e3 := z32_le r1 z_ri0
    have e4 := z32_le z_ri0 r1
    rw [z_0] at e0 e1 e2 e3 e4
    split at hq2
    all_goals
      rename_i hc
      cases hq2
      have kk := k _ hlv hls r2
      cases cd
      · refine lv_if_eq hx hb hdg h2 (fun q => ?_) (fun q => ?_) <;> first | exact kk | (simp only [zcp, decide_eq_true_eq] at hc; rw [e0] at q; exact absurd q (by omega))
      · refine lv_if_ne hx hb hdg h2 (fun q => ?_) (fun q => ?_) <;> first | exact kk | (simp only [zcp, decide_eq_true_eq] at hc; simp only [e0, ne_eq] at q; exact absurd q (by omega))
      · refine lv_if_lt hx hb hdg h2 (fun q => ?_) (fun q => ?_) <;> first | exact kk | (simp only [zcp, decide_eq_true_eq] at hc; simp only [e1] at q; exact absurd q (by omega))
      · refine lv_if_ge hx hb hdg h2 (fun q => ?_) (fun q => ?_) <;> first | exact kk | (simp only [zcp, decide_eq_true_eq] at hc; simp only [ge_iff_le, e4] at q; exact absurd q (by omega))
      · refine lv_if_gt hx hb hdg h2 (fun q => ?_) (fun q => ?_) <;> first | exact kk | (simp only [zcp, decide_eq_true_eq] at hc; simp only [gt_iff_lt, e2] at q; exact absurd q (by omega))
      · refine lv_if_le hx hb hdg h2 (fun q => ?_) (fun q => ?_) <;> first | exact kk | (simp only [zcp, decide_eq_true_eq] at hc; simp only [e3] at q; exact absurd q (by omega))
  | if_icmp cd off =>
    obtain ⟨h1, hq1⟩ := zg_inv h0
    obtain ⟨h1, h2⟩ := zb_and h1
    obtain ⟨x, y, r, rfl, hq2⟩ := zp2i_inv hq1
    have h2 := of_decide_eq_true h2
    cases zb_len h1
    have ry := zoks_head hst
    have rx := zoks_head (zoks_tail hst)
    have r2 := zoks_tail (zoks_tail hst)
    have e0 := z32_eq rx ry
    have e1 := z32_lt rx ry
    have e2 := z32_lt ry rx
    have e3 := z32_le rx ry
    have e4 := z32_le ry rx
    split at hq2
    all_goals
      rename_i hc
      cases hq2
      have kk := k _ hlv hls r2
      cases cd
      · refine lv_icmp_eq hx hb hdg h2 (fun q => ?_) (fun q => ?_) <;> first | exact kk | (simp only [zcp, decide_eq_true_eq] at hc; rw [e0] at q; exact absurd q (by omega))
      · refine lv_icmp_ne hx hb hdg h2 (fun q => ?_) (fun q => ?_) <;> first | exact kk | (simp only [zcp, decide_eq_true_eq] at hc; simp only [e0, ne_eq] at q; exact absurd q (by omega))
      · refine lv_icmp_lt hx hb hdg h2 (fun q => ?_) (fun q => ?_) <;> first | exact kk | (simp only [zcp, decide_eq_true_eq] at hc; simp only [e1] at q; exact absurd q (by omega))
      · refine lv_icmp_ge hx hb hdg h2 (fun q => ?_) (fun q => ?_) <;> first | exact kk | (simp only [zcp, decide_eq_true_eq] at hc; simp only [ge_iff_le, e4] at q; exact absurd q (by omega))
      · refine lv_icmp_gt hx hb hdg h2 (fun q => ?_) (fun q => ?_) <;> first | exact kk | (simp only [zcp, decide_eq_true_eq] at hc; simp only [gt_iff_lt, e2] at q; exact absurd q (by omega))
      · refine lv_icmp_le hx hb hdg h2 (fun q => ?_) (fun q => ?_) <;> first | exact kk | (simp only [zcp, decide_eq_true_eq] at hc; simp only [e3] at q; exact absurd q (by omega))
  | if_acmp cd off =>
    obtain ⟨h1, hq1⟩ := zg_inv h0
    obtain ⟨h1, h2⟩ := zb_and h1
    obtain ⟨t, x, u, y, r, rfl, hq2⟩ := zpac_inv hq1
    obtain ⟨h3, hq3⟩ := zg_inv hq2
    obtain ⟨h3, h4⟩ := zb_and h3
    have h2 := of_decide_eq_true h2
    have h3 := Nat.le_of_ble_eq_true h3
    have h4 := Nat.le_of_ble_eq_true h4
    cases zb_len h1
    have ry := zoks_head hst
    have rx := zoks_head (zoks_tail hst)
    have r2 := zoks_tail (zoks_tail hst)
    have x0 : 0 ≤ x := by rcases rx with q | q | q; omega; omega; exact q.1
    have y0 : 0 ≤ y := by rcases ry with q | q | q; omega; omega; exact q.1
    have ex : zv B (zR t x) = va_rf (some (B.1 + zrho x.toNat)) := by unfold zv; dsimp only; rw [if_neg (by omega), if_neg (by omega)]; rfl
    have ey : zv B (zR u y) = va_rf (some (B.1 + zrho y.toNat)) := by unfold zv; dsimp only; rw [if_neg (by omega), if_neg (by omega)]; rfl
    have e0 : (some (B.1 + zrho x.toNat) = some (B.1 + zrho y.toNat)) ↔ x = y := by
      constructor
      · intro q
        have q := Option.some.inj q
        have q := zrho_inj (Nat.add_left_cancel q)
        omega
      · intro q; rw [q]
    rw [List.map_cons, List.map_cons, ex, ey]
    split at hq3
    all_goals
      rename_i hc
      cases hq3
      have kk := k _ hlv hls r2
      cases cd
      · refine lv_acmp_eq hx hb hdg h2 (fun q => ?_) (fun q => ?_) <;> first | exact kk | (simp only [zca, decide_eq_true_eq] at hc; rw [e0] at q; exact absurd q (by omega))
      · refine lv_acmp_ne hx hb hdg h2 (fun q => ?_) (fun q => ?_) <;> first | exact kk | (simp only [zca, decide_eq_true_eq] at hc; rw [e0] at q; exact absurd q (by omega))
  | tableswitch df lo hi offs =>
    obtain ⟨h1, hq1⟩ := zg_inv h0
    have h1 := of_decide_eq_true h1
    obtain ⟨x, r, rfl, hq2⟩ := zp1i_inv hq1
    split at hq2
    · rename_i hn0
      cases hq2
      have kk := k _ hlv hls (zoks_tail hst)
      have ex := zi_toInt (zoks_head hst)
      by_cases q : x < lo ∨ hi < x
      · refine lv_tableOut hx hb hdg (by rw [ex]; exact q) (tgt := ((pc : Int) + zsw x lo hi df offs.toList).toNat) ?_ kk
        rw [Int.toNat_of_nonneg hn0]
        unfold zsw
        rw [if_pos q]
      · cases ho : offs.toList[(x - lo).toNat]? with
        | none => exact absurd (List.getElem?_eq_none_iff.mp ho) (by omega)
        | some o =>
          refine lv_tableIn hx hb hdg (by rw [ex]; omega) (by rw [ex]; omega) (off := o) (by rw [ex, ← Array.getElem?_toList]; exact ho) (tgt := ((pc : Int) + zsw x lo hi df offs.toList).toNat) ?_ kk
          rw [Int.toNat_of_nonneg hn0]
          unfold zsw
          rw [if_neg q, List.getD_eq_getElem?_getD, ho]
          rfl
    · cases hq2
  | lookupswitch df ps =>
    obtain ⟨h1, hq1⟩ := zg_inv h0
    obtain ⟨x, r, rfl, hq2⟩ := zp1i_inv hq1
    split at hq2
    · rename_i hn0
      cases hq2
      refine lv_lookup hx hb hdg h1 (z_pairs ps.toList) (tgt := ((pc : Int) + zlk x df ps.toList).toNat) ?_ (k _ hlv hls (zoks_tail hst))
      rw [Int.toNat_of_nonneg hn0, zi_toInt (zoks_head hst)]
    · cases hq2
  | _ => cases h0
end ZPU
