/-- Math's methods: 206 abs(long), 207 max(int), 208 max(long), 209 min(int), 210 min(long) -/
def zmath (N : Nat) (av : List zV) : Option zV := match N with
  | 206 => zp1l av fun x _ => some (zL (if 0 < x then x else zwl (-x)))
  | 207 => zp1i av fun x r => zp1i r fun y _ => some (zI (if x < y then y else x))
  | 208 => zp1l av fun x r => zp1l r fun y _ => some (zL (if y < x then x else y))
  | 209 => zp1i av fun x r => zp1i r fun y _ => some (zI (if y < x then y else x))
  | 210 => zp1l av fun x r => zp1l r fun y _ => some (zL (if y < x then y else x))
  | _ => none
theorem zmath_c : Cond.code Lib.Math.max.name Lib.Math.max.code 2 (some .int) ∈ lw_tbl ∧ Cond.code Lib.Math.min.name Lib.Math.min.code 2 (some .int) ∈ lw_tbl ∧ Cond.code Lib.MathLoose.max_long.x Lib.MathLoose.max_long.code 4 (some .long) ∈ lw_tbl ∧ Cond.code Lib.MathLoose.min_long.x Lib.MathLoose.min_long.code 4 (some .long) ∈ lw_tbl ∧ Cond.code Lib.MathLoose.abs_long.x Lib.MathLoose.abs_long.code 2 (some .long) ∈ lw_tbl := by decide +kernel
theorem zmath_n : (zmi 207).1 = Lib.Math.max.name ∧ (zmi 209).1 = Lib.Math.min.name ∧ (zmi 208).1 = Lib.MathLoose.max_long.x ∧ (zmi 210).1 = Lib.MathLoose.min_long.x ∧ (zmi 206).1 = Lib.MathLoose.abs_long.x := by decide +kernel
theorem zmath_p : znpar 206 = some 1 ∧ znpar 207 = some 2 ∧ znpar 208 = some 2 ∧ znpar 209 = some 2 ∧ znpar 210 = some 2 := by decide +kernel
theorem zmath_s : ∀ N, N < 211 → 206 ≤ N → (zmwt.getD N (9, 0, 0)).1 = 1 ∧ (zmi N).1.cls = "java/lang/Math" ∧ (zmi N).1.name ≠ "<init>" ∧ zfr N = 0 ∧ zlo N = 0 ∧ (zmi N).2.2.1 = (if N = 208 ∨ N = 210 then 4 else 2) := by decide +kernel
theorem zmath_nn : ∀ N, N < 211 → 206 ≤ N → ∀ q ∈ znest, q.2.2 ≠ (zmi N).1 := by decide +kernel
section ZMA
variable {p : Program} {l : Launch} {e : Env} {R : Room} {s : State} {m : MethodId} {args : Array Value} {below : List Frame} {meth : Method} {c : Code} {H : Heap} {locs : List Loc} {cells slots : Nat} {Q : State → Prop}
variable {B : zB} {cA : Nat → ClassId} {D : va_G} {L : Nat} {xs : Nat → Int32} {σ : zS}
theorem zrev2 {st av : List zV} {b : Nat} (h : (st.take b).reverse = av) : st = av.reverse ++ st.drop b := by
  rw [← h, List.reverse_reverse, List.take_append_drop]
set_option maxRecDepth 100000 in
set_option maxHeartbeats 4000000 in
theorem zmath_ok {M pc N b cs ee : Nat} {i : Instr} {len : Nat} {d : Int} {arr : Array Slot} {ls st av : List zV} {v : zV} {pc' : Nat} {ls' st' : List zV} {σ' : zS} (hM : M < 212) (hN : 206 ≤ N) (hN2 : N < 211) (X : zCx B cA D p s m args meth c M) (hdg : decode (zmi M).2.1 pc = .ok (i, len)) (hvl : zvl M (pc, i, len, (N, b, cs, ee), d) = true)
    (hfr : zfr M ≤ R.frames ∧ zlo M ≤ R.locals) (hlv : zlv B arr (zmi M).2.2.1 ls) (hst : zoks σ.1 st) (hroom : cells ≤ R.cells ∧ slots ≤ R.slots) (h0 : zheap i len N b cs ee d pc ls st σ = some (.inr (.inr (N, av, (pc', ls', st'), σ')))) (hm : zmath N av = some v)
    (k : zok σ.1 v → zoks σ.1 st' → W p l e R s m args below meth c H locs cells slots Q (F0 m pc' arr ((v :: st').map (zv B)))) : ls' = ls ∧ σ' = σ ∧ W p l e R s m args below meth c H locs cells slots Q (F0 m pc arr (st.map (zv B))) := by
  obtain ⟨hx, hb, hml, hown, hts, hr, hlocks, hin, hB, hU⟩ := X
  obtain ⟨m1, m2, m3, m4, m5, m6⟩ := zmath_s N hN2 hN
  cases i with
  | invokestatic idx =>
    obtain ⟨h1, hq1⟩ := zg_inv h0
    obtain ⟨h2, hq2⟩ := zg_inv hq1
    obtain ⟨h2, h3⟩ := zb_and h2
    have h2 := Nat.le_of_ble_eq_true h2
    have h3 := Nat.le_of_ble_eq_true h3
    cases zb_len h1
    have hq2 := Sum.inr.inj (Sum.inr.inj (Option.some.inj hq2))
    have eav : (st.take b).reverse = av := congrArg (fun q => q.2.1) hq2
    have ep : pc + 3 = pc' := congrArg (fun q => q.2.2.1.1) hq2
    have el : ls = ls' := congrArg (fun q => q.2.2.1.2.1) hq2
    have es : st.drop b = st' := congrArg (fun q => q.2.2.1.2.2) hq2
    have eσ : σ = σ' := congrArg (fun q => q.2.2.2) hq2
    subst ep
    refine ⟨el.symm, eσ.symm, ?_⟩
    have hst' : st = av.reverse ++ st' := by rw [← es]; exact zrev2 eav
    have hlen : av.length = b := by rw [← eav, List.length_reverse, List.length_take]; omega
    have h8 : zsum st' ≤ 8 := by rw [← es]; exact h3
    simp only [zvl] at hvl
    split at hvl
    · rename_i hq
      have := Nat.le_of_ble_eq_true hq
      omega
    obtain ⟨v1, hvl⟩ := zb_and hvl
    obtain ⟨v2, hvl⟩ := zb_and hvl
    obtain ⟨v3, hvl⟩ := zb_and hvl
    obtain ⟨v4, v5⟩ := zb_and hvl
    have v2 := of_decide_eq_true v2
    obtain ⟨r1, r2⟩ := zb_and v3
    have r1 := Nat.le_of_ble_eq_true r1
    have r2 := Nat.le_of_ble_eq_true r2
    have hlink : (Cond.methodLink (zmi M).1.cls idx (zmi N).1).before args s = true := by
      split at v5
      · exact hts _ (zmlink hM v5)
      · exact absurd rfl (zmath_nn N hN2 hN _ (of_decide_eq_true v5))
    have hstat := hts _ (zstat_in hN2 v4)
    have hini := hts _ (zinit_in (N := N) (by omega))
    rw [m2] at hini
    have hsum : ((st'.map (zv B)).map fun v => v.category).sum ≤ 8 := by rw [zsum_cat]; exact h8
    have hml2 : c.maxLocals = arr.size := hml.trans hlv.2.1.symm
    have hok : ∀ w ∈ st', zok σ.1 w := fun w hw => hst w (by rw [hst']; exact List.mem_append_right _ hw)
    have hoa : ∀ w ∈ av, zok σ.1 w := fun w hw => hst w (by rw [hst']; exact List.mem_append_left _ (List.mem_reverse.mpr hw))
    obtain ⟨c1, c2, c3, c4, c5⟩ := zmath_c
    obtain ⟨n1, n2, n3, n4, n5⟩ := zmath_n
    obtain ⟨p1, p2, p3, p4, p5⟩ := zmath_p
    rcases (show N = 206 ∨ N = 207 ∨ N = 208 ∨ N = 209 ∨ N = 210 by omega) with rfl | rfl | rfl | rfl | rfl
    · obtain ⟨x, r, rfl, hm⟩ := zp1l_inv hm
      have : b = 1 := Option.some.inj (v2.symm.trans p1)
      subst this
      have : r = [] := List.eq_nil_of_length_eq_zero (by simpa using hlen)
      subst this
      cases hm
      have hxr : zrl x := hoa _ List.mem_cons_self
      rw [n5] at hlink hstat
      rw [hst']
      refine va_mabs_long hx hb hml2 hown hlink hstat hini (hts _ (zT_of c5 rfl)) (by omega) (by show ((st'.map (zv B)).map fun v => v.category).sum + 13 ≤ R.locals; rw [m6] at r2; simp at r2; omega) hroom.1 hroom.2 hdg ?_
      have e0 : (0 : Int64) = Int64.ofInt 0 := rfl
      have hz : zrl 0 := by unfold zrl; omega
      have k2 := k (by
        show zrl _
        split
        · exact hxr
        · exact zwl_rl _) hok
      by_cases h9 : 0 < x
      · rw [if_pos h9] at k2
        rw [if_pos (by rw [e0, z64_lt hz hxr]; exact h9)]
        exact k2
      · rw [if_neg h9] at k2
        rw [if_neg (by rw [e0, z64_lt hz hxr]; exact h9), z64_neg]
        exact k2
    · obtain ⟨x, r, rfl, hm⟩ := zp1i_inv hm
      obtain ⟨y, r, rfl, hm⟩ := zp1i_inv hm
      have : b = 2 := Option.some.inj (v2.symm.trans p2)
      subst this
      have : r = [] := List.eq_nil_of_length_eq_zero (by simpa using hlen)
      subst this
      cases hm
      have hxr : zri x := hoa _ List.mem_cons_self
      have hyr : zri y := hoa _ (List.mem_cons_of_mem _ List.mem_cons_self)
      rw [n1] at hlink hstat
      rw [hst']
      refine va_mmax hx hb hml2 hown hlink hstat hini (hts _ (zT_of c1 rfl)) (by omega) (by show ((st'.map (zv B)).map fun v => v.category).sum + 13 ≤ R.locals; rw [m6] at r2; simp at r2; omega) hroom.1 hroom.2 hdg ?_
      have k2 := k (by show zri _; split; exact hyr; exact hxr) hok
      by_cases h9 : x < y
      · rw [if_pos h9] at k2; rw [if_pos ((z32_lt hxr hyr).mpr h9)]; exact k2
      · rw [if_neg h9] at k2; rw [if_neg (fun z => h9 ((z32_lt hxr hyr).mp z))]; exact k2
    · obtain ⟨x, r, rfl, hm⟩ := zp1l_inv hm
      obtain ⟨y, r, rfl, hm⟩ := zp1l_inv hm
      have : b = 2 := Option.some.inj (v2.symm.trans p3)
      subst this
      have : r = [] := List.eq_nil_of_length_eq_zero (by simpa using hlen)
      subst this
      cases hm
      have hxr : zrl x := hoa _ List.mem_cons_self
      have hyr : zrl y := hoa _ (List.mem_cons_of_mem _ List.mem_cons_self)
      rw [n3] at hlink hstat
      rw [hst']
      refine va_mmax_long hx hb hml2 hown hlink hstat hini (hts _ (zT_of c3 rfl)) (by omega) (by show ((st'.map (zv B)).map fun v => v.category).sum + 15 ≤ R.locals; rw [m6] at r2; simp at r2; omega) hroom.1 hroom.2 hdg ?_
      have k2 := k (by show zrl _; split; exact hxr; exact hyr) hok
      by_cases h9 : y < x
      · rw [if_pos h9] at k2; rw [if_pos ((z64_lt hyr hxr).mpr h9)]; exact k2
      · rw [if_neg h9] at k2; rw [if_neg (fun z => h9 ((z64_lt hyr hxr).mp z))]; exact k2
    · obtain ⟨x, r, rfl, hm⟩ := zp1i_inv hm
      obtain ⟨y, r, rfl, hm⟩ := zp1i_inv hm
      have : b = 2 := Option.some.inj (v2.symm.trans p4)
      subst this
      have : r = [] := List.eq_nil_of_length_eq_zero (by simpa using hlen)
      subst this
      cases hm
      have hxr : zri x := hoa _ List.mem_cons_self
      have hyr : zri y := hoa _ (List.mem_cons_of_mem _ List.mem_cons_self)
      rw [n2] at hlink hstat
      rw [hst']
      refine va_mmin hx hb hml2 hown hlink hstat hini (hts _ (zT_of c2 rfl)) (by omega) (by show ((st'.map (zv B)).map fun v => v.category).sum + 13 ≤ R.locals; rw [m6] at r2; simp at r2; omega) hroom.1 hroom.2 hdg ?_
      have k2 := k (by show zri _; split; exact hyr; exact hxr) hok
      by_cases h9 : y < x
      · rw [if_pos h9] at k2; rw [if_pos ((z32_lt hyr hxr).mpr h9)]; exact k2
      · rw [if_neg h9] at k2; rw [if_neg (fun z => h9 ((z32_lt hyr hxr).mp z))]; exact k2
    · obtain ⟨x, r, rfl, hm⟩ := zp1l_inv hm
      obtain ⟨y, r, rfl, hm⟩ := zp1l_inv hm
      have : b = 2 := Option.some.inj (v2.symm.trans p5)
      subst this
      have : r = [] := List.eq_nil_of_length_eq_zero (by simpa using hlen)
      subst this
      cases hm
      have hxr : zrl x := hoa _ List.mem_cons_self
      have hyr : zrl y := hoa _ (List.mem_cons_of_mem _ List.mem_cons_self)
      rw [n4] at hlink hstat
      rw [hst']
      refine va_mmin_long hx hb hml2 hown hlink hstat hini (hts _ (zT_of c4 rfl)) (by omega) (by show ((st'.map (zv B)).map fun v => v.category).sum + 15 ≤ R.locals; rw [m6] at r2; simp at r2; omega) hroom.1 hroom.2 hdg ?_
      have k2 := k (by show zrl _; split; exact hyr; exact hxr) hok
      by_cases h9 : y < x
      · rw [if_pos h9] at k2; rw [if_pos ((z64_lt hyr hxr).mpr h9)]; exact k2
      · rw [if_neg h9] at k2; rw [if_neg (fun z => h9 ((z64_lt hyr hxr).mp z))]; exact k2
  | invokevirtual idx =>
    simp only [zvl] at hvl
    split at hvl
    · rename_i hq
      have := Nat.le_of_ble_eq_true hq
      omega
    obtain ⟨v1, hvl⟩ := zb_and hvl
    obtain ⟨v2, hvl⟩ := zb_and hvl
    obtain ⟨v2b, hvl⟩ := zb_and hvl
    obtain ⟨v3, hvl⟩ := zb_and hvl
    obtain ⟨v6, hvl⟩ := zb_and hvl
    obtain ⟨v4, hvl⟩ := zb_and hvl
    have := zb_len v4
    omega
  | invokespecial idx =>
    simp only [zvl] at hvl
    split at hvl
    · rename_i hq
      have := zb_len hq
      omega
    obtain ⟨v1, hvl⟩ := zb_and hvl
    obtain ⟨v2, hvl⟩ := zb_and hvl
    obtain ⟨v2b, hvl⟩ := zb_and hvl
    obtain ⟨v3, hvl⟩ := zb_and hvl
    obtain ⟨v6, hvl⟩ := zb_and hvl
    exact absurd (of_decide_eq_true v6) m3
  | _ => exact absurd (zheap_call h0) (by simp)
end ZMA
