/-! the law's own judgement: n cells more than the layout's are made (by look) -/
def zLw (Ω : zΩ) (p : Program) (e : Env) (s : State) (mi : MethodId) (args : Array Value) (below : List Frame) (meth : Method) (c : Code) (R : Room) (Z : State → Prop) (n : Nat) (pc : Nat) (ls st : List zV) (m : zM) : Prop := ∀ (H : Heap) (locs : List Loc) (arr : Array Slot), zWd Ω.2.1 Ω.2.2.1 Ω.2.2.2.1 Ω.2.2.2.2.1 Ω.2.2.2.2.2 s H (147, zr0, m) → va_S (zA Ω.2.1) s.heap H locs → zlv Ω.2.1 arr (zmi 211).2.2.1 ls → zoks 147 ls → zoks 147 st → W p Ω.1 e R s mi args below meth c H locs (147 + n) (zss 147 + 16 * n) Z (F0 mi pc arr (st.map (zv Ω.2.1)))
section ZLJ
variable {Ω : zΩ} {p : Program} {e : Env} {s : State} {mi : MethodId} {args : Array Value} {below : List Frame} {meth : Method} {c : Code} {R : Room} {Z : State → Prop} {n : Nat}
theorem zLw_J (X : zCx Ω.2.1 Ω.2.2.1 Ω.2.2.2.1 p s mi args meth c 211) (hfr : zfr 211 ≤ R.frames ∧ zlo 211 ≤ R.locals) (hroom : 147 + n ≤ R.cells ∧ zss 147 + 16 * n ≤ R.slots) (hZ : ∀ (pc : Nat) (H : Heap) (locs : List Loc) (arr : Array Slot), decode (zmi 211).2.1 pc = .ok (.ireturn, 1) → va_S (zA Ω.2.1) s.heap H locs → W p Ω.1 e R s mi args below meth c H locs (147 + n) (zss 147 + 16 * n) Z (F0 mi pc arr [.int 1])) : zJ Ω 211 (zLw Ω p e s mi args below meth c R Z n) (fun r _ => r = [zI 1]) := by
  have h7 : 211 < 212 := by decide
  refine ⟨?_, ?_, ?_, ?_, ?_, ?_⟩
  · intro pc i len a b c' e' d ls st ls' st' pc' m m' he hs hJ H locs arr hW hS hlv hls hst
    obtain ⟨-, hdg, hvl⟩ := zent_ok h7 he
    unfold zstep at hs
    split at hs
    · rename_i nn hp
      cases hs
      exact zpure_ok X.1 X.2.1 hdg hp hlv hls hst fun arr' q1 q2 q3 => hJ H locs arr' hW hS q1 q2 q3
    · refine zheap_ok (cells := 147 + n) (slots := zss 147 + 16 * n) h7 X hdg hvl hfr hW hS hlv hls hst hs (fun hl => absurd hl (Nat.lt_irrefl 147)) ⟨by show 147 + n + (147 - 147) ≤ R.cells; omega, by show zss 147 + 16 * n + (zss 147 - zss 147) ≤ R.slots; omega⟩ fun H1 locs1 q1 q2 q3 q4 q5 => ?_
      have hw := hJ H1 locs1 arr q1 q2 (by rw [q5]; exact hlv) q3 q4
      have e1 : 147 + n + (147 - 147) = 147 + n := by omega
      have e2 : zss 147 + 16 * n + (zss 147 - zss 147) = zss 147 + 16 * n := by omega
      show W p Ω.1 e R s mi args below meth c H1 locs1 (147 + n + (147 - 147)) (zss 147 + 16 * n + (zss 147 - zss 147)) Z _
      rw [e1, e2]
      exact hw
  · intro pc i len a b c' e' d ls st r m _ he hs hR H locs arr hW hS hlv hls hst
    obtain ⟨-, hdg, hvl⟩ := zent_ok h7 he
    unfold zstep at hs
    split at hs
    · cases hs
    · subst hR
      rcases zheap_ret hs with rfl | rfl | rfl | rfl
      · obtain ⟨h1, hq1⟩ := zg_inv hs
        obtain ⟨x, r2, rfl, hq2⟩ := zp1i_inv hq1
        obtain ⟨h2, hq3⟩ := zg_inv hq2
        have k2 := (zb_and h2).1
        cases zb_len h1
        cases hq3
        have e2 : r2 = [] := List.isEmpty_iff.mp k2
        subst e2
        exact hZ pc H locs arr hdg hS
      · obtain ⟨h1, hq1⟩ := zg_inv hs
        obtain ⟨x, r2, rfl, hq2⟩ := zp1l_inv hq1
        obtain ⟨h2, hq3⟩ := zg_inv hq2
        cases hq3
      · obtain ⟨h1, hq1⟩ := zg_inv hs
        cases hq1
      · obtain ⟨-, q1⟩ := zg_inv hs
        obtain ⟨_, _, _, -, q2⟩ := zp1r_inv q1
        obtain ⟨-, q3⟩ := zg_inv q2
        cases q3
  · intro pc ls st m h H locs arr hW hS hlv hls hst
    exact h (Nat.le_refl _) hst H locs arr hW hS hlv hls hst
  · intro pc i len a b c' e' d ls st av ls' st' pc' N m hN he hs hl hG H locs arr hW hS hlv hls hst
    obtain ⟨-, hdg, hvl⟩ := zent_ok h7 he
    unfold zstep at hs
    split at hs
    · cases hs
    · have ea : a = N := by
        rcases zheap_call hs with ⟨x, rfl⟩ | ⟨x, rfl⟩ | ⟨x, rfl⟩
        · obtain ⟨-, q1⟩ := zg_inv hs
          obtain ⟨-, q2⟩ := zg_inv q1
          cases q2; rfl
        · obtain ⟨-, q1⟩ := zg_inv hs
          obtain ⟨-, q2⟩ := zg_inv q1
          obtain ⟨_, _, _, -, q3⟩ := zp1r_inv q2
          obtain ⟨-, q4⟩ := zg_inv q3
          cases q4; rfl
        · obtain ⟨-, q1⟩ := zg_inv hs
          split at q1
          · obtain ⟨_, _, _, -, q3⟩ := zp1r_inv q1
            obtain ⟨-, q4⟩ := zg_inv q3
            cases q4
          · obtain ⟨-, q2⟩ := zg_inv q1
            obtain ⟨_, _, _, -, q3⟩ := zp1r_inv q2
            obtain ⟨-, q4⟩ := zg_inv q3
            cases q4; rfl
      subst ea
      have sub : ls' = ls ∧ (∀ v ∈ av, v ∈ st) ∧ (∀ v ∈ st', v ∈ st) := by
        rcases zheap_call hs with ⟨x, rfl⟩ | ⟨x, rfl⟩ | ⟨x, rfl⟩
        · obtain ⟨-, q1⟩ := zg_inv hs
          obtain ⟨-, q2⟩ := zg_inv q1
          cases q2; exact ⟨rfl, fun v hv => List.mem_of_mem_take (List.mem_reverse.mp hv), fun v hv => List.mem_of_mem_drop hv⟩
        · obtain ⟨-, q1⟩ := zg_inv hs
          obtain ⟨-, q2⟩ := zg_inv q1
          obtain ⟨_, _, _, -, q3⟩ := zp1r_inv q2
          obtain ⟨-, q4⟩ := zg_inv q3
          cases q4; exact ⟨rfl, fun v hv => List.mem_of_mem_take (List.mem_reverse.mp hv), fun v hv => List.mem_of_mem_drop hv⟩
        · obtain ⟨-, q1⟩ := zg_inv hs
          split at q1
          · obtain ⟨_, _, _, -, q3⟩ := zp1r_inv q1
            obtain ⟨-, q4⟩ := zg_inv q3
            cases q4
          · obtain ⟨-, q2⟩ := zg_inv q1
            obtain ⟨_, _, _, -, q3⟩ := zp1r_inv q2
            obtain ⟨-, q4⟩ := zg_inv q3
            cases q4; exact ⟨rfl, fun v hv => List.mem_of_mem_take (List.mem_reverse.mp hv), fun v hv => List.mem_of_mem_drop hv⟩
      obtain ⟨rfl, sa, sb⟩ := sub
      have hMt := zMet (l := Ω.1) hN (fun v hv => hst v (sa v hv)) hl hG
      rw [Nat.sub_self, Nat.sub_self] at hMt
      refine (zcall_ok (R := R) (e := e) (below := below) (cells := 147 + n) (slots := zss 147 + 16 * n) h7 (by omega) X hdg hvl hfr hW hS hlv hst (fun hl => absurd hl (Nat.lt_irrefl 147)) hs hMt ⟨by omega, by omega⟩ fun r σ1 H1 locs1 q1 q2 q3 q4 => ?_).2.2.2.2
      obtain ⟨m', rfl, hz⟩ := q1
      have hw := hz H1 locs1 arr q3 q4 hlv hls fun v hv => by
        rcases List.mem_append.mp hv with q | q
        · exact q2 v q
        · exact hst v (sb v q)
      rw [Nat.add_zero, Nat.add_zero]
      exact hw
  · intro S hS pc ls st m h H locs arr hW hS' hlv hls hst
    obtain ⟨w1, w2, w3, w4, w5, w6, w7, w8⟩ := id hW
    refine h ?_ (fun j j0 j1 => ?_) H locs arr hW hS' hlv hls hst
    · rw [hS.1]; exact w6.symm
    · rw [hS.1] at j1
      have hj : ((j.toNat : Nat) : Int) = j := by omega
      have a := w7 j.toNat (by omega)
      have b := hS.2 j.toNat (by omega)
      rw [hj] at a b
      rw [b]; exact a.symm
  · intro k pc ls st m h H locs arr hW hS hlv hls hst
    refine h H locs arr hW hS ⟨(zmask_len k ls).trans hlv.1, hlv.2.1, hlv.2.2.1, fun i v hi hv => ?_⟩ (fun v hv => ?_) hst
    · rcases zmask_get k ls i v hi with z | z
      · exact absurd z hv
      · exact hlv.2.2.2 i v z hv
    · obtain ⟨i, hi⟩ := List.getElem?_of_mem hv
      rcases zmask_get k ls i v hi with z | z
      · rw [z]; trivial
      · exact hls v (List.mem_of_getElem? z)
end ZLJ
