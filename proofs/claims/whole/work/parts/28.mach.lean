theorem zss_a (K : Nat) : ∀ d, zss K ≤ zss (K + d) := by
  intro d
  induction d with
  | zero => exact Nat.le_refl _
  | succ d ih =>
    refine Nat.le_trans ih ?_
    show zss (K + d) ≤ zss (K + d + 1)
    unfold zss
    rw [List.range_succ, List.map_append, List.sum_append]
    exact Nat.le_add_right _ _
theorem zss_mono {K K' : Nat} (h : K ≤ K') : zss K ≤ zss K' := by
  have := zss_a K (K' - K)
  rwa [show K + (K' - K) = K' by omega] at this
theorem zheap_K {i : Instr} {len a b c e pc : Nat} {d : Int} {ls st : List zV} {s s' : zS} {n : zN} (h0 : zheap i len a b c e d pc ls st s = some (.inl (n, s'))) : s.1 ≤ s'.1 := by
  cases i with
  | getfield _ =>
    obtain ⟨_, h1⟩ := zg_inv h0
    obtain ⟨_, _, _, _, h2⟩ := zp1r_inv h1
    obtain ⟨_, h3⟩ := zg_inv h2
    obtain ⟨_, _, h4⟩ := Option.bind_eq_some_iff.mp h3
    cases h4
    exact Nat.le_refl _
  | putfield _ =>
    obtain ⟨_, h1⟩ := zg_inv h0
    obtain ⟨_, _, _, h2⟩ := zp1_inv h1
    obtain ⟨_, _, _, _, h3⟩ := zp1r_inv h2
    obtain ⟨_, h4⟩ := zg_inv h3
    obtain ⟨_, _, h5⟩ := Option.bind_eq_some_iff.mp h4
    cases h5
    exact Nat.le_refl _
  | iaload =>
    obtain ⟨_, h1⟩ := zg_inv h0
    obtain ⟨_, _, _, _, _, h2⟩ := zp2ir_inv h1
    split at h2
    · obtain ⟨_, h3⟩ := zg_inv h2
      cases h3
      exact Nat.le_refl _
    · obtain ⟨_, h3⟩ := zg_inv h2
      cases h3
      exact Nat.le_refl _
  | baload =>
    obtain ⟨_, h1⟩ := zg_inv h0
    obtain ⟨_, _, _, _, _, h2⟩ := zp2ir_inv h1
    obtain ⟨_, h3⟩ := zg_inv h2
    cases h3
    exact Nat.le_refl _
  | laload =>
    obtain ⟨_, h1⟩ := zg_inv h0
    obtain ⟨_, _, _, _, _, h2⟩ := zp2ir_inv h1
    obtain ⟨_, h3⟩ := zg_inv h2
    cases h3
    exact Nat.le_refl _
  | aaload =>
    obtain ⟨_, h1⟩ := zg_inv h0
    obtain ⟨_, _, _, _, _, h2⟩ := zp2ir_inv h1
    split at h2
    · obtain ⟨_, h3⟩ := zg_inv h2
      cases h3
      exact Nat.le_refl _
    obtain ⟨_, h3⟩ := zg_inv h2
    cases h3
    exact Nat.le_refl _
  | iastore =>
    obtain ⟨_, h1⟩ := zg_inv h0
    obtain ⟨_, _, _, _, _, _, h2⟩ := zp3ir_inv h1
    obtain ⟨_, h3⟩ := zg_inv h2
    cases h3
    exact Nat.le_refl _
  | bastore =>
    obtain ⟨_, h1⟩ := zg_inv h0
    obtain ⟨_, _, _, _, _, _, h2⟩ := zp3ir_inv h1
    obtain ⟨_, h3⟩ := zg_inv h2
    cases h3
    exact Nat.le_refl _
  | lastore =>
    obtain ⟨_, h1⟩ := zg_inv h0
    obtain ⟨_, _, _, _, _, _, h2⟩ := zp3lr_inv h1
    obtain ⟨_, h3⟩ := zg_inv h2
    cases h3
    exact Nat.le_refl _
  | aastore =>
    obtain ⟨_, h1⟩ := zg_inv h0
    obtain ⟨_, _, _, _, _, _, _, h2⟩ := zp3rr_inv h1
    split at h2
    · obtain ⟨_, h3⟩ := zg_inv h2
      cases h3
      exact Nat.le_refl _
    obtain ⟨_, h3⟩ := zg_inv h2
    cases h3
    exact Nat.le_refl _
  | arraylength =>
    obtain ⟨_, h1⟩ := zg_inv h0
    obtain ⟨_, _, _, _, h2⟩ := zp1r_inv h1
    split at h2
    · cases h2
      exact Nat.le_refl _
    · obtain ⟨_, h3⟩ := zg_inv h2
      cases h3
      exact Nat.le_refl _
  | ldc _ =>
    obtain ⟨_, h1⟩ := zg_inv h0
    split at h1
    · cases h1
      exact Nat.le_refl _
    · cases h1
      exact Nat.le_refl _
  | ldc_w _ =>
    obtain ⟨_, h1⟩ := zg_inv h0
    split at h1
    · cases h1
      exact Nat.le_refl _
    · cases h1
  | ldc2_w _ =>
    obtain ⟨_, h1⟩ := zg_inv h0
    cases h1
    exact Nat.le_refl _
  | new _ =>
    obtain ⟨_, h1⟩ := zg_inv h0
    cases h1
    exact Nat.le_succ _
  | newarray _ =>
    obtain ⟨_, h1⟩ := zg_inv h0
    obtain ⟨_, _, _, h2⟩ := zp1i_inv h1
    obtain ⟨_, h3⟩ := zg_inv h2
    cases h3
    exact Nat.le_succ _
  | anewarray _ =>
    obtain ⟨_, h1⟩ := zg_inv h0
    obtain ⟨_, _, _, h2⟩ := zp1i_inv h1
    obtain ⟨_, h3⟩ := zg_inv h2
    cases h3
    exact Nat.le_succ _
  | invokevirtual _ =>
    obtain ⟨_, h1⟩ := zg_inv h0
    obtain ⟨_, h2⟩ := zg_inv h1
    obtain ⟨_, _, _, _, h3⟩ := zp1r_inv h2
    obtain ⟨_, h4⟩ := zg_inv h3
    cases h4
  | invokestatic _ =>
    obtain ⟨_, h1⟩ := zg_inv h0
    obtain ⟨_, h2⟩ := zg_inv h1
    cases h2
  | invokespecial _ =>
    obtain ⟨_, h1⟩ := zg_inv h0
    split at h1
    · obtain ⟨_, _, _, _, h2⟩ := zp1r_inv h1
      obtain ⟨_, h3⟩ := zg_inv h2
      cases h3
      exact Nat.le_refl _
    · obtain ⟨_, h2⟩ := zg_inv h1
      obtain ⟨_, _, _, _, h3⟩ := zp1r_inv h2
      obtain ⟨_, h4⟩ := zg_inv h3
      cases h4
  | ireturn =>
    obtain ⟨_, h1⟩ := zg_inv h0
    obtain ⟨_, _, _, h2⟩ := zp1i_inv h1
    obtain ⟨_, h3⟩ := zg_inv h2
    cases h3
  | areturn =>
    obtain ⟨_, h1⟩ := zg_inv h0
    obtain ⟨_, _, _, _, h2⟩ := zp1r_inv h1
    obtain ⟨_, h3⟩ := zg_inv h2
    cases h3
  | lreturn =>
    obtain ⟨_, h1⟩ := zg_inv h0
    obtain ⟨_, _, _, h2⟩ := zp1l_inv h1
    obtain ⟨_, h3⟩ := zg_inv h2
    cases h3
  | return_ =>
    obtain ⟨_, h1⟩ := zg_inv h0
    cases h1
  | _ => cases h0
theorem zstep_K {i : Instr} {len a b c e pc : Nat} {d : Int} {ls st : List zV} {s s' : zS} {n : zN} (h : zstep i len a b c e d pc ls st s = some (.inl (n, s'))) : s.1 ≤ s'.1 := by
  unfold zstep at h
  split at h
  · cases h; exact Nat.le_refl _
  · exact zheap_K h
section ZMC
variable {l : Launch} {B : zB} {cA : Nat → ClassId} {D : va_G} {L : Nat} {xs : Nat → Int32}
theorem zMach.mono {Kend M pc : Nat} {ls st : List zV} {σ : zS} {Q Q' : List zV → zS → Prop} (h : zMach l B cA D L xs Kend M pc ls st σ Q) (hq : ∀ r s, Q r s → Q' r s) : zMach l B cA D L xs Kend M pc ls st σ Q' := by
  intro p e s m args below meth c H locs arr K0 h1 h2 h3 h4 h5 h6 h7 h8 T hT X
  obtain ⟨t, a, o, b1, b2, ⟨⟨r, σ', c1, c2, c3, c4, c5⟩, c6⟩, b4⟩ := h p e s m args below meth c H locs arr K0 h1 h2 h3 h4 h5 h6 h7 h8 T hT X
  exact ⟨t, a, o, b1, b2, ⟨⟨r, σ', c1, c2, hq r σ' c3, c4, c5⟩, c6⟩, b4⟩
theorem zMach_next {Kend M pc : Nat} {i : Instr} {len a b cs ee : Nat} {d : Int} {ls st ls' st' : List zV} {pc' : Nat} {σ σ' : zS} {Q : List zV → zS → Prop} (hM : M < 212) (he : zent M pc = some (pc, i, len, (a, b, cs, ee), d)) (h0 : zstep i len a b cs ee d pc ls st σ = some (.inl ((pc', ls', st'), σ'))) (hk : σ'.1 ≤ Kend)
    (h : zMach l B cA D L xs Kend M pc' ls' st' σ' Q) : zMach l B cA D L xs Kend M pc ls st σ Q := by
  obtain ⟨-, hdg, hvl⟩ := zent_ok hM he
  have hKs := zstep_K h0
  intro p e s m args below meth c H locs arr K0 X hW hS hlv hls hst hK0 hsz
  unfold zstep at h0
  split at h0
  · rename_i n hp
    cases h0
    exact zpure_ok X.1 X.2.1 hdg hp hlv hls hst fun arr' q1 q2 q3 => h p e s m args below meth c H locs arr' K0 X hW hS q1 q2 q3 hK0 hsz
  · have z1 := zss_mono hKs
    have z2 := zss_mono hK0
    have z3 := zss_mono hk
    refine zheap_ok hM X hdg hvl ⟨Nat.le_refl _, Nat.le_refl _⟩ hW hS hlv hls hst h0 (fun hl => ⟨K0, hsz hl, by omega⟩) ⟨by show σ.1 - K0 + (σ'.1 - σ.1) ≤ Kend - K0; omega, by show zss σ.1 - zss K0 + (zss σ'.1 - zss σ.1) ≤ zss Kend - zss K0; omega⟩ fun H1 locs1 q1 q2 q3 q4 q5 => ?_
    rw [show σ.1 - K0 + (σ'.1 - σ.1) = σ'.1 - K0 by omega, show zss σ.1 - zss K0 + (zss σ'.1 - zss σ.1) = zss σ'.1 - zss K0 by omega]
    exact h p e s m args below meth c H1 locs1 arr K0 X q1 q2 (by rw [q5]; exact hlv) q3 q4 (by omega) (fun hl => hsz (by omega))
theorem zMach_ret {Kend M pc : Nat} {i : Instr} {len a b cs ee : Nat} {d : Int} {ls st r : List zV} {σ σ' : zS} {Q : List zV → zS → Prop} (hM : M < 212) (he : zent M pc = some (pc, i, len, (a, b, cs, ee), d)) (h0 : zstep i len a b cs ee d pc ls st σ = some (.inr (.inl (r, σ')))) (hk : σ.1 = Kend) (hQ : Q r σ') : zMach l B cA D L xs Kend M pc ls st σ Q := by
  obtain ⟨-, hdg, hvl⟩ := zent_ok hM he
  intro p e s m args below meth c H locs arr K0 X hW hS hlv hls hst hK0 hsz
  unfold zstep at h0
  split at h0
  · cases h0
  · subst hk
    exact zret_ok X hdg hvl hW hS hst h0 hQ
theorem zH_size {p : Program} {e : Env} {R : Room} {s : State} {m : MethodId} {args : Array Value} {below : List Frame} {meth : Method} {c : Code} {H : Heap} {locs : List Loc} {cells slots K0 : Nat} {Q : State → Prop} {g : JFrame} {σ : zS} (hB : B.1 ≤ s.heap.size) (hS : va_S (zA B) s.heap H locs) (hW : zWd B cA D L xs s H σ) (hsz : σ.1 < 147 → s.heap.size = B.1 + K0 ∧ cells + K0 = σ.1) (k : (σ.1 < 147 → H.size = B.1 + σ.1) → W p l e R s m args below meth c H locs cells slots Q g) : W p l e R s m args below meth c H locs cells slots Q g := by
  refine zW_size fun hs => k fun hl => ?_
  obtain ⟨z1, z2⟩ := hsz hl
  have h1 : B.1 + σ.1 ≤ H.size := by
    by_cases h0 : σ.1 = 0
    · have := hS.1; omega
    · have := (hW.1 (σ.1 - 1) _ (zws_get0 (by omega))).lt
      have : B.1 + (σ.1 - 1) < H.size := this
      omega
  omega
theorem zMach_call {Kend K2 M pc N : Nat} {i : Instr} {len a b cs ee : Nat} {d : Int} {ls st av ls' st' : List zV} {pc' : Nat} {σ σ' : zS} {Q Q' : List zV → zS → Prop} (hM : M < 212) (hN : N < 206) (he : zent M pc = some (pc, i, len, (a, b, cs, ee), d)) (h0 : zstep i len a b cs ee d pc ls st σ = some (.inr (.inr (N, av, (pc', ls', st'), σ')))) (hl : (zinl av).length ≤ (zmi N).2.2.1) (hk1 : σ.1 ≤ K2) (hk2 : K2 ≤ Kend)
    (h1 : zMach l B cA D L xs K2 N 0 (zini N av) [] σ' Q') (h2 : ∀ r σ2, Q' r σ2 → σ2.1 = K2 ∧ zMach l B cA D L xs Kend M pc' ls' (r ++ st') σ2 Q) : zMach l B cA D L xs Kend M pc ls st σ Q := by
  obtain ⟨-, hdg, hvl⟩ := zent_ok hM he
  intro p e s m args below meth c H locs arr K0 X hW hS hlv hls hst hK0 hsz
  unfold zstep at h0
  split at h0
  · cases h0
  · have ea : a = N := by
      rcases zheap_call h0 with ⟨x, rfl⟩ | ⟨x, rfl⟩ | ⟨x, rfl⟩
      · obtain ⟨-, q1⟩ := zg_inv h0
        obtain ⟨-, q2⟩ := zg_inv q1
        cases q2; rfl
      · obtain ⟨-, q1⟩ := zg_inv h0
        obtain ⟨-, q2⟩ := zg_inv q1
        obtain ⟨_, _, _, -, q3⟩ := zp1r_inv q2
        obtain ⟨-, q4⟩ := zg_inv q3
        cases q4; rfl
      · obtain ⟨-, q1⟩ := zg_inv h0
        split at q1
        · obtain ⟨_, _, _, -, q3⟩ := zp1r_inv q1
          obtain ⟨-, q4⟩ := zg_inv q3
          cases q4
        · obtain ⟨-, q2⟩ := zg_inv q1
          obtain ⟨_, _, _, -, q3⟩ := zp1r_inv q2
          obtain ⟨-, q4⟩ := zg_inv q3
          cases q4; rfl
    subst ea
    refine zH_size (K0 := K0) X.2.2.2.2.2.2.2.2.1 hS hW (fun hl => ⟨hsz hl, by omega⟩) fun hHs => ?_
    have z1 := zss_mono hk1
    have z2 := zss_mono hK0
    have z3 := zss_mono hk2
    have pre := fun (hMt : Met l (zmi a).1 (zwsM a) (zroom a (K2 - σ.1) (zss K2 - zss σ.1)) (zPc B cA D L xs av σ) (zQc B cA D L xs Q') (K2 - σ.1) (zss K2 - zss σ.1) (zA B)) => zcall_ok (R := zroom M (Kend - K0) (zss Kend - zss K0)) (e := e) (below := below) (cells := σ.1 - K0) (slots := zss σ.1 - zss K0) (Q := MQ below (zQc B cA D L xs Q) args s (Kend - K0) (zss Kend - zss K0) (zA B)) hM (by omega) X hdg hvl ⟨Nat.le_refl _, Nat.le_refl _⟩ hW hS hlv hst hHs h0 hMt ⟨by show σ.1 - K0 + (K2 - σ.1) ≤ Kend - K0; omega, by show zss σ.1 - zss K0 + (zss K2 - zss σ.1) ≤ zss Kend - zss K0; omega⟩
    have sub : ls' = ls ∧ σ' = σ ∧ (∀ v ∈ av, v ∈ st) ∧ (∀ v ∈ st', v ∈ st) := by
      rcases zheap_call h0 with ⟨x, rfl⟩ | ⟨x, rfl⟩ | ⟨x, rfl⟩
      · obtain ⟨-, q1⟩ := zg_inv h0
        obtain ⟨-, q2⟩ := zg_inv q1
        cases q2; exact ⟨rfl, rfl, fun v hv => List.mem_of_mem_take (List.mem_reverse.mp hv), fun v hv => List.mem_of_mem_drop hv⟩
      · obtain ⟨-, q1⟩ := zg_inv h0
        obtain ⟨-, q2⟩ := zg_inv q1
        obtain ⟨_, _, _, -, q3⟩ := zp1r_inv q2
        obtain ⟨-, q4⟩ := zg_inv q3
        cases q4; exact ⟨rfl, rfl, fun v hv => List.mem_of_mem_take (List.mem_reverse.mp hv), fun v hv => List.mem_of_mem_drop hv⟩
      · obtain ⟨-, q1⟩ := zg_inv h0
        split at q1
        · obtain ⟨_, _, _, -, q3⟩ := zp1r_inv q1
          obtain ⟨-, q4⟩ := zg_inv q3
          cases q4
        · obtain ⟨-, q2⟩ := zg_inv q1
          obtain ⟨_, _, _, -, q3⟩ := zp1r_inv q2
          obtain ⟨-, q4⟩ := zg_inv q3
          cases q4; exact ⟨rfl, rfl, fun v hv => List.mem_of_mem_take (List.mem_reverse.mp hv), fun v hv => List.mem_of_mem_drop hv⟩
    obtain ⟨rfl, rfl, sa, sb⟩ := sub
    have hMt := zMet (l := l) (Q := Q') hN (fun v hv => hst v (sa v hv)) hl h1
    refine (pre hMt fun r σ1 H1 locs1 q1 q2 q3 q4 => ?_).2.2.2.2
    obtain ⟨e1, e2⟩ := h2 r σ1 q1
    rw [show σ'.1 - K0 + (K2 - σ'.1) = σ1.1 - K0 by omega, show zss σ'.1 - zss K0 + (zss K2 - zss σ'.1) = zss σ1.1 - zss K0 by rw [e1]; omega]
    have hmono : σ'.1 ≤ σ1.1 := by omega
    refine e2 p e s m args below meth c H1 locs1 arr K0 X q3 q4 hlv (zoks_mono hmono hls) (fun v hv => ?_) (by omega) (fun hl => hsz (by omega))
    rcases List.mem_append.mp hv with q | q
    · exact q2 v q
    · exact zok_mono hmono (hst v (sb v q))
theorem zMach_math {Kend M pc N : Nat} {i : Instr} {len a b cs ee : Nat} {d : Int} {ls st av ls' st' : List zV} {v : zV} {pc' : Nat} {σ σ' : zS} {Q : List zV → zS → Prop} (hM : M < 212) (hN : 206 ≤ N) (hN2 : N < 211) (he : zent M pc = some (pc, i, len, (a, b, cs, ee), d)) (h0 : zstep i len a b cs ee d pc ls st σ = some (.inr (.inr (N, av, (pc', ls', st'), σ')))) (hm : zmath N av = some v) (hk : σ.1 ≤ Kend)
    (h : zMach l B cA D L xs Kend M pc' ls' (v :: st') σ' Q) : zMach l B cA D L xs Kend M pc ls st σ Q := by
  obtain ⟨-, hdg, hvl⟩ := zent_ok hM he
  intro p e s m args below meth c H locs arr K0 X hW hS hlv hls hst hK0 hsz
  unfold zstep at h0
  split at h0
  · cases h0
  · have ea : a = N := by
      rcases zheap_call h0 with ⟨x, rfl⟩ | ⟨x, rfl⟩ | ⟨x, rfl⟩
      · obtain ⟨-, q1⟩ := zg_inv h0
        obtain ⟨-, q2⟩ := zg_inv q1
        cases q2; rfl
      · obtain ⟨-, q1⟩ := zg_inv h0
        obtain ⟨-, q2⟩ := zg_inv q1
        obtain ⟨_, _, _, -, q3⟩ := zp1r_inv q2
        obtain ⟨-, q4⟩ := zg_inv q3
        cases q4; rfl
      · obtain ⟨-, q1⟩ := zg_inv h0
        split at q1
        · obtain ⟨_, _, _, -, q3⟩ := zp1r_inv q1
          obtain ⟨-, q4⟩ := zg_inv q3
          cases q4
        · obtain ⟨-, q2⟩ := zg_inv q1
          obtain ⟨_, _, _, -, q3⟩ := zp1r_inv q2
          obtain ⟨-, q4⟩ := zg_inv q3
          cases q4; rfl
    subst ea
    have z2 := zss_mono hK0
    have z3 := zss_mono hk
    have sub : ls' = ls ∧ σ' = σ := by
      rcases zheap_call h0 with ⟨x, rfl⟩ | ⟨x, rfl⟩ | ⟨x, rfl⟩
      · obtain ⟨-, q1⟩ := zg_inv h0
        obtain ⟨-, q2⟩ := zg_inv q1
        cases q2; exact ⟨rfl, rfl⟩
      · obtain ⟨-, q1⟩ := zg_inv h0
        obtain ⟨-, q2⟩ := zg_inv q1
        obtain ⟨_, _, _, -, q3⟩ := zp1r_inv q2
        obtain ⟨-, q4⟩ := zg_inv q3
        cases q4; exact ⟨rfl, rfl⟩
      · obtain ⟨-, q1⟩ := zg_inv h0
        split at q1
        · obtain ⟨_, _, _, -, q3⟩ := zp1r_inv q1
          obtain ⟨-, q4⟩ := zg_inv q3
          cases q4
        · obtain ⟨-, q2⟩ := zg_inv q1
          obtain ⟨_, _, _, -, q3⟩ := zp1r_inv q2
          obtain ⟨-, q4⟩ := zg_inv q3
          cases q4; exact ⟨rfl, rfl⟩
    obtain ⟨rfl, rfl⟩ := sub
    exact (zmath_ok (l := l) (R := zroom M (Kend - K0) (zss Kend - zss K0)) hM hN hN2 X hdg hvl ⟨Nat.le_refl _, Nat.le_refl _⟩ hlv hst ⟨by show σ'.1 - K0 ≤ Kend - K0; omega, by show zss σ'.1 - zss K0 ≤ zss Kend - zss K0; omega⟩ h0 hm fun q1 q2 => h p e s m args below meth c H locs arr K0 X hW hS hlv hls (zoks_cons q1 q2) hK0 hsz).2.2
/-- a run of the abstract machine -/
def zrun : Nat → Nat → Nat → List zV → List zV → zS → Option (List zV × zS)
  | 0, _, _, _, _, _ => none
  | n + 1, M, pc, ls, st, σ => match zent M pc with
    | none => none
    | some q => match zstep q.2.1 q.2.2.1 q.2.2.2.1.1 q.2.2.2.1.2.1 q.2.2.2.1.2.2.1 q.2.2.2.1.2.2.2 q.2.2.2.2 pc ls st σ with
      | none => none
      | some (.inl f) => zrun n M f.1.1 f.1.2.1 f.1.2.2 f.2
      | some (.inr (.inl r)) => some r
      | some (.inr (.inr f)) => match Nat.ble 206 f.1 with
        | true => match Nat.ble f.1 210, zmath f.1 f.2.1 with
          | true, some v => zrun n M f.2.2.1.1 f.2.2.1.2.1 (v :: f.2.2.1.2.2) f.2.2.2
          | _, _ => none
        | false => match Nat.ble (zinl f.2.1).length (zmi f.1).2.2.1, zrun n f.1 0 (zini f.1 f.2.1) [] f.2.2.2 with
          | true, some r => zrun n M f.2.2.1.1 f.2.2.1.2.1 (r.1 ++ f.2.2.1.2.2) r.2
          | _, _ => none
theorem zcall_σ {i : Instr} {len a b c e pc : Nat} {d : Int} {ls st : List zV} {s : zS} {f : Nat × List zV × zN × zS} (h0 : zstep i len a b c e d pc ls st s = some (.inr (.inr f))) : f.2.2.2 = s := by
  unfold zstep at h0
  split at h0
  · cases h0
  · rcases zheap_call h0 with ⟨x, rfl⟩ | ⟨x, rfl⟩ | ⟨x, rfl⟩
    · obtain ⟨-, q1⟩ := zg_inv h0
      obtain ⟨-, q2⟩ := zg_inv q1
      cases q2; rfl
    · obtain ⟨-, q1⟩ := zg_inv h0
      obtain ⟨-, q2⟩ := zg_inv q1
      obtain ⟨_, _, _, -, q3⟩ := zp1r_inv q2
      obtain ⟨-, q4⟩ := zg_inv q3
      cases q4; rfl
    · obtain ⟨-, q1⟩ := zg_inv h0
      split at q1
      · obtain ⟨_, _, _, -, q3⟩ := zp1r_inv q1
        obtain ⟨-, q4⟩ := zg_inv q3
        cases q4
      · obtain ⟨-, q2⟩ := zg_inv q1
        obtain ⟨_, _, _, -, q3⟩ := zp1r_inv q2
        obtain ⟨-, q4⟩ := zg_inv q3
        cases q4; rfl
theorem zret_σ {i : Instr} {len a b c e pc : Nat} {d : Int} {ls st : List zV} {s : zS} {f : List zV × zS} (h0 : zstep i len a b c e d pc ls st s = some (.inr (.inl f))) : f.2 = s := by
  unfold zstep at h0
  split at h0
  · cases h0
  · rcases zheap_ret h0 with rfl | rfl | rfl | rfl
    · obtain ⟨-, q1⟩ := zg_inv h0
      obtain ⟨_, _, -, q2⟩ := zp1i_inv q1
      obtain ⟨-, q3⟩ := zg_inv q2
      cases q3; rfl
    · obtain ⟨-, q1⟩ := zg_inv h0
      obtain ⟨_, _, -, q2⟩ := zp1l_inv q1
      obtain ⟨-, q3⟩ := zg_inv q2
      cases q3; rfl
    · obtain ⟨-, q1⟩ := zg_inv h0
      cases q1; rfl
    · obtain ⟨-, q1⟩ := zg_inv h0
      obtain ⟨_, _, _, -, q2⟩ := zp1r_inv q1
      obtain ⟨-, q3⟩ := zg_inv q2
      cases q3; rfl
theorem zrun_K : ∀ (n M pc : Nat) (ls st : List zV) (σ : zS) (r : List zV × zS), zrun n M pc ls st σ = some r → σ.1 ≤ r.2.1 := by
  intro n
  induction n with
  | zero => intro M pc ls st σ r h; cases h
  | succ n ih =>
    intro M pc ls st σ r h
    unfold zrun at h
    split at h
    · cases h
    · split at h
      · cases h
      · rename_i f hs
        exact Nat.le_trans (zstep_K hs) (ih _ _ _ _ _ _ h)
      · rename_i f hs
        cases h
        rw [zret_σ hs]
        exact Nat.le_refl _
      · rename_i f hs
        have eσ := zcall_σ hs
        split at h
        · split at h
          · have := ih _ _ _ _ _ _ h
            rwa [eσ] at this
          · cases h
        · split at h
          · rename_i r1 hr1
            have h1 := ih _ _ _ _ _ _ hr1
            have h2 := ih _ _ _ _ _ _ h
            rw [eσ] at h1
            omega
          · cases h
theorem zrun_ok : ∀ (n M pc : Nat) (ls st : List zV) (σ : zS) (r : List zV × zS), M < 212 → zrun n M pc ls st σ = some r → zMach l B cA D L xs r.2.1 M pc ls st σ (fun r' σ' => (r', σ') = r) := by
  intro n
  induction n with
  | zero => intro M pc ls st σ r hM h; cases h
  | succ n ih =>
    intro M pc ls st σ r hM h
    unfold zrun at h
    split at h
    · cases h
    · rename_i q he
      have hpc := (zent_ok hM he).1
      obtain ⟨pc0, i, len, ⟨a, b, cs, ee⟩, d⟩ := q
      have hpc : pc0 = pc := hpc
      subst hpc
      split at h
      · cases h
      · rename_i f hs
        obtain ⟨⟨pc', ls', st'⟩, σ'⟩ := f
        exact zMach_next hM he hs (zrun_K _ _ _ _ _ _ _ h) (ih _ _ _ _ _ _ hM h)
      · rename_i f hs
        have e := Option.some.inj h
        subst e
        obtain ⟨rv, σ'⟩ := f
        exact zMach_ret hM he hs (by rw [← zret_σ hs]) rfl
      · rename_i f hs
        have eσ := zcall_σ hs
        obtain ⟨N, av, ⟨pc', ls', st'⟩, σ'⟩ := f
        have eσ : σ' = σ := eσ
        subst eσ
        split at h
        · rename_i hb
          split at h
          · rename_i v hb2 hv
            exact zMach_math hM (Nat.le_of_ble_eq_true hb) (Nat.lt_succ_of_le (Nat.le_of_ble_eq_true hb2)) he hs hv (zrun_K _ _ _ _ _ _ _ h) (ih _ _ _ _ _ _ hM h)
          · cases h
        · rename_i hb
          split at h
          · rename_i r1 hb2 hr1
            have hN : N < 206 := by
              rcases Nat.lt_or_ge N 206 with z | z
              · exact z
              · rw [Nat.ble_eq_true_of_le z] at hb; cases hb
            refine zMach_call hM hN he hs (Nat.le_of_ble_eq_true hb2) (zrun_K _ _ _ _ _ _ _ hr1) (zrun_K _ _ _ _ _ _ _ h) (ih _ _ _ _ _ _ (by omega) hr1) fun r' σ2 hq => ?_
            subst hq
            exact ⟨rfl, ih _ _ _ _ _ _ hM h⟩
          · cases h
end ZMC
