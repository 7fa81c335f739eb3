/-! any judgement that steps as zG does: for the law, whose calls of look make cells -/
def zJ (Ω : zΩ) (M : Nat) (J : Nat → List zV → List zV → zM → Prop) (R : List zV → zM → Prop) : Prop :=
  (∀ (pc : Nat) (i : Instr) (len a b c e : Nat) (d : Int) (ls st ls' st' : List zV) (pc' : Nat) (m m' : zM), zent M pc = some (pc, i, len, (a, b, c, e), d) → zstep i len a b c e d pc ls st (147, zr0, m) = some (.inl ((pc', ls', st'), (147, zr0, m'))) → J pc' ls' st' m' → J pc ls st m) ∧
  (∀ (pc : Nat) (i : Instr) (len a b c e : Nat) (d : Int) (ls st r : List zV) (m : zM) (_ : Unit), zent M pc = some (pc, i, len, (a, b, c, e), d) → zstep i len a b c e d pc ls st (147, zr0, m) = some (.inr (.inl (r, (147, zr0, m)))) → R r m → J pc ls st m) ∧
  (∀ (pc : Nat) (ls st : List zV) (m : zM), (147 ≤ 147 → zoks 147 st → J pc ls st m) → J pc ls st m) ∧
  (∀ (pc : Nat) (i : Instr) (len a b c e : Nat) (d : Int) (ls st av ls' st' : List zV) (pc' N : Nat) (m : zM), N < 206 → zent M pc = some (pc, i, len, (a, b, c, e), d) → zstep i len a b c e d pc ls st (147, zr0, m) = some (.inr (.inr (N, av, (pc', ls', st'), (147, zr0, m)))) → (zinl av).length ≤ (zmi N).2.2.1 → zG Ω N 0 (zini N av) [] m (fun r m' => J pc' ls' (r ++ st') m') → J pc ls st m) ∧
  (∀ (S : Int → Int), SCR Ω S → ∀ (pc : Nat) (ls st : List zV) (m : zM), (m (-2) (-1) = S (-1) → (∀ j : Int, 0 ≤ j → j < S (-1) → m (-2) j = S j) → J pc ls st m) → J pc ls st m) ∧
  (∀ (k : List Bool) (pc : Nat) (ls st : List zV) (m : zM), J pc (zmask k ls) st m → J pc ls st m)
set_option maxRecDepth 100000 in
set_option maxHeartbeats 4000000 in
theorem zJ_step {Ω : zΩ} {M : Nat} {J : Nat → List zV → List zV → zM → Prop} {R : List zV → zM → Prop} (HJ : zJ Ω M J R) {pc : Nat} {q : zE} {ls st : List zV} {m : zM} {kN : Nat → List zV → List zV → zM → Prop} {kR : List zV → Prop} {kC : Nat → List zV → Nat → List zV → List zV → Prop} (hM : M < 212) (he : zent M pc = some q) (h0 : zsem q pc ls st m kN kR kC)
    (hN : ∀ pc ls st m, kN pc ls st m → J pc ls st m) (hR : ∀ r, kR r → R r m)
    (hC : ∀ i len a b c e d N av pc' ls' st', q = (pc, i, len, (a, b, c, e), d) → zstep i len a b c e d pc ls st (147, zr0, m) = some (.inr (.inr (N, av, (pc', ls', st'), (147, zr0, m)))) → kC N av pc' ls' st' → J pc ls st m) : J pc ls st m := by
  have hpc := (zent_ok hM he).1
  have hvl := (zent_ok hM he).2.2
  obtain ⟨pc0, i, len, ⟨a, b, c, e⟩, d⟩ := q
  have hpc : pc0 = pc := hpc
  subst hpc
  have nx : ∀ (n : zN) (m' : zM), zstep i len a b c e d pc0 ls st (147, zr0, m) = some (.inl (n, (147, zr0, m'))) → kN n.1 n.2.1 n.2.2 m' → J pc0 ls st m := by
    intro n m' hs hk
    obtain ⟨pc', ls', st'⟩ := n
    exact HJ.1 _ _ _ _ _ _ _ _ _ _ _ _ _ _ _ he hs (hN _ _ _ _ hk)
  have rt : ∀ r, zstep i len a b c e d pc0 ls st (147, zr0, m) = some (.inr (.inl (r, (147, zr0, m)))) → kR r → J pc0 ls st m := by
    intro r hs hk
    exact HJ.2.1 _ _ _ _ _ _ _ _ _ _ _ _ () he hs (hR r hk)
  cases i with
  | getfield idx =>
    obtain ⟨h1, q1⟩ := zqb_inv h0
    obtain ⟨t, x, r, rfl, q2⟩ := zq1r_inv q1
    obtain ⟨h2, q3⟩ := zqb_inv q2
    cases zb_len h1
    cases zb_len h2
    simp only [zvl] at hvl
    obtain ⟨v1, hvl⟩ := zb_and hvl
    obtain ⟨v2, hvl⟩ := zb_and hvl
    obtain ⟨v3, -⟩ := zb_and hvl
    have v1 := of_decide_eq_true v1
    have v2 := Nat.le_of_ble_eq_true v2
    have v3 := of_decide_eq_true v3
    split at q3
    · exact nx (pc0 + 3, ls, zI (m x b) :: r) m (by
        refine zstep_h rfl ?_
        simp only [zheap, zbq, zg, zp1r, zget, Option.bind, znx]) q3
    · exact nx (pc0 + 3, ls, zI (m x b) :: r) m (by
        refine zstep_h rfl ?_
        simp only [zheap, zbq, zg, zp1r, zget, Option.bind, znx]) q3
    · refine HJ.2.2.1 _ _ _ _ fun hk hz => ?_
      obtain ⟨X, rfl, hX, hl⟩ := zok_ref hk (zoks_head hz) (by omega)
      have hk0 := zcls0 a v1
      have hr := zr0_o (j := b) hl hk0 (by rw [v3])
      have hpos : 0 ≤ (X : Int) + zoff a b := by
        have := zr0_obj X (zrho_lt (Nat.lt_of_lt_of_le hX (Nat.le_trans hk (by decide)))) (by rw [hl]; exact hk0) b (by rw [hl]; exact v2) (by rw [hl, v3])
        rwa [hl] at this
      refine nx (pc0 + 3, ls, zR e (X + zoff a b) :: r) m (by
        refine zstep_h rfl ?_
        simp only [zheap, zbq, zg, zp1r, zget, hr, hpos, decide_true, Option.bind, znx]) q3
    · exact nx (pc0 + 3, ls, zR e (zdec e (m x b)) :: r) m (by
        refine zstep_h rfl ?_
        simp only [zheap, zbq, zg, zp1r, zget, q3.1, decide_true, Option.bind, znx]) q3.2
    · refine HJ.2.2.1 _ _ _ _ fun hk hz => ?_
      obtain ⟨X, rfl, hX, hl⟩ := zok_ref hk (zoks_head hz) (by omega)
      have hk0 := zcls0 a v1
      have hr := zr0_f (j := b) hl hk0 (by rw [v3])
      exact nx (pc0 + 3, ls, zI (((X : Int) - 3) / 2) :: r) m (by
        refine zstep_h rfl ?_
        simp only [zheap, zbq, zg, zp1r, zget, hr, Option.bind, znx]) q3
    · cases q3
  | putfield idx =>
    obtain ⟨h1, q1⟩ := zqb_inv h0
    obtain ⟨v, r, rfl, q2⟩ := zq1_inv q1
    obtain ⟨t, x, r, rfl, q3⟩ := zq1r_inv q2
    obtain ⟨h2, q4⟩ := zqb_inv q3
    cases zb_len h1
    cases zb_len h2
    split at q4
    · obtain ⟨y, r2, e1, q5⟩ := zq1i_inv q4
      cases (List.cons.inj e1).1
      exact nx (pc0 + 3, ls, r) (zup m x b y) (by
        refine zstep_h rfl ?_
        simp only [zheap, zbq, zg, zp1, zp1r, zput, zp1i, Option.bind, znx]) q5
    · obtain ⟨y, r2, e1, q5⟩ := zq1i_inv q4
      cases (List.cons.inj e1).1
      have q5 := zbl_iff.mp q5
      exact nx (pc0 + 3, ls, r) (zup m x b y) (by
        refine zstep_h rfl ?_
        simp only [zheap, zbq, zg, zp1, zp1r, zput, zp1i, q5.1.1, q5.1.2, decide_true, Bool.and_self, Option.bind, znx]) q5.2
    · obtain ⟨u, y, r2, e1, q5⟩ := zq1r_inv q4
      cases (List.cons.inj e1).1
      obtain ⟨h3, q6⟩ := zqb_inv q5
      cases zb_len h3
      exact nx (pc0 + 3, ls, r) (zup m x b (zenc e y)) (by
        refine zstep_h rfl ?_
        simp only [zheap, zbq, zg, zp1, zp1r, zput, Option.bind, znx]) q6
    · cases q4
  | iaload =>
    obtain ⟨h1, q1⟩ := zqb_inv h0
    obtain ⟨j, t, x, r, rfl, q2⟩ := zq2ir_inv q1
    cases zb_len h1
    split at q2
    · rename_i ht
      cases zb_len ht
      exact nx (pc0 + 1, ls, zI (m (-2) j) :: r) m (by
        refine zstep_h rfl ?_
        simp only [zheap, zbq, zg, zp2ir, q2.1.1, q2.1.2, decide_true, Bool.and_self, znx]) q2.2
    · rename_i ht
      obtain ⟨h2, q3⟩ := zqb_inv q2
      have q3 := zin_iff.mp q3
      exact nx (pc0 + 1, ls, zI (m x j) :: r) m (by
        refine zstep_h rfl ?_
        simp only [zheap, zbq, zg, zp2ir, ht, zix, h2, q3.1.1, q3.1.2, decide_true, Bool.and_self, znx]) q3.2
  | baload =>
    obtain ⟨h1, q1⟩ := zqb_inv h0
    obtain ⟨j, t, x, r, rfl, q2⟩ := zq2ir_inv q1
    obtain ⟨h2, q3⟩ := zqb_inv q2
    have q3 := zin_iff.mp q3
    cases zb_len h1
    exact nx (pc0 + 1, ls, zI (m x j) :: r) m (by
      refine zstep_h rfl ?_
      simp only [zheap, zbq, zg, zp2ir, zix, q3.1.1, q3.1.2, decide_true, Bool.and_self, Bool.and_true, h2, znx]) q3.2
  | laload =>
    obtain ⟨h1, q1⟩ := zqb_inv h0
    obtain ⟨j, t, x, r, rfl, q2⟩ := zq2ir_inv q1
    obtain ⟨h2, q3⟩ := zqb_inv q2
    have q3 := zin_iff.mp q3
    cases zb_len h1
    exact nx (pc0 + 1, ls, zL (m x j) :: r) m (by
      refine zstep_h rfl ?_
      simp only [zheap, zbq, zg, zp2ir, zix, q3.1.1, q3.1.2, decide_true, Bool.and_self, Bool.and_true, h2, znx]) q3.2
  | aaload =>
    obtain ⟨h1, q1⟩ := zqb_inv h0
    obtain ⟨j, t, x, r, rfl, q2⟩ := zq2ir_inv q1
    cases zb_len h1
    split at q2
    · rename_i h6
      have q3 := zin_iff.mp q2
      exact nx (pc0 + 1, ls, zR (zKd t).2.2 (zdec (zKd t).2.2 (m x j)) :: r) m (by
        refine zstep_h rfl ?_
        simp only [zheap, zbq, zg, zp2ir, h6, zix, q3.1.1, q3.1.2, q3.2.1, decide_true, Bool.and_self, znx]) q3.2.2
    rename_i h6
    obtain ⟨h2, q3⟩ := zqb_inv q2
    have q3 := zin_iff.mp q3
    refine HJ.2.2.1 _ _ _ _ fun hk hz => ?_
    have hix : zix 5 t j = true := by simp only [zix, h2, q3.1.1, q3.1.2, decide_true, Bool.and_self]
    have ht := zix_t hix (by omega)
    obtain ⟨X, rfl, hX, hl⟩ := zok_ref hk (zoks_head (zoks_tail hz)) ht
    have hr := zr0_a (j := j) hl (zb_len h2)
    obtain ⟨a1, a2⟩ := zab_ok t ht (zb_len h2)
    have hpos : 0 ≤ (zab t).1 + (zab t).2 * j := by
      have := Int.mul_nonneg a2 q3.1.1
      omega
    refine nx (pc0 + 1, ls, zR (zKd t).2.2 ((zab t).1 + (zab t).2 * j) :: r) m (by
      refine zstep_h rfl ?_
      simp only [zheap, zbq, zg, zp2ir, h6, hix, hr, hpos, decide_true, Bool.and_self, znx]) q3.2
  | aastore =>
    obtain ⟨h1, q1⟩ := zqb_inv h0
    obtain ⟨u, v, j, t, x, r, rfl, q2⟩ := zq3rr_inv q1
    obtain ⟨h2, q3⟩ := zqb_inv q2
    obtain ⟨h2, h3⟩ := zb_and h2
    have q3 := zin_iff.mp q3
    cases zb_len h1
    exact nx (pc0 + 1, ls, r) (zup m x j (zenc (zKd t).2.2 v)) (by
      refine zstep_h rfl ?_
      simp only [zheap, zbq, zg, zp3rr, zix, h2, h3, q3.1.1, q3.1.2, decide_true, Bool.and_self, Bool.and_true, znx]) q3.2
  | iastore =>
    obtain ⟨h1, q1⟩ := zqb_inv h0
    obtain ⟨v, j, t, x, r, rfl, q2⟩ := zq3ir_inv q1
    obtain ⟨h2, q3⟩ := zqb_inv q2
    have q3 := zin_iff.mp q3
    cases zb_len h1
    exact nx (pc0 + 1, ls, r) (zup m x j v) (by
      refine zstep_h rfl ?_
      simp only [zheap, zbq, zg, zp3ir, zix, q3.1.1, q3.1.2, decide_true, Bool.and_self, Bool.and_true, h2, znx]) q3.2
  | bastore =>
    obtain ⟨h1, q1⟩ := zqb_inv h0
    obtain ⟨v, j, t, x, r, rfl, q2⟩ := zq3ir_inv q1
    cases zb_len h1
    split at q2
    · rename_i h2
      have q2 := zin_iff.mp q2
      exact nx (pc0 + 1, ls, r) (zup m x j v) (by
        refine zstep_h rfl ?_
        simp only [zheap, zbq, zg, zp3ir, zix, q2.1.1, q2.1.2, q2.2.1.1, q2.2.1.2, decide_true, Bool.and_self, Bool.and_true, h2, Bool.true_or, znx]) q2.2.2
    · obtain ⟨h3, q3⟩ := zqb_inv q2
      have q3 := zin_iff.mp q3
      have q4 := zbl_iff.mp q3.2
      exact nx (pc0 + 1, ls, r) (zup m x j v) (by
        refine zstep_h rfl ?_
        simp only [zheap, zbq, zg, zp3ir, zix, q3.1.1, q3.1.2, q4.1.1, q4.1.2, decide_true, Bool.and_self, Bool.and_true, h3, Bool.or_true, znx]) q4.2
  | lastore =>
    obtain ⟨h1, q1⟩ := zqb_inv h0
    obtain ⟨v, j, t, x, r, rfl, q2⟩ := zq3lr_inv q1
    obtain ⟨h2, q3⟩ := zqb_inv q2
    have q3 := zin_iff.mp q3
    cases zb_len h1
    exact nx (pc0 + 1, ls, r) (zup m x j v) (by
      refine zstep_h rfl ?_
      simp only [zheap, zbq, zg, zp3lr, zix, q3.1.1, q3.1.2, decide_true, Bool.and_self, Bool.and_true, h2, znx]) q3.2
  | arraylength =>
    obtain ⟨h1, q1⟩ := zqb_inv h0
    obtain ⟨t, x, r, rfl, q2⟩ := zq1r_inv q1
    cases zb_len h1
    split at q2
    · rename_i ht
      cases zb_len ht
      exact nx (pc0 + 1, ls, zI (m (-2) (-1)) :: r) m (by
        refine zstep_h rfl ?_
        simp only [zheap, zbq, zg, zp1r, znx]) q2
    · rename_i ht
      obtain ⟨h2, q3⟩ := zqb_inv q2
      exact nx (pc0 + 1, ls, zI ((zKd t).2.1 : Int) :: r) m (by
        refine zstep_h rfl ?_
        simp only [zheap, zbq, zg, zp1r, ht, h2, znx]) q3
  | ldc idx =>
    obtain ⟨h1, q1⟩ := zqb_inv h0
    cases zb_len h1
    cases a with
    | zero => exact nx (pc0 + 2, ls, zI d :: st) m (zstep_h rfl rfl) q1
    | succ a => exact nx (pc0 + 2, ls, zR 91 0 :: st) m (zstep_h rfl rfl) q1
  | ldc_w idx =>
    obtain ⟨h1, q1⟩ := zqb_inv h0
    cases zb_len h1
    cases a with
    | zero => exact nx (pc0 + 3, ls, zI d :: st) m (zstep_h rfl rfl) q1
    | succ a => cases q1
  | ldc2_w idx =>
    obtain ⟨h1, q1⟩ := zqb_inv h0
    cases zb_len h1
    exact nx (pc0 + 3, ls, zL d :: st) m (zstep_h rfl rfl) q1
  | ireturn =>
    obtain ⟨h1, q1⟩ := zqb_inv h0
    obtain ⟨x, r, rfl, q2⟩ := zq1i_inv q1
    obtain ⟨h2, q3⟩ := zqb_inv q2
    cases zb_len h1
    cases c with
    | zero => exact rt [zI x] (by
        refine zstep_h rfl ?_
        simp only [zheap, zbq, zg, zp1i, h2, Bool.true_or, Bool.and_self]) q3
    | succ c =>
      have q3 := zbl_iff.mp q3
      exact rt [zI x] (by
        refine zstep_h rfl ?_
        simp only [zheap, zbq, zg, zp1i, h2, q3.1.1, q3.1.2, decide_true, Bool.and_self, Bool.or_true]) q3.2
  | areturn =>
    obtain ⟨h1, q1⟩ := zqb_inv h0
    obtain ⟨t, x, r, rfl, q2⟩ := zq1r_inv q1
    obtain ⟨h2, q3⟩ := zqb_inv q2
    cases zb_len h1
    exact rt [zR t x] (by
      refine zstep_h rfl ?_
      simp only [zheap, zbq, zg, zp1r, h2]) q3
  | lreturn =>
    obtain ⟨h1, q1⟩ := zqb_inv h0
    cases zb_len h1
    split at q1
    · rename_i x r
      obtain ⟨h2, q3⟩ := zqb_inv q1
      exact rt [zL x] (by
        refine zstep_h rfl ?_
        simp only [zheap, zbq, zg, zp1l, h2]) q3
    · cases q1
  | return_ =>
    obtain ⟨h1, q1⟩ := zqb_inv h0
    exact rt [] (by
      refine zstep_h rfl ?_
      simp only [zheap, zg, h1]) q1
  | invokespecial idx =>
    obtain ⟨h1, q1⟩ := zqb_inv h0
    obtain ⟨h1, h2⟩ := zb_and h1
    obtain ⟨h1, h3⟩ := zb_and h1
    have h3 : Nat.beq a 9999 = false := by simpa using h3
    obtain ⟨t, x, r, e1, q2⟩ := zq1r_inv q1
    obtain ⟨h4, q3⟩ := zqb_inv q2
    refine hC _ _ _ _ _ _ _ _ _ _ _ _ rfl ?_ q3
    refine zstep_h rfl ?_
    simp only [zheap, zg, h1, h2, h3, e1, zp1r, h4]
  | invokevirtual idx =>
    obtain ⟨h1, q1⟩ := zqb_inv h0
    obtain ⟨h1, h2⟩ := zb_and h1
    obtain ⟨t, x, r, e1, q2⟩ := zq1r_inv q1
    obtain ⟨h4, q3⟩ := zqb_inv q2
    refine hC _ _ _ _ _ _ _ _ _ _ _ _ rfl ?_ q3
    refine zstep_h rfl ?_
    simp only [zheap, zg, h1, h2, e1, zp1r, h4]
  | invokestatic idx =>
    obtain ⟨h1, q1⟩ := zqb_inv h0
    obtain ⟨h1, h2⟩ := zb_and h1
    refine hC _ _ _ _ _ _ _ _ _ _ _ _ rfl ?_ q1
    refine zstep_h rfl ?_
    simp only [zheap, zg, h1, h2]
  | idiv =>
    obtain ⟨h1, q1⟩ := zqb_inv h0
    obtain ⟨x, y, r, rfl, q2⟩ := zq2i_inv q1
    have q2 := zdv_iff.mp q2
    exact nx (pc0 + 1, ls, zI (zw (x.tdiv y)) :: r) m (zstep_p (by simp only [zpure, h1, zg, zp2i, if_neg q2.1])) q2.2
  | irem =>
    obtain ⟨h1, q1⟩ := zqb_inv h0
    obtain ⟨x, y, r, rfl, q2⟩ := zq2i_inv q1
    have q2 := zdv_iff.mp q2
    exact nx (pc0 + 1, ls, zI (x.tmod y) :: r) m (zstep_p (by simp only [zpure, h1, zg, zp2i, if_neg q2.1])) q2.2
  | ldiv =>
    obtain ⟨h1, q1⟩ := zqb_inv h0
    obtain ⟨x, y, r, rfl, q2⟩ := zq2l_inv q1
    have q2 := zdv_iff.mp q2
    exact nx (pc0 + 1, ls, zL (zwl (x.tdiv y)) :: r) m (zstep_p (by simp only [zpure, h1, zg, zp2l, if_neg q2.1])) q2.2
  | lrem =>
    obtain ⟨h1, q1⟩ := zqb_inv h0
    obtain ⟨x, y, r, rfl, q2⟩ := zq2l_inv q1
    have q2 := zdv_iff.mp q2
    exact nx (pc0 + 1, ls, zL (x.tmod y) :: r) m (zstep_p (by simp only [zpure, h1, zg, zp2l, if_neg q2.1])) q2.2
  | ifCond cd off =>
    obtain ⟨h1, q1⟩ := zqb_inv h0
    obtain ⟨x, r, rfl, q2⟩ := zq1i_inv q1
    rcases zcj_of q2 with ⟨z, q3⟩ | ⟨z, q3⟩
    · exact nx (a, ls, r) m (zstep_p (by simp only [zpure, h1, zg, zp1i, if_pos z])) q3
    · exact nx (pc0 + 3, ls, r) m (zstep_p (by simp only [zpure, h1, zg, zp1i, if_neg z])) q3
  | if_icmp cd off =>
    obtain ⟨h1, q1⟩ := zqb_inv h0
    obtain ⟨x, y, r, rfl, q2⟩ := zq2i_inv q1
    rcases zcj_of q2 with ⟨z, q3⟩ | ⟨z, q3⟩
    · exact nx (a, ls, r) m (zstep_p (by simp only [zpure, h1, zg, zp2i, if_pos z])) q3
    · exact nx (pc0 + 3, ls, r) m (zstep_p (by simp only [zpure, h1, zg, zp2i, if_neg z])) q3
  | if_acmp cd off =>
    obtain ⟨h1, q1⟩ := zqb_inv h0
    obtain ⟨t, x, u, y, r, rfl, q2⟩ := zqac_inv q1
    obtain ⟨h2, q3⟩ := zqb_inv q2
    rcases zcja_of q3 with ⟨z, q4⟩ | ⟨z, q4⟩
    · exact nx (a, ls, r) m (zstep_p (by simp only [zpure, h1, h2, zg, zpac, if_pos z])) q4
    · exact nx (pc0 + 3, ls, r) m (zstep_p (by simp only [zpure, h1, h2, zg, zpac, if_neg z])) q4
  | tableswitch df lo hi offs =>
    obtain ⟨h1, q1⟩ := zqb_inv h0
    obtain ⟨x, r, rfl, q2⟩ := zq1i_inv q1
    have hl := of_decide_eq_true h1
    obtain ⟨z1, z2⟩ := zswk_of _ _ q2
    rw [show lo + (offs.toList.length : Int) - 1 = hi by omega] at z1 z2
    exact nx (((pc0 : Int) + zsw x lo hi df offs.toList).toNat, ls, r) m (zstep_p (by simp only [zpure, h1, zg, zp1i, if_pos z1])) z2
  | lookupswitch df ps =>
    obtain ⟨h1, q1⟩ := zqb_inv h0
    obtain ⟨x, r, rfl, q2⟩ := zq1i_inv q1
    obtain ⟨z1, z2⟩ := zlkk_of _ q2
    exact nx (((pc0 : Int) + zlk x df ps.toList).toNat, ls, r) m (zstep_p (by simp only [zpure, h1, zg, zp1i, if_pos z1])) z2
  | _ =>
    simp only [zsem] at h0
    split at h0
    · rename_i n hn
      exact nx n m (zstep_p hn) h0
    · cases h0
/-- a call, the walk, as in 32 -/
def zcllJ (Ω : zΩ) (N : Nat) (av : List zV) (m : zM) (k : List zV → zM → Prop) : Prop := match Nat.ble 206 N with
  | true => False
  | false => zqb (Nat.ble (zinl av).length (zcm N).1) (zG Ω N 0 (zini2 (zcm N).1 av) [] m fun r m' => zkr2 (zcm N).2 r fun r => k r m')
def zwpJ (Ω : zΩ) (J : Nat → List zV → List zV → zM → Prop) (R : List zV → zM → Prop) (es : List zE) (cuts : List (Nat × List Bool)) : Nat → List zE → Nat → List zV → List zV → zM → Prop
  | 0, _, pc, ls, st, m => J pc ls st m
  | n + 1, cur, pc, ls, st, m => match zcut cuts pc with
    | some kp => J pc (zmask kp ls) st m
    | none => match zfn es cur pc with
      | none => False
      | some q => zsem q.1 pc ls st m (fun pc ls st m => zwpJ Ω J R es cuts n q.2 pc ls st m) (fun r => R r m) (fun N av pc' ls' st' => zcllJ Ω N av m (fun r m' => zwpJ Ω J R es cuts n q.2 pc' ls' (r ++ st') m'))
def zwqJ (Ω : zΩ) (J : Nat → List zV → List zV → zM → Prop) (R : List zV → zM → Prop) (es : List zE) (cuts : List (Nat × List Bool)) (n pc : Nat) (ls st : List zV) (m : zM) : Prop := match zfl es pc with
  | none => False
  | some q => zsem q.1 pc ls st m (fun pc ls st m => zwpJ Ω J R es cuts n q.2 pc ls st m) (fun r => R r m) (fun N av pc' ls' st' => zcllJ Ω N av m (fun r m' => zwpJ Ω J R es cuts n q.2 pc' ls' (r ++ st') m'))
theorem zcllJ_ok {Ω : zΩ} {M : Nat} {J : Nat → List zV → List zV → zM → Prop} {R : List zV → zM → Prop} (HJ : zJ Ω M J R) {pc N : Nat} {i : Instr} {len a b c e : Nat} {d : Int} {ls st av ls' st' : List zV} {pc' : Nat} {m : zM} {k : List zV → zM → Prop} (he : zent M pc = some (pc, i, len, (a, b, c, e), d)) (hs : zstep i len a b c e d pc ls st (147, zr0, m) = some (.inr (.inr (N, av, (pc', ls', st'), (147, zr0, m))))) (h : zcllJ Ω N av m k) (hk : ∀ r m', k r m' → J pc' ls' (r ++ st') m') : J pc ls st m := by
  unfold zcllJ at h
  split at h
  · cases h
  · rename_i hb
    obtain ⟨h1, h2⟩ := zqb_inv h
    have hN : N < 206 := by
      rcases Nat.lt_or_ge N 206 with z | z
      · exact z
      · rw [Nat.ble_eq_true_of_le z] at hb; cases hb
    have hc := zcm_ok N hN
    rw [hc] at h1 h2
    exact HJ.2.2.2.1 _ _ _ _ _ _ _ _ _ _ _ _ _ _ _ _ hN he hs (Nat.le_of_ble_eq_true h1) (zG.mono h2 fun r m' hq => hk r m' (zkr2_inv hq))
theorem zwpJ_ok {Ω : zΩ} {M : Nat} {J : Nat → List zV → List zV → zM → Prop} {R : List zV → zM → Prop} (HJ : zJ Ω M J R) {es : List zE} {cuts : List (Nat × List Bool)} (hM : M < 212) (hes : zits.getD M [] = es) (hz : zap es = true) : ∀ (n : Nat) (cur : List zE) (pc : Nat) (ls st : List zV) (m : zM), (∃ pre, es = pre ++ cur) → zwpJ Ω J R es cuts n cur pc ls st m → J pc ls st m := by
  intro n
  induction n with
  | zero => intro cur pc ls st m _ h; exact h
  | succ n ih =>
    intro cur pc ls st m hc h
    unfold zwpJ at h
    split at h
    · exact HJ.2.2.2.2.2 _ _ _ _ _ h
    · split at h
      · cases h
      · rename_i q he
        obtain ⟨h1, h2⟩ := zfn_ok hz hc he
        have he : zent M pc = some q.1 := by unfold zent; rw [hes]; exact h1
        refine zJ_step HJ hM he h (fun _ _ _ _ z => ih _ _ _ _ _ h2 z) (fun _ z => z) fun i len a b c e d N av pc' ls' st' hq hs hc => ?_
        rw [hq] at he
        exact zcllJ_ok HJ he hs hc fun r m' z => ih _ _ _ _ _ h2 z
theorem zwqJ_ok {Ω : zΩ} {M : Nat} {J : Nat → List zV → List zV → zM → Prop} {R : List zV → zM → Prop} (HJ : zJ Ω M J R) {es : List zE} {cuts : List (Nat × List Bool)} {n pc : Nat} {ls st : List zV} {m : zM} (hM : M < 212) (hes : zits.getD M [] = es) (hz : zap es = true) (h : zwqJ Ω J R es cuts n pc ls st m) : J pc ls st m := by
  unfold zwqJ at h
  split at h
  · cases h
  · rename_i q he
    obtain ⟨h1, pre, h2⟩ := zfl_find es pc q he
    have he : zent M pc = some q.1 := by unfold zent; rw [hes]; exact h1
    have hp : ∃ pre, es = pre ++ q.2 := ⟨pre ++ [q.1], by rw [h2]; simp⟩
    refine zJ_step HJ hM he h (fun _ _ _ _ z => zwpJ_ok HJ hM hes hz _ _ _ _ _ _ hp z) (fun _ z => z) fun i len a b c e d N av pc' ls' st' hq hs hc => ?_
    rw [hq] at he
    exact zcllJ_ok HJ he hs hc fun r m' z => zwpJ_ok HJ hM hes hz _ _ _ _ _ _ hp z
