/-! a run that doesn't look at the script is the same whatever the script is -/
def zmx (f : zM) (S : Int → Int) : zM := fun x j => if x = -2 then S j else f x j
def zmxS (S : Int → Int) (s : zS) : zS := (s.1, s.2.1, zmx s.2.2 S)
def zmxO (S : Int → Int) : zO → zO
  | .inl (n, s) => .inl (n, zmxS S s)
  | .inr (.inl (r, s)) => .inr (.inl (r, zmxS S s))
  | .inr (.inr (N, av, n, s)) => .inr (.inr (N, av, n, zmxS S s))
def zsafe (st : List zV) : Bool := st.all fun v => match v with | .inr (.inr (.inl (t, x))) => !Nat.beq t 90 && decide (¬ x = -2) | _ => true
theorem zmx_n {f : zM} {S : Int → Int} {x j : Int} (h : ¬ x = -2) : zmx f S x j = f x j := if_neg (by omega)
theorem zmx_u {f : zM} {S : Int → Int} {x j v : Int} (h : ¬ x = -2) : zup (zmx f S) x j v = zmx (zup f x j v) S := by
  funext a b
  unfold zup zmx
  by_cases z : a = -2
  · rw [if_neg (by omega), if_pos z, if_pos z]
  · rw [if_neg z, if_neg z]
theorem zmx_r {f : zM} {S : Int → Int} {k : Nat} {g : Int → Int} : zrow (zmx f S) k g = zmx (zrow f k g) S := by
  funext a b
  unfold zrow zmx
  by_cases z : a = -2
  · rw [if_neg (by omega), if_pos z, if_pos z]
  · rw [if_neg z, if_neg z]
theorem zsafe_r {t : Nat} {x : Int} {r : List zV} (h : zsafe (zR t x :: r) = true) : Nat.beq t 90 = false ∧ ¬ x = -2 ∧ zsafe r = true := by
  unfold zsafe at h ⊢
  rw [List.all_cons] at h
  obtain ⟨h1, h2⟩ := zb_and h
  obtain ⟨h3, h4⟩ := zb_and h1
  exact ⟨by simpa using h3, of_decide_eq_true h4, h2⟩
theorem zsafe_c {v : zV} {r : List zV} (h : zsafe (v :: r) = true) : zsafe r = true := by
  unfold zsafe at h ⊢
  rw [List.all_cons] at h
  exact (zb_and h).2
set_option maxHeartbeats 4000000 in
theorem zheap_mx {i : Instr} {len a b c e pc : Nat} {d : Int} {ls st : List zV} {s : zS} {S : Int → Int} (h : zsafe st = true) {o : zO} (h0 : zheap i len a b c e d pc ls st s = some o) : zheap i len a b c e d pc ls st (zmxS S s) = some (zmxO S o) := by
  cases i with
  | getfield _ =>
    obtain ⟨h1, q1⟩ := zg_inv h0
    obtain ⟨t, x, r, rfl, q2⟩ := zp1r_inv q1
    obtain ⟨h2, q3⟩ := zg_inv q2
    obtain ⟨v, hv, q4⟩ := Option.bind_eq_some_iff.mp q3
    cases q4
    obtain ⟨z1, z2, z3⟩ := zsafe_r h
    simp only [zheap, zp1r, zg, h1, h2, zmxS, zmx_n z2, hv, Option.bind, znx, zmxO]
  | putfield _ =>
    obtain ⟨h1, q1⟩ := zg_inv h0
    obtain ⟨v, r, rfl, q2⟩ := zp1_inv q1
    obtain ⟨t, x, r, rfl, q3⟩ := zp1r_inv q2
    obtain ⟨h2, q4⟩ := zg_inv q3
    obtain ⟨w, hw, q5⟩ := Option.bind_eq_some_iff.mp q4
    cases q5
    obtain ⟨z1, z2, z3⟩ := zsafe_r (zsafe_c h)
    have hp : zput c e v s.2.1 (zmx s.2.2 S) x b = some (w.1, zmx w.2 S) := by
      unfold zput at hw ⊢
      split at hw
      · obtain ⟨y, rr, hy, hw⟩ := zp1i_inv hw
        cases hy; cases hw
        simp only [zp1i, zmx_u z2]
      · obtain ⟨y, rr, hy, hw⟩ := zp1i_inv hw
        cases hy
        obtain ⟨g1, hw⟩ := zg_inv hw
        cases hw
        simp only [zp1i, zg, g1, zmx_u z2]
      · obtain ⟨t', y, rr, hy, hw⟩ := zp1r_inv hw
        cases hy
        obtain ⟨g1, hw⟩ := zg_inv hw
        cases hw
        simp only [zp1r, zg, g1]
      · obtain ⟨t', y, rr, hy, hw⟩ := zp1r_inv hw
        cases hy
        obtain ⟨g1, hw⟩ := zg_inv hw
        cases hw
        simp only [zp1r, zg, g1, zmx_u z2]
      · obtain ⟨y, rr, hy, hw⟩ := zp1i_inv hw
        cases hy; cases hw
        simp only [zp1i]
      · cases hw
    simp only [zheap, zp1, zp1r, zg, h1, h2, zmxS, hp, Option.bind, znx, zmxO]
  | iaload =>
    obtain ⟨h1, q1⟩ := zg_inv h0
    obtain ⟨k, t, x, r, rfl, q2⟩ := zp2ir_inv q1
    obtain ⟨z1, z2, z3⟩ := zsafe_r (zsafe_c h)
    rw [z1] at q2
    obtain ⟨h2, q3⟩ := zg_inv q2
    cases q3
    simp only [zheap, zp2ir, zg, h1, h2, z1, zmxS, zmx_n z2, znx, zmxO]
  | baload =>
    obtain ⟨h1, q1⟩ := zg_inv h0
    obtain ⟨k, t, x, r, rfl, q2⟩ := zp2ir_inv q1
    obtain ⟨z1, z2, z3⟩ := zsafe_r (zsafe_c h)
    obtain ⟨h2, q3⟩ := zg_inv q2
    cases q3
    simp only [zheap, zp2ir, zg, h1, h2, zmxS, zmx_n z2, znx, zmxO]
  | laload =>
    obtain ⟨h1, q1⟩ := zg_inv h0
    obtain ⟨k, t, x, r, rfl, q2⟩ := zp2ir_inv q1
    obtain ⟨z1, z2, z3⟩ := zsafe_r (zsafe_c h)
    obtain ⟨h2, q3⟩ := zg_inv q2
    cases q3
    simp only [zheap, zp2ir, zg, h1, h2, zmxS, zmx_n z2, znx, zmxO]
  | aaload =>
    obtain ⟨h1, q1⟩ := zg_inv h0
    obtain ⟨k, t, x, r, rfl, q2⟩ := zp2ir_inv q1
    obtain ⟨z1, z2, z3⟩ := zsafe_r (zsafe_c h)
    split at q2
    · rename_i h6
      obtain ⟨h2, q3⟩ := zg_inv q2
      cases q3
      simp only [zheap, zp2ir, zg, h1, h6, zmxS, zmx_n z2, h2, znx, zmxO]
    · rename_i h6
      obtain ⟨h2, q3⟩ := zg_inv q2
      cases q3
      simp only [zheap, zp2ir, zg, h1, h6, zmxS, znx, zmxO]
      first | rw [h2] | (split <;> simp_all)
  | iastore =>
    obtain ⟨h1, q1⟩ := zg_inv h0
    obtain ⟨v, k, t, x, r, rfl, q2⟩ := zp3ir_inv q1
    obtain ⟨z1, z2, z3⟩ := zsafe_r (zsafe_c (zsafe_c h))
    obtain ⟨h2, q3⟩ := zg_inv q2
    cases q3
    simp only [zheap, zp3ir, zg, h1, h2, zmxS, zmx_u z2, znx, zmxO]
  | bastore =>
    obtain ⟨h1, q1⟩ := zg_inv h0
    obtain ⟨v, k, t, x, r, rfl, q2⟩ := zp3ir_inv q1
    obtain ⟨z1, z2, z3⟩ := zsafe_r (zsafe_c (zsafe_c h))
    obtain ⟨h2, q3⟩ := zg_inv q2
    cases q3
    simp only [zheap, zp3ir, zg, h1, h2, zmxS, zmx_u z2, znx, zmxO]
  | lastore =>
    obtain ⟨h1, q1⟩ := zg_inv h0
    obtain ⟨v, k, t, x, r, rfl, q2⟩ := zp3lr_inv q1
    obtain ⟨z1, z2, z3⟩ := zsafe_r (zsafe_c (zsafe_c h))
    obtain ⟨h2, q3⟩ := zg_inv q2
    cases q3
    simp only [zheap, zp3lr, zg, h1, h2, zmxS, zmx_u z2, znx, zmxO]
  | aastore =>
    obtain ⟨h1, q1⟩ := zg_inv h0
    obtain ⟨u, v, k, t, x, r, rfl, q2⟩ := zp3rr_inv q1
    obtain ⟨z1, z2, z3⟩ := zsafe_r (zsafe_c (zsafe_c h))
    split at q2
    · rename_i h6
      obtain ⟨h2, q3⟩ := zg_inv q2
      cases q3
      simp only [zheap, zp3rr, zg, h1, h6, h2, zmxS, zmx_u z2, znx, zmxO]
    · rename_i h6
      obtain ⟨h2, q3⟩ := zg_inv q2
      cases q3
      simp only [zheap, zp3rr, zg, h1, h6, h2, zmxS, znx, zmxO]
  | arraylength =>
    obtain ⟨h1, q1⟩ := zg_inv h0
    obtain ⟨t, x, r, rfl, q2⟩ := zp1r_inv q1
    obtain ⟨z1, z2, z3⟩ := zsafe_r h
    rw [z1] at q2
    obtain ⟨h2, q3⟩ := zg_inv q2
    cases q3
    simp only [zheap, zp1r, zg, h1, h2, z1, zmxS, znx, zmxO]
  | ldc _ =>
    obtain ⟨h1, q1⟩ := zg_inv h0
    split at q1
    · cases q1; simp only [zheap, zg, h1, znx, zmxO]
    · cases q1; simp only [zheap, zg, h1, znx, zmxO]
  | ldc_w _ =>
    obtain ⟨h1, q1⟩ := zg_inv h0
    split at q1
    · cases q1; simp only [zheap, zg, h1, znx, zmxO]
    · cases q1
  | ldc2_w _ =>
    obtain ⟨h1, q1⟩ := zg_inv h0
    cases q1; simp only [zheap, zg, h1, znx, zmxO]
  | new _ =>
    obtain ⟨h1, q1⟩ := zg_inv h0
    cases q1; simp only [zheap, zg, h1, zmxS, zmx_r, znx, zmxO]
  | newarray _ =>
    obtain ⟨h1, q1⟩ := zg_inv h0
    obtain ⟨k, r, rfl, q2⟩ := zp1i_inv q1
    obtain ⟨h2, q3⟩ := zg_inv q2
    cases q3; simp only [zheap, zp1i, zg, h1, zmxS, zmx_r, znx, zmxO]
    split
    · rfl
    · rename_i q
      exact absurd (h2.symm.trans q) (by decide)
  | anewarray _ =>
    obtain ⟨h1, q1⟩ := zg_inv h0
    obtain ⟨k, r, rfl, q2⟩ := zp1i_inv q1
    obtain ⟨h2, q3⟩ := zg_inv q2
    cases q3; simp only [zheap, zp1i, zg, h1, zmxS, zmx_r, znx, zmxO]
    split
    · rfl
    · rename_i q
      exact absurd (h2.symm.trans q) (by decide)
  | ireturn =>
    obtain ⟨h1, q1⟩ := zg_inv h0
    obtain ⟨x, r, rfl, q2⟩ := zp1i_inv q1
    obtain ⟨h2, q3⟩ := zg_inv q2
    cases q3; simp only [zheap, zp1i, zg, h1, h2, zmxO]
  | areturn =>
    obtain ⟨h1, q1⟩ := zg_inv h0
    obtain ⟨t, x, r, rfl, q2⟩ := zp1r_inv q1
    obtain ⟨h2, q3⟩ := zg_inv q2
    cases q3; simp only [zheap, zp1r, zg, h1, h2, zmxO]
  | lreturn =>
    obtain ⟨h1, q1⟩ := zg_inv h0
    obtain ⟨x, r, rfl, q2⟩ := zp1l_inv q1
    obtain ⟨h2, q3⟩ := zg_inv q2
    cases q3; simp only [zheap, zp1l, zg, h1, h2, zmxO]
  | return_ =>
    obtain ⟨h1, q1⟩ := zg_inv h0
    cases q1; simp only [zheap, zg, h1, zmxO]
  | invokespecial _ =>
    obtain ⟨h1, q1⟩ := zg_inv h0
    split at q1
    · rename_i h9
      obtain ⟨t, x, r, rfl, q2⟩ := zp1r_inv q1
      obtain ⟨h2, q3⟩ := zg_inv q2
      cases q3; simp only [zheap, zp1r, zg, h1, h2, h9, znx, zmxO]
    · rename_i h9
      obtain ⟨h2, q2⟩ := zg_inv q1
      obtain ⟨t, x, r, hr, q3⟩ := zp1r_inv q2
      obtain ⟨h3, q4⟩ := zg_inv q3
      cases q4
      simp only [zheap, zg, h1, h2, h9, hr, zp1r, h3, zmxO]
  | invokevirtual _ =>
    obtain ⟨h1, q1⟩ := zg_inv h0
    obtain ⟨h2, q2⟩ := zg_inv q1
    obtain ⟨t, x, r, hr, q3⟩ := zp1r_inv q2
    obtain ⟨h3, q4⟩ := zg_inv q3
    cases q4
    simp only [zheap, zg, h1, h2, hr, zp1r, h3, zmxO]
  | invokestatic _ =>
    obtain ⟨h1, q1⟩ := zg_inv h0
    obtain ⟨h2, q2⟩ := zg_inv q1
    cases q2
    simp only [zheap, zg, h1, h2, zmxO]
  | _ => cases h0
theorem zstep_mx {i : Instr} {len a b c e pc : Nat} {d : Int} {ls st : List zV} {s : zS} {S : Int → Int} (h : zsafe st = true) {o : zO} (h0 : zstep i len a b c e d pc ls st s = some o) : zstep i len a b c e d pc ls st (zmxS S s) = some (zmxO S o) := by
  unfold zstep at h0 ⊢
  split at h0
  · rename_i n hp
    cases h0
    rfl
  · exact zheap_mx h h0
