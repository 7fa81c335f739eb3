/-! the class reads to the end; the reference follows -/
def FrC (E : Int) (m m' : zM) : Prop := ∀ x j, ¬ (tkY E x ∨ (x = 75 ∧ 2 ≤ j ∧ j ≤ 5)) → m' x j = m x j
theorem FrC_r {E : Int} {m : zM} : FrC E m m := fun _ _ _ => rfl
theorem FrC_t {E : Int} {m m1 m2 : zM} (a : FrC E m m1) (b : FrC E m1 m2) : FrC E m m2 := fun x j h => (b x j h).trans (a x j h)
theorem FrC_k {E : Int} {m m1 m2 : zM} (a : FTk E m m1) (b : FG m1 m2) : FrC E m m2 := fun x j h => (b x j (fun q => h (Or.inr q))).trans (a x j (fun q => h (Or.inl q)))
/-- the class at a token's border -/
def CI (tx : Int → Int) (n : Int) (a : zM) (E k : Int) : Prop := TC tx n a ∧ (0 ≤ a 75 2 ∧ a 75 2 ≤ n) ∧ (0 ≤ a 75 3 ∧ a 75 3 ≤ 39 ∧ ¬ a 75 3 = 35) ∧ NV a ∧ a 72 10 = 0 ∧ BI a E k
/-- from a on the reference comes to what the class came to, af -/
def SIM (Ω : zΩ) (tx : Int → Int) (n : Int) (a : zM) (E : Int) (af : zM) : Prop := ∀ (u0 u : zM) (R : List zV → zM → Prop), TS tx n a u → RB a E u0 u → (¬ af 72 10 = 0 → ∀ u', u' 88 26 = af 72 10 → u' 88 27 = af 72 11 → FrM u0 u' → R [zI (-1)] u') → (af 72 10 = 0 → ∀ u', R1 af E u0 u' → zG Ω 160 0 [zR 10 88, zU] [] u' (fun r1 m1 => zk0 r1 (R [zI (af E 4)] m1))) → POS Ω a E u R
theorem tk_end {a : zM} {E : Int} (d1 : ¬ a 72 4 = 1) : ¬ tkF a E 0 72 10 = 0 := by
  have hf : ¬ failF a 1 72 10 = 0 := by rw [fl_c.1]; decide
  unfold tkF
  rw [if_neg d1]
  split
  · unfold tnF
    rw [if_pos (by decide)]; exact hf
  split
  · unfold tdF
    rw [if_pos (Or.inl (by decide))]; exact hf
  split
  · unfold tgF
    rw [if_pos (by decide)]
    unfold teF
    rw [if_neg (fun q => absurd q.1 (by decide)), if_pos (Or.inr ⟨by decide, Or.inl (by decide)⟩)]; exact hf
  · unfold tsF
    rw [if_neg (by decide)]; exact hf
theorem tk_11 {a : zM} {E kd k : Int} (hE : E = 76 ∨ E = 82) (hB : BI a E k) (h : tkF a E kd 72 10 = 0) : tkF a E kd 72 11 = a 72 11 := by
  have bad : ∀ {P : Prop} {c : Int}, ¬ c = 0 → failF a c 72 10 = 0 → P := fun {P c} hc y => by rw [fl_c.1] at y; exact absurd y hc
  have w6 : (a 72 4 = 2 → 3 ≤ a 72 6 ∧ a 72 6 ≤ 6) ∧ (a 72 4 = 5 → a 72 6 ≤ 13) := by
    have bb := hB.2.2.2.2
    rcases bb with q | q
    · exact ⟨fun z => by omega, fun z => by omega⟩
    · exact ⟨fun z => by omega, fun z => by omega⟩
  unfold tkF at h ⊢
  split at h
  · rename_i d1
    rw [if_pos d1]
    unfold twF at h ⊢
    split at h
    · exact bad (by decide) h
    rename_i c1
    rw [if_neg c1]
    split at h
    · exact bad (by decide) h
    rename_i c2
    rw [if_neg c2]
    obtain ⟨q5, q6, q72, qE4, qE, qx⟩ := tw_c (m := a) (k := kd) (v := zor (a 72 5) (zshl 1 kd)) hE _ rfl
    split
    · rw [zup_j (by decide)]; exact q72 11 (by decide) (by decide)
    · rw [(be_c hE q6).2.2.2.2.2.1 11 (by decide) (by decide) (by decide) (by decide)]; exact q72 11 (by decide) (by decide)
  rename_i d1
  rw [if_neg d1]
  split at h
  · rename_i d2
    rw [if_pos d2]
    unfold tnF at h ⊢
    split at h
    · exact bad (by decide) h
    rename_i c1
    rw [if_neg c1]
    split at h
    · exact bad (by decide) h
    rename_i c2
    rw [if_neg c2]
    exact (se_c hE (w6.1 d2) _ rfl).2.1 11 (by decide)
  rename_i d2
  rw [if_neg d2]
  split at h
  · rename_i d4
    rw [if_pos d4]
    unfold tdF at h ⊢
    split at h
    · exact bad (by decide) h
    rename_i c1
    rw [if_neg c1]
    split at h
    · exact bad (by decide) h
    rename_i c2
    rw [if_neg c2]
    split at h
    · exact bad (by decide) h
    rename_i c3
    rw [if_neg c3]
    split
    · exact (op_c (m := a) _ rfl).2.2.2.2.2.1 11 (by decide) (by decide) (by decide)
    split
    · exact (un_c (m := a) hE _ rfl).2.2.2.2.1 11 (by decide) (by decide)
    split
    · exact (un_c (m := a) hE _ rfl).2.2.2.2.1 11 (by decide) (by decide)
    · exact (lf_c (m := a) hE _ rfl).2.1 11 (by decide)
  rename_i d4
  rw [if_neg d4]
  split at h
  · rename_i d5
    rw [if_pos d5]
    unfold tgF at h ⊢
    split at h
    · rename_i c1
      rw [if_pos c1]
      unfold teF at h ⊢
      have ro := wrF_o (b := 1) hE (a 72 7).toNat a 72 11 (by omega)
      split at h
      · rename_i c2
        rw [if_pos c2, (cl_c _ rfl).2.2.1 11 (by decide) (by decide)]
        exact ro
      rename_i c2
      rw [if_neg c2]
      split at h
      · exact bad (by decide) h
      rename_i c3
      rw [if_neg c3]
      have fx := (fn_c (w := wrF E 1 (a 72 7).toNat a) (k := a 72 6) hE (w6.2 d5)).2
      split
      · rw [(be_c (w := a 72 6 + 1) hE (zup_s _ _ _ _)).2.2.2.2.2.1 11 (by decide) (by decide) (by decide) (by decide), zup_j (by decide), zup_j (by decide), fx 72 11 (by omega)]
        exact ro
      · rw [zup_j (by decide), fx 72 11 (by omega)]
        exact ro
    rename_i c1
    rw [if_neg c1]
    split at h
    · exact bad (by decide) h
    rename_i c2
    rw [if_neg c2]
    split at h
    · exact bad (by decide) h
    rename_i c3
    rw [if_neg c3, (sg_c rfl _ rfl).2.2.2.2.2.1 11 (by decide) (by decide) (by decide), wrF_o hE _ _ 72 11 (by omega)]
    exact ku_c.2 72 11 (by omega)
  rename_i d5
  rw [if_neg d5]
  unfold tsF at h ⊢
  split at h
  · rename_i c1
    rw [if_pos c1]
    exact zup_j (by decide)
  · exact bad (by decide) h
theorem RB_g {a a' u0 u : zM} {E : Int} (hE : E = 76 ∨ E = 82) (f : FG a a') (h : RB a E u0 u) : RB a' E u0 u := by
  have e : ∀ j, a' 72 j = a 72 j := fun j => f _ _ (by omega)
  unfold RB at h ⊢
  rw [e, e, e]
  split
  · rename_i c
    rw [if_pos c] at h
    split
    · rename_i c2
      rw [if_pos c2] at h; exact h
    · rename_i c2
      rw [if_neg c2] at h; exact RE_g hE f h
  · rename_i c
    rw [if_neg c] at h
    split
    · rename_i c2
      rw [if_pos c2] at h; exact RE_g hE f h
    · rename_i c2
      rw [if_neg c2] at h; exact R1_g hE f h
theorem POS_g {Ω : zΩ} {a a' u : zM} {E : Int} {R : List zV → zM → Prop} (hE : E = 76 ∨ E = 82) (f : FG a a') (h : POS Ω a' E u R) : POS Ω a E u R := by
  have e : ∀ j, a' 72 j = a 72 j := fun j => f _ _ (by omega)
  have eE : a' E 4 = a E 4 := f _ _ (by omega)
  unfold POS at h ⊢
  rw [e, e, eE] at h
  exact h
section L3
variable {Ω : zΩ} {Q : List zV → zM → Prop} {tx : Int → Int} {n E : Int}
/-- a token taken, the next one read -/
theorem SIM_s {a a2 : zM} {k : Int} (hE : E = 76 ∨ E = 82) (h : CI tx n a E k) (hk : k ≤ 1000) (k0 : ¬ (a 72 4 = 1 ∧ a 75 3 = 0)) (f : FG (tkF a E (a 75 3)) a2) (t3 : a2 75 3 = (tk tx n (a 75 2)).1) (t4 : a2 75 4 = tkP tx n (a 75 2)) (t5 : (tk tx n (a 75 2)).1 = 2 → a2 75 5 = (tk tx n (a 75 2)).2.1) (t2 : a2 75 2 = (tk tx n (a 75 2)).2.2) : (¬ a2 72 10 = 0 → SIM Ω tx n a E a2) ∧ (a2 72 10 = 0 → ∀ af, SIM Ω tx n a2 E af → SIM Ω tx n a E af) := by
  obtain ⟨hc, hp, hkd, hv, h10, hB⟩ := h
  have e10 : a2 72 10 = tkF a E (a 75 3) 72 10 := f _ _ (by omega)
  have e11 : a2 72 11 = tkF a E (a 75 3) 72 11 := f _ _ (by omega)
  refine ⟨fun hb u0 u R hT hR HF HK => ?_, fun hb af hs u0 u R hT hR HF HK => ?_⟩
  · refine R_step hE hT hp hkd hv hB hk k0 hR (fun c u' hc e q1 q2 q3 => HF hb u' ?_ ?_ q3) fun u2 e _ _ => absurd (by rw [e10, e]; exact h10) hb
    · rw [e10, e, fl_c.1]; exact q1
    · rw [e11, e, fl_c.2]; exact q2
  · refine R_step hE hT hp hkd hv hB hk k0 hR (fun c u' hc e q1 q2 q3 => ?_) fun u2 e t r => ?_
    · exfalso
      rw [e10, e, fl_c.1] at hb
      exact hc hb
    · refine POS_g hE f (hs u0 u2 R ⟨t.1, t.2.2.2.trans t2.symm, ?_, t.2.2.1.trans t4.symm⟩ (RB_g hE f r) HF HK)
      rw [t3]
      exact RK_v t.2.1 t5
theorem e_takeB {a μ : zM} {k kd : Int} (hE : E = 76 ∨ E = 82) (vb : VB μ a) (h : BI a E k) (hk : k ≤ 1000) (K : ∀ μ', VB μ' (tkF a E kd) → Q [] μ') : zG Ω 28 0 [zR 3 72, zI kd] [] μ Q := by
  obtain ⟨h3, h4, h5, h11, hb⟩ := h
  have hb : (a 72 4 = 1 ∨ (a 72 4 = 2 ∧ 3 ≤ a 72 6 ∧ a 72 6 ≤ 6) ∨ a 72 4 = 3) ∨ ((a 72 4 = 4 ∧ 7 ≤ a 72 6 ∧ a 72 6 ≤ 14) ∨ (a 72 4 = 5 ∧ 7 ≤ a 72 6 ∧ a 72 6 ≤ 13)) ∧ a E 11 + a 72 7 = 7 + a E 5 + a 72 8 ∧ (0 ≤ a 72 8 ∧ a 72 8 ≤ 8) ∧ 0 ≤ a 72 7 := by
    rcases hb with q | q
    · exact Or.inl q.1
    · obtain ⟨q1, q2, q3, W, w1, w2, w3, w4⟩ := q
      exact Or.inr ⟨q1, q2, q3, by omega⟩
  have K := K _ (VB_tk (k := kd) hE vb fun z => by omega)
  have o := vb.1
  have m3 : μ 72 3 = a 72 3 := o _ _ (by decide) (by decide)
  have m4 : μ 72 4 = a 72 4 := o _ _ (by decide) (by decide)
  have m6 : μ 72 6 = a 72 6 := o _ _ (by decide) (by decide)
  have m7 : μ 72 7 = a 72 7 := o _ _ (by decide) (by decide)
  have m8 : μ 72 8 = a 72 8 := o _ _ (by decide) (by decide)
  have e4 : μ E 4 = a E 4 := o _ _ (by omega) (by omega)
  have e5 : μ E 5 = a E 5 := o _ _ (by omega) (by omega)
  have e11 : μ E 11 = a E 11 := o _ _ (by omega) (by omega)
  have h3 : μ 72 3 = E := m3.trans h3
  rw [← e5] at h5
  unfold tkR at K
  refine w_X3_take_0 (zif (fun z => e_word hE h3 (by omega) ?_) fun z1 => zif (fun z => e_number hE h3 (by omega) ?_) fun z2 => zif (fun z => e_semi ?_) fun z3 => zif (fun z => e_side hE h3 (by omega) (by omega) (by omega) h5 ?_) fun z4 => zif (fun z => e_sign hE h3 (by omega) (by omega) (by omega) (by omega) (by omega) h5 ?_) fun z5 => absurd hb (by omega))
  · rwa [if_pos z] at K
  · rwa [if_neg z1, if_pos z] at K
  · rwa [if_neg z1, if_neg z2, if_neg (by omega), if_neg (by omega)] at K
  · rwa [if_neg z1, if_neg z2, if_pos z] at K
  · rwa [if_neg z1, if_neg z2, if_neg z4, if_pos z] at K
theorem C_loop (HW : WBs Ω) (hE : E = 76 ∨ E = 82) : ∀ (f : Nat) (k : Int) (a μ : zM), VB μ a → CI tx n a E k → 0 ≤ k → k + f ≤ 600 → (a 75 3 = 0 ∨ n - a 75 2 < f) → (∀ af μf, VB μf af → FrC E a af → SIM Ω tx n a E af → (af 72 10 = 0 → ((0 ≤ af E 5 ∧ af E 5 ≤ 96) ∧ af E 11 = 7 + af E 5) ∧ af 72 11 = a 72 11) → Q [] μf) → zG Ω 27 42 [zR 3 72, zU, zU, zI k] [] μ Q := by
  intro f
  induction f with
  | zero =>
    intro k a μ vb h hk0 hk hm C
    have h' := h
    obtain ⟨hc, hp, hkd, hv, h10, hB⟩ := h'
    have z0 : a 75 3 = 0 := by omega
    have m753 : μ 75 3 = a 75 3 := vb.1 _ _ (by decide) (by decide)
    have m7210 : μ 72 10 = a 72 10 := vb.1 _ _ (by decide) (by decide)
    have m724 : μ 72 4 = a 72 4 := vb.1 _ _ (by decide) (by decide)
    have go : ¬ a 72 4 = 1 → zG Ω 28 0 [zR 3 72, zI (a 75 3)] [] μ (fun r1 m1 => zk0 r1 (zG Ω 85 0 [zR 8 75, zU] [] m1 (fun r2 m2 => zk0 r2 (zG Ω 27 42 [zR 3 72, zU, zU, zI (zw (k + 1))] [] m2 Q)))) := fun d1 => by
      refine e_takeB hE vb hB (by omega) fun μ1 vb1 => ?_
      have ft : FTk E a (tkF a E (a 75 3)) := FT_tk
      have e2 : μ1 75 2 = a 75 2 := (vb1.1 _ _ (by decide) (by decide)).trans (ft _ _ (by unfold tkY; omega))
      have e71 : ∀ j, μ1 71 j = a 71 j := fun j => (vb1.1 _ _ (by decide) (by omega)).trans (ft _ _ (by unfold tkY; omega))
      have e751 : μ1 75 1 = a 75 1 := (vb1.1 _ _ (by decide) (by decide)).trans (ft _ _ (by unfold tkY; omega))
      have tc : TC tx n μ1 := ⟨e751.trans hc.1, hc.2.1, fun i i0 i1 => ⟨(hc.2.2 i i0 i1).1, (e71 i).trans (hc.2.2 i i0 i1).2⟩⟩
      refine t_tokC HW tc e2 hp fun μ2 fgm t3 t4 t5 t2 => ?_
      obtain ⟨a2, vb2, fg, e75⟩ := VB_tok vb1 fgm
      rw [← e75] at t3 t4 t5 t2
      have nz : ¬ a2 72 10 = 0 := by
        rw [fg 72 10 (by omega), z0]
        exact tk_end d1
      have nzm : ¬ μ2 72 10 = 0 := by rw [vb2.1 72 10 (by decide) (by decide)]; exact nz
      have s := (SIM_s (Ω := Ω) hE h (by omega) (by omega) fg t3 t4 t5 t2).1 nz
      exact w_X3_read_42 (zif (fun _ => C a2 μ2 vb2 (FrC_k ft fg) s fun q => absurd q nz) fun _ => zif (fun q => absurd q nzm) fun _ => C a2 μ2 vb2 (FrC_k ft fg) s fun q => absurd q nz)
    refine w_X3_read_42 ?_
    rw [m753, m7210, m724]
    refine zif (fun q => absurd q (by omega)) fun _ => zif (fun _ => zif (fun d1 => zif (fun _ => C a μ vb FrC_r (fun u0 u R hT hR HF HK => ?_) fun _ => ?_) fun q => absurd z0 q) fun d1 => go d1) fun q => absurd h10 q
    · unfold POS
      rw [if_pos d1]
      unfold RB at hR
      rw [if_neg (by omega), if_neg (by omega)] at hR
      exact w_X10_edicts_55 (zif (fun _ => HK h10 u hR) fun q => absurd (hT.2.2.1.1 z0) q)
    · obtain ⟨b3, b4, b5, b11, bb⟩ := hB
      refine ⟨⟨b5, ?_⟩, rfl⟩
      rcases bb with q | q
      · exact q.2
      · exfalso; omega
  | succ f ih =>
    intro k a μ vb h hk0 hk hm C
    have h' := h
    obtain ⟨hc, hp, hkd, hv, h10, hB⟩ := h'
    have m753 : μ 75 3 = a 75 3 := vb.1 _ _ (by decide) (by decide)
    have m7210 : μ 72 10 = a 72 10 := vb.1 _ _ (by decide) (by decide)
    have m724 : μ 72 4 = a 72 4 := vb.1 _ _ (by decide) (by decide)
    have go : ¬ (a 72 4 = 1 ∧ a 75 3 = 0) → zG Ω 28 0 [zR 3 72, zI (a 75 3)] [] μ (fun r1 m1 => zk0 r1 (zG Ω 85 0 [zR 8 75, zU] [] m1 (fun r2 m2 => zk0 r2 (zG Ω 27 42 [zR 3 72, zU, zU, zI (zw (k + 1))] [] m2 Q)))) := fun d1 => by
      refine e_takeB hE vb hB (by omega) fun μ1 vb1 => ?_
      have ft : FTk E a (tkF a E (a 75 3)) := FT_tk
      have e2 : μ1 75 2 = a 75 2 := (vb1.1 _ _ (by decide) (by decide)).trans (ft _ _ (by unfold tkY; omega))
      have e71 : ∀ j, tkF a E (a 75 3) 71 j = a 71 j := fun j => ft _ _ (by unfold tkY; omega)
      have e751 : tkF a E (a 75 3) 75 1 = a 75 1 := ft _ _ (by unfold tkY; omega)
      have tc : TC tx n (tkF a E (a 75 3)) := ⟨e751.trans hc.1, hc.2.1, fun i i0 i1 => ⟨(hc.2.2 i i0 i1).1, (e71 i).trans (hc.2.2 i i0 i1).2⟩⟩
      have tcm : TC tx n μ1 := ⟨(vb1.1 _ _ (by decide) (by decide)).trans tc.1, tc.2.1, fun i i0 i1 => ⟨(tc.2.2 i i0 i1).1, (vb1.1 71 i (by decide) (by omega)).trans (tc.2.2 i i0 i1).2⟩⟩
      refine t_tokC HW tcm e2 hp fun μ2 fgm t3 t4 t5 t2 => ?_
      obtain ⟨a2, vb2, fg, e75⟩ := VB_tok vb1 fgm
      rw [← e75] at t3 t4 t5 t2
      have ss := SIM_s (Ω := Ω) hE h (by omega) d1 fg t3 t4 t5 t2
      by_cases nz : a2 72 10 = 0
      · have tb := tk_b (tx := tx) (n := n) (p := a 75 2) hp
        obtain ⟨b1, b2, b3, b4, b5, b6, b7⟩ := tb
        have nz0 : ¬ a 75 3 = 0 := fun q => by
          rw [fg 72 10 (by omega), q] at nz
          exact tk_end (fun y => d1 ⟨y, q⟩) nz
        refine (show zG Ω 27 42 [zR 3 72, zU, zU, zI (zw (k + 1))] [] μ2 Q from ?_)
        rw [zw_i (x := k + 1) (by omega) (by omega)]
        refine ih (k + 1) a2 μ2 vb2 ⟨TC_f tc fg, by omega, by rw [t3]; exact b3, fun q => ?_, nz, BI_fg hE fg (BI_s hE hB (by rw [← fg 72 10 (by omega)]; exact nz))⟩ (by omega) (by omega) ?_ fun af μf vbf fr s b => C af μf vbf (FrC_t (FrC_k ft fg) fr) (ss.2 nz af s) fun q => ⟨(b q).1, by rw [(b q).2, fg 72 11 (by omega)]; exact tk_11 hE hB (by rw [← fg 72 10 (by omega)]; exact nz)⟩
        · rw [t3] at q
          rw [t5 q]
          exact b7 q
        · by_cases q : a2 75 3 = 0
          · exact Or.inl q
          · right
            have := b6 (by rw [← t3]; exact q)
            omega
      · have s := ss.1 nz
        have nzm : ¬ μ2 72 10 = 0 := by rw [vb2.1 72 10 (by decide) (by decide)]; exact nz
        exact w_X3_read_42 (zif (fun _ => C a2 μ2 vb2 (FrC_k ft fg) s fun q => absurd q nz) fun _ => zif (fun q => absurd q nzm) fun _ => C a2 μ2 vb2 (FrC_k ft fg) s fun q => absurd q nz)
    refine w_X3_read_42 ?_
    rw [m753, m7210, m724]
    refine zif (fun q => absurd q (by omega)) fun _ => zif (fun _ => zif (fun d1 => zif (fun z0 => C a μ vb FrC_r (fun u0 u R hT hR HF HK => ?_) fun _ => ?_) fun q => go (by omega)) fun d1 => go (by omega)) fun q => absurd h10 q
    · unfold POS
      rw [if_pos d1]
      unfold RB at hR
      rw [if_neg (by omega), if_neg (by omega)] at hR
      exact w_X10_edicts_55 (zif (fun _ => HK h10 u hR) fun q => absurd (hT.2.2.1.1 z0) q)
    · obtain ⟨b3, b4, b5, b11, bb⟩ := hB
      refine ⟨⟨b5, ?_⟩, rfl⟩
      rcases bb with q | q
      · exact q.2
      · exfalso; omega
/-- what the reference comes to is said of the class's own memory too -/
theorem SIM_v {a af μf : zM} (hE : E = 76 ∨ E = 82) (vb : VB μf af) (h : SIM Ω tx n a E af) : SIM Ω tx n a E μf := by
  have e10 : μf 72 10 = af 72 10 := vb.1 _ _ (by decide) (by decide)
  have e11 : μf 72 11 = af 72 11 := vb.1 _ _ (by decide) (by decide)
  have e4 : μf E 4 = af E 4 := vb.1 _ _ (by omega) (by omega)
  intro u0 u R hT hR HF HK
  rw [e10, e11] at HF
  rw [e10, e4] at HK
  exact h u0 u R hT hR HF fun z u' r => HK z u' (R1_v hE (fun x j p q => (vb.1 x j p q).symm) r)
end L3
