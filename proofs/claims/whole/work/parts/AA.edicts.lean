/-! edicts: both from their first row to their last -/
/-- the class's reader at the first token -/
def I0 (tx : Int → Int) (n : Int) (a : zM) (E : Int) : Prop := (a 72 4 = 1 ∧ a 72 5 = 0) ∧ (a E 0 = 8 ∧ a E 1 = 24 ∧ a E 2 = 3 ∧ a E 3 = 2 ∧ a E 4 = 0 ∧ a E 5 = 0 ∧ a E 11 = 7 ∧ a E 12 = 1) ∧ DC a E ∧ (∀ e, 0 ≤ e → e ≤ 4 → a (E + 3) e = dfS e ∧ a (E + 4) e = dfE e) ∧ (a 75 3 = (tk tx n 0).1 ∧ a 75 4 = tkP tx n 0 ∧ ((tk tx n 0).1 = 2 → a 75 5 = (tk tx n 0).2.1) ∧ a 75 2 = (tk tx n 0).2.2)
def SIMS (Ω : zΩ) (tx : Int → Int) (n E : Int) (af : zM) : Prop := (∃ a, I0 tx n a E ∧ SIM Ω tx n a E af) ∧ (af 72 10 = 0 → ((0 ≤ af E 5 ∧ af E 5 ≤ 96) ∧ af E 11 = 7 + af E 5) ∧ af 72 11 = -1)
theorem cl_c1 {m : zM} {E : Int} (hE : E = 76 ∨ E = 82) : (clF m E E 0 = 8 ∧ clF m E E 1 = 24 ∧ clF m E E 2 = 3 ∧ clF m E E 3 = 2 ∧ clF m E E 4 = 0 ∧ clF m E E 5 = 0 ∧ clF m E E 11 = 7 ∧ clF m E E 12 = 1) ∧ DC (clF m E) E ∧ (∀ e, 0 ≤ e → e ≤ 4 → clF m E (E + 3) e = dfS e ∧ clF m E (E + 4) e = dfE e) := by
  have k : ∀ {P : Int → Prop}, P 76 → P 82 → P E := fun {P} a b => by rcases hE with z | z <;> subst z <;> assumption
  refine ⟨?_, ?_, fun e e0 e1 => ?_⟩
  · exact k (P := fun E => clF m E E 0 = 8 ∧ clF m E E 1 = 24 ∧ clF m E E 2 = 3 ∧ clF m E E 3 = 2 ∧ clF m E E 4 = 0 ∧ clF m E E 5 = 0 ∧ clF m E E 11 = 7 ∧ clF m E E 12 = 1) ⟨rfl, rfl, rfl, rfl, rfl, rfl, rfl, rfl⟩ ⟨rfl, rfl, rfl, rfl, rfl, rfl, rfl, rfl⟩
  · exact k (P := fun E => DC (clF m E) E) ⟨⟨rfl, rfl⟩, ⟨rfl, rfl, rfl, rfl⟩, ⟨rfl, rfl⟩, ⟨rfl, rfl⟩, rfl⟩ ⟨⟨rfl, rfl⟩, ⟨rfl, rfl, rfl, rfl⟩, ⟨rfl, rfl⟩, ⟨rfl, rfl⟩, rfl⟩
  · have he : e = 0 ∨ e = 1 ∨ e = 2 ∨ e = 3 ∨ e = 4 := by omega
    rcases he with y | y | y | y | y <;> subst y
    · exact k (P := fun E => clF m E (E + 3) 0 = dfS 0 ∧ clF m E (E + 4) 0 = dfE 0) ⟨rfl, rfl⟩ ⟨rfl, rfl⟩
    · exact k (P := fun E => clF m E (E + 3) 1 = dfS 1 ∧ clF m E (E + 4) 1 = dfE 1) ⟨rfl, rfl⟩ ⟨rfl, rfl⟩
    · exact k (P := fun E => clF m E (E + 3) 2 = dfS 2 ∧ clF m E (E + 4) 2 = dfE 2) ⟨rfl, rfl⟩ ⟨rfl, rfl⟩
    · exact k (P := fun E => clF m E (E + 3) 3 = dfS 3 ∧ clF m E (E + 4) 3 = dfE 3) ⟨rfl, rfl⟩ ⟨rfl, rfl⟩
    · exact k (P := fun E => clF m E (E + 3) 4 = dfS 4 ∧ clF m E (E + 4) 4 = dfE 4) ⟨rfl, rfl⟩ ⟨rfl, rfl⟩
theorem FT_cl {m : zM} {E : Int} : FTk E m (clF m E) := by
  have yE : tkY E E := Or.inr (by omega)
  have wn : ∀ {m' w v}, FTk E m m' → FTk E m (wnF m' E w v) := fun h => FT_fn (FT_add (FT_bg h))
  have c0 : FTk E m (cl0F m E) := FT_u (FT_u (FT_u (FT_u (FT_u (FT_u (FT_u FT_r yE) yE) yE) yE) yE) yE) yE
  have c1 : FTk E m (cl1F m E) := FT_fn (FT_add (FT_add (FT_add (FT_bg (wn c0)))))
  exact FT_fn (FT_add (FT_bg (wn (wn c1))))
section L3
variable {Ω : zΩ} {Q R : List zV → zM → Prop} {tx : Int → Int} {n E : Int}
/-- the class reads a text -/
theorem X_read (HW : WBs Ω) (hE : E = 76 ∨ E = 82) {m : zM} (hn : 0 ≤ n ∧ n ≤ 600) (ht : ∀ i, 0 ≤ i → i < n → (0 ≤ tx i ∧ tx i ≤ 255) ∧ m 71 i = (if tx i < 128 then tx i else tx i - 256)) (C : ∀ af, (∀ x j, ¬ tkY E x → ¬ x = 75 → af x j = m x j) → SIMS Ω tx n E af → Q [] af) : zG Ω 27 0 [zR 3 72, zI n, zR 0 E, zU] [] m Q := by
  refine w_X3_read_0 ⟨by omega, e_clear ?_⟩
  obtain ⟨c1, c2, c3⟩ := cl_c1 (m := zup m 72 3 E) hE
  have cf : FTk E m (clF (zup m 72 3 E) E) := fun x j h => (FT_cl x j h).trans (zup_c (by unfold tkY at h; omega))
  have c72 : ∀ j, ¬ j = 3 → clF (zup m 72 3 E) E 72 j = m 72 j := fun j hj => by
    rcases hE with z | z <;> subst z <;> exact zup_j hj
  have c723 : clF (zup m 72 3 E) E 72 3 = E := by
    rcases hE with z | z <;> subst z <;> rfl
  generalize clF (zup m 72 3 E) E = m1 at *
  show zG Ω 84 0 _ _ _ _
  refine w_X8_begin_0 ?_
  have e600 : (if 600 < n then 600 else n) = n := if_neg (by omega)
  rw [e600]
  have y : ∀ x j, ¬ (x = 72 ∧ (j = 4 ∨ j = 5 ∨ j = 10 ∨ j = 11)) → ¬ (x = 75 ∧ (j = 1 ∨ j = 2)) → zup (zup (zup (zup (zup (zup m1 72 4 1) 72 5 0) 72 10 0) 72 11 (-1)) 75 1 n) 75 2 0 x j = m1 x j := fun x j h1 h2 => by
    unfold zup
    rw [if_neg (by omega), if_neg (by omega), if_neg (by omega), if_neg (by omega), if_neg (by omega), if_neg (by omega)]
  have ys : ∀ v, v = zup (zup (zup (zup (zup (zup m1 72 4 1) 72 5 0) 72 10 0) 72 11 (-1)) 75 1 n) 75 2 0 → v 72 4 = 1 ∧ v 72 5 = 0 ∧ v 72 10 = 0 ∧ v 72 11 = -1 ∧ v 75 1 = n ∧ v 75 2 = 0 := fun v hv => by subst hv; simp [zup]
  have ys := ys _ rfl
  generalize zup (zup (zup (zup (zup (zup m1 72 4 1) 72 5 0) 72 10 0) 72 11 (-1)) 75 1 n) 75 2 0 = m2 at *
  obtain ⟨s4, s5, s10, s11, s1, s2⟩ := ys
  have tc : TC tx n m2 := ⟨s1, hn, fun i i0 i1 => ⟨(ht i i0 i1).1, by rw [y 71 i (by omega) (by omega), cf 71 i (by unfold tkY; omega)]; exact (ht i i0 i1).2⟩⟩
  refine t_tokC HW tc s2 (by omega) fun μ fgm t3 t4 t5 t2 => ?_
  have vm2 := VB_of m2
  obtain ⟨a, vb, fga, e75⟩ := VB_tok vm2 fgm
  rw [← e75] at t3 t4 t5 t2
  have fg : ∀ x j, ¬ x = 74 → ¬ (x = 75 ∧ 2 ≤ j ∧ j ≤ 5) → a x j = m2 x j := fun x j p q => (fga x j q).trans (if_neg p)
  have aE : ∀ x j, E ≤ x → x ≤ E + 4 → a x j = m1 x j := fun x j h1 h2 => (fg x j (by omega) (by omega)).trans (y x j (by omega) (by omega))
  have a72 : ∀ j, a 72 j = m2 72 j := fun j => fg _ _ (by decide) (by omega)
  have tb := tk_b (tx := tx) (n := n) (p := 0) (by omega)
  have i0 : I0 tx n a E := by
    refine ⟨⟨(a72 4).trans s4, (a72 5).trans s5⟩, ?_, ?_, fun e e0 e1 => ?_, t3, t4, t5, t2⟩
    · rw [aE E 0 (by omega) (by omega), aE E 1 (by omega) (by omega), aE E 2 (by omega) (by omega), aE E 3 (by omega) (by omega), aE E 4 (by omega) (by omega), aE E 5 (by omega) (by omega), aE E 11 (by omega) (by omega), aE E 12 (by omega) (by omega)]
      exact c1
    · unfold DC at c2 ⊢
      simp only [fun j => aE (E + 1) j (by omega) (by omega), fun j => aE (E + 2) j (by omega) (by omega)]
      exact c2
    · rw [aE (E + 3) e (by omega) (by omega), aE (E + 4) e (by omega) (by omega)]
      exact c3 e e0 e1
  have i0' := i0
  obtain ⟨q1, q2, q3, q4, q5⟩ := i0'
  have tca : TC tx n a := ⟨(fg 75 1 (by decide) (by omega)).trans tc.1, tc.2.1, fun i i0 i1 => ⟨(tc.2.2 i i0 i1).1, (fg 71 i (by decide) (by omega)).trans (tc.2.2 i i0 i1).2⟩⟩
  refine (show zG Ω 27 42 [zR 3 72, zU, zU, zI 0] [] μ Q from C_loop HW hE n.toNat 0 a μ vb ⟨tca, by rw [t2]; omega, by rw [t3]; exact tb.2.2.1, fun q => ?_, (a72 10).trans s10, ?_⟩ (by omega) (by omega) ?_ fun af μf vbf fr s b => C μf (fun x j h1 h2 => ?_) ⟨⟨a, i0, SIM_v hE vbf s⟩, fun q => ?_⟩)
  · rw [t3] at q
    rw [t5 q]
    exact tb.2.2.2.2.2.2 q
  · refine ⟨?_, by omega, by omega, by omega, Or.inl ⟨Or.inl q1.1, by omega⟩⟩
    rw [a72, y 72 3 (by omega) (by omega)]
    exact c723
  · by_cases z : a 75 3 = 0
    · exact Or.inl z
    · have := tb.2.2.2.2.2.1 (by rw [← t3]; exact z)
      right
      omega
  · have n74 : ¬ x = 74 := fun q => h1 (Or.inl (by omega))
    have n72 : ¬ x = 72 := fun q => h1 (Or.inl (by omega))
    rw [vbf.1 x j n74 (fun q => n72 q.1), fr x j (by omega), fg x j n74 (by omega), y x j (by unfold tkY at h1; omega) (by omega)]
    exact cf x j h1
  · have e10 : μf 72 10 = af 72 10 := vbf.1 _ _ (by decide) (by decide)
    have e11 : μf 72 11 = af 72 11 := vbf.1 _ _ (by decide) (by decide)
    have e5 : μf E 5 = af E 5 := vbf.1 _ _ (by omega) (by omega)
    have e1 : μf E 11 = af E 11 := vbf.1 _ _ (by omega) (by omega)
    rw [e10] at q
    rw [e11, e5, e1]
    exact ⟨(b q).1, (b q).2.trans ((a72 11).trans s11)⟩
theorem zand_0 (x : Int) : zand 0 x = 0 := by
  unfold zand
  have : Int32.ofInt 0 &&& Int32.ofInt x = 0 := by
    apply Int32.toBitVec_inj.mp
    simp
  rw [this]
  rfl
theorem r_plain {u : zM} (C : ∀ u', (∀ j, 0 ≤ j → j < 9 → u' 122 j = 0) → (∀ j, 7 ≤ j → j < 14 → u' 117 j = 0) → (u' 110 4 = 8 ∧ u' 110 5 = 24 ∧ u' 110 6 = 3 ∧ u' 110 7 = 2) → (u' 88 42 = 0 ∧ u' 88 43 = 0) → (∀ x j, ¬ ((x = 122 ∧ 0 ≤ j ∧ j < 9) ∨ (x = 117 ∧ 7 ≤ j ∧ j < 14) ∨ (x = 110 ∧ 4 ≤ j ∧ j ≤ 7) ∨ (x = 88 ∧ 42 ≤ j ∧ j ≤ 43)) → u' x j = u x j) → Q [] u') : zG Ω 159 0 [zR 10 88, zU] [] u Q := by
  have s24 : ∀ (f : Nat) (k : Int) (m : zM), 7 ≤ k → k + f = 14 → (∀ j, 0 ≤ j → j < 9 → m 122 j = 0) → (∀ j, 7 ≤ j → j < k → m 117 j = 0) → (∀ x j, ¬ ((x = 122 ∧ 0 ≤ j ∧ j < 9) ∨ (x = 117 ∧ 7 ≤ j ∧ j < 14)) → m x j = u x j) → zG Ω 159 24 [zR 10 88, zI k] [] m Q := by
    intro f
    induction f with
    | zero =>
      intro k m k0 hk h1 h2 hf
      refine w_X10_plain_24 (zif (fun z => absurd z (by omega)) fun _ => ?_)
      have e : ∀ x j, ¬ ((x = 110 ∧ 4 ≤ j ∧ j ≤ 7) ∨ (x = 88 ∧ 42 ≤ j ∧ j ≤ 43)) → zup (zup (zup (zup (zup (zup m 110 4 8) 110 5 24) 110 6 3) 110 7 2) 88 42 0) 88 43 0 x j = m x j := fun x j hx => by
        unfold zup
        rw [if_neg (by omega), if_neg (by omega), if_neg (by omega), if_neg (by omega), if_neg (by omega), if_neg (by omega)]
      refine C _ (fun j j0 j1 => (e _ _ (by omega)).trans (h1 j j0 j1)) (fun j j0 j1 => (e _ _ (by omega)).trans (h2 j j0 (by omega))) ?_ ?_ fun x j hx => (e x j (by omega)).trans (hf x j (by omega))
      · simp [zup]
      · simp [zup]
    | succ f ih =>
      intro k m k0 hk h1 h2 hf
      refine w_X10_plain_24 (zif (fun _ => ?_) fun z => absurd (show k < 14 by omega) z)
      rw [zw_i (x := k + 1) (by omega) (by omega)]
      refine zin_of (by omega) (by omega) ?_
      have e : ∀ x j, ¬ (x = 117 ∧ j = k) → zup m 117 k 0 x j = m x j := fun x j hx => by unfold zup; rw [if_neg hx]
      refine ih (k + 1) _ (by omega) (by omega) (fun j j0 j1 => (e _ _ (by omega)).trans (h1 j j0 j1)) (fun j j0 j1 => ?_) (fun x j hx => (e x j (by omega)).trans (hf x j hx))
      by_cases z : j = k
      · subst z; exact zup_s _ _ _ _
      · rw [e _ _ (by omega)]; exact h2 j j0 (by omega)
  have s2 : ∀ (f : Nat) (k : Int) (m : zM), 0 ≤ k → k + f = 9 → (∀ j, 0 ≤ j → j < k → m 122 j = 0) → (∀ x j, ¬ (x = 122 ∧ 0 ≤ j ∧ j < 9) → m x j = u x j) → zG Ω 159 2 [zR 10 88, zI k] [] m Q := by
    intro f
    induction f with
    | zero =>
      intro k m k0 hk h1 hf
      exact w_X10_plain_2 (zif (fun z => absurd z (by omega)) fun _ => s24 7 7 m (by decide) (by decide) (fun j j0 j1 => h1 j j0 (by omega)) (fun j j0 j1 => absurd j1 (by omega)) fun x j hx => hf x j (by omega))
    | succ f ih =>
      intro k m k0 hk h1 hf
      refine w_X10_plain_2 (zif (fun _ => ?_) fun z => absurd (show k < 9 by omega) z)
      rw [zw_i (x := k + 1) (by omega) (by omega)]
      refine zin_of (by omega) (by omega) ?_
      have e : ∀ x j, ¬ (x = 122 ∧ j = k) → zup m 122 k 0 x j = m x j := fun x j hx => by unfold zup; rw [if_neg hx]
      refine ih (k + 1) _ (by omega) (by omega) (fun j j0 j1 => ?_) (fun x j hx => (e x j (by omega)).trans (hf x j hx))
      by_cases z : j = k
      · subst z; exact zup_s _ _ _ _
      · rw [e _ _ (by omega)]; exact h1 j j0 (by omega)
  exact w_X10_plain_0 (s2 9 0 u (by decide) (by decide) (fun j j0 j1 => absurd j1 (by omega)) fun _ _ _ => rfl)
def e0F (u : zM) (n : Int) : zM := zup (zup (zup (zup (zup (zup u 88 2 0) 88 28 n) 88 1 0) 88 26 0) 88 27 (-1)) 88 29 0
/-- the reference reads it -/
theorem X_readM {u af : zM} (hn : 0 ≤ n ∧ n ≤ 600) (hn1 : n ≤ u 88 1) (ht : ∀ i, 0 ≤ i → i < n → (0 ≤ tx i ∧ tx i ≤ 255) ∧ u 89 i = tx i) (hw : encA u 0 wdsM) (h : SIMS Ω tx n E af)
    (HF : ¬ af 72 10 = 0 → ∀ u', u' 88 26 = af 72 10 → u' 88 27 = af 72 11 → FrM (e0F u n) u' → R [zI (-1)] u') (HK : af 72 10 = 0 → ∀ u' m', (0 ≤ af E 5 ∧ af E 5 ≤ 96) → af E 11 = 7 + af E 5 → R1 af E (e0F u n) u' → KP u' m' → R [zI (af E 4)] m') : zG Ω 161 0 [zR 10 88, zI n, zU] [] u R := by
  obtain ⟨⟨a, i0, s⟩, hb⟩ := h
  obtain ⟨⟨q4, q5⟩, ⟨p0, p1, p2, p3, p4, p5, p11, p12⟩, dc, df, t3, t4, t5, t2⟩ := i0
  refine w_X10_edicts_0 (zif (fun z => absurd z (by omega)) fun _ => zif (fun z => absurd z (by omega)) fun _ => ?_)
  have ye : ∀ x j, ¬ (x = 88 ∧ (j = 2 ∨ j = 28 ∨ j = 1 ∨ j = 26 ∨ j = 27 ∨ j = 29)) → e0F u n x j = u x j := fun x j hx => by
    unfold e0F zup
    rw [if_neg (by omega), if_neg (by omega), if_neg (by omega), if_neg (by omega), if_neg (by omega), if_neg (by omega)]
  have ys : e0F u n 88 28 = n ∧ e0F u n 88 26 = 0 ∧ e0F u n 88 27 = -1 ∧ e0F u n 88 29 = 0 := by simp [e0F, zup]
  suffices hh : zG Ω 159 0 [zR 10 88, zU] [] (e0F u n) (fun r1 m1 => zk0 r1 (zG Ω 143 0 [zR 10 88, zU] [] m1 (fun r2 m2 => zk0 r2 (zG Ω 161 55 [zR 10 88, zU, zI 0] [] m2 R)))) from hh
  generalize e0F u n = u0 at *
  refine r_plain fun u1 c22 c17 c10 c42 cf => ?_
  show zG Ω 143 0 _ _ _ _
  have fr : FrM u0 u1 := fun x j hx => cf x j (by unfold rdY at hx; omega)
  have tm : TM tx n u1 := ⟨(cf _ _ (by omega)).trans ys.1, hn, fun i i0 i1 => ⟨(ht i i0 i1).1, (cf _ _ (by omega)).trans ((ye _ _ (by omega)).trans (ht i i0 i1).2)⟩, encA_f (fun j => (cf _ _ (by omega)).trans (ye _ _ (by omega))) _ _ hw⟩
  refine r_tk tm ((cf 88 29 (by omega)).trans ys.2.2.2) (by omega) fun u2 f t => ?_
  have g22 : ∀ j, 0 ≤ j → j < 9 → u2 122 j = 0 := fun j j0 j1 => (f _ _ (by omega)).trans (c22 j j0 j1)
  have g17 : ∀ j, 7 ≤ j → j < 14 → u2 117 j = 0 := fun j j0 j1 => (f _ _ (by omega)).trans (c17 j j0 j1)
  have hr : R1 a E u0 u2 := by
    unfold R1
    rw [p5, p11]
    refine ⟨(f _ _ (by omega)).trans c42.1, (f _ _ (by omega)).trans c42.2, fun i i0 i1 => absurd i1 (by omega), FrM_t fr (FrM_U f), ⟨(f _ _ (by omega)).trans ((cf _ _ (by omega)).trans ys.2.1), (f _ _ (by omega)).trans ((cf _ _ (by omega)).trans ys.2.2.1)⟩, ?_, fun w w0 w1 => ?_, dc, ?_⟩
    · unfold NB
      rw [p0, p1, p2, p3, f 110 4 (by omega), f 110 5 (by omega), f 110 6 (by omega), f 110 7 (by omega)]
      exact ⟨c10, by omega, by omega, by omega, by omega⟩
    · rw [g22 _ (by omega) (by omega), q5, zand_0]
      exact ⟨Or.inl rfl, fun _ => rfl, fun _ => rfl⟩
    · refine ⟨fun e e0 e1 hn => absurd (g17 _ (by omega) (by omega)) hn, fun e e0 e1 _ => ?_, fun e e0 e1 _ => df e e0 e1, fun q => absurd q (by decide), by omega, fun e e0 e1 _ => ?_, fun _ => p12⟩
      · rw [g22 _ (by omega) (by omega), g17 _ (by omega) (by omega)]
      · rw [g17 _ (by omega) (by omega), p12]
        exact ⟨fun _ => by omega, fun _ => rfl⟩
  have := s u0 u2 R ⟨t.1, t.2.2.2.trans t2.symm, by rw [t3]; exact RK_v t.2.1 t5, t.2.2.1.trans t4.symm⟩ (by unfold RB; rw [if_neg (by omega), if_neg (by omega)]; exact hr) HF (fun hz u' hr' => by
    obtain ⟨⟨b5, b11⟩, _⟩ := hb hz
    have r42 := hr'.1
    refine r_keep (by omega) (fun j j0 j1 => ?_) fun m' kp => HK hz u' m' b5 b11 hr' kp
    have := (hr'.2.2.2.2.2.2.1 (j + 3) (by omega) (by omega)).1
    rw [show j + 3 - 3 = j by omega] at this
    exact this)
  unfold POS at this
  rw [if_pos q4, p4] at this
  exact this
end L3
