/-! one token: the reference follows the class -/
theorem XB_g {a a' u u' : zM} {E c O : Int} (e12 : a' E 12 = a E 12) (e3 : ∀ j, a' (E + 3) j = a (E + 3) j) (e4 : ∀ j, a' (E + 4) j = a (E + 4) j) (e16 : ∀ j, u' 116 j = u 116 j) (e17 : ∀ j, u' 117 j = u 117 j) (e22 : ∀ j, 4 ≤ j → u' 122 j = u 122 j) (d : DN u u' O) (h : XB a E u c O) : XB a' E u' c O := by
  obtain ⟨h1, h2, h3, h4, h5, h6, h7⟩ := h
  refine ⟨fun e e0 e1 hn => FXe_f (Int.le_refl _) (e3 e) (e4 e) (e16 _) (e17 _) d (h1 e e0 e1 (by rw [← e17]; exact hn)), fun e e0 e1 he => ?_, fun e e0 e1 he => ?_, fun q => ?_, by rw [e12]; exact h5, fun e e0 e1 he => by rw [e17, e12]; exact h6 e e0 e1 he, fun q => ?_⟩
  · rw [e17, e22 _ (by omega)]; exact h2 e e0 e1 he
  · rw [e22 _ (by omega)] at he
    rw [e3, e4]; exact h3 e e0 e1 he
  · have := h4 q
    rw [e17, e12, e22 _ (by omega), e22 _ (by omega)]
    exact this
  · rw [e22 _ (by omega)] at q
    rw [e12]; exact h7 q
section L3
variable {Ω : zΩ} {Q R : List zV → zM → Prop} {tx : Int → Int} {n x E : Int} {a u u0 : zM}
theorem F_badL {a1 : zM} {c x : Int} (HF : FLT a1 a u0 R) (fr0 : FrM u0 u) (tpl : u 88 32 = a 75 4) (e : a1 = failF a c) (hc : ¬ c = 0 := by decide) : zG Ω 137 0 [zR 10 88, zI c] [] u (fun r m => zk1 r fun v => zbl v (LC Ω x R [zI v] m)) := r_badL (F_bad HF fr0 tpl e rfl FrM_r hc)
theorem tdF_4 {k : Int} (hE : E = 76 ∨ E = 82) : tdF a E k E 4 = a E 4 := by
  unfold tdF
  have hf : ∀ c, failF a c E 4 = a E 4 := fun c => by unfold failF; rw [zup_c (by omega), zup_c (by omega)]
  split
  · exact hf _
  split
  · exact hf _
  split
  · exact hf _
  split
  · exact (op_c (m := a) _ rfl).2.2.2.2.2.2.2.2 E 4 (by omega) (by omega) (by omega)
  split
  · exact (un_c (m := a) hE _ rfl).2.2.2.2.2.2.1 4 (by decide)
  split
  · exact (un_c (m := a) hE _ rfl).2.2.2.2.2.2.1 4 (by decide)
  · exact (lf_c (m := a) hE _ rfl).2.2.2.2.1 4 (by decide) (by decide)
/-- three expressions stand already -/
theorem R_third (tR : RK (a 75 3) (a 75 5) u) (tpl : u 88 32 = a 75 4) (hk : 0 ≤ a 75 3 ∧ a 75 3 ≤ 39 ∧ ¬ a 75 3 = 35) (h6 : a 72 6 = 14) (h9 : a 72 9 = 1) (fr : FrM u0 u) (HF : FLT (tdF a E (a 75 3)) a u0 R) : P14 Ω u (LC Ω x R) := by
  have b1 : ¬ canR (a 75 3) → zG Ω 137 0 [zR 10 88, zI 1] [] u (fun r m => zk1 r fun v => zbl v (LC Ω x R [zI v] m)) := fun q => F_badL HF fr tpl (by
    unfold tdF
    rw [if_pos (Or.inl q)])
  have b2 : canR (a 75 3) → zG Ω 137 0 [zR 10 88, zI 2] [] u (fun r m => zk1 r fun v => zbl v (LC Ω x R [zI v] m)) := fun q => F_badL HF fr tpl (by
    unfold tdF
    rw [if_neg (fun y => y.elim (fun t => t q) fun t => by omega), if_pos (Or.inl (by omega))])
  have rk := RK_k tR (by omega)
  have wb := wrA_b (k := a 75 3)
  have sg : ¬ a 75 3 = 2 → ¬ (12 ≤ a 75 3 ∧ a 75 3 ≤ 20) → ¬ a 75 3 = 23 → zG Ω 144 0 [zR 10 88, zI 40] [] u (fun r1 m1 => zk1 r1 fun v1 => if v1 = 0 then (zG Ω 144 0 [zR 10 88, zI 8] [] m1 (fun r2 m2 => zk1 r2 fun v2 => if v2 = 0 then ((fun r10 m10 => zk1 r10 fun v10 => if v10 = 0 then (zG Ω 137 0 [zR 10 88, zI 1] [] m10 (fun r11 m11 => zk1 r11 fun v11 => zbl v11 (LC Ω x R [zI v11] m11))) else (zG Ω 137 0 [zR 10 88, zI 2] [] m10 (fun r12 m12 => zk1 r12 fun v12 => zbl v12 (LC Ω x R [zI v12] m12)))) [zI 0] m2) else ((fun r10 m10 => zk1 r10 fun v10 => if v10 = 0 then (zG Ω 137 0 [zR 10 88, zI 1] [] m10 (fun r11 m11 => zk1 r11 fun v11 => zbl v11 (LC Ω x R [zI v11] m11))) else (zG Ω 137 0 [zR 10 88, zI 2] [] m10 (fun r12 m12 => zk1 r12 fun v12 => zbl v12 (LC Ω x R [zI v12] m12)))) [zI 1] m2))) else ((fun r10 m10 => zk1 r10 fun v10 => if v10 = 0 then (zG Ω 137 0 [zR 10 88, zI 1] [] m10 (fun r11 m11 => zk1 r11 fun v11 => zbl v11 (LC Ω x R [zI v11] m11))) else (zG Ω 137 0 [zR 10 88, zI 2] [] m10 (fun r12 m12 => zk1 r12 fun v12 => zbl v12 (LC Ω x R [zI v12] m12)))) [zI 1] m1)) := fun n2 n12 n23 => r_sgn tR hk (k0 := 36) (by decide) rfl (fun q => zk1_t (b2 (Or.inr (Or.inr (Or.inr q))))) fun q36 => r_sgn tR hk (k0 := 31) (by decide) rfl (fun q => zk1_t (b2 (Or.inr (Or.inr (Or.inl q))))) fun q31 => zk1_f (b1 fun t => by unfold canR sdA at t; omega)
  refine w_X10_begins_0 (zif (fun z => zk1_t (b2 (Or.inl (Or.inl (rk.2.1 z))))) fun z => zif (fun y => zif (fun t => zif (fun s => zk1_t (b2 (Or.inr (Or.inl ?_)))) fun s => sg ?_ ?_ ?_) fun t => zk1_t (b2 (Or.inl (Or.inr ?_)))) fun y => sg ?_ ?_ ?_)
  · have := rk.1 y; omega
  · have := rk.1 y; omega
  · have := rk.1 y; omega
  · have := rk.1 y; omega
  · have := rk.1 y; omega
  · exact fun q => z (tR.2.2.1 q).1
  · exact fun q => y (tR.2.2.2.1 (by omega) (by omega)).1
  · exact fun q => y (tR.2.2.2.1 (by omega) (by omega)).1
/-- a semicolon behind a number -/
theorem R_semi (hE : E = 76 ∨ E = 82) (hT : TS tx n a u) (hp : 0 ≤ a 75 2 ∧ a 75 2 ≤ n) (hk : 0 ≤ a 75 3 ∧ a 75 3 ≤ 39 ∧ ¬ a 75 3 = 35) (hx : 0 ≤ a E 4 ∧ a E 4 ≤ 1000) (h : R1 a E u0 u) (HF : FLT (tsF a (a 75 3)) a u0 R) (HN : ∀ u2, tsF a (a 75 3) 72 10 = a 72 10 → TN tx n (a 75 2) u2 → RB (tsF a (a 75 3)) E u0 u2 → POS Ω (tsF a (a 75 3)) E u2 R) : P3 Ω u (LC Ω (a E 4 - 1) R) := by
  obtain ⟨tM, tp, tR, tpl⟩ := hT
  refine r_sgn tR hk (k0 := 39) (by decide) rfl (fun q => ?_) fun q => F_badL HF h.2.2.2.1 tpl (by unfold tsF; rw [if_neg q])
  have e : tsF a (a 75 3) = zup a 72 4 1 := by unfold tsF; rw [if_pos q]
  rw [e] at HN
  have y4 : zup a 72 4 1 72 4 = 1 := zup_s _ _ _ _
  have yo : ∀ x j, ¬ (x = 72 ∧ j = 4) → zup a 72 4 1 x j = a x j := fun x j hx => by unfold zup; rw [if_neg hx]
  generalize zup a 72 4 1 = a1 at *
  refine r_tk tM tp hp fun u4 f t => LC_1 (by omega) ?_
  have hr : R1 a1 E u0 u4 := by
    obtain ⟨h1, h2, h3, h4⟩ := h
    unfold R1
    rw [yo E 5 (by omega), yo E 11 (by omega)]
    exact ⟨(f 88 42 (by omega)).trans h1, (f 88 43 (by omega)).trans h2, cdR_g (Int.le_refl _) (fun i _ _ => ⟨yo _ _ (by omega), yo _ _ (by omega)⟩) (fun i _ _ => ⟨f _ _ (by omega), f _ _ (by omega), f _ _ (by omega)⟩) h3, RBd_f (Int.le_refl _) ⟨fun j _ => yo _ _ (by omega), yo _ _ (by omega), fun j _ => ⟨yo _ _ (by omega), yo _ _ (by omega)⟩, fun j => ⟨yo _ _ (by omega), yo _ _ (by omega)⟩⟩ (UF_U f) h4⟩
  have := HN u4 (yo _ _ (by omega)) t (by unfold RB; rw [if_neg (by omega), if_neg (by omega)]; exact hr)
  unfold POS at this
  rw [if_pos y4, yo E 4 (by omega)] at this
  rwa [show a E 4 - 1 + 1 = a E 4 by omega]
/-- a number -/
theorem R_num (hE : E = 76 ∨ E = 82) (hT : TS tx n a u) (hp : 0 ≤ a 75 2 ∧ a 75 2 ≤ n) (hk : 0 ≤ a 75 3 ∧ a 75 3 ≤ 39 ∧ ¬ a 75 3 = 35) (hv : NV a) (hw : 3 ≤ a 72 6 ∧ a 72 6 ≤ 6) (h : R1 a E u0 u) (HF : FLT (tnF a E (a 75 3)) a u0 R) (HN : ∀ u2, tnF a E (a 75 3) 72 10 = a 72 10 → TN tx n (a 75 2) u2 → RB (tnF a E (a 75 3)) E u0 u2 → POS Ω (tnF a E (a 75 3)) E u2 R) : P2 Ω (a 72 6) u (LC Ω (a E 4 - 1) R) := by
  obtain ⟨tM, tp, tR, tpl⟩ := hT
  have fr := h.2.2.2.1
  have b1 : ¬ u 88 30 = 2 → zG Ω 137 0 [zR 10 88, zI 1] [] u (fun r1 m1 => zk1 r1 fun v1 => zbl v1 ((fun r4 m4 => zk1 r4 fun v4 => if v4 = 0 then (LC Ω (a E 4 - 1) R [zI 0] m4) else P3 Ω m4 (LC Ω (a E 4 - 1) R)) [zI v1] m1)) := fun z => r_wrong (zk1_i (zbl_of (by omega) (by omega) (zk1_f (LC_0 (F_bad HF fr tpl (by
    unfold tnF
    rw [if_pos (fun q => z (tR.2.2.1 q).1)]) rfl FrM_r)))))
  have b2 : u 88 30 = 2 → ¬ (loN (a 72 6) ≤ a 75 5 ∧ a 75 5 ≤ hiN (a 72 6)) → zG Ω 157 73 [zR 10 88, zU, zU, zU] [] u (fun r4 m4 => zk1 r4 fun v4 => if v4 = 0 then (LC Ω (a E 4 - 1) R [zI 0] m4) else P3 Ω m4 (LC Ω (a E 4 - 1) R)) := fun z q => w_X10_numberRead_73 (r_wrong (zk1_i (zbl_of (by omega) (by omega) (zk1_f (LC_0 (F_bad HF fr tpl (by
    unfold tnF
    rw [if_neg (fun y => y ((RK_k tR ⟨hk.1, hk.2.1⟩).2.1 z)), if_pos q]) rfl FrM_r))))))
  have b0 : u 88 30 = 2 → (loN (a 72 6) ≤ a 75 5 ∧ a 75 5 ≤ hiN (a 72 6)) → u 88 31 = a 75 5 → zG Ω 143 0 [zR 10 88, zU] [] (zup u 110 (4 + (a 72 6 - 3)) (u 88 31)) (fun r15 m15 => zk0 r15 ((fun r4 m4 => zk1 r4 fun v4 => if v4 = 0 then (LC Ω (a E 4 - 1) R [zI 0] m4) else P3 Ω m4 (LC Ω (a E 4 - 1) R)) [zI 1] m15)) := fun z q e31 => by
    have e : tnF a E (a 75 3) = zup (seF a E (a 72 6) (a 75 5)) 72 4 3 := by
      unfold tnF
      rw [if_neg (fun y => y ((RK_k tR ⟨hk.1, hk.2.1⟩).2.1 z)), if_neg (fun y => y q)]
    obtain ⟨q4, q72, qv, qE, qx⟩ := se_c (m := a) (v := a 75 5) hE hw (tnF a E (a 75 3)) e
    generalize tnF a E (a 75 3) = a1 at *
    clear HF
    rw [e31]
    have z0 : ∀ x j, ¬ (x = 110 ∧ j = 4 + (a 72 6 - 3)) → zup u 110 (4 + (a 72 6 - 3)) (a 75 5) x j = u x j := fun x j hx => by unfold zup; rw [if_neg hx]
    have zs : zup u 110 (4 + (a 72 6 - 3)) (a 75 5) 110 (4 + (a 72 6 - 3)) = a 75 5 := zup_s _ _ _ _
    generalize zup u 110 (4 + (a 72 6 - 3)) (a 75 5) = u1 at *
    refine r_tk (TM_o (fun x j q => z0 x j (by omega)) tM) ((z0 88 29 (by omega)).trans tp) hp fun u4 f t => (show zk1 [zI 1] (fun v4 => if v4 = 0 then (LC Ω (a E 4 - 1) R [zI 0] u4) else P3 Ω u4 (LC Ω (a E 4 - 1) R)) from zk1_t ?_)
    have hr : R1 a1 E u0 u4 := by
      obtain ⟨h1, h2, h3, h4⟩ := h
      have k0 : ∀ x j, ¬ (x = 88 ∧ 29 ≤ j ∧ j ≤ 32) → ¬ x = 110 → u4 x j = u x j := fun x j hx hy => (f x j hx).trans (z0 x j (by omega))
      have k1 : ∀ j, ¬ j = 4 + (a 72 6 - 3) → u4 110 j = u 110 j := fun j hj => (f 110 j (by omega)).trans (z0 110 j (by omega))
      have ks : u4 110 (4 + (a 72 6 - 3)) = a 75 5 := (f 110 _ (by omega)).trans zs
      unfold R1
      rw [qE 5 (by omega), qE 11 (by omega)]
      refine ⟨(k0 88 42 (by omega) (by omega)).trans h1, (k0 88 43 (by omega) (by omega)).trans h2, cdR_g (Int.le_refl _) (fun i _ _ => ⟨qx _ _ (by omega) (by omega), qx _ _ (by omega) (by omega)⟩) (fun i _ _ => ⟨k0 _ _ (by omega) (by omega), k0 _ _ (by omega) (by omega), k0 _ _ (by omega) (by omega)⟩) h3, ?_⟩
      obtain ⟨r1, r2, r3, r4, r5, r6⟩ := h4
      refine ⟨FrM_t r1 (fun x j hx => ?_), ⟨(k0 88 26 (by omega) (by omega)).trans r2.1, (k0 88 27 (by omega) (by omega)).trans r2.2⟩, ?_, fun w w0 w1 => ?_, ?_, XB_g (qE 12 (by omega)) (fun j => qx _ _ (by omega) (by omega)) (fun j => qx _ _ (by omega) (by omega)) (fun j => k0 _ _ (by omega) (by omega)) (fun j => k0 _ _ (by omega) (by omega)) (fun j _ => k0 _ _ (by omega) (by omega)) (fun i _ _ => ⟨k0 _ _ (by omega) (by omega), fun c c1 c2 => k0 _ _ (by omega) (by omega)⟩) r6⟩
      · unfold rdY at hx
        by_cases y : x = 110
        · subst y; exact k1 j (by omega)
        · exact k0 x j (by omega) y
      · unfold NB at r3 ⊢
        unfold loN hiN at q
        have hw4 : a 72 6 = 3 ∨ a 72 6 = 4 ∨ a 72 6 = 5 ∨ a 72 6 = 6 := by omega
        rcases hw4 with y | y | y | y <;> rw [y] at ks k1 qv qE q
        · simp at q
          rw [qE 1 (by decide), qE 2 (by decide), qE 3 (by decide), k1 5 (by decide), k1 6 (by decide), k1 7 (by decide)]
          have e1 : u4 110 4 = a 75 5 := ks
          have e2 : a1 E 0 = a 75 5 := qv
          rw [e1, e2]
          exact ⟨⟨rfl, r3.1.2⟩, by omega, r3.2.2⟩
        · simp at q
          rw [qE 0 (by decide), qE 2 (by decide), qE 3 (by decide), k1 4 (by decide), k1 6 (by decide), k1 7 (by decide)]
          have e1 : u4 110 5 = a 75 5 := ks
          have e2 : a1 E 1 = a 75 5 := qv
          rw [e1, e2]
          exact ⟨⟨r3.1.1, rfl, r3.1.2.2⟩, r3.2.1, by omega, r3.2.2.2⟩
        · simp at q
          rw [qE 0 (by decide), qE 1 (by decide), qE 3 (by decide), k1 4 (by decide), k1 5 (by decide), k1 7 (by decide)]
          have e1 : u4 110 6 = a 75 5 := ks
          have e2 : a1 E 2 = a 75 5 := qv
          rw [e1, e2]
          exact ⟨⟨r3.1.1, r3.1.2.1, rfl, r3.1.2.2.2⟩, r3.2.1, r3.2.2.1, by omega, r3.2.2.2.2⟩
        · simp at q
          rw [qE 0 (by decide), qE 1 (by decide), qE 2 (by decide), k1 4 (by decide), k1 5 (by decide), k1 6 (by decide)]
          have e1 : u4 110 7 = a 75 5 := ks
          have e2 : a1 E 3 = a 75 5 := qv
          rw [e1, e2]
          exact ⟨⟨r3.1.1, r3.1.2.1, r3.1.2.2.1, rfl⟩, r3.2.1, r3.2.2.1, r3.2.2.2.1, by omega⟩
      · rw [k0 122 _ (by omega) (by omega), q72 5 (by decide)]
        exact r4 w w0 w1
      · unfold DC at r5 ⊢
        have ec : ∀ j, a1 (E + 1) j = a (E + 1) j ∧ a1 (E + 2) j = a (E + 2) j := fun j => ⟨qx _ _ (by omega) (by omega), qx _ _ (by omega) (by omega)⟩
        simp only [fun j => (ec j).1, fun j => (ec j).2]
        exact r5
    have := HN u4 (q72 10 (by decide)) t (by unfold RB; rw [if_neg (by omega), if_neg (by omega)]; exact hr)
    unfold POS at this
    rw [if_neg (by omega), if_neg (by omega), if_pos q4, qE 4 (by omega)] at this
    exact this
  have hv2 : u 88 30 = 2 → (0 ≤ a 75 5 ∧ a 75 5 ≤ 100000) ∧ ((a 75 5 ≤ 99999 ∧ u 88 31 = a 75 5) ∨ (a 75 5 = 100000 ∧ 99999 < u 88 31)) := fun z => by
    have k2 := (RK_k tR ⟨hk.1, hk.2.1⟩).2.1 z
    exact ⟨hv k2, (tR.2.2.1 k2).2⟩
  have go : ∀ lo hi : Int, loN (a 72 6) = lo → hiN (a 72 6) = hi → 0 ≤ lo → hi ≤ 99 → (if (u 88 30) = 2 then (if (u 88 31) < lo then (zG Ω 157 73 [zR 10 88, zU, zU, zU] [] u (fun r4 m4 => zk1 r4 fun v4 => if v4 = 0 then (LC Ω (a E 4 - 1) R [zI 0] m4) else P3 Ω m4 (LC Ω (a E 4 - 1) R))) else (if hi < (u 88 31) then (zG Ω 157 73 [zR 10 88, zU, zU, zU] [] u (fun r4 m4 => zk1 r4 fun v4 => if v4 = 0 then (LC Ω (a E 4 - 1) R [zI 0] m4) else P3 Ω m4 (LC Ω (a E 4 - 1) R))) else (zin (zw (4 + (a 72 6 - 3))) 8 (zG Ω 143 0 [zR 10 88, zU] [] (zup u 110 (zw (4 + (a 72 6 - 3))) (u 88 31)) (fun r15 m15 => zk0 r15 ((fun r4 m4 => zk1 r4 fun v4 => if v4 = 0 then (LC Ω (a E 4 - 1) R [zI 0] m4) else P3 Ω m4 (LC Ω (a E 4 - 1) R)) [zI 1] m15)))))) else (zG Ω 137 0 [zR 10 88, zI 1] [] u (fun r16 m16 => zk1 r16 fun v16 => zbl v16 ((fun r4 m4 => zk1 r4 fun v4 => if v4 = 0 then (LC Ω (a E 4 - 1) R [zI 0] m4) else P3 Ω m4 (LC Ω (a E 4 - 1) R)) [zI v16] m16)))) := fun lo hi el eh h0 h9 => by
    rw [zw_i (x := 4 + (a 72 6 - 3)) (by omega) (by omega)]
    refine zif (fun z => zif (fun y => b2 z ?_) fun y => zif (fun t => b2 z ?_) fun t => zin_of (by omega) (by omega) (b0 z ?_ ?_)) fun z => b1 z
    · have := hv2 z; omega
    · have := hv2 z; omega
    · have := hv2 z; omega
    · have := hv2 z; omega
  refine w_X10_numberRead_0 (zif (fun z => zif (fun y => absurd y (by omega)) fun y => go 1 24 ?_ ?_ (by decide) (by decide)) fun z => zif (fun z1 => zif (fun y => absurd y (by omega)) fun y => go 1 99 ?_ ?_ (by decide) (by decide)) fun z1 => zif (fun z2 => zif (fun y => absurd y (by omega)) fun y => go 1 9 ?_ ?_ (by decide) (by decide)) fun z2 => zif (fun y => go 0 99 ?_ ?_ (by decide) (by decide)) fun y => absurd (by omega) y)
  · unfold loN; rw [if_neg (by omega)]
  · unfold hiN; rw [if_pos (by omega)]
  · unfold loN; rw [if_neg (by omega)]
  · unfold hiN; rw [if_neg (by omega), if_neg (by omega)]
  · unfold loN; rw [if_neg (by omega)]
  · unfold hiN; rw [if_neg (by omega), if_pos (by omega)]
  · unfold loN; rw [if_pos (by omega)]
  · unfold hiN; rw [if_neg (by omega), if_neg (by omega)]
end L3
