/-! a sign is due: the reference's walk -/
theorem wmp_f {k : Int} (h : ¬ bdS k = 0) : wtM (wmp k) = bdS k ∧ 0 ≤ wmp k ∧ ((bdS k = 4 ∧ wmp k < 7) ∨ ((bdS k = 5 ∨ bdS k = 6) ∧ 7 ≤ wmp k ∧ wmp k < 12) ∨ ((bdS k = 1 ∨ bdS k = 2) ∧ 14 ≤ wmp k ∧ wmp k ≤ 15)) := by
  have hk := bdS_ok h
  have : k = 21 ∨ k = 22 ∨ k = 24 ∨ k = 25 ∨ k = 26 ∨ k = 27 ∨ k = 28 ∨ k = 29 ∨ k = 30 ∨ k = 31 ∨ k = 32 ∨ k = 33 ∨ k = 34 := by
    have h1 := hk.1
    unfold okW at h1
    omega
  rcases this with z | z | z | z | z | z | z | z | z | z | z | z | z <;> subst z <;> decide
/-- where the reference stands, by what is due in the class -/
def P3 (Ω : zΩ) (u : zM) (Q : List zV → zM → Prop) : Prop := zG Ω 144 0 [zR 10 88, zI 59] [] u (fun r5 m5 => zk1 r5 fun v5 => if v5 = 0 then (zG Ω 137 0 [zR 10 88, zI 1] [] m5 (fun r7 m7 => zk1 r7 fun v7 => zbl v7 (Q [zI v7] m7))) else (zG Ω 143 0 [zR 10 88, zU] [] m5 (fun r6 m6 => zk0 r6 (Q [zI 1] m6))))
def P2 (Ω : zΩ) (w : Int) (u : zM) (Q : List zV → zM → Prop) : Prop := zG Ω 157 0 [zR 10 88, zI (w - 3), zU, zU] [] u (fun r4 m4 => zk1 r4 fun v4 => if v4 = 0 then (Q [zI 0] m4) else P3 Ω m4 Q)
def P14 (Ω : zΩ) (u : zM) (Q : List zV → zM → Prop) : Prop := zG Ω 156 0 [zR 10 88] [] u (fun r10 m10 => zk1 r10 fun v10 => if v10 = 0 then (zG Ω 137 0 [zR 10 88, zI 1] [] m10 (fun r11 m11 => zk1 r11 fun v11 => zbl v11 (Q [zI v11] m11))) else (zG Ω 137 0 [zR 10 88, zI 2] [] m10 (fun r12 m12 => zk1 r12 fun v12 => zbl v12 (Q [zI v12] m12))))
def POS (Ω : zΩ) (a : zM) (E : Int) (u : zM) (R : List zV → zM → Prop) : Prop := if a 72 4 = 1 then zG Ω 161 55 [zR 10 88, zU, zI (a E 4)] [] u R else if a 72 4 = 2 then P2 Ω (a 72 6) u (LC Ω (a E 4 - 1) R) else if a 72 4 = 3 then P3 Ω u (LC Ω (a E 4 - 1) R) else if a 72 6 = 14 then P14 Ω u (LC Ω (a E 4 - 1) R) else zG Ω 155 43 [zR 10 88, zI (a 72 6 - 7), zU] [] u (XC Ω (a 72 6) (a E 4 - 1) R)
def RB (a : zM) (E : Int) (u0 u : zM) : Prop := if a 72 4 = 4 then (if a 72 6 = 14 then (FrM u0 u ∧ a 72 9 = 1) else RE 0 a E u0 u) else if a 72 4 = 5 then RE 1 a E u0 u else R1 a E u0 u
section L3
variable {Ω : zΩ} {Q R : List zV → zM → Prop} {tx : Int → Int} {n x E : Int} {a u u0 : zM}
theorem r_snow {kd v : Int} (tR : RK kd v u) (hk : 0 ≤ kd ∧ kd ≤ 39 ∧ ¬ kd = 35) (f : ¬ bdS kd = 0 → Q [zI (wmp kd)] u) (g : bdS kd = 0 → Q [zI (-1)] u) : zG Ω 153 0 [zR 10 88] [] u Q := by
  have rk := RK_k tR (by omega)
  have wb := wrA_b (k := kd)
  have f' : ∀ c : Int, ¬ bdS kd = 0 → wmp kd = c → Q [zI c] u := fun c h e => by rw [← e]; exact f h
  refine w_X10_signNow_0 (zif (fun z => zif (fun y => ?_) fun y => zif (fun t => ?_) fun t => g ?_) fun z => zif (fun y => zif (fun t => ?_) fun t => g ?_) fun y => g ?_)
  · have : kd = 22 := by have := rk.1 z; omega
    subst this; exact f (by decide)
  · have : kd = 21 := by have := rk.1 z; omega
    subst this; exact f (by decide)
  · have := rk.1 z
    unfold bdS
    rw [if_neg (by omega), if_neg (by omega), if_neg (by omega), if_neg (by omega), if_neg (by omega)]
  · have h := rk.2.2.1 y
    have hs : srA kd = kd - 23 ∧ kd ≤ 34 := by
      rw [h.2] at t
      unfold srA at t ⊢
      repeat' split at t
      all_goals first | omega | (rw [if_pos (by omega)]; omega)
    have hb : ¬ bdS kd = 0 := by
      unfold bdS
      rw [if_neg (by omega), if_neg (by omega)]
      by_cases c1 : 24 ≤ kd ∧ kd ≤ 29
      · rw [if_pos c1]; decide
      rw [if_neg c1]
      by_cases c2 : kd = 30 ∨ kd = 31
      · rw [if_pos c2]; decide
      rw [if_neg c2, if_pos (by omega)]; decide
    refine f' _ hb ?_
    rw [h.2, hs.1]
    unfold wmp
    rw [if_neg (by omega), if_neg (by omega), if_neg (by omega), if_neg (by omega), if_neg (by omega)]
  · have h := rk.2.2.1 y
    have : ¬ kd ≤ 34 := fun q => by
      rw [h.2] at t
      unfold srA at t
      rw [if_pos q] at t
      omega
    unfold bdS
    rw [if_neg (by omega), if_neg (by omega), if_neg (by omega), if_neg (by omega), if_neg (by omega)]
  · have h1 : ¬ (3 ≤ kd ∧ kd ≤ 23) := fun q => z (tR.2.2.2.1 q.1 q.2).1
    have h2 : ¬ 24 ≤ kd := fun q => y (tR.2.2.2.2 q).1
    unfold bdS
    rw [if_neg (by omega), if_neg (by omega), if_neg (by omega), if_neg (by omega), if_neg (by omega)]
/-- a sign between two sides -/
theorem S_sign {kk : Int} (hE : E = 76 ∨ E = 82) (tM : TM tx n u) (tp : u 88 29 = a 75 2) (tpl : u 88 32 = a 75 4) (hp : 0 ≤ a 75 2 ∧ a 75 2 ≤ n) (hB : BI a E kk) (d5 : a 72 4 = 5) (hw : a 72 6 ≤ 13) (h : RE 1 a E u0 u) (hb : ¬ bdS (a 75 3) = 0) (HF : FLT (tgF a E (a 75 3)) a u0 R) (HN : NXT Ω tx n (tgF a E (a 75 3)) a E u0 x R) : zG Ω 154 0 [zR 10 88, zI (wmp (a 75 3)), zU, zU] [] u (VC Ω (a 72 6) x R) := by
  have nu := NU_of (by decide) (Or.inr d5) hB h
  obtain ⟨n42, n5, n43, n46, n48, n50, n51, n53, n6⟩ := nu
  have fr := RE_fr h
  obtain ⟨F, K, O, W, N, H, g0, g1, g2, g3, g4, g5, g6, g7, g8, g9, g10, g11, g12, g13⟩ := h
  have h11 := hB.2.2.2.1
  clear hB
  obtain ⟨ok, k36, k35, k23, k2, bw, bb⟩ := bdS_ok hb
  obtain ⟨wt, w0, wc⟩ := wmp_f hb
  have wl := g0.wl
  have wu := g0.wu
  have tg1 : bdS (a 75 3) = 4 → ¬ a 74 (a 72 8) = 0 → tgF a E (a 75 3) = failF a 1 := fun h1 h2 => by
    unfold tgF
    rw [if_neg hb, if_pos ⟨h1, h2⟩]
  have tg2 : ¬ (bdS (a 75 3) = 4 ∧ ¬ a 74 (a 72 8) = 0) → u 88 42 = 96 → tgF a E (a 75 3) = failF a 2 := fun h1 h2 => by
    unfold tgF
    rw [if_neg hb, if_neg h1, if_pos (Or.inr (Or.inr ⟨k36, Or.inl (by omega)⟩))]
  have tg0 : ¬ (bdS (a 75 3) = 4 ∧ ¬ a 74 (a 72 8) = 0) → u 88 42 < 96 → tgF a E (a 75 3) = zup (zup (sg2F a E (a 75 3)) 72 9 (if bdS (a 75 3) < 4 then 1 else 0)) 72 4 4 := fun h1 h2 => by
    unfold tgF
    rw [if_neg hb, if_neg h1, if_neg (fun q => by
      rcases q with q | q | q
      · omega
      · exact k36 q.1
      · rcases q.2 with y | y
        · omega
        · exact k2 y.1)]
  generalize tgF a E (a 75 3) = a1 at *
  have main : ∀ c : Int, (c = 1 ↔ bdS (a 75 3) = 4) → (c = 0 ∨ c = 1) → ¬ (bdS (a 75 3) = 4 ∧ ¬ a 74 (a 72 8) = 0) → zG Ω 154 29 [zR 10 88, zI (wmp (a 75 3)), zI c, zU] [] u (VC Ω (a 72 6) x R) := by
    intro c hc hc1 hn
    refine w_X10_joins_29 (r_grown (by omega) (fun q => ?_) fun q => ?_)
    · exact zk1_i (zif (fun _ => VC_0 (F_bad HF fr tpl (tg2 hn q) rfl FrM_r)) fun t => absurd (by decide) t)
    have e := tg0 hn q
    clear tg1 tg2 tg0 HF
    refine zk1_i (zif (fun t => absurd t (by omega)) fun _ => r_weight (zk1_i ?_))
    rw [wt]
    obtain ⟨k5, ko⟩ := ku_c (m := a) (E := E)
    have gr := EC_gr (a' := kuF a E) (k := wmp (a 75 3)) (v := 0) g0 (fun j => ko 73 j (by omega)) (ko 72 7 (by omega)) k5 (ko E 11 (by omega)) (fun j => ⟨ko _ j (by omega), ko _ j (by omega)⟩)
    refine EC_b (d := 0) (by decide) hE (by omega) (by omega) W N H _ _ O gr g3 (by omega) (by omega) fun u2 N' H' O' c0 c1 c2 c3 c4 => ?_
    show zG Ω 150 0 _ _ _ _
    have plen := popW_len (bdS (a 75 3)) W
    have wu2 := c0.wu
    refine r_wait (by omega) ?_
    have z51 : waiF u2 (wmp (a 75 3)) (96 + u 88 42) 88 51 = u 88 51 := by
      rw [wai_c.2.2.2.2 88 51 (by omega) (by omega) (by omega), c3 88 51 (by omega) (by omega) (by omega)]
      exact gro_c.2.2.2.2 88 51 (by omega) (by omega)
    have fin : ∀ A B : Int, A = (if bdS (a 75 3) = 4 then 1 else if bdS (a 75 3) < 4 then 0 else u 88 51) → B = (if bdS (a 75 3) < 4 then 1 else 0) → zG Ω 143 0 [zR 10 88, zU] [] (zup (zup (zup (waiF u2 (wmp (a 75 3)) (96 + u 88 42)) 88 51 A) 88 53 B) 88 52 1) (fun r10 m10 => zk0 r10 (VC Ω (a 72 6) x R [zI 1] m10)) := by
      intro A B hA hB
      have y0 : ∀ x j, ¬ (x = 88 ∧ 51 ≤ j ∧ j ≤ 53) → zup (zup (zup (waiF u2 (wmp (a 75 3)) (96 + u 88 42)) 88 51 A) 88 53 B) 88 52 1 x j = waiF u2 (wmp (a 75 3)) (96 + u 88 42) x j := fun x j hx => by
        unfold zup
        rw [if_neg (by omega), if_neg (by omega), if_neg (by omega)]
      have y1 : zup (zup (zup (waiF u2 (wmp (a 75 3)) (96 + u 88 42)) 88 51 A) 88 53 B) 88 52 1 88 51 = A := by simp [zup]
      have y2 : zup (zup (zup (waiF u2 (wmp (a 75 3)) (96 + u 88 42)) 88 51 A) 88 53 B) 88 52 1 88 52 = 1 := by simp [zup]
      have y3 : zup (zup (zup (waiF u2 (wmp (a 75 3)) (96 + u 88 42)) 88 51 A) 88 53 B) 88 52 1 88 53 = B := by simp [zup]
      generalize zup (zup (zup (waiF u2 (wmp (a 75 3)) (96 + u 88 42)) 88 51 A) 88 53 B) 88 52 1 = u3 at *
      have z0 : ∀ x j, ¬ (x = 88 ∧ 42 ≤ j) → ¬ (111 ≤ x ∧ x ≤ 120) → u3 x j = u x j := fun x j h1 h2 => by
        rw [y0 x j (by omega), wai_c.2.2.2.2 x j (by omega) (by omega) (by omega), c3 x j (by omega) (by omega) (by omega)]
        exact gro_c.2.2.2.2 x j (by omega) (by omega)
      refine r_tk (TM_o (fun x j q => z0 x j (by omega) (by omega)) tM) ((z0 88 29 (by omega) (by omega)).trans tp) hp fun u4 f t => VC_1 ?_
      have hB1 : B = 0 ∨ B = 1 := by rw [hB]; split <;> omega
      have hre := RE_s (a1 := a1) (v := B) hE hb h11 (by omega) hB1 g0 g1 (by omega) g4 g5 g6 g7 g8 g11 g12 g13 c0 c1 (by omega) c3 c4 (by rw [← g1]; exact y0) (y1.trans hA) y2 y3 f (by rw [hB]; exact e)
      have sc := sg_c (m := a) (E := E) (k := a 75 3) (v := if bdS (a 75 3) < 4 then 1 else 0) rfl a1 e
      have s72 : ∀ j, ¬ j = 7 → ¬ j = 4 → ¬ j = 9 → a1 72 j = a 72 j := fun j h1 h2 h3 => by
        rw [sc.2.2.2.2.2.1 j h1 h2 h3, wrF_o hE _ _ 72 j (by omega)]
        exact ko 72 j (by omega)
      refine HN 0 _ (by decide) sc.2.2.2.1 ⟨s72 6 (by decide) (by decide) (by decide), s72 10 (by decide) (by decide) (by decide), ?_⟩ t hre
      rw [sc.2.2.2.2.2.2.2 E 4 (by omega) (by omega) (by omega), wrF_o hE _ _ E 4 (by omega)]
      exact ko E 4 (by omega)
    clear c0 c1 c2 c3 c4 gr g0 g13
    show if c = 0 then _ else _
    refine zif (fun y => zif (fun t => ?_) fun t => zif (fun s => fin 0 1 ?_ ?_) fun s => absurd s (by omega)) fun y => zif (fun s => absurd s (by omega)) fun s => fin 1 0 ?_ ?_
    · rw [z51]
      refine zif (fun r => zif (fun s => absurd s (by omega)) fun s => fin 0 0 ?_ ?_) fun r => zif (fun s => absurd s (by omega)) fun s => fin 1 0 ?_ ?_
      · rw [if_neg (by omega), if_neg (by omega)]; omega
      · rw [if_neg (by omega)]
      · rw [if_neg (by omega), if_neg (by omega)]; omega
      · rw [if_neg (by omega)]
    · rw [if_neg (by omega), if_pos (by omega)]
    · rw [if_pos (by omega)]
    · rw [if_pos (by omega)]
    · rw [if_neg (by omega)]
  refine w_X10_joins_0 (zif (fun z => zif (fun q => absurd q (by decide)) fun _ => zif (fun y => main 1 (by omega) (by omega) fun q => q.2 (by omega)) fun y => r_badV (F_bad HF fr tpl (tg1 (by omega) (by omega)) rfl FrM_r)) fun z => zif (fun _ => main 0 (by omega) (by omega) (by omega)) fun q => absurd rfl q)
end L3
