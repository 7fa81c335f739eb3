section L3
variable {Ω : zΩ} {Q R : List zV → zM → Prop} {tx : Int → Int} {n x E : Int} {a u u0 : zM}
/-- a word begins a line -/
theorem R_word (hE : E = 76 ∨ E = 82) (hT : TS tx n a u) (hp : 0 ≤ a 75 2 ∧ a 75 2 ≤ n) (hk : 0 ≤ a 75 3 ∧ a 75 3 ≤ 39 ∧ ¬ a 75 3 = 35) (k0 : ¬ a 75 3 = 0) (h11 : a E 11 = 7 + a E 5) (h5 : 0 ≤ a E 5) (h : R1 a E u0 u) (HF : FLT (twF a E (a 75 3)) a u0 R) (HN : ∀ u2, twF a E (a 75 3) 72 10 = a 72 10 → TN tx n (a 75 2) u2 → RB (twF a E (a 75 3)) E u0 u2 → POS Ω (twF a E (a 75 3)) E u2 R) : zG Ω 161 55 [zR 10 88, zU, zI (a E 4)] [] u R := by
  obtain ⟨tM, tp, tR, tpl⟩ := hT
  have fr := h.2.2.2.1
  have tb := h.2.2.2.2.2.2.1
  refine w_X10_edicts_55 (zif (fun z => absurd ((RK_k tR ⟨hk.1, hk.2.1⟩).2.2.2 z) k0) fun _ => ?_)
  suffices hh : zG Ω 158 0 [zR 10 88, zU, zU] [] u (LC Ω (a E 4) R) from hh
  have b1 : a 75 3 < 3 ∨ 11 < a 75 3 → zG Ω 137 0 [zR 10 88, zI 1] [] u (fun r m => zk1 r fun v => zbl v (LC Ω (a E 4) R [zI v] m)) := fun q => F_badL HF fr tpl (by unfold twF; rw [if_pos q])
  refine w_X10_line_0 (zif (fun z => ?_) fun z => b1 ?_)
  · obtain ⟨k3, k23, ew⟩ := (RK_k tR ⟨hk.1, hk.2.1⟩).1 z
    have wb := wrA_b (k := a 75 3)
    refine zif (fun y => b1 (by omega)) fun y => ?_
    have k11 : a 75 3 ≤ 11 := by omega
    have e31 : u 88 31 = a 75 3 - 3 := by omega
    clear wb y
    have tw := tb (a 75 3) k3 k11
    rw [e31]
    refine zin_of (by omega) (by omega) (zif (fun t => zin_of (by omega) (by omega) ?_) fun t => F_badL HF fr tpl ?_)
    · have tm := tw.2.1 t
      clear HF b1 tw
      have z0 : ∀ x j, ¬ (x = 122 ∧ j = a 75 3 - 3) → zup u 122 (a 75 3 - 3) 1 x j = u x j := fun x j hx => by unfold zup; rw [if_neg hx]
      refine r_tk (TM_o (fun x j q => z0 x j (by omega)) tM) ((z0 88 29 (by omega)).trans tp) hp fun u4 f t4 => ?_
      show if a 75 3 - 3 < 4 then _ else _
      refine zif (fun c => ?_) fun c => ?_
      · have e : twF a E (a 75 3) = zup (zup (zup (zup a 72 5 (zor (a 72 5) (zshl 1 (a 75 3)))) E 4 (a E 4 + 1)) 72 6 (a 75 3)) 72 4 2 := by
          unfold twF
          rw [if_neg (by omega), if_neg (fun q => q tm), if_pos (by omega)]
        obtain ⟨q5, q6, q72, qE4, qE, qx⟩ := tw_c (m := a) (k := a 75 3) (v := zor (a 72 5) (zshl 1 (a 75 3))) hE _ rfl
        rw [e] at HN
        generalize zup (zup (zup a 72 5 (zor (a 72 5) (zshl 1 (a 75 3)))) E 4 (a E 4 + 1)) 72 6 (a 75 3) = m1 at *
        have y : ∀ x j, ¬ (x = 72 ∧ j = 4) → zup m1 72 4 2 x j = m1 x j := fun x j hx => by unfold zup; rw [if_neg hx]
        have y4 : zup m1 72 4 2 72 4 = 2 := zup_s _ _ _ _
        generalize zup m1 72 4 2 = a1 at *
        have k1 : ∀ x j, ¬ (x = 88 ∧ 29 ≤ j ∧ j ≤ 32) → ¬ (x = 122 ∧ j = a 75 3 - 3) → u4 x j = u x j := fun x j h1 h2 => (f x j h1).trans (z0 x j h2)
        have k22 : u4 122 (a 75 3 - 3) = 1 := (f _ _ (by omega)).trans (zup_s _ _ _ _)
        have hr : R1 a1 E u0 u4 := by
          obtain ⟨h1, h2, h3, h4⟩ := h
          unfold R1
          rw [y E 5 (by omega), y E 11 (by omega), qE 5 (by decide), qE 11 (by decide)]
          refine ⟨(k1 88 42 (by omega) (by omega)).trans h1, (k1 88 43 (by omega) (by omega)).trans h2, cdR_g (Int.le_refl _) (fun i _ _ => ⟨(y _ _ (by omega)).trans (qx _ _ (by omega) (by omega)), (y _ _ (by omega)).trans (qx _ _ (by omega) (by omega))⟩) (fun i _ _ => ⟨k1 _ _ (by omega) (by omega), k1 _ _ (by omega) (by omega), k1 _ _ (by omega) (by omega)⟩) h3, RBd_x h4 (fun x j hx => k1 x j (by unfold rdY at hx; omega) (by unfold rdY at hx; omega)) ⟨k1 _ _ (by omega) (by omega), k1 _ _ (by omega) (by omega)⟩ (fun j hj => (y _ _ (by omega)).trans (qE j (by omega))) (fun j => k1 _ _ (by omega) (by omega)) (TB_w h4.2.2.2.1 ⟨k3, k11⟩ ((y 72 5 (by omega)).trans q5) k22 (fun j hj => k1 _ _ (by omega) (by omega))) (fun j _ => ⟨(y _ _ (by omega)).trans (qx _ _ (by omega) (by omega)), (y _ _ (by omega)).trans (qx _ _ (by omega) (by omega))⟩) (XB_g ((y _ _ (by omega)).trans (qE 12 (by decide))) (fun j => (y _ _ (by omega)).trans (qx _ _ (by omega) (by omega))) (fun j => (y _ _ (by omega)).trans (qx _ _ (by omega) (by omega))) (fun j => k1 _ _ (by omega) (by omega)) (fun j => k1 _ _ (by omega) (by omega)) (fun j _ => k1 _ _ (by omega) (by omega)) (fun i _ _ => ⟨k1 _ _ (by omega) (by omega), fun c c1 c2 => k1 _ _ (by omega) (by omega)⟩) h4.2.2.2.2.2)⟩
        have := HN u4 ((y _ _ (by omega)).trans (q72 10 (by decide) (by decide))) t4 (by unfold RB; rw [if_neg (by omega), if_neg (by omega)]; exact hr)
        unfold POS at this
        rw [if_neg (by omega), if_pos y4, y E 4 (by omega), qE4, y 72 6 (by omega), q6, show a E 4 + 1 - 1 = a E 4 by omega] at this
        exact this
      · have e : twF a E (a 75 3) = beF (zup (zup (zup a 72 5 (zor (a 72 5) (zshl 1 (a 75 3)))) E 4 (a E 4 + 1)) 72 6 (a 75 3)) E := by
          unfold twF
          rw [if_neg (by omega), if_neg (fun q => q tm), if_neg (by omega)]
        obtain ⟨q5, q6, q72, qE4, qE, qx⟩ := tw_c (m := a) (k := a 75 3) (v := zor (a 72 5) (zshl 1 (a 75 3))) hE _ rfl
        rw [e] at HN
        have e7 : 7 + (a 75 3 - 3 - 4) = a 75 3 := by omega
        refine w_X10_expression_0 ?_
        rw [zw_i (x := a 75 3 - 3 - 4) (by omega) (by omega), e7, zw_i (x := a 75 3) (by omega) (by omega)]
        refine zin_of (by omega) (by omega) ?_
        obtain ⟨qq, q7, q8, q9, q10⟩ := exu_c (u := u4) (w := a 75 3) (v := u4 88 43) _ rfl
        have hre := RE_w (w := a 75 3) hE (by omega) h11 h5 h t f rfl rfl
        obtain ⟨p4, p7, p8, p9, p74, p72, pE, pE12, pc, p3⟩ := be_c hE q6
        generalize beF (zup (zup (zup a 72 5 (zor (a 72 5) (zshl 1 (a 75 3)))) E 4 (a E 4 + 1)) 72 6 (a 75 3)) E = a1 at *
        have y6 := (p72 6 (by decide) (by decide) (by decide) (by decide)).trans q6
        have := HN _ ((p72 10 (by decide) (by decide) (by decide) (by decide)).trans (q72 10 (by decide) (by decide))) ⟨TM_o (fun x j q => by
            by_cases z : x = 88
            · subst z; exact q7 j (by omega) (by omega) (by omega)
            · exact q10 x j z (by omega)) t4.1, RK_o (q7 30 (by decide) (by decide) (by decide)) (q7 31 (by decide) (by decide) (by decide)) t4.2.1, (q7 32 (by decide) (by decide) (by decide)).trans t4.2.2.1, (q7 29 (by decide) (by decide) (by decide)).trans t4.2.2.2⟩ (by
          unfold RB
          rw [if_pos p4, if_neg (by omega)]
          exact hre)
        unfold POS at this
        rw [if_neg (by omega), if_neg (by omega), if_neg (by omega), if_neg (by omega), pE 4 (by decide), qE4, y6, show a E 4 + 1 - 1 = a E 4 by omega] at this
        unfold XC at this
        have el : lwN (a 75 3) = a 75 3 - 3 := by unfold lwN; rw [if_pos k11]
        have em : moN (a 75 3) = 0 := by unfold moN; rw [if_pos k11]
        rw [el, em] at this
        rw [show a 75 3 - 3 - 4 = a 75 3 - 7 by omega]
        exact this
    · unfold twF
      rw [if_neg (by omega), if_pos (fun q => t (tw.2.2 q))]
  · by_cases q : 3 ≤ a 75 3 ∧ a 75 3 ≤ 11
    · exact absurd (tR.2.2.2.1 q.1 (by omega)).1 z
    · omega
/-- a sign is due -/
theorem R_sign {kk : Int} (hE : E = 76 ∨ E = 82) (hT : TS tx n a u) (hp : 0 ≤ a 75 2 ∧ a 75 2 ≤ n) (hk : 0 ≤ a 75 3 ∧ a 75 3 ≤ 39 ∧ ¬ a 75 3 = 35) (hB : BI a E kk) (hkk : kk ≤ 1000) (d5 : a 72 4 = 5) (hw : a 72 6 ≤ 13) (h : RE 1 a E u0 u) (HF : FLT (tgF a E (a 75 3)) a u0 R) (HX : NXT Ω tx n (tgF a E (a 75 3)) a E u0 (a E 4 - 1) R) (HN : ∀ u2, tgF a E (a 75 3) 72 10 = a 72 10 → TN tx n (a 75 2) u2 → RB (tgF a E (a 75 3)) E u0 u2 → POS Ω (tgF a E (a 75 3)) E u2 R) : zG Ω 155 43 [zR 10 88, zI (a 72 6 - 7), zU] [] u (XC Ω (a 72 6) (a E 4 - 1) R) := by
  have nu := NU_of (by decide) (Or.inr d5) hB h
  obtain ⟨n42, n5, n43, n46, n48, n50, n51, n53, n6⟩ := nu
  have fr := RE_fr h
  have g52 : u 88 52 = 0 := by
    obtain ⟨F, K, O, W, N, H, g0, g1, g2, g3, g4, g5, g6, g7, g8, g9, g10, g11, g12, g13⟩ := h
    omega
  have hT' := hT
  obtain ⟨tM, tp, tR, tpl⟩ := hT'
  refine w_X10_expression_43 (zif (fun _ => r_snow tR hk (fun hb => zk1_i (zif (fun z => absurd z ?_) fun _ => r_snow tR hk (fun _ => zk1_i (S_sign hE tM tp tpl hp hB d5 hw h hb HF HX)) fun q => absurd q hb)) fun hb => zk1_i (zif (fun _ => zif (fun z => r_sgn tR hk (k0 := 37) (by decide) rfl (fun q => S_close hE tM tp hp hB d5 h q (by omega) HX) fun q => zif (fun _ => r_wrong (zk1_i (zif (fun _ => XC_0 (F_bad HF fr tpl ?_ rfl FrM_r)) fun t => absurd rfl t))) fun t => absurd z t) fun z => zif (fun t => absurd t z) fun _ => S_end hE tM tp tR tpl hp hk hB hkk d5 h hb (by omega) HF HN) fun t => absurd (by decide) t)) fun z => absurd g52 z)
  · have := (wmp_f hb).2.1; omega
  · unfold tgF
    rw [if_pos hb]
    unfold teF
    rw [if_neg (fun t => q t.1), if_pos (Or.inl (by omega))]
/-- one token -/
theorem R_step {kk : Int} (hE : E = 76 ∨ E = 82) (hT : TS tx n a u) (hp : 0 ≤ a 75 2 ∧ a 75 2 ≤ n) (hk : 0 ≤ a 75 3 ∧ a 75 3 ≤ 39 ∧ ¬ a 75 3 = 35) (hv : NV a) (hB : BI a E kk) (hkk : kk ≤ 1000) (k0 : ¬ (a 72 4 = 1 ∧ a 75 3 = 0)) (h : RB a E u0 u) (HF : FLT (tkF a E (a 75 3)) a u0 R) (HN : ∀ u2, tkF a E (a 75 3) 72 10 = a 72 10 → TN tx n (a 75 2) u2 → RB (tkF a E (a 75 3)) E u0 u2 → POS Ω (tkF a E (a 75 3)) E u2 R) : POS Ω a E u R := by
  obtain ⟨b3, b4, b5, b11, bb⟩ := id hB
  have nx : ∀ a1, (∀ u2, a1 72 10 = a 72 10 → TN tx n (a 75 2) u2 → RB a1 E u0 u2 → POS Ω a1 E u2 R) → a 72 6 ≤ 13 → NXT Ω tx n a1 a E u0 (a E 4 - 1) R := by
    intro a1 H hw d u2 hd h4 hc t hr
    obtain ⟨c6, c10, cE⟩ := hc
    have hd : d = 0 ∨ d = 1 := by omega
    have hb : RB a1 E u0 u2 := by
      unfold RB
      rcases hd with q | q
      · subst q
        rw [if_pos (by omega), if_neg (by omega)]; exact hr
      · subst q
        rw [if_neg (by omega), if_pos (by omega)]; exact hr
    have := H u2 c10 t hb
    unfold POS at this
    rw [if_neg (by omega), if_neg (by omega), if_neg (by omega), if_neg (by omega), c6, cE] at this
    exact this
  unfold POS
  unfold RB at h
  unfold tkF at HF HN
  by_cases d1 : a 72 4 = 1
  · rw [if_pos d1] at HF HN ⊢
    rw [if_neg (by omega), if_neg (by omega)] at h
    refine R_word hE hT hp hk (fun q => k0 ⟨d1, q⟩) ?_ b5.1 h HF HN
    rcases bb with q | q
    · exact q.2
    · exfalso; omega
  rw [if_neg d1] at HF HN ⊢
  by_cases d2 : a 72 4 = 2
  · rw [if_pos d2] at HF HN ⊢
    rw [if_neg (by omega), if_neg (by omega)] at h
    refine R_num hE hT hp hk hv ?_ h HF HN
    rcases bb with q | q
    · omega
    · exfalso; omega
  rw [if_neg d2] at HF HN ⊢
  by_cases d3 : a 72 4 = 3
  · rw [if_pos d3]
    rw [if_neg (by omega), if_neg (by omega)] at h HF HN
    exact R_semi hE hT hp hk (by omega) h HF HN
  rw [if_neg d3]
  by_cases d4 : a 72 4 = 4
  · rw [if_pos d4] at HF HN h
    by_cases w14 : a 72 6 = 14
    · rw [if_pos w14] at h ⊢
      exact R_third hT.2.2.1 hT.2.2.2 hk w14 h.2 h.1 HF
    · rw [if_neg w14] at h ⊢
      have hw : a 72 6 ≤ 13 := by
        rcases bb with q | q
        · exfalso; omega
        · omega
      exact R_side hE hT hp hk hv hB d4 hw h HF (nx _ HN hw)
  rw [if_neg d4] at HF HN h
  have d5 : a 72 4 = 5 := by
    rcases bb with q | q <;> omega
  have hw : a 72 6 ≤ 13 := by
    rcases bb with q | q <;> omega
  rw [if_pos d5] at HF HN h
  rw [if_neg (by omega)]
  exact R_sign hE hT hp hk hB hkk d5 hw h HF (nx _ HN hw) HN
end L3
