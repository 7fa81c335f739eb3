section L3
variable {Ω : zΩ} {Q R : List zV → zM → Prop} {tx : Int → Int} {n x E : Int} {a u u0 : zM}
/-- a bracket closes -/
theorem S_close {kk : Int} (hE : E = 76 ∨ E = 82) (tM : TM tx n u) (tp : u 88 29 = a 75 2) (hp : 0 ≤ a 75 2 ∧ a 75 2 ≤ n) (hB : BI a E kk) (d5 : a 72 4 = 5) (h : RE 1 a E u0 u) (k37 : a 75 3 = 37) (h8 : 0 < a 72 8) (HN : NXT Ω tx n (tgF a E (a 75 3)) a E u0 x R) : zG Ω 149 0 [zR 10 88, zI 1, zU] [] u (fun r7 m7 => zk0 r7 (zin (zw ((m7 88 50) - 1)) 8 (zbl (m7 121 (zw ((m7 88 50) - 1))) (zG Ω 143 0 [zR 10 88, zU] [] (zup (zup (zup m7 88 46 (zw ((m7 88 46) - 1))) 88 50 (zw ((m7 88 50) - 1))) 88 51 (m7 121 (zw ((m7 88 50) - 1)))) (fun r8 m8 => zk0 r8 (if 1 = 0 then (XC Ω (a 72 6) x R [zI 0] m8) else (zG Ω 155 43 [zR 10 88, zI (a 72 6 - 7), zU] [] m8 (XC Ω (a 72 6) x R)))))))) := by
  have nu := NU_of (by decide) (Or.inr d5) hB h
  obtain ⟨n42, n5, n43, n46, n48, n50, n51, n53, n6⟩ := nu
  obtain ⟨F, K, O, W, N, H, g0, g1, g2, g3, g4, g5, g6, g7, g8, g9, g10, g11, g12, g13⟩ := h
  have h11 := hB.2.2.2.1
  clear hB
  have wl := g0.wl
  have wu := g0.wu
  have eW : (a 72 7).toNat = W.length := by omega
  have e : tgF a E (a 75 3) = zup (zup (wrF E 1 W.length a) 72 7 (if 0 < wrF E 1 W.length a 72 7 - 1 then wrF E 1 W.length a 72 7 - 1 else 0)) 72 8 (wrF E 1 W.length a 72 8 - 1) := by
    unfold tgF
    rw [k37, if_pos (by decide)]
    unfold teF
    rw [if_pos ⟨rfl, h8⟩, eW]
  generalize tgF a E (a 75 3) = a1 at *
  refine EC_b (d := 0) (by decide) hE (by decide) (by omega) W N H a u O g0 g3 (by omega) (by omega) fun u2 N' H' O' c0 c1 c2 c3 c4 => ?_
  have plen := popW_len 1 W
  have pl := popW_1 W (ndW_ok W N g0.nd)
  have wu2 := c0.wu
  rcases pl with pl | ⟨W', pl, po⟩
  · exfalso; rw [pl.2] at g4; omega
  rw [pl, List.length_cons] at wu2 plen
  have v50 : u2 88 50 = a 72 8 := (c3 88 50 (by omega) (by omega) (by omega)).trans g5
  have v121 : u2 121 (u2 88 50 - 1) = a 74 (a 72 8 - 1) := by
    rw [v50, c3 121 _ (by omega) (by omega) (by omega)]
    exact g7 _ (by omega) (by omega)
  have b74 := g8 (a 72 8 - 1) (by omega) (by omega)
  show zin _ 8 _
  rw [zw_i (x := u2 88 50 - 1) (by omega) (by omega), zw_i (x := u2 88 46 - 1) (by omega) (by omega)]
  refine zin_of (by omega) (by omega) (zbl_of (by rw [v121]; omega) (by rw [v121]; omega) ?_)
  have y0 : ∀ x j, ¬ (x = 88 ∧ 46 ≤ j ∧ j ≤ 51) → zup (zup (zup u2 88 46 (u2 88 46 - 1)) 88 50 (u2 88 50 - 1)) 88 51 (u2 121 (u2 88 50 - 1)) x j = u2 x j := fun x j hx => by
    unfold zup
    rw [if_neg (by omega), if_neg (by omega), if_neg (by omega)]
  have z0 : ∀ x j, ¬ (x = 88 ∧ 42 ≤ j) → ¬ (111 ≤ x ∧ x ≤ 120) → zup (zup (zup u2 88 46 (u2 88 46 - 1)) 88 50 (u2 88 50 - 1)) 88 51 (u2 121 (u2 88 50 - 1)) x j = u x j := fun x j h1 h2 => (y0 x j (by omega)).trans (c3 x j (by omega) (by omega) (by omega))
  refine r_tk (TM_o (fun x j q => z0 x j (by omega) (by omega)) tM) ((z0 88 29 (by omega) (by omega)).trans tp) hp fun u4 f t => ?_
  suffices hh : zG Ω 155 43 [zR 10 88, zI (a 72 6 - 7), zU] [] u4 (XC Ω (a 72 6) x R) from hh
  have hre := RE_c hE h11 h8 g0 g1 pl (by omega) g5 g7 g8 g9 (by omega) g11 g12 g13 c0 c1 (by omega) c3 c4 rfl f e
  have cc := cl_c a1 e
  have s72 : ∀ j, ¬ j = 7 → ¬ j = 8 → a1 72 j = a 72 j := fun j h1 h2 => by
    rw [cc.2.2.1 j h1 h2, wrF_o hE _ _ 72 j (by omega)]
  refine HN 1 _ (by decide) ((s72 4 (by decide) (by decide)).trans d5) ⟨s72 6 (by decide) (by decide), s72 10 (by decide) (by decide), ?_⟩ t hre
  rw [cc.2.2.2 E 4 (by omega), wrF_o hE _ _ E 4 (by omega)]
/-- behind an expression -/
theorem L_83 {w kd v : Int} (tR : RK kd v u) (hk : 0 ≤ kd ∧ kd ≤ 39 ∧ ¬ kd = 35) (hw : 7 ≤ w ∧ w ≤ 13) (Kbad : ¬ kd = 39 → ¬ (kd = 38 ∧ 11 ≤ w) → R [zI (-1)] (wroF u 1)) (Ksemi : kd = 39 → zG Ω 143 0 [zR 10 88, zU] [] u (fun r m => zk0 r (LC Ω x R [zI 1] m))) (Kcom : kd = 38 → 11 ≤ w → zG Ω 143 0 [zR 10 88, zU] [] u (fun r8 m8 => zk0 r8 (if w = 13 then P14 Ω m8 (LC Ω x R) else zG Ω 155 0 [zR 10 88, zI (w - 6), zU] [] m8 (XC Ω (w + 1) x R)))) : zG Ω 158 83 [zR 10 88, zI (lwN w), zI (moN w)] [] u (LC Ω x R) := by
  have semi : ¬ (kd = 38 ∧ 11 ≤ w) → zG Ω 144 0 [zR 10 88, zI 59] [] u (fun r1 m1 => zk1 r1 fun v1 => if v1 = 0 then (zG Ω 137 0 [zR 10 88, zI 1] [] m1 (fun r3 m3 => zk1 r3 fun v3 => zbl v3 (LC Ω x R [zI v3] m3))) else (zG Ω 143 0 [zR 10 88, zU] [] m1 (fun r2 m2 => zk0 r2 (LC Ω x R [zI 1] m2)))) := fun nc => r_sgn tR hk (k0 := 39) (by decide) rfl Ksemi fun q => r_badL (Kbad q nc)
  have el : lwN w = 8 ↔ 11 ≤ w := by unfold lwN; split <;> omega
  refine w_X10_line_83 (zif (fun z => ?_) fun z => semi (fun q => z (el.2 q.2)))
  have h11 := el.1 z
  have em : moN w = w - 11 := by unfold moN; split <;> omega
  have el1 : lwN (w + 1) = 8 := by unfold lwN; rw [if_neg (by omega)]
  have em1 : moN (w + 1) = w - 10 := by unfold moN; rw [if_neg (by omega)]; omega
  refine r_sgn tR hk (k0 := 38) (by decide) rfl (fun q => ?_) fun q => semi (fun t => q t.1)
  have K := Kcom q h11
  unfold XC at K
  rw [em, zw_i (x := w - 11 + 1) (by omega) (by omega), zw_i (x := 4 + (w - 11 + 1)) (by omega) (by omega), z, show 4 + (w - 11 + 1) = w - 6 by omega, show w - 11 + 1 = w - 10 by omega]
  rw [el1, em1] at K
  by_cases h13 : w = 13
  · have e3 : w - 10 = 3 := by omega
    simp only [if_pos h13] at K
    simp only [if_pos e3]
    exact K
  · have e3 : ¬ w - 10 = 3 := by omega
    simp only [if_neg h13] at K
    simp only [if_neg e3]
    exact K
/-- an expression's end -/
theorem S_end {kk : Int} (hE : E = 76 ∨ E = 82) (tM : TM tx n u) (tp : u 88 29 = a 75 2) (tR : RK (a 75 3) (a 75 5) u) (tpl : u 88 32 = a 75 4) (hp : 0 ≤ a 75 2 ∧ a 75 2 ≤ n) (hk : 0 ≤ a 75 3 ∧ a 75 3 ≤ 39 ∧ ¬ a 75 3 = 35) (hB : BI a E kk) (hkk : kk ≤ 1000) (d5 : a 72 4 = 5) (h : RE 1 a E u0 u) (hb : bdS (a 75 3) = 0) (h8 : a 72 8 = 0) (HF : FLT (tgF a E (a 75 3)) a u0 R) (HN : ∀ u2, tgF a E (a 75 3) 72 10 = a 72 10 → TN tx n (a 75 2) u2 → RB (tgF a E (a 75 3)) E u0 u2 → POS Ω (tgF a E (a 75 3)) E u2 R) : zG Ω 149 0 [zR 10 88, zI 1, zU] [] u (fun r2 m2 => zk0 r2 (zin (zw (7 + (a 72 6 - 7))) 14 (zin (zw (7 + (a 72 6 - 7))) 14 (XC Ω (a 72 6) (a E 4 - 1) R [zI 1] (zup m2 117 (zw (7 + (a 72 6 - 7))) (zw ((m2 88 43) - (m2 116 (zw (7 + (a 72 6 - 7))))))))))) := by
  have nu := NU_of (by decide) (Or.inr d5) hB h
  obtain ⟨n42, n5, n43, n46, n48, n50, n51, n53, n6⟩ := nu
  have fr := RE_fr h
  obtain ⟨F, K, O, W, N, H, g0, g1, g2, g3, g4, g5, g6, g7, g8, g9, g10, g11, g12, g13⟩ := h
  obtain ⟨b3, b4, b5, h11, bb⟩ := hB
  have bb : 7 ≤ a 72 6 ∧ a 72 6 ≤ 13 := by
    rcases bb with q | q <;> omega
  have wl := g0.wl
  have wu := g0.wu
  have eW : (a 72 7).toNat = W.length := by omega
  refine EC_b (d := 0) (by decide) hE (by decide) (by omega) W N H a u O g0 g3 (by omega) (by omega) fun u2 N' H' O' c0 c1 c2 c3 c4 => ?_
  have pl := popW_1 W (ndW_ok W N g0.nd)
  have hpn : popW 1 W = [] := by
    rcases pl with pl | ⟨W', pl, po⟩
    · exact pl.1
    · exfalso; omega
  clear pl
  have fo' := c0.fo
  have fo := g0.fo
  have o2 := c0.o
  have ep : (cnW (popW 1 W) : Nat) = 0 := by rw [hpn]; rfl
  have e16 : u2 116 (a 72 6) = F := (c3 116 _ (by omega) (by omega) (by omega)).trans g11
  show zin _ 14 _
  rw [zw_i (x := 7 + (a 72 6 - 7)) (by omega) (by omega), show 7 + (a 72 6 - 7) = a 72 6 by omega, e16, o2, zw_i (x := O' - F) (by omega) (by omega)]
  refine zin_of (by omega) (by omega) (zin_of (by omega) (by omega) (XC_1 ?_))
  have z0 : ∀ x j, ¬ (x = 88 ∧ 42 ≤ j) → ¬ (111 ≤ x ∧ x ≤ 120) → zup u2 117 (a 72 6) (O' - F) x j = u x j := fun x j h1 h2 => (zup_c (by omega)).trans (c3 x j (by omega) (by omega) (by omega))
  have frz : FrM u (zup u2 117 (a 72 6) (O' - F)) := FrM_u (FrM_B c3) (by unfold rdY; omega)
  refine L_83 (RK_o (z0 88 30 (by omega) (by omega)) (z0 88 31 (by omega) (by omega)) tR) hk bb (fun q1 q2 => ?_) (fun q => ?_) fun q hw11 => ?_
  · refine F_bad HF fr tpl ?_ (z0 88 32 (by omega) (by omega)) frz
    unfold tgF
    rw [if_pos hb]
    unfold teF
    rw [if_neg (by omega), if_pos (Or.inr ⟨q1, by omega⟩)]
  · have e : tgF a E (a 75 3) = zup (fnF (wrF E 1 W.length a) E (a 72 6)) 72 4 1 := by
      unfold tgF
      rw [if_pos hb]
      unfold teF
      rw [if_neg (by omega), if_neg (by omega), if_neg (by omega), eW]
    clear HF
    refine r_tk (TM_o (fun x j q => z0 x j (by omega) (by omega)) tM) ((z0 88 29 (by omega) (by omega)).trans tp) hp fun u4 f t => LC_1 (by omega) ?_
    obtain ⟨q4, qx⟩ := fn_c (w := wrF E 1 W.length a) (k := a 72 6) hE bb.2
    have y4 : tgF a E (a 75 3) 72 4 = 1 := by rw [e]; exact zup_s _ _ _ _
    have yo : ∀ x j, ¬ (x = 72 ∧ (j = 4 ∨ j = 6)) → tgF a E (a 75 3) x j = fnF (wrF E 1 W.length a) E (a 72 6) x j := fun x j hx => by
      rw [e]; unfold zup; rw [if_neg (by omega)]
    have yE4 : tgF a E (a 75 3) E 4 = a E 4 := by rw [yo E 4 (by omega), qx E 4 (by omega), wrF_o hE _ _ E 4 (by omega)]
    have y10 : tgF a E (a 75 3) 72 10 = a 72 10 := by rw [yo 72 10 (by omega), qx 72 10 (by omega), wrF_o hE _ _ 72 10 (by omega)]
    have hr := R1_e hE h11 bb g0 g1 g2 hpn g11 g12 g13 c0 c1 (by omega) c3 c4 f yo
    have := HN u4 y10 t (by unfold RB; rw [if_neg (by omega), if_neg (by omega)]; exact hr.1)
    unfold POS at this
    rw [if_pos y4, yE4] at this
    rwa [show a E 4 - 1 + 1 = a E 4 by omega]
  · have e : tgF a E (a 75 3) = beF (zup (zup (fnF (wrF E 1 W.length a) E (a 72 6)) 72 4 1) 72 6 (a 72 6 + 1)) E := by
      unfold tgF
      rw [if_pos hb]
      unfold teF
      rw [if_neg (by omega), if_neg (by omega), if_pos q, eW]
    clear HF
    refine r_tk (TM_o (fun x j q => z0 x j (by omega) (by omega)) tM) ((z0 88 29 (by omega) (by omega)).trans tp) hp fun u4 f t => ?_
    obtain ⟨q4, qx⟩ := fn_c (w := wrF E 1 W.length a) (k := a 72 6) hE bb.2
    have y6 : zup (zup (fnF (wrF E 1 W.length a) E (a 72 6)) 72 4 1) 72 6 (a 72 6 + 1) 72 6 = a 72 6 + 1 := zup_s _ _ _ _
    have yo : ∀ x j, ¬ (x = 72 ∧ (j = 4 ∨ j = 6)) → zup (zup (fnF (wrF E 1 W.length a) E (a 72 6)) 72 4 1) 72 6 (a 72 6 + 1) x j = fnF (wrF E 1 W.length a) E (a 72 6) x j := fun x j hx => by
      unfold zup; rw [if_neg (by omega), if_neg (by omega)]
    generalize zup (zup (fnF (wrF E 1 W.length a) E (a 72 6)) 72 4 1) 72 6 (a 72 6 + 1) = v at *
    have vE : ∀ j, ¬ j = 11 → v E j = a E j := fun j hj => by rw [yo E j (by omega), qx E j (by omega), wrF_o hE _ _ E j (by omega)]
    have v10 : v 72 10 = a 72 10 := by rw [yo 72 10 (by omega), qx 72 10 (by omega), wrF_o hE _ _ 72 10 (by omega)]
    obtain ⟨p4, p7, p8, p9, p74, p72, pE, pE12, pc, p3⟩ := be_c hE y6
    rw [← e] at p4 p72 pE p9
    have y10 := (p72 10 (by decide) (by decide) (by decide) (by decide)).trans v10
    have yw := (p72 6 (by decide) (by decide) (by decide) (by decide)).trans y6
    have yE4 := (pE 4 (by decide)).trans (vE 4 (by decide))
    have hr := R1_e hE h11 bb g0 g1 g2 hpn g11 g12 g13 c0 c1 (by omega) c3 c4 f yo
    have v5 := vE 5 (by decide)
    have v11 : v E 11 = 7 + v E 5 := by
      have := hr.1.1
      have h2 := hr.1.2.1
      have e42 : u4 88 42 = K := by rw [f 88 42 (by omega), zup_c (by decide), c3 88 42 (by omega) (by omega) (by omega)]; exact g1
      have e43 : u4 88 43 = O' := by rw [f 88 43 (by omega), zup_c (by decide)]; exact o2
      omega
    show if a 72 6 = 13 then _ else _
    refine zif (fun h13 => ?_) fun h13 => ?_
    · have := HN u4 y10 t (by
        unfold RB
        rw [if_pos p4, if_pos (by omega)]
        exact ⟨FrM_t fr (FrM_t frz (FrM_U f)), p9⟩)
      unfold POS at this
      rw [if_neg (by omega), if_neg (by omega), if_neg (by omega), if_pos (by omega), yE4] at this
      exact this
    · have e6 : 7 + (a 72 6 - 6) = a 72 6 + 1 := by omega
      refine w_X10_expression_0 ?_
      rw [e6, zw_i (x := a 72 6 + 1) (by omega) (by omega)]
      refine zin_of (by omega) (by omega) ?_
      obtain ⟨qq, q7, q8, q9, q10⟩ := exu_c (u := u4) (w := a 72 6 + 1) (v := u4 88 43) _ rfl
      have hre := RE_n (w := a 72 6 + 1) hE (by omega) y6 v11 (by omega) hr.1 (by have := (hr.2 hw11).1; omega) (hr.2 hw11).2 rfl
      rw [← e] at hre
      have := HN _ y10 ⟨TM_o (fun x j q => by
          by_cases z : x = 88
          · subst z; exact q7 j (by omega) (by omega) (by omega)
          · exact q10 x j z (by omega)) t.1, RK_o (q7 30 (by decide) (by decide) (by decide)) (q7 31 (by decide) (by decide) (by decide)) t.2.1, (q7 32 (by decide) (by decide) (by decide)).trans t.2.2.1, (q7 29 (by decide) (by decide) (by decide)).trans t.2.2.2⟩ (by
        unfold RB
        rw [if_pos p4, if_neg (by omega)]
        exact hre)
      unfold POS at this
      rw [if_neg (by omega), if_neg (by omega), if_neg (by omega), if_neg (by omega), yE4, yw, show a 72 6 + 1 - 7 = a 72 6 - 6 by omega] at this
      exact this
end L3
