/-! a side is read: the reference's walk -/
theorem TM_o {tx : Int → Int} {n : Int} {u u' : zM} (e : ∀ x j, (x = 88 ∧ j = 28) ∨ x = 89 ∨ x = 109 → u' x j = u x j) (h : TM tx n u) : TM tx n u' := ⟨(e _ _ (by omega)).trans h.1, h.2.1, fun i i0 i1 => ⟨(h.2.2.1 i i0 i1).1, (e _ _ (by omega)).trans (h.2.2.1 i i0 i1).2⟩, encA_f (fun j => e _ _ (by omega)) _ _ h.2.2.2⟩
theorem RK_o {k v : Int} {u u' : zM} (e1 : u' 88 30 = u 88 30) (e2 : u' 88 31 = u 88 31) (h : RK k v u) : RK k v u' := by
  unfold RK at h ⊢
  rw [e1, e2]
  exact h
def NXT (Ω : zΩ) (tx : Int → Int) (n : Int) (a1 a : zM) (E : Int) (u0 : zM) (x : Int) (R : List zV → zM → Prop) : Prop := ∀ (d : Nat) u2, d ≤ 1 → a1 72 4 = 4 + d → (a1 72 6 = a 72 6 ∧ a1 72 10 = a 72 10 ∧ a1 E 4 = a E 4) → TN tx n (a 75 2) u2 → RE d a1 E u0 u2 → zG Ω 155 43 [zR 10 88, zI (a 72 6 - 7), zU] [] u2 (XC Ω (a 72 6) x R)
def FLT (a1 a u0 : zM) (R : List zV → zM → Prop) : Prop := ∀ c u', ¬ c = 0 → a1 = failF a c → u' 88 26 = c → u' 88 27 = a 75 4 → FrM u0 u' → R [zI (-1)] u'
/-- the numbers of an expression in work -/
def NU (a : zM) (E : Int) (u : zM) : Prop := u 88 42 = a E 5 ∧ (0 ≤ a E 5 ∧ a E 5 ≤ 96) ∧ (0 ≤ u 88 43 ∧ u 88 43 ≤ 96 ∧ u 88 43 ≤ u 88 42) ∧ (0 ≤ u 88 46 ∧ u 88 46 ≤ 104) ∧ (0 ≤ u 88 48 ∧ u 88 48 ≤ 105) ∧ (u 88 50 = a 72 8 ∧ 0 ≤ a 72 8 ∧ a 72 8 ≤ 8) ∧ (u 88 51 = a 74 (a 72 8) ∧ 0 ≤ u 88 51 ∧ u 88 51 ≤ 1) ∧ (u 88 53 = a 72 9 ∧ (a 72 9 = 0 ∨ a 72 9 = 1)) ∧ (7 ≤ a 72 6 ∧ a 72 6 ≤ 14)
theorem NU_of {a u u0 : zM} {E kk : Int} {d : Nat} (hd : d ≤ 1) (d4 : a 72 4 = 4 ∨ a 72 4 = 5) (hB : BI a E kk) (h : RE d a E u0 u) : NU a E u := by
  obtain ⟨F, K, O, W, N, H, g0, g1, g2, g3, g4, g5, g6, g7, g8, g9, g10, g11, g12, g13⟩ := h
  obtain ⟨b3, b4, b5, b11, bb⟩ := hB
  have bb : (7 ≤ a 72 6 ∧ a 72 6 ≤ 14) ∧ a E 11 + a 72 7 = 7 + a E 5 + a 72 8 ∧ (0 ≤ a 72 8 ∧ a 72 8 ≤ 8) := by
    rcases bb with q | q
    · exfalso; omega
    · exact ⟨by omega, q.2.1, q.2.2.1⟩
  obtain ⟨hw7, hs, h8⟩ := bb
  have ka := g0.ka
  have wu := g0.wu
  have wl := g0.wl
  have hl := g0.hl
  have ho := g0.o
  have oa := g0.oa
  have fo := g0.fo
  have nb := nbW_le W
  have := g8 (a 72 8) h8.1 (Int.le_refl _)
  refine ⟨by omega, b5, by omega, by omega, by omega, by omega, ⟨g6, by omega, by omega⟩, g9, hw7⟩
theorem RE_fr {a u u0 : zM} {E : Int} {d : Nat} (h : RE d a E u0 u) : FrM u0 u := by
  obtain ⟨F, K, O, W, N, H, g0, g1, g2, g3, g4, g5, g6, g7, g8, g9, g10, g11, g12, g13⟩ := h
  exact g13.1
section L3
variable {Ω : zΩ} {R : List zV → zM → Prop} {tx : Int → Int} {n x E : Int} {a u u0 : zM}
theorem F_bad {a1 v : zM} {c : Int} (HF : FLT a1 a u0 R) (fr0 : FrM u0 u) (tpl : u 88 32 = a 75 4) (e : a1 = failF a c) (e32 : v 88 32 = u 88 32) (fr : FrM u v) (hc : ¬ c = 0 := by decide) : R [zI (-1)] (wroF v c) := by
  obtain ⟨w1, w2, w3⟩ := wro_c (u := v) (k := c)
  exact HF c _ hc e w1 (w2.trans (e32.trans tpl)) (FrM_t fr0 (FrM_t fr w3))
theorem gro_fr {k v : Int} (h : 0 ≤ u 88 42) : FrM u (groF u k v) := fun x j hx => by
  obtain ⟨r1, r2, r3, r4, r5⟩ := gro_c (u := u) (k := k) (v := v)
  by_cases z : 111 ≤ x ∧ x ≤ 114
  · exact r4 x j z.1 z.2 (by unfold rdY at hx; omega)
  · exact r5 x j (by omega) (by unfold rdY at hx; omega)
/-- a name, a number -/
theorem S_leaf {a1 : zM} {k v : Int} (hE : E = 76 ∨ E = 82) (tM : TM tx n u) (tp : u 88 29 = a 75 2) (hp : 0 ≤ a 75 2 ∧ a 75 2 ≤ n) (nu : NU a E u) (h : RE 0 a E u0 u) (HN : NXT Ω tx n a1 a E u0 x R) (h96 : u 88 42 < 96) (hkv : (k = 0 ∧ bdA v ∧ a 75 3 = 2 ∧ (if a 75 3 = 2 then a 75 5 else 0) = v) ∨ (k = 16 ∧ (0 ≤ v ∧ v ≤ 8) ∧ a 75 3 = 12 + v)) (e : a1 = zup (addF (kuF a E) E (a 75 3) (if a 75 3 = 2 then a 75 5 else 0)) 72 4 5) : zG Ω 152 240 [zR 10 88, zU, zU, zI (96 + u 88 42)] [] (groF u k v) (VC Ω (a 72 6) x R) := by
  obtain ⟨n42, n5, n43, n46, n48, n50, n51, n53, n6⟩ := nu
  obtain ⟨r1, r2, r3, r4, r5⟩ := gro_c (u := u) (k := k) (v := v)
  have z0 : ∀ x j, ¬ (x = 88 ∧ (j = 52 ∨ j = 42)) → ¬ (111 ≤ x ∧ x ≤ 114) → zup (groF u k v) 88 52 0 x j = u x j := fun x j h1 h2 => by
    unfold zup
    rw [if_neg (by omega)]
    exact r5 x j (by omega) (by omega)
  refine w_X10_valueRead_240 (r_tk (TM_o (fun x j q => z0 x j (by omega) (by omega)) tM) ((z0 88 29 (by omega) (by omega)).trans tp) hp fun u3 f t => ?_)
  show zG Ω 147 0 _ _ _ _
  have e43 : u3 88 43 = u 88 43 := (f 88 43 (by omega)).trans (z0 _ _ (by omega) (by omega))
  have e48 : u3 88 48 = u 88 48 := (f 88 48 (by omega)).trans (z0 _ _ (by omega) (by omega))
  refine r_done (by rw [e43]; omega) (by rw [e48]; omega) (VC_1 ?_)
  have hre := RE_l (k := k) (v := v) (kd := a 75 3) (av := if a 75 3 = 2 then a 75 5 else 0) hE hkv h (by omega) e f rfl
  have lc := lf_c hE a1 e
  refine HN 1 _ (by decide) lc.1 ⟨lc.2.1 6 (by decide), lc.2.1 10 (by decide), lc.2.2.2.2.1 4 (by decide) (by decide)⟩ ?_ hre
  have z1 := (don_c (u := u3) (x := 96 + u 88 42)).2.2.2.2.2.2
  obtain ⟨t1, t2, t3, t4⟩ := t
  exact ⟨TM_o (fun x j q => z1 x j (by omega) (by omega) (by omega)) t1, RK_o (z1 _ _ (by decide) (by decide) (by decide)) (z1 _ _ (by decide) (by decide) (by decide)) t2, (z1 _ _ (by decide) (by decide) (by decide)).trans t3, (z1 _ _ (by decide) (by decide) (by decide)).trans t4⟩
/-- a sign of one side -/
theorem S_un {a1 : zM} {s c v : Int} (hE : E = 76 ∨ E = 82) (tM : TM tx n u) (tp : u 88 29 = a 75 2) (tpl : u 88 32 = a 75 4) (hp : 0 ≤ a 75 2 ∧ a 75 2 ≤ n) (nu : NU a E u) (d4 : a 72 4 = 4) (h : RE 0 a E u0 u) (HF : FLT a1 a u0 R) (HN : NXT Ω tx n a1 a E u0 x R) (hs : (s = 35 ∧ c = 12 ∧ v = 0) ∨ (s = 23 ∧ c = 13 ∧ v = 1 ∧ u 88 53 = 1)) (t2 : u 88 42 = 96 → a1 = failF a 2) (t0 : u 88 42 < 96 → a1 = zup (offF (kuF a E) s) 72 9 v) : zG Ω 151 0 [zR 10 88, zI c, zU] [] u (fun r3 m3 => zk1 r3 fun v3 => zbl v3 (VC Ω (a 72 6) x R [zI v3] m3)) := by
  obtain ⟨n42, n5, n43, n46, n48, n50, n51, n53, n6⟩ := nu
  refine w_X10_ofOne_0 (r_grown (by omega) (fun q => ?_) fun q => ?_)
  · exact zk1_i (zif (fun _ => zk1_i (zbl_of (by decide) (by decide) (VC_0 (F_bad HF (RE_fr h) tpl (t2 q) rfl FrM_r)))) fun t => absurd (by decide) t)
  · have e := t0 q
    obtain ⟨r1, r2, r3, r4, r5⟩ := gro_c (u := u) (k := c) (v := 0)
    obtain ⟨q1, q2, q3, q4, q5⟩ := wai_c (u := groF u c 0) (k := c) (x := 96 + u 88 42)
    have r46 : groF u c 0 88 46 = u 88 46 := r5 88 46 (by omega) (by omega)
    refine zk1_i (zif (fun t => absurd t (by omega)) fun _ => r_wait (by rw [r46]; omega) ?_)
    have fin : ∀ u3 : zM, (∀ x j, ¬ (x = 88 ∧ j = 53) → u3 x j = waiF (groF u c 0) c (96 + u 88 42) x j) → u3 88 53 = v → zG Ω 143 0 [zR 10 88, zU] [] u3 (fun r4 m4 => zk0 r4 (zk1 [zI 1] fun v3 => zbl v3 (VC Ω (a 72 6) x R [zI v3] m4))) := by
      intro u3 hu hu3
      have z0 : ∀ x j, ¬ (x = 88 ∧ 42 ≤ j) → ¬ (111 ≤ x ∧ x ≤ 119) → u3 x j = u x j := fun x j h1 h2 => by
        rw [hu x j (by omega), q5 x j (by omega) (by omega) (by omega)]
        exact r5 x j (by omega) (by omega)
      refine r_tk (TM_o (fun x j q => z0 x j (by omega) (by omega)) tM) ((z0 88 29 (by omega) (by omega)).trans tp) hp fun u4 f t => ?_
      refine (show zk1 [zI 1] (fun v3 => zbl v3 (VC Ω (a 72 6) x R [zI v3] u4)) from zbl_of (x := 1) (by decide) (by decide) (VC_1 ?_))
      have hre := RE_u (s := s) (c := c) (v := v) hE (by omega) (by omega) h (by omega) e hu hu3 f
      have uc := (un_c hE a1 e).2.2.2.2
      exact HN 0 _ (by decide) ((uc.1 4 (by decide) (by decide)).trans d4) ⟨uc.1 6 (by decide) (by decide), uc.1 10 (by decide) (by decide), uc.2.2.1 4 (by decide)⟩ t hre
    show if c = 12 then _ else _
    refine zif (fun y => fin _ (fun x j hx => by unfold zup; rw [if_neg hx]) ?_) fun y => fin _ (fun x j hx => rfl) ?_
    · rw [zup_s]; omega
    · rw [q5 88 53 (by omega) (by omega) (by omega), r5 88 53 (by omega) (by omega)]
      omega
/-- a bracket -/
theorem S_open {a1 : zM} (hE : E = 76 ∨ E = 82) (tM : TM tx n u) (tp : u 88 29 = a 75 2) (tpl : u 88 32 = a 75 4) (hp : 0 ≤ a 75 2 ∧ a 75 2 ≤ n) (nu : NU a E u) (d4 : a 72 4 = 4) (h : RE 0 a E u0 u) (HF : FLT a1 a u0 R) (HN : NXT Ω tx n a1 a E u0 x R) (t2 : a 72 8 = 8 → a1 = failF a 2) (t0 : ¬ a 72 8 = 8 → a1 = zup (zup (zup (offF a 36) 72 8 (a 72 8 + 1)) 74 (a 72 8 + 1) 0) 72 9 1) : if u 88 50 = 8 then (zG Ω 137 0 [zR 10 88, zI 2] [] u (fun r7 m7 => zk1 r7 fun v7 => zbl v7 (VC Ω (a 72 6) x R [zI v7] m7))) else (zin (u 88 50) 8 (zbl (u 88 51) (zG Ω 150 0 [zR 10 88, zI 100, zI (-1)] [] (zup (zup u 121 (u 88 50) (u 88 51)) 88 50 (zw ((u 88 50) + 1))) (fun r5 m5 => zk0 r5 (zG Ω 143 0 [zR 10 88, zU] [] (zup (zup m5 88 51 0) 88 53 1) (fun r6 m6 => zk0 r6 (VC Ω (a 72 6) x R [zI 1] m6))))))) := by
  obtain ⟨n42, n5, n43, n46, n48, n50, n51, n53, n6⟩ := nu
  refine zif (fun y => r_badV (F_bad HF (RE_fr h) tpl (t2 (by omega)) rfl FrM_r)) fun y => zin_of (by omega) (by omega) (zbl_of (by omega) (by omega) ?_)
  have e := t0 (by omega)
  rw [zw_i (x := u 88 50 + 1) (by omega) (by omega)]
  have e46 : zup (zup u 121 (u 88 50) (u 88 51)) 88 50 (u 88 50 + 1) 88 46 = u 88 46 := by rw [zup_j (by decide), zup_c (by decide)]
  refine r_wait (by rw [e46]; omega) ?_
  obtain ⟨q1, q2, q3, q4, q5, q6, q7, q8, q9, q10, q11⟩ := opu_c (u := u) _ rfl
  have z0 : ∀ x j, ¬ (x = 88 ∧ 42 ≤ j) → ¬ (111 ≤ x ∧ x ≤ 121) → zup (zup (waiF (zup (zup u 121 (u 88 50) (u 88 51)) 88 50 (u 88 50 + 1)) 100 (-1)) 88 51 0) 88 53 1 x j = u x j := fun x j h1 h2 => by
    by_cases z : x = 88
    · subst z; exact q10 j (by omega) (by omega) (by omega) (by omega)
    · exact q11 x j z (by omega) (by omega) (by omega)
  refine r_tk (TM_o (fun x j q => z0 x j (by omega) (by omega)) tM) ((z0 88 29 (by omega) (by omega)).trans tp) hp fun u4 f t => VC_1 ?_
  have hre := RE_o hE h e rfl f
  have oc := (op_c a1 e).2.2.2.2.2
  exact HN 0 _ (by decide) ((oc.1 4 (by decide) (by decide) (by decide)).trans d4) ⟨oc.1 6 (by decide) (by decide) (by decide), oc.1 10 (by decide) (by decide) (by decide), oc.2.2.2 E 4 (by omega) (by omega) (by omega)⟩ t hre
end L3
