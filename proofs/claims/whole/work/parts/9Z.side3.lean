/-- a number is small -/
def NV (a : zM) : Prop := a 75 3 = 2 → 0 ≤ a 75 5 ∧ a 75 5 ≤ 100000
section L3
variable {Ω : zΩ} {R : List zV → zM → Prop} {tx : Int → Int} {n x E : Int} {a u u0 : zM}
/-- a value, or none -/
theorem S_117 {ff : Int} (hE : E = 76 ∨ E = 82) (tM : TM tx n u) (tp : u 88 29 = a 75 2) (tR : RK (a 75 3) (a 75 5) u) (tpl : u 88 32 = a 75 4) (hp : 0 ≤ a 75 2 ∧ a 75 2 ≤ n) (hk : 0 ≤ a 75 3 ∧ a 75 3 ≤ 39) (hv : NV a) (nu : NU a E u) (hw : a 72 6 ≤ 13) (h : RE 0 a E u0 u) (HF : FLT (tdF a E (a 75 3)) a u0 R) (HN : NXT Ω tx n (tdF a E (a 75 3)) a E u0 x R) (hff : ff = 0 → ¬ a 72 6 = 10) (hf1 : ff = 0 ∨ a 72 6 = 10) (n36 : ¬ a 75 3 = 36) (n31 : ¬ a 75 3 = 31) (n23 : a 75 3 = 23 → a 72 9 = 0) : zG Ω 152 117 [zR 10 88, zI ff, zU, zU] [] u (VC Ω (a 72 6) x R) := by
  have nu' := nu
  obtain ⟨n42, n5, n43, n46, n48, n50, n51, n53, n6⟩ := nu'
  have fr := RE_fr h
  have td0 : canR (a 75 3) → ¬ tooR a E (a 75 3) → ¬ (a 75 3 = 20 ∧ ¬ a 72 6 = 10) → ¬ a 75 3 = 23 → tdF a E (a 75 3) = zup (addF (kuF a E) E (a 75 3) (if a 75 3 = 2 then a 75 5 else 0)) 72 4 5 := fun c1 c2 c3 n23' => by
    unfold tdF
    rw [if_neg (fun q => q.elim (fun y => y c1) fun y => n23' y.1), if_neg c2, if_neg c3, if_neg n36, if_neg n23', if_neg n31]
  have td2 : canR (a 75 3) → tooR a E (a 75 3) → ¬ a 75 3 = 23 → tdF a E (a 75 3) = failF a 2 := fun c1 c2 n23' => by
    unfold tdF
    rw [if_neg (fun q => q.elim (fun y => y c1) fun y => n23' y.1), if_pos c2]
  have td4 : canR (a 75 3) → ¬ tooR a E (a 75 3) → (a 75 3 = 20 ∧ ¬ a 72 6 = 10) → ¬ a 75 3 = 23 → tdF a E (a 75 3) = failF a 4 := fun c1 c2 c3 n23' => by
    unfold tdF
    rw [if_neg (fun q => q.elim (fun y => y c1) fun y => n23' y.1), if_neg c2, if_pos c3]
  have td1 : ¬ canR (a 75 3) ∨ a 75 3 = 23 → tdF a E (a 75 3) = failF a 1 := fun c1 => by
    unfold tdF
    rw [if_pos]
    by_cases z : canR (a 75 3)
    · rcases c1 with y | y
      · exact absurd z y
      · exact Or.inr ⟨y, n23 y⟩
    · exact Or.inl z
  generalize tdF a E (a 75 3) = a1 at *
  have w138 : ¬ (12 ≤ a 75 3 ∧ a 75 3 ≤ 20) → zG Ω 152 138 [zR 10 88, zI ff, zU, zU] [] u (VC Ω (a 72 6) x R) := by
    intro nn
    refine w_X10_valueRead_138 (zif (fun _ => zif (fun z => ?_) fun z => r_badV (F_bad HF fr tpl (td1 ?_) rfl FrM_r)) fun z => absurd rfl z)
    · have k2 := (RK_k tR hk).2.1 z
      have hv2 := hv k2
      have r2 := tR.2.2.1 k2
      have c1 : canR (a 75 3) := Or.inl (Or.inl k2)
      refine w_X10_valueRead_158 (zif (fun _ => zif (fun y => r_badV (F_bad HF fr tpl (td2 c1 (Or.inr (Or.inr ⟨n36, Or.inr ⟨k2, by omega⟩⟩)) (by omega)) rfl FrM_r)) fun y => w_X10_valueRead_178 (zif (fun _ => zif (fun _ => ?_) fun q => absurd rfl q) fun q => absurd rfl q)) fun q => absurd rfl q)
      refine r_grown (by omega) (fun q => ?_) fun q => ?_
      · refine zk1_i (zif (fun _ => VC_0 (F_bad HF fr tpl (td2 c1 (Or.inr (Or.inr ⟨n36, Or.inl (by omega)⟩)) (by omega)) rfl FrM_r)) fun t => absurd (by decide) t)
      · refine zk1_i (zif (fun t => absurd t (by omega)) fun _ => zif (fun _ => S_leaf hE tM tp hp nu h HN q (Or.inl ⟨rfl, by unfold bdA; omega, k2, by rw [if_pos k2]; omega⟩) (td0 c1 (by unfold tooR; omega) (by omega) (by omega))) fun t => absurd rfl t)
    · by_cases z23 : a 75 3 = 23
      · exact Or.inr z23
      · refine Or.inl fun q => ?_
        have n2 : ¬ a 75 3 = 2 := fun y => z (tR.2.2.1 y).1
        unfold canR sdA at q
        omega
  refine w_X10_valueRead_117 (zif (fun z => zif (fun y => w138 ?_) fun y => zif (fun q => absurd q (by decide)) fun _ => ?_) fun z => w138 ?_)
  · have r1 := (RK_k tR hk).1 z
    have wb := wrA_b (k := a 75 3)
    omega
  · have r1 := (RK_k tR hk).1 z
    have wb := wrA_b (k := a 75 3)
    have kb : 12 ≤ a 75 3 ∧ a 75 3 ≤ 20 := by omega
    have e31 : u 88 31 = a 75 3 := by omega
    have c1 : canR (a 75 3) := Or.inl (Or.inr kb)
    refine w_X10_valueRead_158 (zif (fun q => absurd q (by decide)) fun _ => w_X10_valueRead_178 (zif (fun q => absurd q (by decide)) fun _ => zif (fun q => absurd q (by decide)) fun _ => ?_))
    rw [e31, zw_i (x := a 75 3 - 12) (by omega) (by omega)]
    refine r_grown (by omega) (fun q => ?_) fun q => ?_
    · refine zk1_i (zif (fun _ => VC_0 (F_bad HF fr tpl (td2 c1 (Or.inr (Or.inr ⟨n36, Or.inl (by omega)⟩)) (by omega)) rfl FrM_r)) fun t => absurd (by decide) t)
    · have go : ¬ (a 75 3 = 20 ∧ ¬ a 72 6 = 10) → zG Ω 152 240 [zR 10 88, zU, zU, zI (96 + u 88 42)] [] (groF u 16 (a 75 3 - 12)) (VC Ω (a 72 6) x R) := fun c3 => S_leaf hE tM tp hp nu h HN q (Or.inr ⟨rfl, by omega, by omega⟩) (td0 c1 (by unfold tooR; omega) c3 (by omega))
      have g31 : groF u 16 (a 75 3 - 12) 88 31 = a 75 3 := (gro_c.2.2.2.2 88 31 (by omega) (by omega)).trans e31
      have g32 : groF u 16 (a 75 3 - 12) 88 32 = u 88 32 := gro_c.2.2.2.2 88 32 (by omega) (by omega)
      refine zk1_i (zif (fun t => absurd t (by omega)) fun _ => zif (fun t => absurd t (by decide)) fun _ => ?_)
      rw [g31]
      refine zif (fun t => zif (fun s => ?_) fun s => go (by omega)) fun t => go (by omega)
      exact r_badV (F_bad HF fr tpl (td4 c1 (by unfold tooR; omega) ⟨t, by omega⟩ (by omega)) g32 (gro_fr (by omega)))
  · intro q
    exact z (tR.2.2.2.1 (by omega) (by omega)).1
theorem R_side {kk : Int} (hE : E = 76 ∨ E = 82) (hT : TS tx n a u) (hp : 0 ≤ a 75 2 ∧ a 75 2 ≤ n) (hk : 0 ≤ a 75 3 ∧ a 75 3 ≤ 39 ∧ ¬ a 75 3 = 35) (hv : NV a) (hB : BI a E kk) (d4 : a 72 4 = 4) (hw : a 72 6 ≤ 13) (h : RE 0 a E u0 u) (HF : FLT (tdF a E (a 75 3)) a u0 R) (HN : NXT Ω tx n (tdF a E (a 75 3)) a E u0 x R) : zG Ω 155 43 [zR 10 88, zI (a 72 6 - 7), zU] [] u (XC Ω (a 72 6) x R) := by
  have nu := NU_of (by decide) (Or.inl d4) hB h
  obtain ⟨tM, tp, tR, tpl⟩ := hT
  have val : ∀ ff, (ff = 0 → ¬ a 72 6 = 10) → (ff = 0 ∨ a 72 6 = 10) → zG Ω 152 0 [zR 10 88, zI ff, zU, zU] [] u (VC Ω (a 72 6) x R) := by
    intro ff hff hf1
    obtain ⟨n42, n5, n43, n46, n48, n50, n51, n53, n6⟩ := id nu
    have w117 : ¬ (a 75 3 = 36) → ¬ (a 75 3 = 31) → (a 75 3 = 23 → a 72 9 = 0) → zG Ω 152 117 [zR 10 88, zI ff, zU, zU] [] u (VC Ω (a 72 6) x R) := fun n36 n31 n23 => S_117 hE tM tp tR tpl hp ⟨hk.1, hk.2.1⟩ hv nu hw h HF HN hff hf1 n36 n31 n23
    have too : ¬ a 75 3 = 36 → ¬ a 75 3 = 2 → (u 88 42 = 96 → tooR a E (a 75 3)) ∧ (u 88 42 < 96 → ¬ tooR a E (a 75 3)) := fun n36 n2 => ⟨fun q => Or.inr (Or.inr ⟨n36, Or.inl (by omega)⟩), fun q => by unfold tooR; omega⟩
    refine w_X10_valueRead_0 (r_sgn tR hk (k0 := 36) (by decide) rfl (fun z36 => ?_) fun n36 => r_sgn tR hk (k0 := 31) (by decide) rfl (fun z31 => ?_) fun n31 => zif (fun z => zif (fun y => zif (fun t => w117 n36 n31 fun _ => n53.1.symm.trans t) fun t => ?_) fun y => w117 n36 n31 fun q => absurd ?_ y) fun z => w117 n36 n31 fun q => absurd ?_ z)
    · have cR : canR (a 75 3) := Or.inr (Or.inr (Or.inr z36))
      refine S_open hE tM tp tpl hp nu d4 h HF HN (fun q => ?_) fun q => ?_
      · unfold tdF
        rw [if_neg (fun q => q.elim (fun t => t cR) fun t => by omega), if_pos (Or.inr (Or.inl ⟨z36, by omega⟩))]
      · unfold tdF
        rw [if_neg (fun q => q.elim (fun t => t cR) fun t => by omega), if_neg (by unfold tooR; omega), if_neg (by omega), if_pos z36]
    · have cR : canR (a 75 3) := Or.inr (Or.inr (Or.inl z31))
      have to := too n36 (by omega)
      refine S_un (s := 35) (v := 0) hE tM tp tpl hp nu d4 h HF HN (Or.inl ⟨rfl, rfl, rfl⟩) (fun q => ?_) fun q => ?_
      · unfold tdF
        rw [if_neg (fun q => q.elim (fun y => y cR) fun y => by omega), if_pos (to.1 q)]
      · unfold tdF
        rw [if_neg (fun q => q.elim (fun y => y cR) fun y => by omega), if_neg (to.2 q), if_neg (by omega), if_neg n36, if_neg (by omega), if_pos z31]
    · have r1 := (RK_k tR ⟨hk.1, hk.2.1⟩).1 z
      have wb := wrA_b (k := a 75 3)
      have z23 : a 75 3 = 23 := by omega
      have cR : canR (a 75 3) := Or.inr (Or.inl z23)
      have to := too n36 (by omega)
      refine S_un (s := 23) (v := 1) hE tM tp tpl hp nu d4 h HF HN (Or.inr ⟨rfl, rfl, rfl, by omega⟩) (fun q => ?_) fun q => ?_
      · unfold tdF
        rw [if_neg (fun q => q.elim (fun y => y cR) fun y => t (n53.1.trans y.2)), if_pos (to.1 q)]
      · unfold tdF
        rw [if_neg (fun q => q.elim (fun y => y cR) fun y => t (n53.1.trans y.2)), if_neg (to.2 q), if_neg (by omega), if_neg n36, if_pos z23]
    · have := (tR.2.2.2.1 (by omega) (by omega)).2
      have wb := wrA_b (k := a 75 3)
      omega
    · exact (tR.2.2.2.1 (by omega) (by omega)).1
  have g52 : u 88 52 = 1 := by
    obtain ⟨F, K, O, W, N, H, g0, g1, g2, g3, g4, g5, g6, g7, g8, g9, g10, g11, g12, g13⟩ := h
    omega
  refine w_X10_expression_43 (zif (fun z => absurd z (by omega)) fun _ => zif (fun z => val 1 (by omega) (by omega)) fun z => val 0 (by omega) (by omega))
end L3
