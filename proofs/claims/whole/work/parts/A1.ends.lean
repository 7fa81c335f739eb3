/-! an expression ends, an expression begins -/
theorem rnB_1 {u : zM} {q x : Int} (h : rnB u 0 q [] [x]) : False := by
  have h : [x] = [] := h
  cases h
theorem XB_e {a a1 u u1 : zM} {E c F O' : Int} (hc : 0 ≤ c ∧ c ≤ 6) (hF : 0 ≤ F) (h : XB a E u c F) (g12 : a (E + 3) c = 7 + F) (g11 : u 116 (7 + c) = F)
    (e12 : a1 E 12 = a E 12) (e3 : ∀ j, a1 (E + 3) j = a (E + 3) j) (e4 : ∀ j, a1 (E + 4) j = if j = c then O' + 7 else a (E + 4) j)
    (u16 : ∀ j, u1 116 j = u 116 j) (u17 : ∀ j, u1 117 j = if j = 7 + c then O' - F else u 117 j) (u22 : ∀ j, u1 122 j = u 122 j) (d : DN u u1 F)
    {x : Int} (hr : rnB u1 (O' - F).toNat (96 + F) [] [x]) : XB a1 E u1 (-1) O' ∧ (4 ≤ c → a1 E 12 = c - 3 ∧ ¬ u1 122 8 = 0) := by
  have hm : 1 ≤ O' - F := by
    have : ¬ (O' - F).toNat = 0 := fun q => by rw [q] at hr; exact rnB_1 hr
    omega
  obtain ⟨h1, h2, h3, h4, h5, h6, h7⟩ := h
  obtain ⟨k1, k2, k3⟩ := h4 hc.1
  have n17 : ∀ e, ¬ e = c → u1 117 (7 + e) = u 117 (7 + e) := fun e he => by rw [u17, if_neg (by omega)]
  have c17 : u1 117 (7 + c) = O' - F := by rw [u17, if_pos rfl]
  refine ⟨⟨fun e e0 e1 hn => ?_, fun e e0 e1 _ => ?_, fun e e0 e1 he => ?_, fun q => absurd q (by decide), by rw [e12]; exact h5, fun e e0 e1 _ => ?_, fun q => ?_⟩, fun q => ?_⟩
  · by_cases z : e = c
    · subst z
      unfold FXe
      rw [e3, e4, u16, c17, if_pos rfl, g11]
      exact ⟨g12, by omega, by omega, x, hr⟩
    · rw [n17 e z] at hn
      exact FXe_f (by omega) (e3 e) ((e4 e).trans (if_neg z)) (u16 _) (n17 e z) d (h1 e e0 e1 hn)
  · rw [u22]
    by_cases z : e = c
    · subst z
      have := k2 e1
      rw [c17]
      omega
    · rw [n17 e z]; exact h2 e e0 e1 z
  · rw [u22] at he
    have z : ¬ e = c := fun q => by subst q; exact k2 e1 he
    rw [e3, e4, if_neg z]
    exact h3 e e0 e1 he
  · rw [e12]
    by_cases z : e = c
    · subst z
      have := (k3 (by omega)).1
      rw [c17]
      omega
    · rw [n17 e z]; exact h6 e e0 e1 z
  · rw [e12]; rw [u22] at q; exact h7 q
  · rw [e12, u22]; exact k3 q
theorem XB_b {a a1 u u1 : zM} {E c O : Int} (hc : 0 ≤ c ∧ c ≤ 6) (h : XB a E u (-1) O)
    (w1 : c ≤ 4 → u 122 (4 + c) = 0 ∧ ¬ u1 122 (4 + c) = 0) (w2 : 5 ≤ c → a E 12 = c - 4 ∧ ¬ u 122 8 = 0)
    (e12 : a1 E 12 = if c < 4 then a E 12 else c - 3) (e3 : ∀ j, ¬ j = c → a1 (E + 3) j = a (E + 3) j ∧ a1 (E + 4) j = a (E + 4) j)
    (u16 : ∀ j, ¬ j = 7 + c → u1 116 j = u 116 j) (u17 : ∀ j, u1 117 j = u 117 j) (u22 : ∀ j, ¬ (j = 4 + c ∧ c ≤ 4) → u1 122 j = u 122 j) (d : DN u u1 O) : XB a1 E u1 c O := by
  obtain ⟨h1, h2, h3, h4, h5, h6, h7⟩ := h
  have c17 : u 117 (7 + c) = 0 := by
    by_cases z : c ≤ 4
    · exact (h2 c hc.1 z (by omega)).1 (w1 z).1
    · have := (w2 (by omega)).1
      exact (h6 c (by omega) hc.2 (by omega)).2 (by omega)
  have e12' : c < 4 → a1 E 12 = a E 12 := fun z => by rw [e12, if_pos z]
  have e12c : 4 ≤ c → a1 E 12 = c - 3 := fun z => by rw [e12, if_neg (by omega)]
  have e124 : c = 4 → a E 12 = 1 := fun z => h7 (by have := (w1 (by omega)).1; rw [z] at this; exact this)
  refine ⟨fun e e0 e1 hn => ?_, fun e e0 e1 he => ?_, fun e e0 e1 he => ?_, fun _ => ⟨?_, fun z => (w1 z).2, fun z => ⟨e12c z, ?_⟩⟩, ?_, fun e e0 e1 he => ?_, fun q => ?_⟩
  · rw [u17] at hn
    have z : ¬ e = c := fun q => by subst q; exact hn c17
    exact FXe_f (Int.le_refl _) (e3 e z).1 (e3 e z).2 (u16 _ (by omega)) (u17 _) d (h1 e e0 e1 hn)
  · rw [u17, u22 _ (by omega)]
    exact h2 e e0 e1 (by omega)
  · have z : ¬ e = c := fun q => by subst q; exact (w1 e1).2 he
    rw [u22 _ (by omega)] at he
    rw [(e3 e z).1, (e3 e z).2]
    exact h3 e e0 e1 he
  · rw [u17]; exact c17
  · by_cases y : c = 4
    · have := (w1 (by omega)).2
      rw [y] at this
      exact this
    · rw [u22 _ (by omega)]; exact (w2 (by omega)).2
  · by_cases y : c < 4
    · rw [e12' y]; exact h5
    · rw [e12c (by omega)]; omega
  · have := h6 e e0 e1 (by omega)
    rw [u17]
    by_cases y : c < 4
    · rw [e12' y]; exact this
    · rw [e12c (by omega)]
      by_cases z : c = 4
      · have := e124 z; omega
      · have := (w2 (by omega)).1; omega
  · by_cases y : c < 4
    · rw [e12' y]; rw [u22 _ (by omega)] at q; exact h7 q
    · by_cases z : c = 4
      · have := (w1 (by omega)).2; rw [z] at this; exact absurd q this
      · rw [u22 _ (by omega)] at q; exact absurd q (w2 (by omega)).2
theorem RBd_x {a a1 u u1 u0 : zM} {E c c1 O O' : Int} (h : RBd a E u u0 c O) (fr : FrM u u1) (f1 : u1 88 26 = u 88 26 ∧ u1 88 27 = u 88 27) (e0 : ∀ j, j ≤ 3 → a1 E j = a E j) (u10 : ∀ j, u1 110 j = u 110 j) (tb : TB a1 u1) (ec : ∀ j, j < 7 → a1 (E + 1) j = a (E + 1) j ∧ a1 (E + 2) j = a (E + 2) j) (x : XB a1 E u1 c1 O') : RBd a1 E u1 u0 c1 O' := by
  obtain ⟨h1, h2, h3, h4, h5, h6⟩ := h
  refine ⟨FrM_t h1 fr, ⟨f1.1.trans h2.1, f1.2.trans h2.2⟩, ?_, tb, ?_, x⟩
  · unfold NB at h3 ⊢
    rw [u10, u10, u10, u10, e0 0 (by omega), e0 1 (by omega), e0 2 (by omega), e0 3 (by omega)]
    exact h3
  · unfold DC at h5 ⊢
    rw [(ec 0 (by decide)).1, (ec 0 (by decide)).2, (ec 1 (by decide)).1, (ec 2 (by decide)).1, (ec 2 (by decide)).2, (ec 3 (by decide)).1, (ec 4 (by decide)).1, (ec 4 (by decide)).2, (ec 5 (by decide)).1, (ec 5 (by decide)).2, (ec 6 (by decide)).1]
    exact h5
/-- an expression ends -/
theorem R1_e {a u u0 u2 u4 : zM} {E : Int} {F K O O' : Int} {W N N' H H' : List Int} (hE : E = 76 ∨ E = 82) (h11 : 7 ≤ a E 11) (hw : 7 ≤ a 72 6 ∧ a 72 6 ≤ 13)
    (g0 : EC a E u F K O W N H) (g1 : u 88 42 = K) (g2 : O + cnW W = K) (hp : popW 1 W = []) (g11 : u 116 (a 72 6) = F) (g12 : a (E + 3) (a 72 6 - 7) = 7 + F) (g13 : RBd a E u u0 (a 72 6 - 7) F)
    (c0 : EC (wrF E 1 W.length a) E u2 F K O' (popW 1 W) N' H') (c1 : H'.length = nbW (popW 1 W) + 1) (c2 : O' + cnW (popW 1 W) = K) (c3 : frB u u2) (c4 : DN u u2 O)
    (f : FU (zup u2 117 (a 72 6) (O' - F)) u4) {a1 : zM} (ha : ∀ x j, ¬ (x = 72 ∧ (j = 4 ∨ j = 6)) → a1 x j = fnF (wrF E 1 W.length a) E (a 72 6) x j) : R1 a1 E u0 u4 ∧ (11 ≤ a 72 6 → a1 E 12 = a 72 6 - 10 ∧ ¬ u4 122 8 = 0) := by
  have ro := fun x j => wrF_o (b := 1) hE W.length a x j
  have haf := wr_AF (b := 1) hE h11 W.length
  obtain ⟨p4, px⟩ := fn_c (w := wrF E 1 W.length a) (k := a 72 6) hE hw.2
  generalize wrF E 1 W.length a = w at *
  rw [hp] at c0 c1 c2
  have hH : H'.length = 1 := c1
  obtain ⟨x, hx⟩ : ∃ x, H' = [x] := by
    cases H' with
    | nil => cases hH
    | cons x t => cases t with
      | nil => exact ⟨x, rfl⟩
      | cons y t => exact absurd hH (by simp)
  subst hx
  have fo := g0.fo
  have fo' := c0.fo
  have oa := c0.oa
  have ka := c0.ka
  have e2 : (cnW [] : Nat) = 0 := rfl
  rw [e2] at c2
  have ax : ∀ x j, ¬ x = E + 4 → ¬ (x = 72 ∧ (j = 4 ∨ j = 6)) → a1 x j = w x j := fun x j h1 h2 => (ha x j h2).trans (px x j h1)
  have a4 : ∀ j, a1 (E + 4) j = if j = a 72 6 - 7 then O' + 7 else a (E + 4) j := fun j => by
    rw [ha _ j (by omega), p4, oa, ro (E + 4) j (by omega)]
  have f88 : ∀ j, ¬ (29 ≤ j ∧ j ≤ 32) → u4 88 j = u2 88 j := fun j h1 => (f 88 j (by omega)).trans (zup_c (by decide))
  have fx : ∀ x j, ¬ x = 88 → ¬ x = 117 → u4 x j = u2 x j := fun x j h1 h2 => (f x j (by omega)).trans (zup_c h2)
  have f17 : ∀ j, u4 117 j = if j = a 72 6 then O' - F else u 117 j := fun j => by
    rw [f 117 j (by omega), ← c3 117 j (by omega) (by omega) (by omega)]
    unfold zup
    by_cases z : j = a 72 6
    · rw [if_pos ⟨rfl, z⟩, if_pos z]
    · rw [if_neg (fun q => z q.2), if_neg z]
  have d2 : DN u2 u4 O' := fun i _ _ => ⟨fx _ _ (by decide) (by decide), fun c c1 c2 => fx _ _ (by omega) (by omega)⟩
  have dn : DN u u4 O := DN_t c4 (DN_l (by
    have := popW_len 1 W
    have h1 := g0.o
    have h2 := c0.o
    omega) d2)
  have eq7 : 7 + (a 72 6 - 7) = a 72 6 := by omega
  have xe := XB_e (a := a) (a1 := a1) (u := u) (u1 := u4) (E := E) (c := a 72 6 - 7) (F := F) (O' := O') (by omega) fo.1 g13.2.2.2.2.2 g12 (by rw [eq7]; exact g11)
    ((ax E 12 (by omega) (by omega)).trans (ro E 12 (by omega))) (fun j => (ax _ j (by omega) (by omega)).trans (ro _ j (by omega))) a4 (fun j => (fx 116 j (by decide) (by decide)).trans (c3 116 j (by omega) (by omega) (by omega))) (fun j => by rw [eq7]; exact f17 j) (fun j => (fx 122 j (by decide) (by decide)).trans (c3 122 j (by omega) (by omega) (by omega))) (DN_l fo.2 dn) (x := x)
    (rnB_f _ _ _ _ (fun i i0 i1 => by
      have := d2 (i - 96) (by omega) (by omega)
      rw [show 96 + (i - 96) = i by omega] at this
      exact this) c0.rn)
  have e5 : a1 E 5 = K := by
    rw [ax E 5 (by omega) (by omega), ka]
    exact (c3 88 42 (by omega) (by omega) (by omega)).trans g1
  have e11 : a1 E 11 - 7 = O' := by rw [ax E 11 (by omega) (by omega)]; omega
  refine ⟨?_, fun q => ?_⟩
  · unfold R1
    rw [e5, e11]
    refine ⟨(f88 42 (by omega)).trans ((c3 88 42 (by omega) (by omega) (by omega)).trans g1), (f88 43 (by omega)).trans c0.o, cdR_g (Int.le_refl _) (fun i _ _ => ⟨ax _ _ (by omega) (by omega), ax _ _ (by omega) (by omega)⟩) (fun i _ _ => ⟨fx _ _ (by decide) (by decide), fx _ _ (by decide) (by decide), fx _ _ (by decide) (by decide)⟩) c0.cd, ?_⟩
    refine RBd_x g13 (fun x j h => ?_) ⟨(f88 26 (by omega)).trans (c3 88 26 (by omega) (by omega) (by omega)), (f88 27 (by omega)).trans (c3 88 27 (by omega) (by omega) (by omega))⟩ (fun j hj => (ax E j (by omega) (by omega)).trans (haf.1 j (by omega))) (fun j => (fx 110 j (by decide) (by decide)).trans (c3 110 j (by omega) (by omega) (by omega))) (fun w0 w1 w2 => ?_) (fun j hj => ⟨(ax _ j (by omega) (by omega)).trans (haf.2.2.1 j hj).1, (ax _ j (by omega) (by omega)).trans (haf.2.2.1 j hj).2⟩) xe.1
    · have hb := FrM_B c3 x j h
      rw [← hb]
      by_cases z : x = 117
      · subst z
        rw [f 117 j (by omega)]
        exact zup_j (by unfold rdY at h; omega)
      · exact (f x j (by unfold rdY at h; omega)).trans (zup_c z)
    · have tb := g13.2.2.2.1 w0 w1 w2
      rw [fx 122 _ (by decide) (by decide), c3 122 _ (by omega) (by omega) (by omega), ax 72 5 (by omega) (by omega), haf.2.1]
      exact tb
  · have := xe.2 (by omega)
    exact ⟨by omega, this.2⟩
