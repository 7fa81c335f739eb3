theorem CR_q {g m m' : zM} (hg : LG g) (h : CR g m) (a : FQ m m') : CR g m' :=
  ⟨CS_q hg h.1 a, fun e => REC_f hg (h.2 (by rw [← a 0 14 (by omega)]; exact e)) fun x j q => a x j (by omega)⟩
/-- behind an answer of both -/
theorem VI_yq {S : Int → Int} {g m m1 m2 : zM} (hp : PG g m) (hg : LG g) (hr : RGd g) (hw : WG g) (he : EW g) (hc : CR g m) (hx : XT S m) (f1 : FY m m1) (c1 : CR g m1) (f2 : FQ m1 m2) : VI S m2 := by
  have h9 : 0 ≤ m 0 9 := by rw [hc.1.1.2.1]; exact hg.2.2.1.1
  have h12 : m 1 1 ≤ 12 := by rw [hc.1.1.1]; exact hg.1.1
  have h9' : 0 ≤ m1 0 9 := by rw [c1.1.1.2.1]; exact hg.2.2.1.1
  have h12' : m1 1 1 ≤ 12 := by rw [c1.1.1.1]; exact hg.1.1
  exact ⟨g, PG_q (PG_y hp f1) f2, hg, hr, hw, he, CR_q hg c1 f2, XT_q h9' h12' (XT_y h9 h12 hx f1) f2⟩
theorem WG_r {g : zM} (h : WG g) : ∀ l, 0 ≤ l → l < g 88 12 → -1 ≤ g 108 l := fun l l0 l1 => (h l l0 l1).2.1.1
/-- the answer is told and nothing else: 88 2 -/
theorem FQ_z {m : zM} {v : Int} : FQ m (zup m 88 2 v) := fun x j h => by
  unfold zup
  rw [if_neg (fun q => h (Or.inr ⟨q.1, Or.inl q.2⟩))]
section L2
variable {Ω : zΩ} {S : Int → Int} {m : zM} {N : Int → Int → zM → Prop}
theorem VI_judge {w : Int} (h : VI S m) (K : ∀ v m', VI S m' → N v v m') : zG Ω 109 0 [zR 9 0, zI w] [] m (fun r1 m1 => zk1 r1 fun v1 => zG Ω 190 0 [zR 10 88, zI w, zU, zU, zU] [] m1 (fun r2 m2 => zk1 r2 fun v2 => N v1 v2 m2)) := by
  obtain ⟨g, hp, hg, hr, hw, he, hc, hx⟩ := h
  exact a_judge hg hr (WG_r hw) hc fun m1 f1 c1 => zk1_i (s_judgeM hg he hr (PG_y hp f1) fun m2 f2 => zk1_i (K _ _ (VI_yq hp hg hr hw he hc hx f1 c1 f2)))
theorem VI_night {l d w : Int} (h : VI S m) (K : ∀ v m', VI S m' → N v v m') : zG Ω 110 0 [zR 9 0, zI l, zI d, zI w, zU] [] m (fun r1 m1 => zk1 r1 fun v1 => zG Ω 191 0 [zR 10 88, zI l, zI d, zI w] [] m1 (fun r2 m2 => zk1 r2 fun v2 => N v1 v2 m2)) := by
  obtain ⟨g, hp, hg, hr, hw, he, hc, hx⟩ := h
  exact a_night hg hr (WG_r hw) hc fun m1 f1 c1 => zk1_i (s_nightM hg he hr (PG_y hp f1) fun m2 f2 => zk1_i (K _ _ (VI_yq hp hg hr hw he hc hx f1 c1 f2)))
theorem VI_end {l w : Int} (h : VI S m) (K : ∀ v m', VI S m' → N v v m') : zG Ω 111 0 [zR 9 0, zI l, zI w, zU] [] m (fun r1 m1 => zk1 r1 fun v1 => zG Ω 192 0 [zR 10 88, zI l, zI w, zU] [] m1 (fun r2 m2 => zk1 r2 fun v2 => N v1 v2 m2)) := by
  obtain ⟨g, hp, hg, hr, hw, he, hc, hx⟩ := h
  exact a_end hg hr (WG_r hw) hc fun m1 f1 c1 => zk1_i (s_endM hg he hr (PG_y hp f1) fun m2 f2 => zk1_i (K _ _ (VI_yq hp hg hr hw he hc hx f1 c1 f2)))
theorem VI_given {k w : Int} (h : VI S m) (K : ∀ v m', VI S m' → N v v m') : zG Ω 112 0 [zR 9 0, zI k, zI w] [] m (fun r1 m1 => zk1 r1 fun v1 => zG Ω 193 0 [zR 10 88, zI k, zI w] [] m1 (fun r2 m2 => zk1 r2 fun v2 => N v1 v2 m2)) := by
  obtain ⟨g, hp, hg, hr, hw, he, hc, hx⟩ := h
  exact a_given hg hr (WG_r hw) hc fun m1 f1 c1 => zk1_i (s_givenM hg he hr (PG_y hp f1) fun m2 f2 => zk1_i (K _ _ (VI_yq hp hg hr hw he hc hx f1 c1 f2)))
theorem VI_known {l k d w : Int} (h : VI S m) (K : ∀ v m', VI S m' → N v v m') : zG Ω 116 0 [zR 9 0, zI l, zI k, zI d, zI w, zU, zU] [] m (fun r1 m1 => zk1 r1 fun v1 => zG Ω 198 0 [zR 10 88, zI l, zI k, zI d, zI w, zU, zU, zU] [] m1 (fun r2 m2 => zk1 r2 fun v2 => N v1 v2 m2)) := by
  obtain ⟨g, hp, hg, hr, hw, he, hc, hx⟩ := h
  exact a_known hg hr (WG_r hw) hc fun m1 f1 c1 => zk1_i (s_knownM hg he hr (PG_y hp f1) fun m2 f2 => zk1_i (K _ _ (VI_yq hp hg hr hw he hc hx f1 c1 f2)))
theorem VI_wants {l w v : Int} (h : VI S m) (K : ∀ v m', VI S m' → N v v m') : zG Ω 106 0 [zR 9 0, zI l, zI w, zI v] [] m (fun r1 m1 => zk1 r1 fun v1 => zG Ω 174 0 [zR 10 88, zI l, zI w, zI v] [] m1 (fun r2 m2 => zk1 r2 fun v2 => N v1 v2 m2)) := by
  obtain ⟨g, hp, hg, hr, hw, he, hc, hx⟩ := h
  exact a_wants hg hc fun m1 f1 c1 => zk1_i (s_wantsM hg he (PG_y hp f1) fun m2 f2 => zk1_i (K _ _ (VI_yq hp hg hr hw he hc hx f1 c1 f2)))
theorem VI_ahead {a b : Int} (h : VI S m) (K : ∀ v m', VI S m' → N v v m') : zG Ω 107 0 [zR 9 0, zI a, zI b] [] m (fun r1 m1 => zk1 r1 fun v1 => zG Ω 176 0 [zR 10 88, zI a, zI b] [] m1 (fun r2 m2 => zk1 r2 fun v2 => N v1 v2 m2)) := by
  obtain ⟨g, hp, hg, hr, hw, he, hc, hx⟩ := h
  exact a_ahead hg hc fun m1 f1 c1 => zk1_i (s_aheadM hg he (PG_y hp f1) fun m2 f2 => zk1_i (K _ _ (VI_yq hp hg hr hw he hc hx f1 c1 f2)))
theorem VI_between {a b : Int} (h : VI S m) (K : ∀ v m', VI S m' → N v v m') : zG Ω 102 0 [zR 9 0, zI a, zI b] [] m (fun r1 m1 => zk1 r1 fun v1 => zG Ω 132 0 [zR 10 88, zI a, zI b] [] m1 (fun r2 m2 => zk1 r2 fun v2 => N v1 v2 m2)) := by
  obtain ⟨g, hp, hg, hr, hw, he, hc, hx⟩ := h
  exact a_between hg hc.1 (zk1_i (s_betweenM hg hp fun m2 f2 => zk1_i (K _ _ (VI_yq hp hg hr hw he hc hx FY_r hc f2))))
theorem VI_fault {w : Int} (h : VI S m) (K : ∀ v m', VI S m' → N v v m') : zG Ω 98 0 [zR 9 0, zI w] [] m (fun r1 m1 => zk1 r1 fun v1 => zG Ω 162 0 [zR 10 88, zI w] [] m1 (fun r2 m2 => zk1 r2 fun v2 => N v1 v2 m2)) := by
  obtain ⟨g, hp, hg, hr, hw, he, hc, hx⟩ := h
  refine s_fault (zk1_i (s_faultM (zk1_i ?_)))
  rw [← hx.1.1, ← hx.1.2]
  exact K _ _ (VI_yq hp hg hr hw he hc hx FY_r hc FQ_z)
theorem VI_row {w : Int} (hz : zri w) (h : VI S m) (K : ∀ v m', VI S m' → N v v m') : zG Ω 115 0 [zR 9 0, zI w] [] m (fun r1 m1 => zk1 r1 fun v1 => zG Ω 197 0 [zR 10 88, zI w] [] m1 (fun r2 m2 => zk1 r2 fun v2 => N v1 v2 m2)) := by
  obtain ⟨g, hp, hg, hr, hw, he, hc, hx⟩ := h
  have e9 := hc.1.1.2.1
  have e12 : m 88 12 = g 88 12 := hp _ _ (by unfold prA; omega)
  have hN := hg.2.2.1
  refine s_row hz (by omega) (zk1_i (s_rowM hz (by omega) (zk1_i ?_)))
  have e : (if w = 0 then m 88 78 else if 1 ≤ w ∧ w ≤ m 88 12 then m 108 (w - 1) else -1) = (if w = 0 then m 67 11 else if 1 ≤ w ∧ w ≤ m 0 9 then m (29 + 6 * (w - 1)) 13 else -1) := by
    rw [hx.2.2.1, e9, e12]
    split
    · rfl
    · split
      · rename_i c
        rw [(hc.1.2.2.2.2.2 (w - 1) (by omega) (by omega)).2.2.2.2.2]
        exact hp _ _ (by unfold prA; omega)
      · rfl
  rw [e]
  exact K _ _ (VI_yq hp hg hr hw he hc hx FY_r hc FQ_z)
theorem VI_count {w : Int} (h : VI S m) (K : ∀ v m', VI S m' → N v v m') : zG Ω 117 0 [zR 9 0, zI w] [] m (fun r1 m1 => zk1 r1 fun v1 => zG Ω 201 0 [zR 10 88, zI w] [] m1 (fun r2 m2 => zk1 r2 fun v2 => N v1 v2 m2)) := by
  obtain ⟨g, hp, hg, hr, hw, he, hc, hx⟩ := h
  obtain ⟨⟨c1, c2, c3⟩, c4, c5, c6, c7, c8⟩ := hc.1
  refine s_count (by omega) (zk1_i (s_countM (zk1_i ?_)))
  have e : cntM m w = cntC m w := by
    unfold cntM cntC
    rw [c1, c2, c3, c5.1.1, c5.1.2.1, c5.1.2.2.1, c5.1.2.2.2, hx.2.2.2.1, hp 88 4 (by unfold prA; omega), hp 88 12 (by unfold prA; omega), hp 88 3 (by unfold prA; omega), hp 110 0 (by unfold prA; omega), hp 110 1 (by unfold prA; omega), hp 110 2 (by unfold prA; omega), hp 110 3 (by unfold prA; omega)]
  rw [e]
  exact K _ _ (VI_yq hp hg hr hw he hc hx FY_r hc FQ_z)
end L2
