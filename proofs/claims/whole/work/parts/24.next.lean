def zwtx : String := "march news hold pay attend bearers room fine yield year rank worth men house hours guns women late or and not "
/-- what the tables say at a state -/
def zUd (B : zB) (cA : Nat → ClassId) (D : va_G) (U : State) : Prop := va_K D vwCl (ztys cA) U ∧ (∀ q ∈ znest, va_Nw (.methodLinkNest q.1 q.2.1 q.2.2 "LordsRoad") U) ∧ (∀ a, a = 7 ∨ a = 1 ∨ a = 2 → va_AO (zcs a).1 U) ∧ vk_R RX8 63 zwtx B.2.2 U
/-- a method's activation -/
def zCx (B : zB) (cA : Nat → ClassId) (D : va_G) (p : Program) (s : State) (m : MethodId) (args : Array Value) (meth : Method) (c : Code) (M : Nat) : Prop :=
  p.tables.exec = Jvm.exec ∧ c.code = (zmi M).2.1 ∧ c.maxLocals = (zmi M).2.2.1 ∧ s.vm.findClass (zmi M).1.cls = some m.cls ∧ (∀ w ∈ zT, w.before args s = true) ∧ meth.sig.returnType = (zmi M).2.2.2 ∧ meth.locks = false ∧ meth.name = (zmi M).1.name ∧ B.1 ≤ s.heap.size ∧ zUd B cA D s
def zss (K : Nat) : Nat := ((List.range K).map fun k => (zKd (zlay.getD (zvi k) 99)).2.1).sum
theorem zss_s {K : Nat} (_ : K < 148) : zss (K + 1) = zss K + (zKd (zlay.getD (zvi K) 99)).2.1 := by
  unfold zss
  rw [List.range_succ, List.map_append, List.sum_append]
  simp
theorem zow_cn : ∀ M, M < 212 → zcn (zow.getD M 99) = (zmi M).1.cls := by decide +kernel
theorem zow_lt : ∀ M, M < 212 → zow.getD M 99 < 13 := by decide +kernel
theorem zfl_all (i : Nat) (h : i < 13) : ∀ z ∈ zflt.getD i [], lw_tbl[z.2.2.2]? = some (Cond.fieldLink (zcn i) z.1 ((zcs z.2.1).2.1 z.2.2.1).1 ((zcs z.2.1).2.1 z.2.2.1).2.1 ((zcs z.2.1).2.1 z.2.2.1).2.2.1) := by
  match i, h with
  | 0, _ => exact zfl_0 | 1, _ => exact zfl_1 | 2, _ => exact zfl_2 | 3, _ => exact zfl_3 | 4, _ => exact zfl_4 | 5, _ => exact zfl_5 | 6, _ => exact zfl_6 | 7, _ => exact zfl_7 | 8, _ => exact zfl_8 | 9, _ => exact zfl_9 | 10, _ => exact zfl_10 | 11, _ => exact zfl_11 | 12, _ => exact zfl_12
theorem zml_all (i : Nat) (h : i < 13) : ∀ z ∈ zmlt.getD i [], lw_tbl[z.2.2]? = some (Cond.methodLink (zcn i) z.1 (zmi z.2.1).1) := by
  match i, h with
  | 0, _ => exact zml_0 | 1, _ => exact zml_1 | 2, _ => exact zml_2 | 3, _ => exact zml_3 | 4, _ => exact zml_4 | 5, _ => exact zml_5 | 6, _ => exact zml_6 | 7, _ => exact zml_7 | 8, _ => exact zml_8 | 9, _ => exact zml_9 | 10, _ => exact zml_10 | 11, _ => exact zml_11 | 12, _ => exact zml_12
theorem zflink {M i a b : Nat} (hM : M < 212) (h : ((zflt.getD (zow.getD M 99) []).any fun z => Nat.beq z.1 i && (Nat.beq z.2.1 a && Nat.beq z.2.2.1 b)) = true) : Cond.fieldLink (zmi M).1.cls i ((zcs a).2.1 b).1 ((zcs a).2.1 b).2.1 ((zcs a).2.1 b).2.2.1 ∈ zT := by
  obtain ⟨z, hz, hk⟩ := List.any_eq_true.mp h
  obtain ⟨h1, h2⟩ := zb_and hk
  obtain ⟨h2, h3⟩ := zb_and h2
  have h1 := zb_len h1
  have h2 := zb_len h2
  have h3 := zb_len h3
  have := zfl_all _ (zow_lt M hM) z hz
  rw [zow_cn M hM, h1, h2, h3] at this
  exact zT_of (List.mem_of_getElem? this) rfl
theorem zmlink {M i a : Nat} (hM : M < 212) (h : ((zmlt.getD (zow.getD M 99) []).any fun z => Nat.beq z.1 i && Nat.beq z.2.1 a) = true) : Cond.methodLink (zmi M).1.cls i (zmi a).1 ∈ zT := by
  obtain ⟨z, hz, hk⟩ := List.any_eq_true.mp h
  obtain ⟨h1, h2⟩ := zb_and hk
  have h1 := zb_len h1
  have h2 := zb_len h2
  have := zml_all _ (zow_lt M hM) z hz
  rw [zow_cn M hM, h1, h2] at this
  exact zT_of (List.mem_of_getElem? this) rfl
theorem zarr_ok : ∀ t, t = ArrayType.int ∨ t = .long ∨ t = .byte ∨ t = .boolean → Cond.arrayClass (newarray.typeOf t) ∈ lw_tbl := by
  intro t h
  rcases h with rfl | rfl | rfl | rfl <;> decide +kernel
theorem zobj_i : Cond.instanceMethod Lib.objectInit ∈ zT := zT_of (by decide +kernel) rfl
theorem zobj_c : Cond.code Lib.objectInit ⟨#[0xb1]⟩ 1 none ∈ zT := zT_of (by decide +kernel) rfl
theorem zsz : ∀ x, x < 148 → (zKd (zlay.getD (zvi x) 99)).2.1 ≤ 5000 := by decide +kernel
section ZNX
variable {p : Program} {l : Launch} {e : Env} {R : Room} {s : State} {m : MethodId} {args : Array Value} {below : List Frame} {meth : Method} {c : Code} {H : Heap} {locs : List Loc} {cells slots : Nat} {Q : State → Prop}
variable {B : zB} {cA : Nat → ClassId} {D : va_G} {L : Nat} {xs : Nat → Int32} {σ : zS}
set_option maxRecDepth 100000 in
set_option maxHeartbeats 4000000 in
theorem zheap_ok {M pc : Nat} {i : Instr} {len a b cs ee : Nat} {d : Int} {arr : Array Slot} {ls st ls' st' : List zV} {pc' : Nat} {σ' : zS} (hM : M < 212) (X : zCx B cA D p s m args meth c M) (hdg : decode (zmi M).2.1 pc = .ok (i, len)) (hvl : zvl M (pc, i, len, (a, b, cs, ee), d) = true)
    (hfr : zfr M ≤ R.frames ∧ zlo M ≤ R.locals) (hW : zWd B cA D L xs s H σ) (hS : va_S (zA B) s.heap H locs) (hlv : zlv B arr (zmi M).2.2.1 ls) (hls : zoks σ.1 ls) (hst : zoks σ.1 st)
    (h0 : zheap i len a b cs ee d pc ls st σ = some (.inl ((pc', ls', st'), σ'))) (hsz : σ.1 < 147 → ∃ K0, s.heap.size = B.1 + K0 ∧ cells + K0 = σ.1) (hroom : cells + (σ'.1 - σ.1) ≤ R.cells ∧ slots + (zss σ'.1 - zss σ.1) ≤ R.slots)
    (k : ∀ H1 locs1, zWd B cA D L xs s H1 σ' → va_S (zA B) s.heap H1 locs1 → zoks σ'.1 ls' → zoks σ'.1 st' → ls' = ls → W p l e R s m args below meth c H1 locs1 (cells + (σ'.1 - σ.1)) (slots + (zss σ'.1 - zss σ.1)) Q (F0 m pc' arr (st'.map (zv B)))) : W p l e R s m args below meth c H locs cells slots Q (F0 m pc arr (st.map (zv B))) := by
  obtain ⟨hx, hb, hml, hown, hts, hr, hlocks, hin, hB, hK, hN, hO, hstr⟩ := X
  cases i with
  | getfield idx =>
    obtain ⟨h1, hq1⟩ := zg_inv h0
    obtain ⟨t, x, r, rfl, hq2⟩ := zp1r_inv hq1
    obtain ⟨h2, hq3⟩ := zg_inv hq2
    cases hv : zget cs ee (σ.2.1 x b) (σ.2.2 x b) with
    | none => rw [hv] at hq3; cases hq3
    | some v =>
      rw [hv] at hq3
      cases zb_len h1
      cases zb_len h2
      cases hq3
      simp only [zvl] at hvl
      obtain ⟨v1, hvl⟩ := zb_and hvl
      obtain ⟨v2, hvl⟩ := zb_and hvl
      obtain ⟨v3, v4⟩ := zb_and hvl
      have v1 := of_decide_eq_true v1
      have v3 := of_decide_eq_true v3
      simp only [Nat.sub_self, Nat.add_zero] at k
      exact zh_get hx hb hts hown hK hW v1 (zin_all _ v1) (Nat.le_of_ble_eq_true v2) v3 (hts _ (zflink hM v4)) hdg (zoks_head hst) hv fun hz => k H locs hW hS hls (zoks_cons hz (zoks_tail hst)) (by first | rfl | trivial)
  | putfield idx =>
    obtain ⟨h1, hq1⟩ := zg_inv h0
    obtain ⟨v, r, rfl, hq2⟩ := zp1_inv hq1
    obtain ⟨t, x, r, rfl, hq3⟩ := zp1r_inv hq2
    obtain ⟨h2, hq4⟩ := zg_inv hq3
    cases hv : zput cs ee v σ.2.1 σ.2.2 x b with
    | none => rw [hv] at hq4; cases hq4
    | some q =>
      rw [hv] at hq4
      cases zb_len h1
      cases zb_len h2
      cases hq4
      simp only [zvl] at hvl
      obtain ⟨v1, hvl⟩ := zb_and hvl
      obtain ⟨v2, hvl⟩ := zb_and hvl
      obtain ⟨v3, hvl⟩ := zb_and hvl
      obtain ⟨v4, v5⟩ := zb_and hvl
      have v1 := of_decide_eq_true v1
      have v3 := of_decide_eq_true v3
      simp only [Nat.sub_self, Nat.add_zero] at k
      refine zh_put hx hb hts hown hB hK hW hS v1 (zin_all _ v1) (Nat.le_of_ble_eq_true v2) v3 (hts _ (zflink hM v4)) ?_ hdg (zoks_head (zoks_tail hst)) (zoks_head hst) hv fun H1 locs1 hW1 hS1 => k H1 locs1 hW1 hS1 hls (zoks_tail (zoks_tail hst)) (by first | rfl | trivial)
      rcases (Bool.or_eq_true _ _).mp v5 with z | z
      · exact Or.inl (of_decide_eq_true z)
      · obtain ⟨z1, z⟩ := zb_and z
        obtain ⟨z2, z3⟩ := zb_and z
        exact Or.inr ⟨of_decide_eq_true z1, by rw [hin]; exact of_decide_eq_true z2, of_decide_eq_true z3⟩
  | iaload =>
    obtain ⟨h1, hq1⟩ := zg_inv h0
    obtain ⟨j, t, x, r, rfl, hq2⟩ := zp2ir_inv hq1
    split at hq2
    · rename_i ht
      obtain ⟨h2, hq3⟩ := zg_inv hq2
      obtain ⟨h2, h3⟩ := zb_and h2
      cases zb_len h1; cases zb_len ht; cases hq3
      simp only [Nat.sub_self, Nat.add_zero] at k
      exact zh_sld hx hb hW hdg (of_decide_eq_true h2) (of_decide_eq_true h3) fun hz => k H locs hW hS hls (zoks_cons hz (zoks_tail (zoks_tail hst))) (by first | rfl | trivial)
    · obtain ⟨h2, hq3⟩ := zg_inv hq2
      cases zb_len h1; cases hq3
      simp only [Nat.sub_self, Nat.add_zero] at k
      exact zh_iald hx hb hK hW hdg (zoks_head (zoks_tail hst)) h2 fun hz => k H locs hW hS hls (zoks_cons hz (zoks_tail (zoks_tail hst))) (by first | rfl | trivial)
  | baload =>
    obtain ⟨h1, hq1⟩ := zg_inv h0
    obtain ⟨j, t, x, r, rfl, hq2⟩ := zp2ir_inv hq1
    obtain ⟨h2, hq3⟩ := zg_inv hq2
    cases zb_len h1; cases hq3
    simp only [Nat.sub_self, Nat.add_zero] at k
    exact zh_bald hx hb hK hW hdg (zoks_head (zoks_tail hst)) h2 fun hz => k H locs hW hS hls (zoks_cons hz (zoks_tail (zoks_tail hst))) (by first | rfl | trivial)
  | laload =>
    obtain ⟨h1, hq1⟩ := zg_inv h0
    obtain ⟨j, t, x, r, rfl, hq2⟩ := zp2ir_inv hq1
    obtain ⟨h2, hq3⟩ := zg_inv hq2
    cases zb_len h1; cases hq3
    simp only [Nat.sub_self, Nat.add_zero] at k
    exact zh_lald hx hb hK hW hdg (zoks_head (zoks_tail hst)) h2 fun hz => k H locs hW hS hls (zoks_cons hz (zoks_tail (zoks_tail hst))) (by first | rfl | trivial)
  | aaload =>
    obtain ⟨h1, hq1⟩ := zg_inv h0
    obtain ⟨j, t, x, r, rfl, hq2⟩ := zp2ir_inv hq1
    split at hq2
    · obtain ⟨h2, hq3⟩ := zg_inv hq2
      obtain ⟨h2, h3⟩ := zb_and h2
      cases zb_len h1; cases hq3
      simp only [Nat.sub_self, Nat.add_zero] at k
      exact zh_aald6 hx hb hK hW hdg (zoks_head (zoks_tail hst)) h2 (of_decide_eq_true h3) fun hz => k H locs hW hS hls (zoks_cons hz (zoks_tail (zoks_tail hst))) (by first | rfl | trivial)
    obtain ⟨h2, hq3⟩ := zg_inv hq2
    obtain ⟨h2, h3⟩ := zb_and h2
    cases zb_len h1; cases hq3
    simp only [Nat.sub_self, Nat.add_zero] at k
    exact zh_aald hx hb hK hW hdg (zoks_head (zoks_tail hst)) h2 (of_decide_eq_true h3) fun hz => k H locs hW hS hls (zoks_cons hz (zoks_tail (zoks_tail hst))) (by first | rfl | trivial)
  | iastore =>
    obtain ⟨h1, hq1⟩ := zg_inv h0
    obtain ⟨v, j, t, x, r, rfl, hq2⟩ := zp3ir_inv hq1
    obtain ⟨h2, hq3⟩ := zg_inv hq2
    cases zb_len h1; cases hq3
    simp only [Nat.sub_self, Nat.add_zero] at k
    exact zh_iast hx hb hB hK hW hS hdg (zoks_head (zoks_tail (zoks_tail hst))) (zoks_head hst) h2 fun H1 locs1 hW1 hS1 => k H1 locs1 hW1 hS1 hls (zoks_tail (zoks_tail (zoks_tail hst))) (by first | rfl | trivial)
  | bastore =>
    obtain ⟨h1, hq1⟩ := zg_inv h0
    obtain ⟨v, j, t, x, r, rfl, hq2⟩ := zp3ir_inv hq1
    obtain ⟨h2, hq3⟩ := zg_inv hq2
    cases zb_len h1; cases hq3
    simp only [Nat.sub_self, Nat.add_zero] at k
    exact zh_bast hx hb hB hK hW hS hdg (zoks_head (zoks_tail (zoks_tail hst))) h2 fun H1 locs1 hW1 hS1 => k H1 locs1 hW1 hS1 hls (zoks_tail (zoks_tail (zoks_tail hst))) (by first | rfl | trivial)
  | lastore =>
    obtain ⟨h1, hq1⟩ := zg_inv h0
    obtain ⟨v, j, t, x, r, rfl, hq2⟩ := zp3lr_inv hq1
    obtain ⟨h2, hq3⟩ := zg_inv hq2
    cases zb_len h1; cases hq3
    simp only [Nat.sub_self, Nat.add_zero] at k
    exact zh_last hx hb hB hK hW hS hdg (zoks_head (zoks_tail (zoks_tail hst))) (zoks_head hst) h2 fun H1 locs1 hW1 hS1 => k H1 locs1 hW1 hS1 hls (zoks_tail (zoks_tail (zoks_tail hst))) (by first | rfl | trivial)
  | aastore =>
    obtain ⟨h1, hq1⟩ := zg_inv h0
    obtain ⟨u, v, j, t, x, r, rfl, hq2⟩ := zp3rr_inv hq1
    split at hq2
    · obtain ⟨h2, hq3⟩ := zg_inv hq2
      obtain ⟨h2, h3⟩ := zb_and h2
      cases zb_len h1; cases hq3
      simp only [Nat.sub_self, Nat.add_zero] at k
      exact zh_aast6 hx hb hB hK hW hS hdg (zoks_head (zoks_tail (zoks_tail hst))) (zoks_head hst) h2 (zb_len h3) fun H1 locs1 hW1 hS1 => k H1 locs1 hW1 hS1 hls (zoks_tail (zoks_tail (zoks_tail hst))) (by first | rfl | trivial)
    obtain ⟨h2, hq3⟩ := zg_inv hq2
    obtain ⟨h2, h3⟩ := zb_and h2
    cases zb_len h1; cases hq3
    simp only [Nat.sub_self, Nat.add_zero] at k
    exact zh_aast hx hb hB hK hW hS hdg (zoks_head (zoks_tail (zoks_tail hst))) (zoks_head hst) h2 (zb_len h3) fun H1 locs1 hW1 hS1 => k H1 locs1 hW1 hS1 hls (zoks_tail (zoks_tail (zoks_tail hst))) (by first | rfl | trivial)
  | arraylength =>
    obtain ⟨h1, hq1⟩ := zg_inv h0
    obtain ⟨t, x, r, rfl, hq2⟩ := zp1r_inv hq1
    split at hq2
    · rename_i ht
      cases zb_len h1; cases zb_len ht; cases hq2
      simp only [Nat.sub_self, Nat.add_zero] at k
      exact zh_slen hx hb hW hdg fun hz => k H locs hW hS hls (zoks_cons hz (zoks_tail hst)) (by first | rfl | trivial)
    · obtain ⟨h2, hq3⟩ := zg_inv hq2
      cases zb_len h1; cases hq3
      simp only [Nat.sub_self, Nat.add_zero] at k
      exact zh_alen hx hb hK hW hdg (zoks_head hst) h2 fun hz => k H locs hW hS hls (zoks_cons hz (zoks_tail hst)) (by first | rfl | trivial)
  | ldc idx =>
    obtain ⟨h1, hq1⟩ := zg_inv h0
    cases zb_len h1
    cases a with
    | zero =>
      cases hq1
      obtain ⟨v1, v2⟩ := zb_and (show (_ && _) = true from hvl)
      have v1 := of_decide_eq_true v1
      simp only [Nat.sub_self, Nat.add_zero] at k
      exact lv_ldc hx hb hown (hts _ (zT_of (of_decide_eq_true v2) (by first | rfl | trivial))) hdg (k H locs hW hS hls (zoks_cons (by show zri d; unfold zri; omega) hst) (by first | rfl | trivial))
    | succ a =>
      cases hq1
      obtain ⟨v1, v2⟩ := zb_and (show (_ && _) = true from hvl)
      have v1 := zb_len v1
      have v2 := of_decide_eq_true v2
      subst v1
      rw [v2] at hown
      simp only [Nat.sub_self, Nat.add_zero] at k
      exact va_ldcS hx hb hown hstr hdg (k H locs hW hS hls (zoks_cons (Or.inr (Or.inl rfl)) hst) (by first | rfl | trivial))
  | ldc_w idx =>
    obtain ⟨h1, hq1⟩ := zg_inv h0
    cases zb_len h1
    cases a with
    | zero =>
      cases hq1
      obtain ⟨v1, v2⟩ := zb_and (show (_ && _) = true from hvl)
      have v1 := of_decide_eq_true v1
      simp only [Nat.sub_self, Nat.add_zero] at k
      exact lv_ldcw hx hb hown (hts _ (zT_of (of_decide_eq_true v2) (by first | rfl | trivial))) hdg (k H locs hW hS hls (zoks_cons (by show zri d; unfold zri; omega) hst) (by first | rfl | trivial))
    | succ a => cases hq1
  | ldc2_w idx =>
    obtain ⟨h1, hq1⟩ := zg_inv h0
    cases zb_len h1
    cases hq1
    simp only [zvl] at hvl
    obtain ⟨v1, v2⟩ := zb_and hvl
    have v1 := of_decide_eq_true v1
    simp only [Nat.sub_self, Nat.add_zero] at k
    exact lv_ldc2 hx hb hown (hts _ (zT_of (of_decide_eq_true v2) (by first | rfl | trivial))) hdg (k H locs hW hS hls (zoks_cons (by show zrl d; unfold zrl; omega) hst) (by first | rfl | trivial))
  | new idx =>
    obtain ⟨h1, hq1⟩ := zg_inv h0
    obtain ⟨h1, h2⟩ := zb_and h1
    obtain ⟨h2, h3⟩ := zb_and h2
    obtain ⟨h3, h4⟩ := zb_and h3
    cases zb_len h1
    cases hq1
    have h2 := Nat.le_of_ble_eq_true h2
    have h3 := zb_len h3
    have h4 := Nat.le_of_ble_eq_true h4
    simp only [zvl] at hvl
    obtain ⟨v1, hvl⟩ := zb_and hvl
    obtain ⟨v2, hvl⟩ := zb_and hvl
    obtain ⟨v3, v4⟩ := zb_and hvl
    obtain ⟨K0, z1, z2⟩ := hsz (by omega)
    have hz := zss_s (K := σ.1) (by omega)
    rw [h3] at hz
    have e1 : σ.1 + 1 - σ.1 = 1 := by omega
    have e2 : zss (σ.1 + 1) - zss σ.1 = (zKd a).2.1 := by omega
    simp only [e1, e2] at k hroom
    exact zh_new hx hb hts hown hB hK hW hS (by omega) (zin_all a (by omega)) (hts _ (zT_of (of_decide_eq_true v2) rfl)) (hts _ (zT_of (of_decide_eq_true v3) rfl)) (hts _ (zT_of (of_decide_eq_true v4) rfl)) z1 z2 (by omega) h3 hroom.1 hroom.2 hdg fun H1 hW1 hS1 hz => k H1 locs hW1 hS1 (zoks_mono (Nat.le_succ _) hls) (zoks_cons hz (zoks_mono (Nat.le_succ _) hst)) (by first | rfl | trivial)
  | newarray at_ =>
    obtain ⟨h1, hq1⟩ := zg_inv h0
    obtain ⟨n, r, rfl, hq2⟩ := zp1i_inv hq1
    obtain ⟨h2, hq3⟩ := zg_inv hq2
    obtain ⟨h2, h3⟩ := zb_and h2
    obtain ⟨h3, h4⟩ := zb_and h3
    obtain ⟨h4, h5⟩ := zb_and h4
    cases zb_len h1
    cases hq3
    have h2 := Nat.le_of_ble_eq_true h2
    have h3 := zb_len h3
    have h4 := of_decide_eq_true h4
    have h5 := Nat.le_of_ble_eq_true h5
    obtain ⟨v1, -⟩ := zb_and (show (_ && _) = true from hvl)
    have v1 := zb_len v1
    obtain ⟨K0, z1, z2⟩ := hsz (by omega)
    have hz := zss_s (K := σ.1) (by omega)
    have e1 : σ.1 + 1 - σ.1 = 1 := by omega
    have e2 : zss (σ.1 + 1) - zss σ.1 = (zKd (zlay.getD (zvi σ.1) 99)).2.1 := by omega
    simp only [e1, e2] at k hroom
    have hat : at_ = ArrayType.int ∨ at_ = .long ∨ at_ = .byte ∨ at_ = .boolean := by
      rcases z_atype (at_ := at_) (a := a) v1 h5 with z | z | z | z
      · exact Or.inl z.1
      · exact Or.inr (Or.inl z.1)
      · exact Or.inr (Or.inr (Or.inl z.1))
      · exact Or.inr (Or.inr (Or.inr z.1))
    exact zh_newa hx hb hB hK hW hS v1 h5 (hts _ (zT_of (zarr_ok at_ hat) rfl)) z1 z2 (by omega) h3 h4 hroom.1 hroom.2 (zsz _ (by omega)) hdg fun H1 hW1 hS1 hz => k H1 locs hW1 hS1 (zoks_mono (Nat.le_succ _) hls) (zoks_cons hz (zoks_mono (Nat.le_succ _) (zoks_tail hst))) (by first | rfl | trivial)
  | anewarray idx =>
    obtain ⟨h1, hq1⟩ := zg_inv h0
    obtain ⟨n, r, rfl, hq2⟩ := zp1i_inv hq1
    obtain ⟨h2, hq3⟩ := zg_inv hq2
    obtain ⟨h2, h3⟩ := zb_and h2
    obtain ⟨h3, h4⟩ := zb_and h3
    obtain ⟨h4, h5⟩ := zb_and h4
    cases zb_len h1
    cases hq3
    have h2 := Nat.le_of_ble_eq_true h2
    have h3 := ((Bool.or_eq_true _ _).mp h3).imp zb_len zb_len
    have h4 := of_decide_eq_true h4
    have h5 := zb_len h5
    obtain ⟨v1, v2⟩ := zb_and (show (_ && _) = true from hvl)
    obtain ⟨K0, z1, z2⟩ := hsz (by omega)
    have hz := zss_s (K := σ.1) (by omega)
    have e1 : σ.1 + 1 - σ.1 = 1 := by omega
    have e2 : zss (σ.1 + 1) - zss σ.1 = (zKd (zlay.getD (zvi σ.1) 99)).2.1 := by omega
    simp only [e1, e2] at k hroom
    exact zh_newq hx hb hown hB hK hW hS (hts _ (zT_of (of_decide_eq_true v2) rfl)) (hO a (of_decide_eq_true v1)) z1 z2 (by omega) h3 h4 h5 hroom.1 hroom.2 (zsz _ (by omega)) hdg fun H1 hW1 hS1 hz => k H1 locs hW1 hS1 (zoks_mono (Nat.le_succ _) hls) (zoks_cons hz (zoks_mono (Nat.le_succ _) (zoks_tail hst))) (by first | rfl | trivial)
  | invokespecial idx =>
    obtain ⟨h1, hq1⟩ := zg_inv h0
    cases zb_len h1
    simp only [zvl] at hvl
    split at hq1
    · rename_i ha
      rw [ha] at hvl
      obtain ⟨t, x, r, rfl, hq2⟩ := zp1r_inv hq1
      obtain ⟨h2, hq3⟩ := zg_inv hq2
      have h2 := Nat.le_of_ble_eq_true h2
      cases hq3
      obtain ⟨v1, hvl⟩ := zb_and hvl
      obtain ⟨v2, v3⟩ := zb_and hvl
      have v2 := Nat.le_of_ble_eq_true v2
      have v3 := Nat.le_of_ble_eq_true v3
      simp only [Nat.sub_self, Nat.add_zero] at k
      obtain ⟨y, hy⟩ : ∃ y, zv B (zR t x) = .ref y := by unfold zv; dsimp only; split; exact ⟨_, rfl⟩; split <;> exact ⟨_, rfl⟩
      rw [List.map_cons, hy]
      refine W.objInit hx hb hown (hts _ (zT_of (of_decide_eq_true v1) rfl)) (hts _ zobj_i) (hts _ zobj_c) rfl (by show arr.size = _; rw [hml]; exact hlv.2.1) rfl hdg (by omega) ?_ (k H locs hW hS hls (zoks_tail hst) (by first | rfl | trivial))
      have := lv_room (m := m) (pc := pc) (ls := arr) (rest := st'.map (zv B)) (st := st'.map (zv B)) (by
        rw [List.map_map]
        have e : ((fun v => v.category) ∘ zv B) = zcat := by funext v; exact zv_cat B v
        rw [e]; exact h2)
      have h9 : 2 * (F0 m pc arr (Value.ref y :: st'.map (zv B))).monitorRoom = 2 * (F0 m pc arr (st'.map (zv B))).monitorRoom := rfl
      omega
    · obtain ⟨-, hq5⟩ := zg_inv hq1
      obtain ⟨t, x, r, -, hq6⟩ := zp1r_inv hq5
      obtain ⟨-, hq7⟩ := zg_inv hq6
      cases hq7
  | ireturn =>
    obtain ⟨-, hq1⟩ := zg_inv h0
    obtain ⟨x, r, rfl, hq2⟩ := zp1i_inv hq1
    obtain ⟨-, hq3⟩ := zg_inv hq2
    cases hq3
  | areturn =>
    obtain ⟨-, hq1⟩ := zg_inv h0
    obtain ⟨t, x, r, rfl, hq2⟩ := zp1r_inv hq1
    obtain ⟨-, hq3⟩ := zg_inv hq2
    cases hq3
  | lreturn =>
    obtain ⟨-, hq1⟩ := zg_inv h0
    obtain ⟨x, r, rfl, hq2⟩ := zp1l_inv hq1
    obtain ⟨-, hq3⟩ := zg_inv hq2
    cases hq3
  | return_ =>
    obtain ⟨-, hq1⟩ := zg_inv h0
    cases hq1
  | invokevirtual idx =>
    obtain ⟨-, hq1⟩ := zg_inv h0
    obtain ⟨-, hq5⟩ := zg_inv hq1
    obtain ⟨t, x, r, -, hq6⟩ := zp1r_inv hq5
    obtain ⟨-, hq7⟩ := zg_inv hq6
    cases hq7
  | invokestatic idx =>
    obtain ⟨-, hq1⟩ := zg_inv h0
    obtain ⟨-, hq5⟩ := zg_inv hq1
    cases hq5
  | _ => cases h0
end ZNX
