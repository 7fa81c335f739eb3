def zty (a : Nat) : Nat → FieldType := match a with
  | 0 => tyX0 | 1 => tyX1 | 2 => tyX2 | 3 => tyX3 | 4 => tyX4 | 5 => tyX5 | 6 => tyX6 | 7 => tyX7 | 8 => tyX8 | 9 => tyX9 | _ => tyX10
def ztyok (c : Nat) (ty : FieldType) : Bool := match c, ty with
  | 6, .int => true | 0, .int => true | 3, .boolean => true | 2, .object _ => true | 2, .array _ => true | 5, .object _ => true | _, _ => false
theorem zcs_get : ∀ a, a < 11 → vwCl[a]? = some (zcs a) := by
  intro a h
  match a, h with
  | 0, _ => rfl | 1, _ => rfl | 2, _ => rfl | 3, _ => rfl | 4, _ => rfl | 5, _ => rfl | 6, _ => rfl | 7, _ => rfl | 8, _ => rfl | 9, _ => rfl | 10, _ => rfl
theorem zcs_ty : ∀ a, a < 11 → ∀ k, k < (zcs a).2.2 → parseFieldDescriptor ((zcs a).2.1 k).2.2.1 = some (zty a k) := by
  intro a h
  match a, h with
  | 0, _ => exact tyX0_ok | 1, _ => exact tyX1_ok | 2, _ => exact tyX2_ok | 3, _ => exact tyX3_ok | 4, _ => exact tyX4_ok | 5, _ => exact tyX5_ok | 6, _ => exact tyX6_ok | 7, _ => exact tyX7_ok | 8, _ => exact tyX8_ok | 9, _ => exact tyX9_ok | 10, _ => exact tyX10_ok
theorem zcs_nm : ∀ a, a < 11 → ∀ i, i < (zcs a).2.2 → ∀ j, j < (zcs a).2.2 → i ≠ j → ((zcs a).2.1 i).2.1 ≠ ((zcs a).2.1 j).2.1 := by
  intro a h
  match a, h with
  | 0, _ => exact nmX0 | 1, _ => exact nmX1 | 2, _ => exact nmX2 | 3, _ => exact nmX3 | 4, _ => exact nmX4 | 5, _ => exact nmX5 | 6, _ => exact nmX6 | 7, _ => exact nmX7 | 8, _ => exact nmX8 | 9, _ => exact nmX9 | 10, _ => exact nmX10
theorem zcs_n : ∀ a, a < 11 → zKd a = (0, (zcs a).2.2, a) := by
  intro a h
  match a, h with
  | 0, _ => rfl | 1, _ => rfl | 2, _ => rfl | 3, _ => rfl | 4, _ => rfl | 5, _ => rfl | 6, _ => rfl | 7, _ => rfl | 8, _ => rfl | 9, _ => rfl | 10, _ => rfl
theorem zcs_ok : ∀ a, a < 11 → ∀ k, k < (zKd a).2.1 → ztyok (zsk a k).1 (zty a k) = true := by decide +kernel
section ZFD
variable {p : Program} {l : Launch} {e : Env} {R : Room} {s : State} {m : MethodId} {args : Array Value} {below : List Frame} {meth : Method} {c : Code} {H : Heap} {locs : List Loc} {cells slots : Nat} {Q : State → Prop}
variable {B : zB} {cA : Nat → ClassId} {D : va_G} {L : Nat} {xs : Nat → Int32} {σ : zS} {cc : ByteArray} {pc : Nat} {arr : Array Slot} {rest : List Value}
theorem zrv_zv {B : zB} {e : Nat} {y : Int} (he : e < 37) (h : 0 ≤ y) : zrv B y = zv B (zR e y) := by
  unfold zrv
  rw [if_neg (by omega), show y = (y.toNat : Int) from (z_int_nat h).symm, zv_ref he, Int.toNat_natCast]
theorem zrm_zv {B : zB} {e : Nat} {y : Int} (he : e < 37) (h : 0 ≤ y) : zrm5 B e y = zv B (zR e (zdec e y)) := by
  unfold zrm5
  have h2 := zdec_pos (e := e) h
  rw [if_neg (by omega), show zdec e y = ((zdec e y).toNat : Int) from (z_int_nat h2).symm, zv_ref he, Int.toNat_natCast]
theorem zsk_e : ∀ a, a < 11 → ∀ j, j < (zKd a).2.1 → (zsk a j).2 < 37 := by decide +kernel
theorem zh_get (hx : p.tables.exec = Jvm.exec) (hb : c.code = cc) {Ts : List Cond} (hts : ∀ w ∈ Ts, w.before args s = true) {own : String} (hown : s.vm.findClass own = some m.cls) (hK : va_K D vwCl (ztys cA) s) (hW : zWd B cA D L xs s H σ) {idx a b cs ee : Nat} (ha : a < 11) (hin : ∀ w ∈ u_ws (zcs a).1 (zcs a).2.1 (zcs a).2.2, w ∈ Ts) (hbn : b < (zKd a).2.1) (hsk : zsk a b = (cs, ee))
    (hlink : (Cond.fieldLink own idx ((zcs a).2.1 b).1 ((zcs a).2.1 b).2.1 ((zcs a).2.1 b).2.2.1).before args s = true) (hdg : decode cc pc = .ok (.getfield idx, 3)) {x : Int} {v : zV} (hr : zok σ.1 (zR a x)) (hv : zget cs ee (σ.2.1 x b) (σ.2.2 x b) = some v)
    (k : zok σ.1 v → W p l e R s m args below meth c H locs cells slots Q (F0 m (pc + 3) arr (zv B v :: rest))) : W p l e R s m args below meth c H locs cells slots Q (F0 m pc arr (zv B (zR a x) :: rest)) := by
  obtain ⟨X, rfl, hX, hl⟩ := zok_ref hW.2.2.1 hr (by omega)
  have h0 : (zKd (zlay.getD X 99)).1 = 0 := by rw [hl]; exact zcls0 a ha
  have hN : (zKd a).2.1 = (zcs a).2.2 := by rw [zcs_n a ha]
  have hs := hW.2.1 X hX b (by rw [hl]; exact hbn)
  rw [hl, hsk] at hs
  have he36 := zsk_e a ha b hbn
  rw [hsk] at he36
  rw [zv_ref (by omega)]
  have key : zsv B (cs, ee) (σ.2.1 X b) (σ.2.2 X b) = zv B v ∧ zok σ.1 v := by
    unfold zget at hv
    split at hv
    · cases hv; exact ⟨rfl, hs⟩
    · cases hv
      refine ⟨rfl, ?_⟩
      have hs : 0 ≤ σ.2.2 X b ∧ σ.2.2 X b ≤ 1 := hs
      show zri _
      unfold zri; omega
    · obtain ⟨q1, q2⟩ := zg_inv hv
      cases q2
      have q1 := of_decide_eq_true q1
      refine ⟨zrv_zv he36 q1, ?_⟩
      rcases (show zrok σ.1 ee (σ.2.1 X b) from hs) with q | q
      · omega
      · exact Or.inr (Or.inr q)
    · obtain ⟨q1, q2⟩ := zg_inv hv
      cases q2
      have q1 := of_decide_eq_true q1
      refine ⟨zrm_zv he36 q1, ?_⟩
      rcases (show zmok σ.1 ee (σ.2.2 X b) from hs) with q | q
      · omega
      · exact Or.inr (Or.inr ⟨zdec_pos q.1, q.2⟩)
    · cases hv; exact ⟨rfl, hs⟩
    · cases hv
  refine va_get hx hb hts hin hown hK hW.1 (zrho X) ((zws_get hX).trans (by rw [zen_0 h0])) (by rw [hl]; exact zcs_get a ha) b (by omega) hlink (fun _ h => h) (v := zv B v) ?_ hdg (k key.2)
  rw [List.getElem?_map, List.getElem?_range (by rw [hl]; exact hbn)]
  simp only [Option.map_some, hl, hsk]
  rw [key.1]
theorem z_nf {ty : FieldType} {cs : Nat} {B : zB} {v : zV} {K ee : Nat} {f g : zM} {x j : Int} {q : zM × zM} (he : ee < 37) (hK : K ≤ 147) (ht : ztyok cs ty = true) (h : zput cs ee v f g x j = some q) (hv : zok K v) (hee : cs = 2 ∨ cs = 5 → True) :
    narrow ty (zv B v) = zv B v ∧ fits ty (zv B v) = true ∧ zsv B (cs, ee) (q.1 x j) (q.2 x j) = zv B v ∧ zsok K (cs, ee) (q.1 x j) (q.2 x j) ∧ ((q.1 = f ∧ ∃ y, q.2 = zup g x j y) ∨ (q.2 = g ∧ ∃ y, q.1 = zup f x j y)) := by
  unfold zput at h
  split at h
  · obtain ⟨y, r, e1, h⟩ := zp1i_inv h
    cases (List.cons.inj e1).1
    cases h
    have : ty = .int := by cases ty <;> first | rfl | cases ht
    subst this
    exact ⟨vp_nar_int _, rfl, by simp [zsv, zup_s]; rfl, by show zri (zup g x j y x j); rw [zup_s]; exact hv, Or.inl ⟨rfl, _, rfl⟩⟩
  · obtain ⟨y, r, e1, h⟩ := zp1i_inv h
    cases (List.cons.inj e1).1
    obtain ⟨h1, h⟩ := zg_inv h
    cases h
    obtain ⟨h1, h2⟩ := zb_and h1
    have h1 := of_decide_eq_true h1
    have h2 := of_decide_eq_true h2
    have : ty = .boolean := by cases ty <;> first | rfl | cases ht
    subst this
    refine ⟨?_, ?_, by simp [zsv, zup_s]; rfl, by show 0 ≤ zup _ _ _ _ _ _ ∧ zup _ _ _ _ _ _ ≤ 1; rw [zup_s]; exact ⟨h1, h2⟩, Or.inl ⟨rfl, _, rfl⟩⟩
    · rcases (show y = 0 ∨ y = 1 by omega) with rfl | rfl <;> rfl
    · rcases (show y = 0 ∨ y = 1 by omega) with rfl | rfl <;> rfl
  · obtain ⟨t, y, r, e1, h⟩ := zp1r_inv h
    cases (List.cons.inj e1).1
    obtain ⟨h1, h⟩ := zg_inv h
    cases h
    cases zb_len h1
    have hz := zok_e hv he
    have h0 : 0 ≤ y := by rcases hv with q | q | q; omega; omega; exact q.1
    have hy : ∃ Y : Nat, zv B (zR ee y) = .ref Y := ⟨_, by rw [show y = (y.toNat : Int) from (z_int_nat h0).symm, zv_ref he]⟩
    refine ⟨?_, ?_, by simp only [zsv, zup_s]; exact zrv_zv he h0, by show zrok K ee (zup f x j y x j); rw [zup_s]; exact hz, Or.inr ⟨rfl, _, rfl⟩⟩
    · obtain ⟨Y, hY⟩ := hy
      rw [hY]
      cases ty <;> first | rfl | cases ht
    · obtain ⟨Y, hY⟩ := hy
      rw [hY]
      cases ty <;> first | rfl | cases ht
  · obtain ⟨t, y, r, e1, h⟩ := zp1r_inv h
    cases (List.cons.inj e1).1
    obtain ⟨h1, h⟩ := zg_inv h
    cases h
    cases zb_len h1
    have hz := zok_e hv he
    have h0 : 0 ≤ y := by rcases hv with q | q | q; omega; omega; exact q.1
    have hy : ∃ Y : Nat, zv B (zR ee y) = .ref Y := ⟨_, by rw [show y = (y.toNat : Int) from (z_int_nat h0).symm, zv_ref he]⟩
    obtain ⟨Y, eY, hY1, hY2⟩ := zok_ref hK hv he
    have hY8 : Y < 148 := zrho_lt (Nat.lt_of_lt_of_le hY1 (Nat.le_trans hK (by decide)))
    obtain ⟨d1, d2⟩ := zed hY8 hY2
    rw [← eY] at d1 d2
    refine ⟨?_, ?_, by simp only [zsv, zup_s]; rw [zrm_zv he d2, d1], by show zmok K ee (zup g x j (zenc ee y) x j); rw [zup_s]; exact Or.inr ⟨d2, by rw [d1, eY, Int.toNat_natCast]; exact ⟨hY1, hY2⟩⟩, Or.inl ⟨rfl, _, rfl⟩⟩
    · obtain ⟨Y, hY⟩ := hy
      rw [hY]
      cases ty <;> first | rfl | cases ht
    · obtain ⟨Y, hY⟩ := hy
      rw [hY]
      cases ty <;> first | rfl | cases ht
  · obtain ⟨y, r, e1, h⟩ := zp1i_inv h
    cases (List.cons.inj e1).1
    cases h
    have : ty = .int := by cases ty <;> first | rfl | cases ht
    subst this
    exact ⟨vp_nar_int _, rfl, by simp [zsv, zup_s]; rfl, by show zri (zup f x j y x j); rw [zup_s]; exact hv, Or.inr ⟨rfl, _, rfl⟩⟩
  · cases h
theorem zh_put (hx : p.tables.exec = Jvm.exec) (hb : c.code = cc) {Ts : List Cond} (hts : ∀ w ∈ Ts, w.before args s = true) {own : String} (hown : s.vm.findClass own = some m.cls) (hB : B.1 ≤ s.heap.size) (hK : va_K D vwCl (ztys cA) s) (hW : zWd B cA D L xs s H σ) (hS : va_S (zA B) s.heap H locs) {idx a b cs ee : Nat} (ha : a < 11) (hin : ∀ w ∈ u_ws (zcs a).1 (zcs a).2.1 (zcs a).2.2, w ∈ Ts) (hbn : b < (zKd a).2.1) (hsk : zsk a b = (cs, ee))
    (hlink : (Cond.fieldLink own idx ((zcs a).2.1 b).1 ((zcs a).2.1 b).2.1 ((zcs a).2.1 b).2.2.1).before args s = true) (hfin : ((zcs a).2.1 b).2.2.2 = false ∨ (((zcs a).2.1 b).2.2.2 = true ∧ meth.name = "<init>" ∧ ((zcs a).2.1 b).1 = own)) (hdg : decode cc pc = .ok (.putfield idx, 3)) {x : Int} {v : zV} {q : zM × zM} (hr : zok σ.1 (zR a x)) (hvk : zok σ.1 v) (hv : zput cs ee v σ.2.1 σ.2.2 x b = some q)
    (k : ∀ H1 locs1, zWd B cA D L xs s H1 (σ.1, q) → va_S (zA B) s.heap H1 locs1 → W p l e R s m args below meth c H1 locs1 cells slots Q (F0 m (pc + 3) arr rest)) : W p l e R s m args below meth c H locs cells slots Q (F0 m pc arr (zv B v :: zv B (zR a x) :: rest)) := by
  obtain ⟨X, rfl, hX, hl⟩ := zok_ref hW.2.2.1 hr (by omega)
  have h0 : (zKd (zlay.getD X 99)).1 = 0 := by rw [hl]; exact zcls0 a ha
  have hN : (zKd a).2.1 = (zcs a).2.2 := by rw [zcs_n a ha]
  have hok := zcs_ok a ha b hbn
  rw [hsk] at hok
  have he36 := zsk_e a ha b hbn
  rw [hsk] at he36
  obtain ⟨n1, n2, n3, n4, n5⟩ := z_nf (B := B) he36 hW.2.2.1 hok hv hvk (fun _ => trivial)
  rw [zv_ref (by omega)]
  have fin : ∀ (H1 : Heap) (locs1 : List Loc), va_P D vwCl ((zws B cA σ).set (zrho X) (B.1 + zrho X, .inr (zlay.getD X 99, ((List.range (zKd (zlay.getD X 99)).2.1).map fun j => zsv B (zsk (zlay.getD X 99) j) (σ.2.1 X j) (σ.2.2 X j)).set b (zv B v)))) H1 → va_S (zA B) s.heap H1 locs1 → W p l e R s m args below meth c H1 locs1 cells slots Q (F0 m (pc + 3) arr rest) := by
    intro H1 locs1 hP hS1
    refine k H1 locs1 ?_ hS1
    have hf : ∃ y, (q.1 = σ.2.1 ∨ q.1 = zup σ.2.1 X b y) ∧ (q.2 = σ.2.2 ∨ q.2 = zup σ.2.2 X b y) := by
      rcases n5 with ⟨e1, y, e2⟩ | ⟨e1, y, e2⟩
      · exact ⟨y, Or.inl e1, Or.inr e2⟩
      · exact ⟨y, Or.inr e2, Or.inl e1⟩
    obtain ⟨y, hf, hg⟩ := hf
    refine zWd_up (j := b) (v := y) hB hS hS1 hW hf hg hP ?_ (fun _ _ => by rw [hl, hsk]; exact n4)
    rw [zen_0 h0]
    congr 2
    apply List.ext_getElem?
    intro j
    rw [List.getElem?_set]
    by_cases hj : j < (zKd (zlay.getD X 99)).2.1
    · simp only [List.getElem?_map, List.getElem?_range hj, Option.map_some, List.length_map, List.length_range]
      by_cases hq : b = j
      · subst hq
        rw [if_pos rfl, if_pos hj, hl, hsk, n3]
      · rw [if_neg hq]
        have d : ∀ (f g : zM), (f = g ∨ f = zup g X b y) → f X j = g X j := by
          intro f g h
          rcases h with rfl | rfl
          · rfl
          · unfold zup
            rw [if_neg (fun z => hq (by omega))]
        rw [d q.1 σ.2.1 hf, d q.2 σ.2.2 hg]
    · have hbj : b ≠ j := by rw [hl] at hj; omega
      rw [if_neg hbj, List.getElem?_eq_none (by simp only [List.length_map, List.length_range]; omega), List.getElem?_eq_none (by simp only [List.length_map, List.length_range]; omega)]
  rcases hfin with hf | ⟨hf, hin2, hdecl⟩
  · exact va_put hx hb hts hin (zty a) (zcs_ty a ha) (zcs_nm a ha) hown hK hW.1 (zws_D B cA σ) hS (zrho X) ((zws_get hX).trans (by rw [zen_0 h0])) (by rw [hl]; exact zcs_get a ha) b (by omega) hlink (fun _ h => h) hf (zcs_ty a ha b (by omega)) n1 n2 (by simp only [List.length_map, List.length_range]; rw [hl]; exact hbn) hdg (fun H1 locs1 hP _ hS1 => fin H1 locs1 hP hS1)
  · exact va_putF hx hb hts hin (zty a) (zcs_ty a ha) (zcs_nm a ha) hown hK hW.1 (zws_D B cA σ) hS (zrho X) ((zws_get hX).trans (by rw [zen_0 h0])) (by rw [hl]; exact zcs_get a ha) b (by omega) hlink (fun _ h => h) hf hin2 hdecl (zcs_ty a ha b (by omega)) n1 n2 (by simp only [List.length_map, List.length_range]; rw [hl]; exact hbn) hdg (fun H1 locs1 hP _ hS1 => fin H1 locs1 hP hS1)
end ZFD
