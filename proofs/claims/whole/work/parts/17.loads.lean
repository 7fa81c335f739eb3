section ZLD
variable {p : Program} {l : Launch} {e : Env} {R : Room} {s : State} {m : MethodId} {args : Array Value} {below : List Frame} {meth : Method} {c : Code} {H : Heap} {locs : List Loc} {cells slots : Nat} {Q : State → Prop}
variable {B : zB} {cA : Nat → ClassId} {D : va_G} {L : Nat} {xs : Nat → Int32} {σ : zS} {cc : ByteArray} {pc : Nat} {arr : Array Slot} {rest : List Value}
theorem zix_inv {k t : Nat} {i : Int} (h : zix k t i = true) : (zKd t).1 = k ∧ 0 ≤ i ∧ i < ((zKd t).2.1 : Int) := by
  unfold zix at h
  simp only [Bool.and_eq_true, decide_eq_true_eq] at h
  exact ⟨Nat.eq_of_beq_eq_true h.1, h.2.1, h.2.2⟩
theorem zix_t {k t : Nat} {i : Int} (h : zix k t i = true) (hk : k ≤ 6) : t < 37 := by
  have h1 := (zix_inv h).1
  rcases Nat.lt_or_ge t 37 with q | q
  · exact q
  · exfalso
    unfold zKd at h1
    rw [List.getD_eq_getElem?_getD, List.getElem?_eq_none (by show 37 ≤ t; exact q)] at h1
    dsimp at h1
    omega
theorem zKd_eta (t : Nat) : zKd t = ((zKd t).1, (zKd t).2.1, (zKd t).2.2) := rfl
theorem zen_1 {X : Nat} (h : (zKd (zlay.getD X 99)).1 = 1) : zen B cA σ X = .inl (cA 1, (zKd (zlay.getD X 99)).2.1, .inl fun j => Int32.ofInt (σ.2.2 X j)) := by
  unfold zen; rw [zKd_eta, h]; rfl
theorem zen_2 {X : Nat} (h : (zKd (zlay.getD X 99)).1 = 2) : zen B cA σ X = .inl (cA 2, (zKd (zlay.getD X 99)).2.1, .inr (.inl fun j => Int64.ofInt (σ.2.2 X j))) := by
  unfold zen; rw [zKd_eta, h]; rfl
theorem zen_3 {X : Nat} (h : (zKd (zlay.getD X 99)).1 = 3) : zen B cA σ X = .inl (cA 3, (zKd (zlay.getD X 99)).2.1, .inl fun j => Int32.ofInt (σ.2.2 X j)) := by
  unfold zen; rw [zKd_eta, h]; rfl
theorem zen_4 {X : Nat} (h : (zKd (zlay.getD X 99)).1 = 4) : zen B cA σ X = .inl (cA 4, (zKd (zlay.getD X 99)).2.1, .inl fun j => Int32.ofInt (σ.2.2 X j)) := by
  unfold zen; rw [zKd_eta, h]; rfl
theorem zen_5 {X : Nat} (h : (zKd (zlay.getD X 99)).1 = 5) : zen B cA σ X = .inl (cA (10 + (zKd (zlay.getD X 99)).2.2), (zKd (zlay.getD X 99)).2.1, .inr (.inr (.inr (.inr fun j => if σ.2.1 X j < 0 then none else some (B.1 + zrho (σ.2.1 X j).toNat))))) := by
  unfold zen; rw [zKd_eta, h]; rfl
theorem zen_6 {X : Nat} (h : (zKd (zlay.getD X 99)).1 = 6) : zen B cA σ X = .inl (cA (10 + (zKd (zlay.getD X 99)).2.2), (zKd (zlay.getD X 99)).2.1, .inr (.inr (.inr (.inr fun j => if σ.2.2 X j < 0 then none else some (B.1 + zrho (zdec (zKd (zlay.getD X 99)).2.2 (σ.2.2 X j)).toNat))))) := by
  unfold zen; rw [zKd_eta, h]; rfl
theorem zen_0 {X : Nat} (h : (zKd (zlay.getD X 99)).1 = 0) : zen B cA σ X = .inr (zlay.getD X 99, (List.range (zKd (zlay.getD X 99)).2.1).map fun j => zsv B (zsk (zlay.getD X 99) j) (σ.2.1 X j) (σ.2.2 X j)) := by
  unfold zen; rw [zKd_eta, h]; rfl
theorem zty5 : ∀ t, t < 37 → ((zKd t).1 = 5 ∨ (zKd t).1 = 6) → (zKd t).2.2 = 7 ∨ (zKd t).2.2 = 1 ∨ (zKd t).2.2 = 2 := by decide +kernel
theorem zty5_at (cA : Nat → ClassId) {t : Nat} (h : t < 37) (h5 : (zKd t).1 = 5 ∨ (zKd t).1 = 6) : ∃ (t0 : Nat) (r : vw_C), vwCl[(zKd t).2.2]? = some r ∧ (ztys cA)[t0]? = some (cA (10 + (zKd t).2.2), .object r.1) := by
  rcases zty5 t h h5 with q | q | q <;> rw [q]
  · exact ⟨4, _, rfl, rfl⟩
  · exact ⟨5, _, rfl, rfl⟩
  · exact ⟨6, _, rfl, rfl⟩
theorem z_int_nat {i : Int} (h : 0 ≤ i) : ((i.toNat : Nat) : Int) = i := Int.toNat_of_nonneg h
theorem zh_iald (hx : p.tables.exec = Jvm.exec) (hb : c.code = cc) (hK : va_K D vwCl (ztys cA) s) (hW : zWd B cA D L xs s H σ) (hdg : decode cc pc = .ok (.iaload, 1)) {t : Nat} {x i : Int} (hr : zok σ.1 (zR t x)) (hi : zix 1 t i = true)
    (k : zok σ.1 (zI (σ.2.2 x i)) → W p l e R s m args below meth c H locs cells slots Q (F0 m (pc + 1) arr (zv B (zI (σ.2.2 x i)) :: rest))) : W p l e R s m args below meth c H locs cells slots Q (F0 m pc arr (zv B (zI i) :: zv B (zR t x) :: rest)) := by
  have ht := zix_t hi (by omega)
  obtain ⟨h1, h2, h3⟩ := zix_inv hi
  obtain ⟨X, rfl, hX, hl⟩ := zok_ref hW.2.2.1 hr ht
  subst hl
  have hn := (zkd_ok _ ht).2.1
  rw [zv_ref ht]
  refine va_iald hx hb hK hW.1 (zrho X) 0 ((zws_get hX).trans (by rw [zen_1 h1])) rfl (zvp_in h2 h3 hn) hdg ?_
  rw [zcl h2 (by omega), z_int_nat h2]
  refine k ?_
  have := hW.2.1 X hX i.toNat (by omega)
  rw [z_int_nat h2] at this
  unfold zsk zsok at this
  rw [h1] at this
  exact this
theorem zh_bald (hx : p.tables.exec = Jvm.exec) (hb : c.code = cc) (hK : va_K D vwCl (ztys cA) s) (hW : zWd B cA D L xs s H σ) (hdg : decode cc pc = .ok (.baload, 1)) {t : Nat} {x i : Int} (hr : zok σ.1 (zR t x)) (hi : (zix 3 t i || zix 4 t i) = true)
    (k : zok σ.1 (zI (σ.2.2 x i)) → W p l e R s m args below meth c H locs cells slots Q (F0 m (pc + 1) arr (zv B (zI (σ.2.2 x i)) :: rest))) : W p l e R s m args below meth c H locs cells slots Q (F0 m pc arr (zv B (zI i) :: zv B (zR t x) :: rest)) := by
  rcases (Bool.or_eq_true _ _).mp hi with hi | hi
  · have ht := zix_t hi (by omega)
    obtain ⟨h1, h2, h3⟩ := zix_inv hi
    obtain ⟨X, rfl, hX, hl⟩ := zok_ref hW.2.2.1 hr ht
    subst hl
    have hn := (zkd_ok _ ht).2.1
    rw [zv_ref ht]
    refine va_bald hx hb hK hW.1 (zrho X) 2 ((zws_get hX).trans (by rw [zen_3 h1])) rfl (zvp_in h2 h3 hn) hdg ?_
    rw [zcl h2 (by omega), z_int_nat h2]
    refine k ?_
    have := hW.2.1 X hX i.toNat (by omega)
    rw [z_int_nat h2] at this
    unfold zsk zsok at this
    rw [h1] at this
    have this : -128 ≤ σ.2.2 X i ∧ σ.2.2 X i < 128 := this
    show zri _
    unfold zri
    omega
  · have ht := zix_t hi (by omega)
    obtain ⟨h1, h2, h3⟩ := zix_inv hi
    obtain ⟨X, rfl, hX, hl⟩ := zok_ref hW.2.2.1 hr ht
    subst hl
    have hn := (zkd_ok _ ht).2.1
    rw [zv_ref ht]
    refine va_zald hx hb hK hW.1 (zrho X) 3 ((zws_get hX).trans (by rw [zen_4 h1])) rfl (zvp_in h2 h3 hn) hdg ?_
    rw [zcl h2 (by omega), z_int_nat h2]
    refine k ?_
    have := hW.2.1 X hX i.toNat (by omega)
    rw [z_int_nat h2] at this
    unfold zsk zsok at this
    rw [h1] at this
    have this : 0 ≤ σ.2.2 X i ∧ σ.2.2 X i ≤ 1 := this
    show zri _
    unfold zri
    omega
theorem zh_lald (hx : p.tables.exec = Jvm.exec) (hb : c.code = cc) (hK : va_K D vwCl (ztys cA) s) (hW : zWd B cA D L xs s H σ) (hdg : decode cc pc = .ok (.laload, 1)) {t : Nat} {x i : Int} (hr : zok σ.1 (zR t x)) (hi : zix 2 t i = true)
    (k : zok σ.1 (zL (σ.2.2 x i)) → W p l e R s m args below meth c H locs cells slots Q (F0 m (pc + 1) arr (zv B (zL (σ.2.2 x i)) :: rest))) : W p l e R s m args below meth c H locs cells slots Q (F0 m pc arr (zv B (zI i) :: zv B (zR t x) :: rest)) := by
  have ht := zix_t hi (by omega)
  obtain ⟨h1, h2, h3⟩ := zix_inv hi
  obtain ⟨X, rfl, hX, hl⟩ := zok_ref hW.2.2.1 hr ht
  subst hl
  have hn := (zkd_ok _ ht).2.1
  rw [zv_ref ht]
  refine va_lald hx hb hK hW.1 (zrho X) 1 ((zws_get hX).trans (by rw [zen_2 h1])) rfl (zvp_in h2 h3 hn) hdg ?_
  rw [zcl h2 (by omega), z_int_nat h2]
  refine k ?_
  have := hW.2.1 X hX i.toNat (by omega)
  rw [z_int_nat h2] at this
  unfold zsk zsok at this
  rw [h1] at this
  exact this
theorem zh_aald (hx : p.tables.exec = Jvm.exec) (hb : c.code = cc) (hK : va_K D vwCl (ztys cA) s) (hW : zWd B cA D L xs s H σ) (hdg : decode cc pc = .ok (.aaload, 1)) {t : Nat} {x i : Int} (hr : zok σ.1 (zR t x)) (hi : zix 5 t i = true) (h0 : 0 ≤ σ.2.1 x i)
    (k : zok σ.1 (zR (zKd t).2.2 (σ.2.1 x i)) → W p l e R s m args below meth c H locs cells slots Q (F0 m (pc + 1) arr (zv B (zR (zKd t).2.2 (σ.2.1 x i)) :: rest))) : W p l e R s m args below meth c H locs cells slots Q (F0 m pc arr (zv B (zI i) :: zv B (zR t x) :: rest)) := by
  have ht := zix_t hi (by omega)
  obtain ⟨h1, h2, h3⟩ := zix_inv hi
  obtain ⟨X, rfl, hX, hl⟩ := zok_ref hW.2.2.1 hr ht
  subst hl
  have hn := (zkd_ok _ ht).2.1
  rw [zv_ref ht]
  obtain ⟨t0, r, hr1, hr2⟩ := zty5_at cA ht (Or.inl h1)
  refine va_aldq hx hb hK hW.1 (zrho X) t0 ((zws_get hX).trans (by rw [zen_5 h1])) hr2 (zvp_in h2 h3 hn) hdg ?_
  rw [zcl h2 (by omega), z_int_nat h2, if_neg (by omega)]
  have := hW.2.1 X hX i.toNat (by omega)
  rw [z_int_nat h2] at this
  unfold zsk zsok at this
  rw [h1] at this
  have h7 : (zKd (zlay.getD X 99)).2.2 < 37 := by rcases zty5 _ ht (Or.inl h1) with q | q | q <;> omega
  have hz : zok σ.1 (zR (zKd (zlay.getD X 99)).2.2 (σ.2.1 X i)) := by
    rcases this with q | q
    · omega
    · exact Or.inr (Or.inr q)
  have k2 := k hz
  rw [show σ.2.1 X i = ((σ.2.1 X i).toNat : Int) from (z_int_nat h0).symm, zv_ref h7] at k2
  exact k2
theorem zh_aald6 (hx : p.tables.exec = Jvm.exec) (hb : c.code = cc) (hK : va_K D vwCl (ztys cA) s) (hW : zWd B cA D L xs s H σ) (hdg : decode cc pc = .ok (.aaload, 1)) {t : Nat} {x i : Int} (hr : zok σ.1 (zR t x)) (hi : zix 6 t i = true) (h0 : 0 ≤ σ.2.2 x i)
    (k : zok σ.1 (zR (zKd t).2.2 (zdec (zKd t).2.2 (σ.2.2 x i))) → W p l e R s m args below meth c H locs cells slots Q (F0 m (pc + 1) arr (zv B (zR (zKd t).2.2 (zdec (zKd t).2.2 (σ.2.2 x i))) :: rest))) : W p l e R s m args below meth c H locs cells slots Q (F0 m pc arr (zv B (zI i) :: zv B (zR t x) :: rest)) := by
  have ht := zix_t hi (by omega)
  obtain ⟨h1, h2, h3⟩ := zix_inv hi
  obtain ⟨X, rfl, hX, hl⟩ := zok_ref hW.2.2.1 hr ht
  subst hl
  have hn := (zkd_ok _ ht).2.1
  rw [zv_ref ht]
  obtain ⟨t0, r, hr1, hr2⟩ := zty5_at cA ht (Or.inr h1)
  refine va_aldq hx hb hK hW.1 (zrho X) t0 ((zws_get hX).trans (by rw [zen_6 h1])) hr2 (zvp_in h2 h3 hn) hdg ?_
  rw [zcl h2 (by omega), z_int_nat h2, if_neg (by omega)]
  have := hW.2.1 X hX i.toNat (by omega)
  rw [z_int_nat h2] at this
  unfold zsk zsok at this
  rw [h1] at this
  have h7 : (zKd (zlay.getD X 99)).2.2 < 37 := by rcases zty5 _ ht (Or.inr h1) with q | q | q <;> omega
  have hz : zok σ.1 (zR (zKd (zlay.getD X 99)).2.2 (zdec (zKd (zlay.getD X 99)).2.2 (σ.2.2 X i))) := by
    rcases this with q | q
    · omega
    · exact Or.inr (Or.inr ⟨zdec_pos q.1, q.2⟩)
  have k2 := k hz
  rw [show zdec (zKd (zlay.getD X 99)).2.2 (σ.2.2 X i) = ((zdec (zKd (zlay.getD X 99)).2.2 (σ.2.2 X i)).toNat : Int) from (z_int_nat (zdec_pos h0)).symm, zv_ref h7] at k2
  exact k2
theorem zh_alen (hx : p.tables.exec = Jvm.exec) (hb : c.code = cc) (hK : va_K D vwCl (ztys cA) s) (hW : zWd B cA D L xs s H σ) (hdg : decode cc pc = .ok (.arraylength, 1)) {t : Nat} {x : Int} (hr : zok σ.1 (zR t x)) (hi : (Nat.ble 1 (zKd t).1 && Nat.ble (zKd t).1 5) = true)
    (k : zok σ.1 (zI ((zKd t).2.1 : Int)) → W p l e R s m args below meth c H locs cells slots Q (F0 m (pc + 1) arr (zv B (zI ((zKd t).2.1 : Int)) :: rest))) : W p l e R s m args below meth c H locs cells slots Q (F0 m pc arr (zv B (zR t x) :: rest)) := by
  obtain ⟨h1, h2⟩ := zb_and hi
  have h1 := Nat.le_of_ble_eq_true h1
  have h2 := Nat.le_of_ble_eq_true h2
  have ht : t < 37 := by
    rcases Nat.lt_or_ge t 37 with q | q
    · exact q
    · exfalso
      unfold zKd at h2
      rw [List.getD_eq_getElem?_getD, List.getElem?_eq_none (by show 37 ≤ t; exact q)] at h2
      dsimp at h2
      omega
  obtain ⟨X, rfl, hX, hl⟩ := zok_ref hW.2.2.1 hr ht
  subst hl
  have hn := (zkd_ok _ ht).2.1
  rw [zv_ref ht]
  have kk := k (by show zri _; unfold zri; omega)
  have e : Int32.ofNat (zKd (zlay.getD X 99)).2.1 = Int32.ofInt ((zKd (zlay.getD X 99)).2.1 : Int) := rfl
  rcases (show (zKd (zlay.getD X 99)).1 = 1 ∨ (zKd (zlay.getD X 99)).1 = 2 ∨ (zKd (zlay.getD X 99)).1 = 3 ∨ (zKd (zlay.getD X 99)).1 = 4 ∨ (zKd (zlay.getD X 99)).1 = 5 by omega) with q | q | q | q | q
  · exact va_alen hx hb hK hW.1 (zrho X) 0 ((zws_get hX).trans (by rw [zen_1 q])) rfl e hdg kk
  · exact va_alen hx hb hK hW.1 (zrho X) 1 ((zws_get hX).trans (by rw [zen_2 q])) rfl e hdg kk
  · exact va_alen hx hb hK hW.1 (zrho X) 2 ((zws_get hX).trans (by rw [zen_3 q])) rfl e hdg kk
  · exact va_alen hx hb hK hW.1 (zrho X) 3 ((zws_get hX).trans (by rw [zen_4 q])) rfl e hdg kk
  · obtain ⟨t0, r, hr1, hr2⟩ := zty5_at cA ht (Or.inl q)
    exact va_alen hx hb hK hW.1 (zrho X) t0 ((zws_get hX).trans (by rw [zen_5 q])) hr2 e hdg kk
theorem zh_sld (hx : p.tables.exec = Jvm.exec) (hb : c.code = cc) (hW : zWd B cA D L xs s H σ) (hdg : decode cc pc = .ok (.iaload, 1)) {x i : Int} (h0 : 0 ≤ i) (h1 : i < σ.2.2 (-2) (-1))
    (k : zok σ.1 (zI (σ.2.2 (-2) i)) → W p l e R s m args below meth c H locs cells slots Q (F0 m (pc + 1) arr (zv B (zI (σ.2.2 (-2) i)) :: rest))) : W p l e R s m args below meth c H locs cells slots Q (F0 m pc arr (zv B (zI i) :: zv B (zR 90 x) :: rest)) := by
  obtain ⟨-, -, -, ⟨⟨scr, e1, e2, e3, e4, e5⟩, -⟩, hbl, hL, hv, hL2⟩ := hW
  have hi : zri (σ.2.2 (-2) i) := by
    have := hv i.toNat (by omega)
    rw [z_int_nat h0] at this
    rw [← this]
    exact zi_ri _
  refine W.iald (v := zv B (zI (σ.2.2 (-2) i))) hx hb e1 e2 e3 (by rw [e4]; exact zvp_in h0 (by omega) hL2) ?_ rfl rfl hdg (k hi)
  rw [zcl h0 (by omega), e5 i.toNat (by omega)]
  congr 2
  rw [← zi_of (xs i.toNat), hv i.toNat (by omega), z_int_nat h0]
theorem zh_slen (hx : p.tables.exec = Jvm.exec) (hb : c.code = cc) (hW : zWd B cA D L xs s H σ) (hdg : decode cc pc = .ok (.arraylength, 1)) {x : Int}
    (k : zok σ.1 (zI (σ.2.2 (-2) (-1))) → W p l e R s m args below meth c H locs cells slots Q (F0 m (pc + 1) arr (zv B (zI (σ.2.2 (-2) (-1))) :: rest))) : W p l e R s m args below meth c H locs cells slots Q (F0 m pc arr (zv B (zR 90 x) :: rest)) := by
  obtain ⟨-, -, -, ⟨⟨scr, e1, e2, e3, e4, e5⟩, -⟩, hbl, hL, hv, hL2⟩ := hW
  refine W.alen (n := Int32.ofInt (σ.2.2 (-2) (-1))) hx hb e1 e2 ?_ rfl rfl hdg (k (by show zri _; unfold zri; omega))
  rw [e4, ← hL]
  rfl
end ZLD
