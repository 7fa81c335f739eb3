section ZST
variable {p : Program} {l : Launch} {e : Env} {R : Room} {s : State} {m : MethodId} {args : Array Value} {below : List Frame} {meth : Method} {c : Code} {H : Heap} {locs : List Loc} {cells slots : Nat} {Q : State → Prop}
variable {B : zB} {cA : Nat → ClassId} {D : va_G} {L : Nat} {xs : Nat → Int32} {σ : zS} {cc : ByteArray} {pc : Nat} {arr : Array Slot} {rest : List Value}
theorem zX_kept {H1 : Heap} {locs1 : List Loc} (hB : B.1 ≤ s.heap.size) (hbl : B.2.1 < B.1) (hS : va_S (zA B) s.heap H locs) (hS1 : va_S (zA B) s.heap H1 locs1) (h : zXs B L xs s H) : zXs B L xs s H1 := by
  obtain ⟨h, ⟨adV, h2⟩, h3, vf, h4, h5⟩ := h
  have ko : ∀ a : Nat, a < H.size → ¬ zA B a → H1[a]? = H[a]? := by
    intro a _ ha
    have ha2 : a < s.heap.size := by
      have : ¬ B.1 ≤ a := ha
      omega
    rw [hS1.2.1 _ ha2 ha, hS.2.1 _ ha2 ha]
  refine ⟨h.kept ?_, ⟨adV, h2.kept ko⟩, h3.kept ko, vf, h4.kept ko, h5⟩
  rw [hS1.2.1 _ (by omega) (Nat.not_le.mpr hbl), hS.2.1 _ (by omega) (Nat.not_le.mpr hbl)]
/-- behind a store: the world goes on -/
theorem zWd_up {H1 : Heap} {locs1 : List Loc} {f g : zM} {X j : Nat} {v : Int} {en : va_E} (hB : B.1 ≤ s.heap.size) (hS : va_S (zA B) s.heap H locs) (hS1 : va_S (zA B) s.heap H1 locs1) (hW : zWd B cA D L xs s H σ) (hf : f = σ.2.1 ∨ f = zup σ.2.1 X j v) (hg : g = σ.2.2 ∨ g = zup σ.2.2 X j v)
    (hP : va_P D vwCl ((zws B cA σ).set (zrho X) (B.1 + zrho X, en)) H1) (he : zen B cA (σ.1, f, g) X = en) (hn : zrho X < σ.1 → j < (zKd (zlay.getD X 99)).2.1 → zsok σ.1 (zsk (zlay.getD X 99) j) (f X j) (g X j)) : zWd B cA D L xs s H1 (σ.1, f, g) := by
  obtain ⟨-, h2, h3, h4, h5, h6, h7, h8⟩ := hW
  have eg : ∀ i : Int, g (-2) i = σ.2.2 (-2) i := fun i => by
    rcases hg with rfl | rfl
    · rfl
    · unfold zup
      rw [if_neg (fun q => by have := q.1; omega)]
  refine ⟨?_, zinv_up h2 hf hg hn, h3, zX_kept hB h5 hS hS1 h4, h5, ?_, ?_, h8⟩
  · rw [zws_set (s := σ) (s' := (σ.1, f, g)) rfl he (fun y hy => zen_upm (k := (X : Int)) (j := (j : Int)) (v := v) (fun q => hy (Int.ofNat.inj q)) hf hg)] at hP
    exact hP
  · show (L : Int) = g (-2) (-1)
    rw [eg]; exact h6
  · intro i hi
    show _ = g (-2) i
    rw [eg]; exact h7 i hi
theorem zup_s (f : zM) (k j v : Int) : zup f k j v k j = v := by simp [zup]
theorem zfun_upd {g : zM} {X : Nat} {i v : Int} (h0 : 0 ≤ i) (α : Type) (F : Int → α) (u : (Nat → α) → Nat → α → Nat → α) (hu : ∀ f k y q, u f k y q = if q = k then y else f q) : u (fun q => F (g X q)) i.toNat (F v) = fun (q : Nat) => F (zup g X i v X q) := by
  funext q
  rw [hu]
  unfold zup
  by_cases h : q = i.toNat
  · rw [if_pos h, if_pos ⟨rfl, by omega⟩]
  · rw [if_neg h, if_neg (fun z => h (by omega))]
theorem zh_iast (hx : p.tables.exec = Jvm.exec) (hb : c.code = cc) (hB : B.1 ≤ s.heap.size) (hK : va_K D vwCl (ztys cA) s) (hW : zWd B cA D L xs s H σ) (hS : va_S (zA B) s.heap H locs) (hdg : decode cc pc = .ok (.iastore, 1)) {t : Nat} {x i v : Int} (hr : zok σ.1 (zR t x)) (hv : zri v) (hi : zix 1 t i = true)
    (k : ∀ H1 locs1, zWd B cA D L xs s H1 (σ.1, σ.2.1, zup σ.2.2 x i v) → va_S (zA B) s.heap H1 locs1 → W p l e R s m args below meth c H1 locs1 cells slots Q (F0 m (pc + 1) arr rest)) : W p l e R s m args below meth c H locs cells slots Q (F0 m pc arr (zv B (zI v) :: zv B (zI i) :: zv B (zR t x) :: rest)) := by
  have ht := zix_t hi (by omega)
  obtain ⟨h1, h2, h3⟩ := zix_inv hi
  obtain ⟨X, rfl, hX, hl⟩ := zok_ref hW.2.2.1 hr ht
  subst hl
  have hn := (zkd_ok _ ht).2.1
  rw [zv_ref ht]
  refine va_iast hx hb hK hW.1 (zws_D B cA σ) hS (zrho X) 0 ((zws_get hX).trans (by rw [zen_1 h1])) rfl (zvp_in h2 h3 hn) hdg fun H1 locs1 hP hD hS1 => k H1 locs1 ?_ hS1
  have ei := z_int_nat h2
  rw [← ei]
  refine zWd_up (j := i.toNat) hB hS hS1 hW (Or.inl rfl) (Or.inr rfl) hP ?_ (fun _ _ => ?_)
  · rw [zen_1 h1, zcl h2 (by omega), ei, zfun_upd h2 _ Int32.ofInt upd (fun f k y q => rfl)]
  · unfold zsk zsok
    rw [h1]
    show zri _
    rw [zup_s]
    exact hv
theorem zh_last (hx : p.tables.exec = Jvm.exec) (hb : c.code = cc) (hB : B.1 ≤ s.heap.size) (hK : va_K D vwCl (ztys cA) s) (hW : zWd B cA D L xs s H σ) (hS : va_S (zA B) s.heap H locs) (hdg : decode cc pc = .ok (.lastore, 1)) {t : Nat} {x i v : Int} (hr : zok σ.1 (zR t x)) (hv : zrl v) (hi : zix 2 t i = true)
    (k : ∀ H1 locs1, zWd B cA D L xs s H1 (σ.1, σ.2.1, zup σ.2.2 x i v) → va_S (zA B) s.heap H1 locs1 → W p l e R s m args below meth c H1 locs1 cells slots Q (F0 m (pc + 1) arr rest)) : W p l e R s m args below meth c H locs cells slots Q (F0 m pc arr (zv B (zL v) :: zv B (zI i) :: zv B (zR t x) :: rest)) := by
  have ht := zix_t hi (by omega)
  obtain ⟨h1, h2, h3⟩ := zix_inv hi
  obtain ⟨X, rfl, hX, hl⟩ := zok_ref hW.2.2.1 hr ht
  subst hl
  have hn := (zkd_ok _ ht).2.1
  rw [zv_ref ht]
  refine va_last hx hb hK hW.1 (zws_D B cA σ) hS (zrho X) 1 ((zws_get hX).trans (by rw [zen_2 h1])) rfl (zvp_in h2 h3 hn) hdg fun H1 locs1 hP hD hS1 => k H1 locs1 ?_ hS1
  have ei := z_int_nat h2
  rw [← ei]
  refine zWd_up (j := i.toNat) hB hS hS1 hW (Or.inl rfl) (Or.inr rfl) hP ?_ (fun _ _ => ?_)
  · rw [zen_2 h1, zcl h2 (by omega), ei, zfun_upd h2 _ Int64.ofInt vp_updL (fun f k y q => rfl)]
  · unfold zsk zsok
    rw [h1]
    show zrl _
    rw [zup_s]
    exact hv
theorem z_narb {v : Int} (h1 : -128 ≤ v) (h2 : v < 128) : vp_nar .byte (Int32.ofInt v) = Int32.ofInt v := by
  rw [vp_nar_byte]
  rw [z_i2b (by unfold zri; omega)]
  congr 1
  unfold zi2b
  omega
theorem z_narz {v : Int} (h1 : 0 ≤ v) (h2 : v ≤ 1) : vp_nar .boolean (Int32.ofInt v) = Int32.ofInt v := by
  rcases (show v = 0 ∨ v = 1 by omega) with rfl | rfl <;> rfl
theorem zh_bast (hx : p.tables.exec = Jvm.exec) (hb : c.code = cc) (hB : B.1 ≤ s.heap.size) (hK : va_K D vwCl (ztys cA) s) (hW : zWd B cA D L xs s H σ) (hS : va_S (zA B) s.heap H locs) (hdg : decode cc pc = .ok (.bastore, 1)) {t : Nat} {x i v : Int} (hr : zok σ.1 (zR t x)) (hi : ((zix 3 t i && (decide (-128 ≤ v) && decide (v < 128))) || (zix 4 t i && (decide (0 ≤ v) && decide (v ≤ 1)))) = true)
    (k : ∀ H1 locs1, zWd B cA D L xs s H1 (σ.1, σ.2.1, zup σ.2.2 x i v) → va_S (zA B) s.heap H1 locs1 → W p l e R s m args below meth c H1 locs1 cells slots Q (F0 m (pc + 1) arr rest)) : W p l e R s m args below meth c H locs cells slots Q (F0 m pc arr (zv B (zI v) :: zv B (zI i) :: zv B (zR t x) :: rest)) := by
  rcases (Bool.or_eq_true _ _).mp hi with hi | hi
  · obtain ⟨hi, hv⟩ := zb_and hi
    obtain ⟨hv1, hv2⟩ := zb_and hv
    have hv1 := of_decide_eq_true hv1
    have hv2 := of_decide_eq_true hv2
    have ht := zix_t hi (by omega)
    obtain ⟨h1, h2, h3⟩ := zix_inv hi
    obtain ⟨X, rfl, hX, hl⟩ := zok_ref hW.2.2.1 hr ht
    subst hl
    have hn := (zkd_ok _ ht).2.1
    rw [zv_ref ht]
    refine va_bast hx hb hK hW.1 (zws_D B cA σ) hS (zrho X) 2 ((zws_get hX).trans (by rw [zen_3 h1])) rfl (zvp_in h2 h3 hn) hdg fun H1 locs1 hP hD hS1 => k H1 locs1 ?_ hS1
    have ei := z_int_nat h2
    rw [← ei]
    rw [z_narb hv1 hv2] at hP
    refine zWd_up (j := i.toNat) hB hS hS1 hW (Or.inl rfl) (Or.inr rfl) hP ?_ (fun _ _ => ?_)
    · rw [zen_3 h1, zcl h2 (by omega), ei, zfun_upd h2 _ Int32.ofInt upd (fun f k y q => rfl)]
    · unfold zsk zsok
      rw [h1]
      show -128 ≤ zup _ _ _ _ _ _ ∧ zup _ _ _ _ _ _ < 128
      rw [zup_s]
      exact ⟨hv1, hv2⟩
  · obtain ⟨hi, hv⟩ := zb_and hi
    obtain ⟨hv1, hv2⟩ := zb_and hv
    have hv1 := of_decide_eq_true hv1
    have hv2 := of_decide_eq_true hv2
    have ht := zix_t hi (by omega)
    obtain ⟨h1, h2, h3⟩ := zix_inv hi
    obtain ⟨X, rfl, hX, hl⟩ := zok_ref hW.2.2.1 hr ht
    subst hl
    have hn := (zkd_ok _ ht).2.1
    rw [zv_ref ht]
    refine va_zast hx hb hK hW.1 (zws_D B cA σ) hS (zrho X) 3 ((zws_get hX).trans (by rw [zen_4 h1])) rfl (zvp_in h2 h3 hn) hdg fun H1 locs1 hP hD hS1 => k H1 locs1 ?_ hS1
    have ei := z_int_nat h2
    rw [← ei]
    rw [z_narz hv1 hv2] at hP
    refine zWd_up (j := i.toNat) hB hS hS1 hW (Or.inl rfl) (Or.inr rfl) hP ?_ (fun _ _ => ?_)
    · rw [zen_4 h1, zcl h2 (by omega), ei, zfun_upd h2 _ Int32.ofInt upd (fun f k y q => rfl)]
    · unfold zsk zsok
      rw [h1]
      show 0 ≤ zup _ _ _ _ _ _ ∧ zup _ _ _ _ _ _ ≤ 1
      rw [zup_s]
      exact ⟨hv1, hv2⟩
theorem zok_e {K u : Nat} {v : Int} (h : zok K (zR u v)) (hu : u < 37) : zrok K u v := by
  rcases h with h | h | h
  · omega
  · omega
  · exact Or.inr h
theorem zcls0 : ∀ u, u < 11 → (zKd u).1 = 0 := by decide +kernel
theorem zh_aast (hx : p.tables.exec = Jvm.exec) (hb : c.code = cc) (hB : B.1 ≤ s.heap.size) (hK : va_K D vwCl (ztys cA) s) (hW : zWd B cA D L xs s H σ) (hS : va_S (zA B) s.heap H locs) (hdg : decode cc pc = .ok (.aastore, 1)) {t u : Nat} {x i v : Int} (hr : zok σ.1 (zR t x)) (hv : zok σ.1 (zR u v)) (hi : zix 5 t i = true) (hu : u = (zKd t).2.2)
    (k : ∀ H1 locs1, zWd B cA D L xs s H1 (σ.1, zup σ.2.1 x i v, σ.2.2) → va_S (zA B) s.heap H1 locs1 → W p l e R s m args below meth c H1 locs1 cells slots Q (F0 m (pc + 1) arr rest)) : W p l e R s m args below meth c H locs cells slots Q (F0 m pc arr (zv B (zR u v) :: zv B (zI i) :: zv B (zR t x) :: rest)) := by
  have ht := zix_t hi (by omega)
  obtain ⟨h1, h2, h3⟩ := zix_inv hi
  obtain ⟨X, rfl, hX, hl⟩ := zok_ref hW.2.2.1 hr ht
  subst hl
  have hn := (zkd_ok _ ht).2.1
  have hu11 : u < 11 := by rcases zty5 _ ht (Or.inl h1) with q | q | q <;> omega
  have hv' := zok_e hv (by omega)
  obtain ⟨V, rfl, hV, hl2⟩ := zok_ref hW.2.2.1 hv (by omega)
  rw [zv_ref ht, zv_ref (by omega)]
  obtain ⟨t0, r, hr1, hr2⟩ := zty5_at cA ht (Or.inl h1)
  have h0 : (zKd (zlay.getD V 99)).1 = 0 := by rw [hl2]; exact zcls0 u hu11
  refine va_astq hx hb hK hW.1 (zws_D B cA σ) hS (zrho X) t0 (zrho V) u ((zws_get hX).trans (by rw [zen_5 h1])) hr2 ((zws_get hV).trans (by rw [zen_0 h0, hl2])) (by rw [hu]; exact hr1) (zvp_in h2 h3 hn) hdg fun H1 locs1 hP hD hS1 => k H1 locs1 ?_ hS1
  have ei := z_int_nat h2
  rw [← ei]
  refine zWd_up (j := i.toNat) hB hS hS1 hW (Or.inr rfl) (Or.inl rfl) hP ?_ (fun _ _ => ?_)
  · rw [zen_5 h1, zcl h2 (by omega), ei]
    have := zfun_upd (g := σ.2.1) (X := X) (v := (V : Int)) h2 (Option Nat) (fun y => if y < 0 then none else some (B.1 + zrho y.toNat)) va_up (fun f k y q => rfl)
    rw [if_neg (by omega), Int.toNat_natCast] at this
    rw [this]
  · unfold zsk zsok
    rw [h1]
    show zrok _ _ _
    rw [zup_s, ← hu]
    exact hv'
theorem zh_aast6 (hx : p.tables.exec = Jvm.exec) (hb : c.code = cc) (hB : B.1 ≤ s.heap.size) (hK : va_K D vwCl (ztys cA) s) (hW : zWd B cA D L xs s H σ) (hS : va_S (zA B) s.heap H locs) (hdg : decode cc pc = .ok (.aastore, 1)) {t u : Nat} {x i v : Int} (hr : zok σ.1 (zR t x)) (hv : zok σ.1 (zR u v)) (hi : zix 6 t i = true) (hu : u = (zKd t).2.2)
    (k : ∀ H1 locs1, zWd B cA D L xs s H1 (σ.1, σ.2.1, zup σ.2.2 x i (zenc (zKd t).2.2 v)) → va_S (zA B) s.heap H1 locs1 → W p l e R s m args below meth c H1 locs1 cells slots Q (F0 m (pc + 1) arr rest)) : W p l e R s m args below meth c H locs cells slots Q (F0 m pc arr (zv B (zR u v) :: zv B (zI i) :: zv B (zR t x) :: rest)) := by
  have ht := zix_t hi (by omega)
  obtain ⟨h1, h2, h3⟩ := zix_inv hi
  obtain ⟨X, rfl, hX, hl⟩ := zok_ref hW.2.2.1 hr ht
  subst hl
  have hn := (zkd_ok _ ht).2.1
  have hu11 : u < 11 := by rcases zty5 _ ht (Or.inr h1) with q | q | q <;> omega
  have hv' := zok_e hv (by omega)
  obtain ⟨V, rfl, hV, hl2⟩ := zok_ref hW.2.2.1 hv (by omega)
  rw [zv_ref ht, zv_ref (by omega)]
  obtain ⟨t0, r, hr1, hr2⟩ := zty5_at cA ht (Or.inr h1)
  have h0 : (zKd (zlay.getD V 99)).1 = 0 := by rw [hl2]; exact zcls0 u hu11
  refine va_astq hx hb hK hW.1 (zws_D B cA σ) hS (zrho X) t0 (zrho V) u ((zws_get hX).trans (by rw [zen_6 h1])) hr2 ((zws_get hV).trans (by rw [zen_0 h0, hl2])) (by rw [hu]; exact hr1) (zvp_in h2 h3 hn) hdg fun H1 locs1 hP hD hS1 => k H1 locs1 ?_ hS1
  have ei := z_int_nat h2
  rw [← ei]
  have hV8 : V < 148 := zrho_lt (Nat.lt_of_lt_of_le hV (Nat.le_trans hW.2.2.1 (by decide)))
  obtain ⟨d1, d2⟩ := zed hV8 hl2
  rw [hu] at d1 d2
  refine zWd_up (j := i.toNat) (v := zenc (zKd (zlay.getD X 99)).2.2 (V : Int)) hB hS hS1 hW (Or.inl rfl) (Or.inr rfl) hP ?_ (fun _ _ => ?_)
  · rw [zen_6 h1, zcl h2 (by omega), ei]
    have := zfun_upd (g := σ.2.2) (X := X) (v := zenc (zKd (zlay.getD X 99)).2.2 (V : Int)) h2 (Option Nat) (fun y => if y < 0 then none else some (B.1 + zrho (zdec (zKd (zlay.getD X 99)).2.2 y).toNat)) va_up (fun f k y q => rfl)
    rw [if_neg (by omega), d1, Int.toNat_natCast] at this
    rw [this]
  · unfold zsk zsok
    rw [h1]
    show zmok _ (zKd (zlay.getD X 99)).2.2 _
    rw [zup_s]
    refine Or.inr ⟨d2, ?_⟩
    rw [d1, Int.toNat_natCast]
    exact ⟨hV, by rw [hl2]; exact hu⟩
end ZST
