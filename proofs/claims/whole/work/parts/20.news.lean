theorem zsok_mono {K K' : Nat} (h : K ≤ K') {q : Nat × Nat} {r m : Int} (hs : zsok K q r m) : zsok K' q r m := by
  unfold zsok at *
  split at hs
  · exact hs
  · exact hs
  · rcases hs with z | z
    · exact Or.inl z
    · exact Or.inr ⟨z.1, by omega, z.2.2⟩
  · exact hs
  · exact hs
  · rcases hs with z | z
    · exact Or.inl z
    · exact Or.inr ⟨z.1, by omega, z.2.2⟩
  · exact hs
  · trivial
theorem zok_mono {K K' : Nat} (h : K ≤ K') {v : zV} (hv : zok K v) : zok K' v := by
  rcases v with x | x | ⟨t, x⟩ | u
  · exact hv
  · exact hv
  · rcases hv with z | z | z
    · exact Or.inl z
    · exact Or.inr (Or.inl z)
    · exact Or.inr (Or.inr ⟨z.1, by omega, z.2.2⟩)
  · trivial
theorem zoks_mono {K K' : Nat} (h : K ≤ K') {st : List zV} (hs : zoks K st) : zoks K' st := fun v hv => zok_mono h (hs v hv)
section ZNW
variable {p : Program} {l : Launch} {e : Env} {R : Room} {s : State} {m : MethodId} {args : Array Value} {below : List Frame} {meth : Method} {c : Code} {H : Heap} {locs : List Loc} {cells slots : Nat} {Q : State → Prop}
variable {B : zB} {cA : Nat → ClassId} {D : va_G} {L : Nat} {xs : Nat → Int32} {σ : zS} {cc : ByteArray} {pc : Nat} {arr : Array Slot} {rest : List Value}
theorem zW_size {g : JFrame} (k : H.size ≤ s.heap.size + cells → W p l e R s m args below meth c H locs cells slots Q g) : W p l e R s m args below meth c H locs cells slots Q g := by
  intro T hT X
  exact k (by rw [← hT]; exact X.heapSize) T hT X
theorem zq_new {H1 : Heap} {q K0 : Nat} {en : va_E} (hsz : s.heap.size = B.1 + K0) (hc : cells + K0 = σ.1) (hP : va_P D vwCl (zws B cA σ ++ [(q, en)]) H1) (hD : va_D (zA B) (zws B cA σ ++ [(q, en)])) (hs : H1.size ≤ s.heap.size + (cells + 1)) : q = B.1 + σ.1 := by
  have hlast : (zws B cA σ ++ [(q, en)])[σ.1]? = some (q, en) := by
    rw [List.getElem?_append_right (by rw [zws_len]; exact Nat.le_refl _), zws_len]
    simp
  have h1 := (hP σ.1 _ hlast).lt
  have h2 : B.1 ≤ q := hD.2 σ.1 _ hlast
  have h1 : q < H1.size := h1
  by_cases h3 : q = B.1 + σ.1
  · exact h3
  · exfalso
    have h4 : q - B.1 < σ.1 := by omega
    have h5 : (zws B cA σ ++ [(q, en)])[q - B.1]? = some (B.1 + (q - B.1), zen B cA σ (zvi (q - B.1))) := by
      rw [List.getElem?_append_left (by rw [zws_len]; exact h4)]
      exact zws_get0 h4
    have := hD.1 σ.1 (q - B.1) _ _ hlast h5 (by show q = B.1 + (q - B.1); omega)
    omega
theorem zrow_o {f : zM} {k : Int} {g : Int → Int} {y : Int} (h : y ≠ k) (j : Int) : zrow f k g y j = f y j := by unfold zrow; rw [if_neg h]
theorem zrow_s {f : zM} {k : Int} {g : Int → Int} (j : Int) : zrow f k g k j = g j := by unfold zrow; rw [if_pos rfl]
theorem zWd_new {H1 : Heap} {locs1 : List Loc} {en : va_E} {g g0 : Int → Int} (hB : B.1 ≤ s.heap.size) (hS : va_S (zA B) s.heap H locs) (hS1 : va_S (zA B) s.heap H1 locs1) (hW : zWd B cA D L xs s H σ) (hK : σ.1 < 147)
    (hP : va_P D vwCl (zws B cA σ ++ [(B.1 + σ.1, en)]) H1) (he : zen B cA (σ.1 + 1, zrow σ.2.1 (zvi σ.1) g0, zrow σ.2.2 (zvi σ.1) g) (zvi σ.1) = en) (hn : ∀ j : Nat, j < (zKd (zlay.getD (zvi σ.1) 99)).2.1 → zsok (σ.1 + 1) (zsk (zlay.getD (zvi σ.1) 99) j) (g0 j) (g j)) :
    zWd B cA D L xs s H1 (σ.1 + 1, zrow σ.2.1 (zvi σ.1) g0, zrow σ.2.2 (zvi σ.1) g) := by
  obtain ⟨-, h2, h3, h4, h5, h6, h7, h8⟩ := hW
  have o1 : ∀ y : Nat, y ≠ zvi σ.1 → ∀ j : Int, zrow σ.2.1 (zvi σ.1) g0 y j = σ.2.1 y j := fun y hy j => zrow_o (fun z => hy (Int.ofNat.inj z)) j
  have o2 : ∀ y : Nat, y ≠ zvi σ.1 → ∀ j : Int, zrow σ.2.2 (zvi σ.1) g y j = σ.2.2 y j := fun y hy j => zrow_o (fun z => hy (Int.ofNat.inj z)) j
  have o3 : ∀ j : Int, zrow σ.2.2 (zvi σ.1) g (-2) j = σ.2.2 (-2) j := fun j => zrow_o (by omega) j
  refine ⟨?_, ?_, hK, zX_kept hB h5 hS hS1 h4, h5, ?_, ?_, h8⟩
  · rw [zws_push (s := σ) (s' := (σ.1 + 1, zrow σ.2.1 (zvi σ.1) g0, zrow σ.2.2 (zvi σ.1) g)) rfl he (fun y hy => by unfold zen; simp only [o1 y hy, o2 y hy])] at hP
    exact hP
  · intro y hy j hj
    show zsok (σ.1 + 1) _ (zrow σ.2.1 (zvi σ.1) g0 y j) (zrow σ.2.2 (zvi σ.1) g y j)
    by_cases q : y = zvi σ.1
    · subst q
      rw [zrow_s, zrow_s]
      exact hn j hj
    · rw [o1 y q, o2 y q]
      have hy : zrho y < σ.1 + 1 := hy
      have hne : zrho y ≠ σ.1 := fun z => q (by rw [← z, zvi_rho])
      exact zsok_mono (Nat.le_succ _) (h2 y (by omega) j hj)
  · show (L : Int) = zrow σ.2.2 (zvi σ.1) g (-2) (-1)
    rw [o3]; exact h6
  · intro j hj
    show _ = zrow σ.2.2 (zvi σ.1) g (-2) j
    rw [o3]; exact h7 j hj
theorem zdf_ok : ∀ a, a < 11 → ∀ j, j < (zKd a).2.1 → zsv (0, 0, 0) (zsk a j) (zdg a j) (zdf a j) = defaultValue (zty a j) := by decide +kernel
theorem zsv_B {B B' : zB} {c : Nat × Nat} {r m : Int} (h : m < 0 ∨ c.1 ≠ 5) (h2 : r < 0 ∨ c.1 ≠ 2) : zsv B c r m = zsv B' c r m := by
  unfold zsv
  split
  · rename_i z
    rcases h2 with h2 | h2
    · unfold zrv
      rw [if_pos h2, if_pos h2]
    · exact absurd z h2
  · rename_i z
    rcases h with h | h
    · unfold zrm5
      rw [if_pos h, if_pos h]
    · exact absurd z h
  · rfl
  · rfl
theorem zdf_5 : ∀ a, a < 11 → ∀ j, j < (zKd a).2.1 → (zdf a j < 0 ∨ (zsk a j).1 ≠ 5) ∧ (zdg a j < 0 ∨ (zsk a j).1 ≠ 2) := by decide +kernel
theorem zdf_s : ∀ a, a < 11 → ∀ j, j < (zKd a).2.1 → ((zsk a j).1 = 0 ∨ (zsk a j).1 = 3) ∧ zdf a j = 0 ∨ ((zsk a j).1 = 2 ∧ zdg a j = -1) ∨ ((zsk a j).1 = 5 ∧ zdf a j = -1) ∨ ((zsk a j).1 = 6 ∧ zdg a j = 0) := by decide +kernel
theorem zh_new {K0 : Nat} (hx : p.tables.exec = Jvm.exec) (hb : c.code = cc) {Ts : List Cond} (hts : ∀ w ∈ Ts, w.before args s = true) {own : String} (hown : s.vm.findClass own = some m.cls) (hB : B.1 ≤ s.heap.size) (hK : va_K D vwCl (ztys cA) s) (hW : zWd B cA D L xs s H σ) (hS : va_S (zA B) s.heap H locs) {idx a : Nat} (ha : a < 11) (hin : ∀ w ∈ u_ws (zcs a).1 (zcs a).2.1 (zcs a).2.2, w ∈ Ts)
    (hcl : (Cond.classLink own idx (zcs a).1).before args s = true) (hinst : (Cond.instantiable (zcs a).1 (zcs a).2.2).before args s = true) (hini : (Cond.initialized (zcs a).1).before args s = true)
    (hsz : s.heap.size = B.1 + K0) (hc : cells + K0 = σ.1) (hk : σ.1 < 147) (hl : zlay.getD (zvi σ.1) 99 = a) (hcells : cells + 1 ≤ R.cells) (hslots : slots + (zKd a).2.1 ≤ R.slots) (hdg : decode cc pc = .ok (.new idx, 3))
    (k : ∀ H1, zWd B cA D L xs s H1 (σ.1 + 1, zrow σ.2.1 (zvi σ.1) (fun j => zdg a j.toNat), zrow σ.2.2 (zvi σ.1) (fun j => zdf a j.toNat)) → va_S (zA B) s.heap H1 locs → zok (σ.1 + 1) (zR a (zvi σ.1 : Int)) → W p l e R s m args below meth c H1 locs (cells + 1) (slots + (zKd a).2.1) Q (F0 m (pc + 3) arr (zv B (zR a (zvi σ.1 : Int)) :: rest))) : W p l e R s m args below meth c H locs cells slots Q (F0 m pc arr rest) := by
  have hN : (zKd a).2.1 = (zcs a).2.2 := by rw [zcs_n a ha]
  rw [hN] at hslots k
  refine va_new hx hb hts hin (zty a) (zcs_ty a ha) hown hcl hinst hini hK hW.1 (zws_D B cA σ) hS (fun q h => by show B.1 ≤ q; omega) (zcs_get a ha) (fs := (List.range (zKd a).2.1).map fun j => zsv B (zsk a j) (zdg a j) (zdf a j)) (fun j hj => ?_) hcells hslots hdg fun q H1 hP hD hS1 => zW_size fun hs => ?_
  · rw [← zdf_ok a ha j (by omega)]
    unfold vp_V
    rw [List.getD_eq_getElem?_getD, List.getElem?_map, List.getElem?_range (by omega)]
    exact zsv_B (zdf_5 a ha j (by omega)).1 (zdf_5 a ha j (by omega)).2
  · have hq := zq_new hsz hc hP hD hs
    subst hq
    have k2 := k H1 (zWd_new hB hS hS1 hW hk hP ?_ ?_) hS1 (Or.inr (Or.inr ⟨by omega, by rw [Int.toNat_natCast, zrho_vi]; exact Nat.lt_succ_self _, by rw [Int.toNat_natCast]; exact hl⟩))
    · rw [zv_ref (by omega), zrho_vi] at k2
      exact k2
    · rw [zen_0 (by rw [hl]; exact zcls0 a ha), hl]
      simp only [zrow_s, Int.toNat_natCast]
    · intro j hj
      rw [hl] at hj ⊢
      rw [Int.toNat_natCast]
      unfold zsok
      rcases zdf_s a ha j hj with ⟨z | z, z2⟩ | ⟨z, z2⟩ | ⟨z, z2⟩ | ⟨z, z2⟩
      · rw [z, z2]; exact z_ri0
      · rw [z, z2]; show 0 ≤ (0 : Int) ∧ (0 : Int) ≤ 1; omega
      · rw [z, z2]; exact Or.inl rfl
      · rw [z, z2]; exact Or.inl rfl
      · rw [z, z2]; exact z_ri0
theorem z_atype {at_ : ArrayType} {a : Nat} (h : (match at_ with | .int => 1 | .long => 2 | .byte => 3 | .boolean => 4 | _ => 9) = a) (ha : a ≤ 4) : (at_ = .int ∧ a = 1) ∨ (at_ = .long ∧ a = 2) ∨ (at_ = .byte ∧ a = 3) ∨ (at_ = .boolean ∧ a = 4) := by
  cases at_ with
  | int => exact Or.inl ⟨rfl, h.symm⟩
  | long => exact Or.inr (Or.inl ⟨rfl, h.symm⟩)
  | byte => exact Or.inr (Or.inr (Or.inl ⟨rfl, h.symm⟩))
  | boolean => exact Or.inr (Or.inr (Or.inr ⟨rfl, h.symm⟩))
  | _ => exact absurd (show (9 : Nat) = a from h) (by omega)
theorem zh_newa {K0 : Nat} (hx : p.tables.exec = Jvm.exec) (hb : c.code = cc) (hB : B.1 ≤ s.heap.size) (hK : va_K D vwCl (ztys cA) s) (hW : zWd B cA D L xs s H σ) (hS : va_S (zA B) s.heap H locs) {at_ : ArrayType} {a : Nat} {n : Int} (hat : (match at_ with | .int => 1 | .long => 2 | .byte => 3 | .boolean => 4 | _ => 9) = a) (ha : a ≤ 4) (harr : (Cond.arrayClass (newarray.typeOf at_)).before args s = true)
    (hsz : s.heap.size = B.1 + K0) (hc : cells + K0 = σ.1) (hk : σ.1 < 147) (hka : (zKd (zlay.getD (zvi σ.1) 99)).1 = a) (hn : ((zKd (zlay.getD (zvi σ.1) 99)).2.1 : Int) = n) (hcells : cells + 1 ≤ R.cells) (hslots : slots + (zKd (zlay.getD (zvi σ.1) 99)).2.1 ≤ R.slots) (hsm : (zKd (zlay.getD (zvi σ.1) 99)).2.1 ≤ 5000) (hdg : decode cc pc = .ok (.newarray at_, 2))
    (k : ∀ H1, zWd B cA D L xs s H1 (σ.1 + 1, zrow σ.2.1 (zvi σ.1) (fun _ => -1), zrow σ.2.2 (zvi σ.1) (fun _ => 0)) → va_S (zA B) s.heap H1 locs → zok (σ.1 + 1) (zR (zlay.getD (zvi σ.1) 99) (zvi σ.1 : Int)) → W p l e R s m args below meth c H1 locs (cells + 1) (slots + (zKd (zlay.getD (zvi σ.1) 99)).2.1) Q (F0 m (pc + 2) arr (zv B (zR (zlay.getD (zvi σ.1) 99) (zvi σ.1 : Int)) :: rest))) : W p l e R s m args below meth c H locs cells slots Q (F0 m pc arr (zv B (zI n) :: rest)) := by
  have hlt := zlay_lt (zvi σ.1) (zvi_a σ.1 (by omega)).2
  have hnn : ¬ Int32.ofInt n < 0 := by rw [← z_0, z32_lt (by unfold zri; omega) z_ri0]; omega
  have hcl : (Int32.ofInt n).toNatClampNeg = (zKd (zlay.getD (zvi σ.1) 99)).2.1 := by rw [zcl (by omega) (by omega)]; omega
  have fin : ∀ (q : Nat) (H1 : Heap) (en : va_E), va_P D vwCl (zws B cA σ ++ [(q, en)]) H1 → va_D (zA B) (zws B cA σ ++ [(q, en)]) → va_S (zA B) s.heap H1 locs → zen B cA (σ.1 + 1, zrow σ.2.1 (zvi σ.1) (fun _ => -1), zrow σ.2.2 (zvi σ.1) (fun _ => 0)) (zvi σ.1) = en → (∀ j : Nat, zsok (σ.1 + 1) (zsk (zlay.getD (zvi σ.1) 99) j) (-1) 0) → W p l e R s m args below meth c H1 locs (cells + 1) (slots + (zKd (zlay.getD (zvi σ.1) 99)).2.1) Q (F0 m (pc + 2) arr (.ref q :: rest)) := by
    intro q H1 en hP hD hS1 he hn2
    refine zW_size fun hs => ?_
    have hq := zq_new hsz hc hP hD hs
    subst hq
    have k2 := k H1 (zWd_new hB hS hS1 hW hk hP he (fun j _ => hn2 j)) hS1 (Or.inr (Or.inr ⟨by omega, by rw [Int.toNat_natCast, zrho_vi]; exact Nat.lt_succ_self _, by rw [Int.toNat_natCast]⟩))
    rw [zv_ref hlt, zrho_vi] at k2
    exact k2
  rcases z_atype hat ha with ⟨rfl, rfl⟩ | ⟨rfl, rfl⟩ | ⟨rfl, rfl⟩ | ⟨rfl, rfl⟩
  · refine va_newa (a0 := ((zKd (zlay.getD (zvi σ.1) 99)).2.1, .inl fun _ => 0)) hx hb harr rfl hK hW.1 (zws_D B cA σ) hS (fun q h => by show B.1 ≤ q; omega) (fun _ => rfl) hnn hcl (by show _ * 4 ≤ _; omega) hcells hslots hdg fun q c2 H1 hK2 hP hD hS1 => ?_
    have ec : c2 = cA 1 := by
      have h1 := (hK2.2 7 (c2, .int) rfl).2
      have h2 := (hK.2 0 (cA 1, .int) rfl).2
      exact Option.some.inj (h1.symm.trans h2)
    subst ec
    refine fin q H1 _ hP hD hS1 ?_ (fun j => ?_)
    · rw [zen_1 hka]
      simp only [zrow_s]; rfl
    · unfold zsk zsok; rw [hka]; exact z_ri0
  · refine va_newa (a0 := ((zKd (zlay.getD (zvi σ.1) 99)).2.1, .inr (.inl fun _ => 0))) hx hb harr rfl hK hW.1 (zws_D B cA σ) hS (fun q h => by show B.1 ≤ q; omega) (fun _ => rfl) hnn hcl (by show _ * 8 ≤ _; omega) hcells hslots hdg fun q c2 H1 hK2 hP hD hS1 => ?_
    have ec : c2 = cA 2 := by
      have h1 := (hK2.2 7 (c2, .long) rfl).2
      have h2 := (hK.2 1 (cA 2, .long) rfl).2
      exact Option.some.inj (h1.symm.trans h2)
    subst ec
    refine fin q H1 _ hP hD hS1 ?_ (fun j => ?_)
    · rw [zen_2 hka]
      simp only [zrow_s]; rfl
    · unfold zsk zsok; rw [hka]; show zrl 0; unfold zrl; omega
  · refine va_newa (a0 := ((zKd (zlay.getD (zvi σ.1) 99)).2.1, .inl fun _ => 0)) hx hb harr rfl hK hW.1 (zws_D B cA σ) hS (fun q h => by show B.1 ≤ q; omega) (fun _ => rfl) hnn hcl (by show _ * 1 ≤ _; omega) hcells hslots hdg fun q c2 H1 hK2 hP hD hS1 => ?_
    have ec : c2 = cA 3 := by
      have h1 := (hK2.2 7 (c2, .byte) rfl).2
      have h2 := (hK.2 2 (cA 3, .byte) rfl).2
      exact Option.some.inj (h1.symm.trans h2)
    subst ec
    refine fin q H1 _ hP hD hS1 ?_ (fun j => ?_)
    · rw [zen_3 hka]
      simp only [zrow_s]; rfl
    · unfold zsk zsok; rw [hka]; show -128 ≤ (0 : Int) ∧ (0 : Int) < 128; omega
  · refine va_newa (a0 := ((zKd (zlay.getD (zvi σ.1) 99)).2.1, .inl fun _ => 0)) hx hb harr rfl hK hW.1 (zws_D B cA σ) hS (fun q h => by show B.1 ≤ q; omega) (fun _ => rfl) hnn hcl (by show _ * 1 ≤ _; omega) hcells hslots hdg fun q c2 H1 hK2 hP hD hS1 => ?_
    have ec : c2 = cA 4 := by
      have h1 := (hK2.2 7 (c2, .boolean) rfl).2
      have h2 := (hK.2 3 (cA 4, .boolean) rfl).2
      exact Option.some.inj (h1.symm.trans h2)
    subst ec
    refine fin q H1 _ hP hD hS1 ?_ (fun j => ?_)
    · rw [zen_4 hka]
      simp only [zrow_s]; rfl
    · unfold zsk zsok; rw [hka]; show 0 ≤ (0 : Int) ∧ (0 : Int) ≤ 1; omega
theorem zh_newq {K0 : Nat} (hx : p.tables.exec = Jvm.exec) (hb : c.code = cc) {own : String} (hown : s.vm.findClass own = some m.cls) (hB : B.1 ≤ s.heap.size) (hK : va_K D vwCl (ztys cA) s) (hW : zWd B cA D L xs s H σ) (hS : va_S (zA B) s.heap H locs) {idx a : Nat} {n : Int} (hcl2 : (Cond.classLink own idx (zcs a).1).before args s = true) (hao : va_AO (zcs a).1 s)
    (hsz : s.heap.size = B.1 + K0) (hc : cells + K0 = σ.1) (hk : σ.1 < 147) (hka : (zKd (zlay.getD (zvi σ.1) 99)).1 = 5 ∨ (zKd (zlay.getD (zvi σ.1) 99)).1 = 6) (hn : ((zKd (zlay.getD (zvi σ.1) 99)).2.1 : Int) = n) (hea : (zKd (zlay.getD (zvi σ.1) 99)).2.2 = a) (hcells : cells + 1 ≤ R.cells) (hslots : slots + (zKd (zlay.getD (zvi σ.1) 99)).2.1 ≤ R.slots) (hsm : (zKd (zlay.getD (zvi σ.1) 99)).2.1 ≤ 5000) (hdg : decode cc pc = .ok (.anewarray idx, 3))
    (k : ∀ H1, zWd B cA D L xs s H1 (σ.1 + 1, zrow σ.2.1 (zvi σ.1) (fun _ => -1), zrow σ.2.2 (zvi σ.1) (fun _ => -1)) → va_S (zA B) s.heap H1 locs → zok (σ.1 + 1) (zR (zlay.getD (zvi σ.1) 99) (zvi σ.1 : Int)) → W p l e R s m args below meth c H1 locs (cells + 1) (slots + (zKd (zlay.getD (zvi σ.1) 99)).2.1) Q (F0 m (pc + 3) arr (zv B (zR (zlay.getD (zvi σ.1) 99) (zvi σ.1 : Int)) :: rest))) : W p l e R s m args below meth c H locs cells slots Q (F0 m pc arr (zv B (zI n) :: rest)) := by
  have hlt := zlay_lt (zvi σ.1) (zvi_a σ.1 (by omega)).2
  have hnn : ¬ Int32.ofInt n < 0 := by rw [← z_0, z32_lt (by unfold zri; omega) z_ri0]; omega
  have hcl : (Int32.ofInt n).toNatClampNeg = (zKd (zlay.getD (zvi σ.1) 99)).2.1 := by rw [zcl (by omega) (by omega)]; omega
  refine va_newq hx hb hown hcl2 hao hK hW.1 (zws_D B cA σ) hS (fun q h => by show B.1 ≤ q; omega) hnn hcl (by omega) hcells hslots hdg fun q c2 H1 hK2 hP hD hS1 => ?_
  have ec : c2 = cA (10 + a) := by
    obtain ⟨t0, r, h1, h2⟩ := zty5_at cA hlt hka
    rw [hea] at h1 h2
    have hr : (zcs a).1 = r.1 := by
      have := zcs_get a (by rcases zty5 _ hlt hka with z | z | z <;> omega)
      rw [this] at h1
      rw [Option.some.inj h1]
    obtain ⟨_, _, -, -, -, f1⟩ := (hK2.2 7 (c2, .object (zcs a).1) rfl).2
    obtain ⟨_, _, -, -, -, f2⟩ := (hK.2 t0 _ h2).2
    rw [hr] at f1
    exact Option.some.inj (f1.symm.trans f2)
  subst ec
  refine zW_size fun hs => ?_
  have hq := zq_new hsz hc hP hD hs
  subst hq
  have k2 := k H1 (zWd_new hB hS hS1 hW hk hP ?_ (fun j _ => ?_)) hS1 (Or.inr (Or.inr ⟨by omega, by rw [Int.toNat_natCast, zrho_vi]; exact Nat.lt_succ_self _, by rw [Int.toNat_natCast]⟩))
  · rw [zv_ref hlt, zrho_vi] at k2
    exact k2
  · rcases hka with hka | hka
    · rw [zen_5 hka, hea]
      simp only [zrow_s]; rfl
    · rw [zen_6 hka, hea]
      simp only [zrow_s]; rfl
  · rcases hka with hka | hka
    · unfold zsk zsok; rw [hka]; exact Or.inl rfl
    · unfold zsk zsok; rw [hka]; exact Or.inl rfl
end ZNW
