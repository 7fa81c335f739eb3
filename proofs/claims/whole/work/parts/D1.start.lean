/-! the law's start: the cells are made -/
def zPl (Ω : zΩ) (p : Program) (e : Env) (s : State) (mi : MethodId) (args : Array Value) (below : List Frame) (meth : Method) (c : Code) (R : Room) (Z : State → Prop) (pc : Nat) (ls st : List zV) (σ : zS) : Prop := ∀ (H : Heap) (locs : List Loc) (arr : Array Slot), zWd Ω.2.1 Ω.2.2.1 Ω.2.2.2.1 Ω.2.2.2.2.1 Ω.2.2.2.2.2 s H σ → va_S (zA Ω.2.1) s.heap H locs → zlv Ω.2.1 arr (zmi 211).2.2.1 ls → zoks σ.1 ls → zoks σ.1 st → W p Ω.1 e R s mi args below meth c H locs σ.1 (zss σ.1) Z (F0 mi pc arr (st.map (zv Ω.2.1)))
section ZPL
variable {Ω : zΩ} {p : Program} {e : Env} {s : State} {mi : MethodId} {args : Array Value} {below : List Frame} {meth : Method} {c : Code} {R : Room} {Z : State → Prop}
theorem zPl_next (X : zCx Ω.2.1 Ω.2.2.1 Ω.2.2.2.1 p s mi args meth c 211) (hB : s.heap.size = Ω.2.1.1) (hfr : zfr 211 ≤ R.frames ∧ zlo 211 ≤ R.locals) (hroom : 147 ≤ R.cells ∧ zss 147 ≤ R.slots) {pc len a b cs ee pc' : Nat} {i : Instr} {d : Int} {ls st ls' st' : List zV} {σ σ' : zS} (he : zent 211 pc = some (pc, i, len, (a, b, cs, ee), d))
    (h0 : zstep i len a b cs ee d pc ls st σ = some (.inl ((pc', ls', st'), σ'))) (hk : σ'.1 ≤ 147) (h1 : zPl Ω p e s mi args below meth c R Z pc' ls' st' σ') : zPl Ω p e s mi args below meth c R Z pc ls st σ := by
  intro H locs arr hW hS hlv hls hst
  have h7 : 211 < 212 := by decide
  obtain ⟨-, hdg, hvl⟩ := zent_ok h7 he
  unfold zstep at h0
  split at h0
  · rename_i nn hp
    cases h0
    exact zpure_ok X.1 X.2.1 hdg hp hlv hls hst fun arr' q1 q2 q3 => h1 H locs arr' hW hS q1 q2 q3
  · have k1 := zheap_K h0
    have k2 := zss_mono k1
    have k3 := zss_mono hk
    refine zheap_ok (cells := σ.1) (slots := zss σ.1) h7 X hdg hvl hfr hW hS hlv hls hst h0 (fun hl => ⟨0, by omega, by omega⟩) ⟨by omega, by omega⟩ fun H1 locs1 q1 q2 q3 q4 q5 => ?_
    have hw := h1 H1 locs1 arr q1 q2 (by rw [q5]; exact hlv) q3 q4
    have e1 : σ.1 + (σ'.1 - σ.1) = σ'.1 := by omega
    have e2 : zss σ.1 + (zss σ'.1 - zss σ.1) = zss σ'.1 := by omega
    rw [e1, e2]
    exact hw
theorem zPl_call (X : zCx Ω.2.1 Ω.2.2.1 Ω.2.2.2.1 p s mi args meth c 211) (hB : s.heap.size = Ω.2.1.1) (hfr : zfr 211 ≤ R.frames ∧ zlo 211 ≤ R.locals) (hroom : 147 ≤ R.cells ∧ zss 147 ≤ R.slots) {pc len a b cs ee pc' N : Nat} {i : Instr} {d : Int} {ls st av ls' st' r : List zV} {σ σ2 : zS} (hN : N < 206) (he : zent 211 pc = some (pc, i, len, (a, b, cs, ee), d))
    (h0 : zstep i len a b cs ee d pc ls st σ = some (.inr (.inr (N, av, (pc', ls', st'), σ)))) (hl : (zinl av).length ≤ (zmi N).2.2.1) (hk : σ.1 ≤ σ2.1 ∧ σ2.1 ≤ 147)
    (h1 : zMach Ω.1 Ω.2.1 Ω.2.2.1 Ω.2.2.2.1 Ω.2.2.2.2.1 Ω.2.2.2.2.2 σ2.1 N 0 (zini N av) [] σ (fun r' σ' => (r', σ') = (r, σ2))) (h2 : zPl Ω p e s mi args below meth c R Z pc' ls' (r ++ st') σ2) : zPl Ω p e s mi args below meth c R Z pc ls st σ := by
  intro H locs arr hW hS hlv hls hst
  have h7 : 211 < 212 := by decide
  obtain ⟨-, hdg, hvl⟩ := zent_ok h7 he
  unfold zstep at h0
  split at h0
  · cases h0
  · have ea : a = N := by
      rcases zheap_call h0 with ⟨x, rfl⟩ | ⟨x, rfl⟩ | ⟨x, rfl⟩
      · obtain ⟨-, q1⟩ := zg_inv h0
        obtain ⟨-, q2⟩ := zg_inv q1
        cases q2; rfl
      · obtain ⟨-, q1⟩ := zg_inv h0
        obtain ⟨-, q2⟩ := zg_inv q1
        obtain ⟨_, _, _, -, q3⟩ := zp1r_inv q2
        obtain ⟨-, q4⟩ := zg_inv q3
        cases q4; rfl
      · obtain ⟨-, q1⟩ := zg_inv h0
        split at q1
        · obtain ⟨_, _, _, -, q3⟩ := zp1r_inv q1
          obtain ⟨-, q4⟩ := zg_inv q3
          cases q4
        · obtain ⟨-, q2⟩ := zg_inv q1
          obtain ⟨_, _, _, -, q3⟩ := zp1r_inv q2
          obtain ⟨-, q4⟩ := zg_inv q3
          cases q4; rfl
    subst ea
    have sub : ls' = ls ∧ (∀ v ∈ av, v ∈ st) ∧ (∀ v ∈ st', v ∈ st) := by
      rcases zheap_call h0 with ⟨x, rfl⟩ | ⟨x, rfl⟩ | ⟨x, rfl⟩
      · obtain ⟨-, q1⟩ := zg_inv h0
        obtain ⟨-, q2⟩ := zg_inv q1
        cases q2; exact ⟨rfl, fun v hv => List.mem_of_mem_take (List.mem_reverse.mp hv), fun v hv => List.mem_of_mem_drop hv⟩
      · obtain ⟨-, q1⟩ := zg_inv h0
        obtain ⟨-, q2⟩ := zg_inv q1
        obtain ⟨_, _, _, -, q3⟩ := zp1r_inv q2
        obtain ⟨-, q4⟩ := zg_inv q3
        cases q4; exact ⟨rfl, fun v hv => List.mem_of_mem_take (List.mem_reverse.mp hv), fun v hv => List.mem_of_mem_drop hv⟩
      · obtain ⟨-, q1⟩ := zg_inv h0
        split at q1
        · obtain ⟨_, _, _, -, q3⟩ := zp1r_inv q1
          obtain ⟨-, q4⟩ := zg_inv q3
          cases q4
        · obtain ⟨-, q2⟩ := zg_inv q1
          obtain ⟨_, _, _, -, q3⟩ := zp1r_inv q2
          obtain ⟨-, q4⟩ := zg_inv q3
          cases q4; exact ⟨rfl, fun v hv => List.mem_of_mem_take (List.mem_reverse.mp hv), fun v hv => List.mem_of_mem_drop hv⟩
    obtain ⟨rfl, sa, sb⟩ := sub
    have k2 := zss_mono hk.1
    have k3 := zss_mono hk.2
    refine zH_size (K0 := 0) X.2.2.2.2.2.2.2.2.1 hS hW (fun hl => ⟨by omega, by omega⟩) fun hHs => ?_
    have hMt := zMet (l := Ω.1) hN (fun v hv => hst v (sa v hv)) hl h1
    refine (zcall_ok (R := R) (e := e) (below := below) (cells := σ.1) (slots := zss σ.1) (Q := Z) h7 (by omega) X hdg hvl hfr hW hS hlv hst hHs h0 hMt ⟨by omega, by omega⟩ fun r1 σ1 H1 locs1 q1 q2 q3 q4 => ?_).2.2.2.2
    cases q1
    have e1 : σ.1 + (σ2.1 - σ.1) = σ2.1 := by omega
    have e2 : zss σ.1 + (zss σ2.1 - zss σ.1) = zss σ2.1 := by omega
    rw [e1, e2]
    refine h2 H1 locs1 arr q3 q4 hlv (zoks_mono hk.1 hls) fun v hv => ?_
    rcases List.mem_append.mp hv with q | q
    · exact q2 v q
    · exact zok_mono hk.1 (hst v (sb v q))
end ZPL
theorem zs_new {idx a b cs ee pc K : Nat} {d : Int} {ls st : List zV} {f g : zM} {S : Int → Int} (V : Nat) (hV : zvi K = V) (h : (Nat.ble (K + 1) 147 && (Nat.beq (zlay.getD V 99) a && Nat.ble (a + 1) 11)) = true) : zstep (.new idx) 3 a b cs ee d pc ls st (K, f, zmx g S) = some (.inl ((pc + 3, ls, zR a (V : Int) :: st), (K + 1, zrow f V (fun j => zdg a j.toNat), zmx (zrow g V (fun j => zdf a j.toNat)) S))) := by
  rw [← zmx_r]
  subst hV
  refine zstep_h rfl ?_
  show zg (Nat.ble (K + 1) 147 && (Nat.beq (zlay.getD (zvi K) 99) a && Nat.ble (a + 1) 11)) _ = _
  rw [h]
  rfl
theorem zs_nla {a b cs ee pc K t : Nat} {ty : ArrayType} {n d : Int} {ls r : List zV} {f g : zM} {S : Int → Int} (V : Nat) (hV : zvi K = V) (ht : zlay.getD V 99 = t) (h : (Nat.ble (K + 1) 147 && (Nat.beq (zKd t).1 a && (decide (((zKd t).2.1 : Int) = n) && Nat.ble a 4))) = true) : zstep (.newarray ty) 2 a b cs ee d pc ls (zI n :: r) (K, f, zmx g S) = some (.inl ((pc + 2, ls, zR t (V : Int) :: r), (K + 1, zrow f V (fun _ => -1), zmx (zrow g V (fun _ => 0)) S))) := by
  rw [← zmx_r]
  subst hV
  subst ht
  refine zstep_h rfl ?_
  show zg (Nat.ble (K + 1) 147 && (Nat.beq (zKd (zlay.getD (zvi K) 99)).1 a && (decide (((zKd (zlay.getD (zvi K) 99)).2.1 : Int) = n) && Nat.ble a 4))) _ = _
  rw [h]
  rfl
set_option maxRecDepth 100000 in
theorem le_0 : zent 211 0 = some (0, .new 8, 3, (9, 0, 0, 0), 0) := by rfl
set_option maxRecDepth 100000 in
theorem le_3 : zent 211 3 = some (3, .dup, 1, (0, 0, 0, 0), 0) := by rfl
set_option maxRecDepth 100000 in
theorem le_4 : zent 211 4 = some (4, .invokespecial 17, 3, (95, 1, 1, 9), 0) := by rfl
set_option maxRecDepth 100000 in
theorem le_7 : zent 211 7 = some (7, .astore_n 1, 1, (0, 0, 0, 0), 0) := by rfl
set_option maxRecDepth 100000 in
theorem le_8 : zent 211 8 = some (8, .new 18, 3, (10, 0, 0, 0), 0) := by rfl
set_option maxRecDepth 100000 in
theorem le_11 : zent 211 11 = some (11, .dup, 1, (0, 0, 0, 0), 0) := by rfl
set_option maxRecDepth 100000 in
theorem le_12 : zent 211 12 = some (12, .invokespecial 20, 3, (123, 1, 1, 10), 0) := by rfl
set_option maxRecDepth 100000 in
theorem le_15 : zent 211 15 = some (15, .astore_n 2, 1, (0, 0, 0, 0), 0) := by rfl
set_option maxRecDepth 100000 in
theorem le_16 : zent 211 16 = some (16, .iconst 1, 1, (0, 0, 0, 0), 0) := by rfl
set_option maxRecDepth 100000 in
theorem le_17 : zent 211 17 = some (17, .newarray .long, 2, (2, 0, 0, 0), 0) := by rfl
set_option maxRecDepth 100000 in
theorem le_19 : zent 211 19 = some (19, .astore_n 3, 1, (0, 0, 0, 0), 0) := by rfl
set_option maxRecDepth 100000 in
theorem le_20 : zent 211 20 = some (20, .iconst 0, 1, (0, 0, 0, 0), 0) := by rfl
set_option maxRecDepth 100000 in
theorem le_21 : zent 211 21 = some (21, .istore 4, 2, (0, 0, 0, 0), 0) := by rfl
theorem le_k : zlay.getD 147 99 = 35 := by decide +kernel
theorem le_n1 : (Nat.ble (0 + 1) 147 && (Nat.beq (zlay.getD 0 99) 9 && Nat.ble (9 + 1) 11)) = true := by decide +kernel
theorem le_n2 : (Nat.ble (87 + 1) 147 && (Nat.beq (zlay.getD 88 99) 10 && Nat.ble (10 + 1) 11)) = true := by decide +kernel
theorem le_v : zvi 0 = 0 ∧ zvi 87 = 88 ∧ zvi 146 = 147 := by decide +kernel
theorem le_n3 : (Nat.ble (146 + 1) 147 && (Nat.beq (zKd 35).1 2 && (decide (((zKd 35).2.1 : Int) = 1) && Nat.ble 2 4))) = true := by decide +kernel
theorem le_a : zini 95 [zR 9 0] = [zR 9 0, zU] ∧ (zinl [zR 9 0]).length ≤ (zmi 95).2.2.1 := by decide +kernel
theorem le_b : zini 123 [zR 10 88] = [zR 10 88] ∧ (zinl [zR 10 88]).length ≤ (zmi 123).2.2.1 := by decide +kernel
theorem zcA_e : ∃ f g : zM, zcA = some ([], (87, f, g)) := by
  have h := zcA_1
  cases hA : zcA with
  | none => rw [hA] at h; cases h
  | some r =>
    rw [hA] at h
    obtain ⟨r1, K, f, g⟩ := r
    have h : (r1.isEmpty && Nat.beq K 87) = true := h
    obtain ⟨h1, h2⟩ := zb_and h
    have h1 : r1 = [] := List.isEmpty_iff.mp h1
    have h2 : K = 87 := zb_len h2
    subst h1
    subst h2
    exact ⟨f, g, rfl⟩
theorem zcB_e {f g : zM} (hA : zcA = some ([], (87, f, g))) : ∃ f2 g2 : zM, zrus 30000 123 0 [zR 10 88] [] (88, zrow f (88 : Nat) (fun j => zdg 10 j.toNat), zrow g (88 : Nat) (fun j => zdf 10 j.toNat)) = some ([], (146, f2, g2)) ∧ zcC = (147, zrow f2 (147 : Nat) (fun _ => -1), zrow g2 (147 : Nat) (fun _ => 0)) := by
  have eB : zcB = zrus 30000 123 0 [zR 10 88] [] (88, zrow f (88 : Nat) (fun j => zdg 10 j.toNat), zrow g (88 : Nat) (fun j => zdf 10 j.toNat)) := by
    unfold zcB
    first | (rw [hA]; done) | (rw [hA]; rfl)
  have h := zcB_1
  cases hB : zcB with
  | none => rw [hB] at h; cases h
  | some r =>
    rw [hB] at h
    obtain ⟨r1, K, f2, g2⟩ := r
    have h : (r1.isEmpty && Nat.beq K 146) = true := h
    obtain ⟨h1, h2⟩ := zb_and h
    have h1 : r1 = [] := List.isEmpty_iff.mp h1
    have h2 : K = 146 := zb_len h2
    subst h1
    subst h2
    refine ⟨f2, g2, eB.symm.trans hB, ?_⟩
    unfold zcC
    first | (rw [hB]; done) | (rw [hB]; rfl)
section ZPR
variable {Ω : zΩ} {p : Program} {e : Env} {s : State} {mi : MethodId} {args : Array Value} {below : List Frame} {meth : Method} {c : Code} {R : Room} {Z : State → Prop}
set_option maxRecDepth 100000 in
theorem l_start (X : zCx Ω.2.1 Ω.2.2.1 Ω.2.2.2.1 p s mi args meth c 211) (hB : s.heap.size = Ω.2.1.1) (hfr : zfr 211 ≤ R.frames ∧ zlo 211 ≤ R.locals) (hroom : 147 ≤ R.cells ∧ zss 147 ≤ R.slots) (S : Int → Int) (h : zLw Ω p e s mi args below meth c R Z 0 23 [zR 90 0, zR 9 0, zR 10 88, zR 35 147, zI 0, zU, zU] [] (zmx zm0 S)) : zPl Ω p e s mi args below meth c R Z 0 [zR 90 0, zU, zU, zU, zU, zU, zU] [] (0, zn0, zmx zn0 S) := by
  obtain ⟨f, g, hA⟩ := zcA_e
  obtain ⟨f2, g2, hB2, hC⟩ := zcB_e hA
  have hA2 : zrus 30000 95 0 [zR 9 0, zU] [] (1, zrow zn0 (0 : Nat) (fun j => zdg 9 j.toNat), zrow zn0 (0 : Nat) (fun j => zdf 9 j.toNat)) = some ([], (87, f, g)) := hA
  have m1 := zrun_ok (l := Ω.1) (B := Ω.2.1) (cA := Ω.2.2.1) (D := Ω.2.2.2.1) (L := Ω.2.2.2.2.1) (xs := Ω.2.2.2.2.2) _ _ _ _ _ _ _ (by decide) (zrus_ok S _ _ _ _ _ _ _ hA2)
  have m2 := zrun_ok (l := Ω.1) (B := Ω.2.1) (cA := Ω.2.2.1) (D := Ω.2.2.2.1) (L := Ω.2.2.2.2.1) (xs := Ω.2.2.2.2.2) _ _ _ _ _ _ _ (by decide) (zrus_ok S _ _ _ _ _ _ _ hB2)
  rw [← le_a.1] at m1
  rw [← le_b.1] at m2
  refine zPl_next X hB hfr hroom le_0 (zs_new 0 le_v.1 le_n1) (by show 0 + 1 ≤ 147; decide) ?_
  refine zPl_next X hB hfr hroom (pc' := 4) (ls' := [zR 90 0, zU, zU, zU, zU, zU, zU]) (st' := [zR 9 0, zR 9 0]) le_3 (zstep_p rfl) (by show 0 + 1 ≤ 147; decide) ?_
  refine zPl_call X hB hfr hroom (N := 95) (av := [zR 9 0]) (pc' := 7) (ls' := [zR 90 0, zU, zU, zU, zU, zU, zU]) (st' := [zR 9 0]) (r := []) (σ2 := (87, f, zmx g S)) (by decide) le_4 (zstep_h rfl rfl) le_a.2 ⟨by show 0 + 1 ≤ 87; decide, by show 87 ≤ 147; decide⟩ m1 ?_
  refine zPl_next X hB hfr hroom (pc' := 8) (ls' := [zR 90 0, zR 9 0, zU, zU, zU, zU, zU]) (st' := []) le_7 (zstep_p rfl) (by show 87 ≤ 147; decide) ?_
  refine zPl_next X hB hfr hroom le_8 (zs_new 88 le_v.2.1 le_n2) (by show 87 + 1 ≤ 147; decide) ?_
  refine zPl_next X hB hfr hroom (pc' := 12) (ls' := [zR 90 0, zR 9 0, zU, zU, zU, zU, zU]) (st' := [zR 10 88, zR 10 88]) le_11 (zstep_p rfl) (by show 87 + 1 ≤ 147; decide) ?_
  refine zPl_call X hB hfr hroom (N := 123) (av := [zR 10 88]) (pc' := 15) (ls' := [zR 90 0, zR 9 0, zU, zU, zU, zU, zU]) (st' := [zR 10 88]) (r := []) (σ2 := (146, f2, zmx g2 S)) (by decide) le_12 (zstep_h rfl rfl) le_b.2 ⟨by show 87 + 1 ≤ 146; decide, by show 146 ≤ 147; decide⟩ m2 ?_
  refine zPl_next X hB hfr hroom (pc' := 16) (ls' := [zR 90 0, zR 9 0, zR 10 88, zU, zU, zU, zU]) (st' := []) le_15 (zstep_p rfl) (by show 146 ≤ 147; decide) ?_
  refine zPl_next X hB hfr hroom (pc' := 17) (ls' := [zR 90 0, zR 9 0, zR 10 88, zU, zU, zU, zU]) (st' := [zI 1]) le_16 (zstep_p rfl) (by show 146 ≤ 147; decide) ?_
  refine zPl_next X hB hfr hroom le_17 (zs_nla 147 le_v.2.2 le_k le_n3) (by show 146 + 1 ≤ 147; decide) ?_
  refine zPl_next X hB hfr hroom (pc' := 20) (ls' := [zR 90 0, zR 9 0, zR 10 88, zR 35 147, zU, zU, zU]) (st' := []) le_19 (zstep_p rfl) (by show 146 + 1 ≤ 147; decide) ?_
  refine zPl_next X hB hfr hroom (pc' := 21) (ls' := [zR 90 0, zR 9 0, zR 10 88, zR 35 147, zU, zU, zU]) (st' := [zI 0]) le_20 (zstep_p rfl) (by show 146 + 1 ≤ 147; decide) ?_
  refine zPl_next X hB hfr hroom (pc' := 23) (ls' := [zR 90 0, zR 9 0, zR 10 88, zR 35 147, zI 0, zU, zU]) (st' := []) le_21 (zstep_p rfl) (by show 146 + 1 ≤ 147; decide) ?_
  intro H locs arr hW hS hlv hls hst
  have hF : zcC.2.1 = zrow f2 (147 : Nat) (fun _ => -1) := by rw [hC]
  have hG : zm0 = zrow g2 (147 : Nat) (fun _ => 0) := by
    unfold zm0
    rw [hC]
  have hW2 : zWd Ω.2.1 Ω.2.2.1 Ω.2.2.2.1 Ω.2.2.2.2.1 Ω.2.2.2.2.2 s H (147, zr0, zmx zm0 S) := by
    rw [hG]
    refine zWd_ag (f := zrow f2 (147 : Nat) (fun _ => -1)) ?_ hW
    rw [← hF]
    exact zag_m0
  have hw := h H locs arr hW2 hS hlv hls hst
  rw [Nat.mul_zero, Nat.add_zero, Nat.add_zero] at hw
  exact hw
end ZPR
section ZLL
variable {Ω : zΩ} {p : Program} {e : Env} {s : State} {mi : MethodId} {args : Array Value} {below : List Frame} {meth : Method} {c : Code} {R : Room} {Z : State → Prop} {n : Nat}
/-- look, in the law's judgement -/
theorem zLw_L (hl : Ω.1.stackTraces = false) (X : zCx Ω.2.1 Ω.2.2.1 Ω.2.2.2.1 p s mi args meth c 211) (hT : zTh Ω.2.1 s s.heap) (hfr : 8 ≤ R.frames ∧ 160 ≤ R.locals) (hroom : 147 + (n + 1) ≤ R.cells ∧ zss 147 + 16 * (n + 1) ≤ R.slots) : ZLk (zLw Ω p e s mi args below meth c R Z n) (zLw Ω p e s mi args below meth c R Z (n + 1)) := by
  intro m x4 a b ha hb h1 h12 k1 k2 k3 H locs arr hW hS hlv hls hst
  refine ll_call (l := Ω.1) hl ha hb h12 X hT hfr hW hS hlv ⟨by omega, by omega⟩ fun r σ1 H1 locs1 hR hok hW1 hS1 => ?_
  have e1 : 147 + n + 1 = 147 + (n + 1) := by omega
  have e2 : zss 147 + 16 * n + 16 = zss 147 + 16 * (n + 1) := by omega
  rw [e1, e2]
  rcases hR with ⟨q1, rfl, rfl⟩ | ⟨q1, q2, rfl, rfl⟩ | ⟨q1, q2, rfl, rfl⟩
  · exact k1 q1 H1 locs1 arr hW1 hS1 hlv hls hok
  · exact k2 q1 q2 H1 locs1 arr hW1 hS1 hlv hls hok
  · exact k3 q1 q2 H1 locs1 arr hW1 hS1 hlv hls hok
end ZLL
