theorem i32_0 (x : Int32) : x.toInt = 0 ↔ x = 0 := ⟨fun h => Int32.toInt_inj.1 (by rw [h]; rfl), fun h => by rw [h]; rfl⟩
theorem bit_ne : ∀ a b : Fin 12, ¬ a = b → Int32.ofInt (zshl 1 (a.1 : Int)) &&& Int32.ofInt (zshl 1 (b.1 : Int)) = 0 := by decide +kernel
theorem bit_n0 : ∀ a : Fin 12, ¬ Int32.ofInt (zshl 1 (a.1 : Int)) = 0 := by decide +kernel
theorem i32_ao (x p q : Int32) : (x ||| p) &&& q = (x &&& q) ||| (p &&& q) := by
  apply Int32.toBitVec_inj.1
  rw [Int32.toBitVec_and, Int32.toBitVec_or, Int32.toBitVec_or, Int32.toBitVec_and, Int32.toBitVec_and]
  ext i hi
  simp [Bool.and_or_distrib_right]
theorem i32_ab (x p : Int32) : (x ||| p) &&& p = p := by
  apply Int32.toBitVec_inj.1
  rw [Int32.toBitVec_and, Int32.toBitVec_or]
  ext i hi
  simp
  exact fun h => Or.inr h
theorem zmask_or {M k k' : Int} (h0 : 0 ≤ k) (h1 : k < 12) (h2 : 0 ≤ k') (h3 : k' < 12) : zand (zor M (zshl 1 k)) (zshl 1 k') = 0 ↔ (¬ k' = k ∧ zand M (zshl 1 k') = 0) := by
  obtain ⟨a, rfl⟩ := Int.eq_ofNat_of_zero_le h0
  obtain ⟨b, rfl⟩ := Int.eq_ofNat_of_zero_le h2
  unfold zand zor
  rw [i32_0, i32_0, Int32.ofInt_toInt]
  by_cases e : b = a
  · subst e
    rw [i32_ab]
    have := bit_n0 ⟨b, by omega⟩
    exact ⟨fun h => absurd h this, fun h => absurd rfl h.1⟩
  · rw [i32_ao]
    have := bit_ne ⟨a, by omega⟩ ⟨b, by omega⟩ (fun q => e (by cases q; rfl))
    dsimp only at this
    rw [this, Int32.or_zero]
    exact ⟨fun h => ⟨by omega, h⟩, fun h => h.2⟩
theorem zmask_0 {k : Int} (h0 : 0 ≤ k) (h1 : k < 12) : zand 0 (zshl 1 k) = 0 := by
  unfold zand
  rw [i32_0]
  exact Int32.zero_and
theorem RC_133 {g s m : zM} {l k : Int} (hv : vG g) (h : RC g s m) (h0 : 0 ≤ l) (h1 : l < g 88 12) (k0 : 0 ≤ k) (k1 : k < 12) : RC g (zup s 133 (12 * l + k) 1) (zup m (30 + 6 * l) 15 (zor (m (30 + 6 * l) 15) (zshl 1 k))) := by
  have v1 := hv.1
  have v2 := hv.2.1
  refine ⟨fun l' e0 e1 => ?_, fun k e0 e1 => ?_, ?_⟩
  · have c := h.1 l' e0 e1
    by_cases e : l' = l
    · subst e
      unfold CL at c ⊢
      simp (disch := omega) only [zup_j, zup_c, zup_e]
      simp only [c, true_and]
      intro k' k0' k1'
      rw [zmask_or k0 k1 k0' k1']
      by_cases e : k' = k
      · rw [zup_e rfl (by omega)]
        exact ⟨fun q => absurd e q.1, fun q => absurd q (by decide)⟩
      · rw [zup_j (by omega), c.2.2.2.2.2.2.2 k' k0' k1']
        exact ⟨fun q => q.2, fun q => ⟨e, q⟩⟩
    · exact CL_s c (fun x _ _ hx => zup_c hx) (fun k' _ _ => zup_j (by omega)) fun j _ _ => zup_c (by omega)
  · exact CK_s (h.2.1 k e0 e1) (zup_c (by decide)) (zup_c (by decide)) (zup_c (by decide)) fun j _ _ => zup_c (by omega)
  · exact CT_s h.2.2 (zup_row (by decide)) (zup_row (by decide)) (zup_row (by decide)) fun j _ _ => zup_c (by omega)
theorem RC_139 {g s m : zM} {k gv A B C : Int} (hv : vG g) (h : RC g s m) (h0 : 1 ≤ k) (h1 : k < g 88 4) (eA : A = g 93 k - (s 139 k - gv)) (eB : B = s 140 k + (g 93 k - (s 139 k - gv))) (eC : C = mxA (s 141 k) (g 93 k - (s 139 k - gv))) : RC g (zup s 139 k (s 139 k - gv)) (zup (zup (zup m (3 + 2 * k) 8 A) (3 + 2 * k) 9 B) (3 + 2 * k) 10 C) := by
  have v1 := hv.1
  have v2 := hv.2.1
  refine ⟨fun l' e0 e1 => ?_, fun k' e0 e1 => ?_, ?_⟩
  · exact CL_s (h.1 l' e0 e1) (fun x _ _ _ => zup_c (by omega)) (fun k' _ _ => zup_c (by decide)) fun j _ _ => by rw [zup_c (by omega), zup_c (by omega), zup_c (by omega)]
  · have c := h.2.1 k' e0 e1
    by_cases e : k' = k
    · subst e
      unfold CK
      simp (disch := omega) only [zup_j, zup_c, zup_e]
      exact ⟨eA, eB, eC⟩
    · exact CK_s c (zup_j e) (zup_c (by decide)) (zup_c (by decide)) fun j _ _ => by rw [zup_c (by omega), zup_c (by omega), zup_c (by omega)]
  · exact CT_s h.2.2 (zup_row (by decide)) (zup_row (by decide)) (zup_row (by decide)) fun j _ _ => by rw [zup_c (by omega), zup_c (by omega), zup_c (by omega)]
theorem RC_137 {g s m : zM} {l d : Int} (hv : vG g) (h : RC g s m) (h0 : 0 ≤ l) (h1 : l < g 88 12) (hd : 0 ≤ d) (hr : ¬ g 125 l = 0) (hl : s 137 l < 0) (ho : ∀ j, 0 ≤ j → j < g 88 12 → s 137 j ≤ d) : RC g (zup s 137 l d) (zup (zup (zup (zup m (30 + 6 * l) 12 d) 65 9 (sumA (arA s) (g 88 12).toNat + 1)) 65 10 d) 65 6 (sumA (uwA g s) (g 88 12).toNat - 1)) := by
  have v1 := hv.1
  have v2 := hv.2.1
  refine ⟨fun l' e0 e1 => ?_, fun k e0 e1 => ?_, ?_⟩
  · have c := h.1 l' e0 e1
    by_cases e : l' = l
    · subst e
      unfold CL at c ⊢
      simp (disch := omega) only [zup_j, zup_c, zup_e]
      simp only [c, true_and]
      exact fun k k0 k1 => c.2.2.2.2.2.2.2 k k0 k1
    · exact CL_s c (fun x _ _ _ => zup_j e) (fun k _ _ => zup_c (by decide)) fun j _ _ => by rw [zup_c (by omega), zup_c (by omega), zup_c (by omega), zup_c (by omega)]
  · exact CK_s (h.2.1 k e0 e1) (zup_c (by decide)) (zup_c (by decide)) (zup_c (by decide)) fun j _ _ => by rw [zup_c (by omega), zup_c (by omega), zup_c (by omega), zup_c (by omega)]
  · have t := h.2.2
    unfold CT at t ⊢
    rw [zup_row (y := 134) (by decide), zup_row (y := 135) (by decide)]
    have q1 := sumA_ch (f := arA s) (f' := arA (zup s 137 l d)) (l := l) (fun j hj => by unfold arA; rw [zup_j hj]) h0 (g 88 12).toNat (by omega)
    have q2 := sumA_ch (f := uwA g s) (f' := uwA g (zup s 137 l d)) (l := l) (fun j hj => by unfold uwA; rw [zup_j hj]) h0 (g 88 12).toNat (by omega)
    have a1 : arA (zup s 137 l d) l = 1 := by unfold arA; rw [zup_e rfl rfl, if_neg (by omega)]
    have a2 : arA s l = 0 := by unfold arA; rw [if_pos hl]
    have a3 : uwA g (zup s 137 l d) l = 0 := by unfold uwA; rw [zup_e rfl rfl, if_neg (by omega)]
    have a4 : uwA g s l = 1 := by unfold uwA; rw [if_pos ⟨hr, hl⟩]
    have q3 := maxA_at (f := zup s 137 l d 137) (d := d) (l := l) (by omega) h0 (zup_e rfl rfl) (g 88 12).toNat (by omega) fun j b c => by
      by_cases e : j = l
      · rw [zup_e rfl e]; exact Int.le_refl _
      · rw [zup_j e]; exact ho j (by omega) (by omega)
    rw [q1, q2, q3, a1, a2, a3, a4]
    simp (disch := omega) only [zup_j, zup_c, zup_e]
    refine ⟨t.1, t.2.1, ?_, trivial, ?_⟩ <;> omega
/-- arrived: in the city -/
def AI (g s : zM) (d : Int) : Prop := ∀ l, 0 ≤ l → l < g 88 12 → (s 137 l = -1 ∧ 1 ≤ s 130 l) ∨ (0 ≤ s 137 l ∧ s 137 l ≤ d ∧ s 130 l = 0)
theorem AI_w {g s : zM} {d d' : Int} (h : AI g s d) (hd : d ≤ d') : AI g s d' := fun l h0 h1 => by
  have := h l h0 h1
  omega
theorem hopA_137 {g s : zM} {l l' : Int} : hopA g s l 137 l' = s 137 l' := by simp [hopA]
theorem hopsA_137 {g : zM} {l l' : Int} : ∀ (n : Nat) (s : zM), hopsA g l n s 137 l' = s 137 l' := by
  intro n
  induction n with
  | zero => intro s; rfl
  | succ n ih => intro s; unfold hopsA; rw [ih, hopA_137]
theorem marksA_137 {g s : zM} {l d l' : Int} {p : Nat × Nat} : marksA g s l d p 137 l' = s 137 l' := by
  unfold marksA
  split <;> split <;> (try simp [zup])
theorem askA_AI {g s : zM} {l d c : Int} (hv : vG g) (hb : BA g s c c) (h : AI g s d) (h0 : 0 ≤ l) (h1 : l < g 88 12) (hd : 0 ≤ d) (hat : ¬ s 130 l = 0) : AI g (askA g s l d) d := by
  intro l' e0 e1
  have a := h l' e0 e1
  have al := h l h0 h1
  have bl := hb.1 l h0 h1
  have v7 := hv.2.2.2.2.2.2 l h0 h1
  unfold LB at bl
  unfold askA
  split
  · simp [zup]; exact a
  · obtain ⟨p1, p2⟩ := lookA_p (s := s) (l := l) (d := d) hv 12 (s 130 l) 0 (by omega) (by omega)
    have pb := pth_b hv _ (s 130 l) (by omega) (by omega) p1 _ p2
    have ea : hopsA g l (lookA g s l d 12 (s 130 l) 0).2 (marksA g s l d (lookA g s l d 12 (s 130 l) 0)) 130 l = nxA g (lookA g s l d 12 (s 130 l) 0).2 (s 130 l) := by rw [hopsA_at, marksA_at]
    have eb : ∀ l', hopsA g l (lookA g s l d 12 (s 130 l) 0).2 (marksA g s l d (lookA g s l d 12 (s 130 l) 0)) 137 l' = s 137 l' := fun l' => by rw [hopsA_137, marksA_137]
    have ec : ¬ l' = l → hopsA g l (lookA g s l d 12 (s 130 l) 0).2 (marksA g s l d (lookA g s l d 12 (s 130 l) 0)) 130 l' = s 130 l' := fun e => by rw [hopsA_o e, marksA_at]
    generalize hopsA g l (lookA g s l d 12 (s 130 l) 0).2 (marksA g s l d (lookA g s l d 12 (s 130 l) 0)) = t at ea eb ec
    unfold nightA
    by_cases e : l' = l
    · subst e
      have := eb l'
      split
      · rw [zup_e rfl rfl, zup_c (by decide)]; omega
      · split
        · omega
        · rw [zup_c (by decide), zup_c (by decide)]; omega
    · have := eb l'
      have := ec e
      split
      · rw [zup_j e, zup_c (by decide)]; omega
      · split
        · omega
        · rw [zup_c (by decide), zup_c (by decide)]; omega
theorem lordsA_AI {g : zM} {d c : Int} (hv : vG g) (hd : 0 ≤ d ∧ d ≤ 99) : ∀ (n : Nat) (s : zM), (n : Int) ≤ g 88 12 → BA g s c c → AI g s d → AI g (lordsA g d n s) d := by
  intro n
  induction n with
  | zero => intro s _ _ h; exact h
  | succ n ih =>
    intro s hn hb h
    have a := ih s (by omega) hb h
    have b := lordsA_BA hv hd n s (by omega) hb
    have v7 := hv.2.2.2.2.2.2 n (by omega) (by omega)
    unfold lordsA
    split
    · rename_i q
      exact askA_AI hv b a (by omega) (by omega) hd.1 q.2.2
    · exact a
theorem dutA_BA {g s : zM} {c e : Int} (hv : vG g) (hb : BA g s c e) : BA g (dutA g s) c e := by
  refine ⟨fun l h0 h1 => ?_, fun k h0 h1 => ?_⟩
  · have := hb.1 l h0 h1
    unfold LB at this ⊢
    simp [dutA]
    omega
  · have := hv.2.2.2.1 k h0 h1
    simp [dutA]
    omega
theorem dysA_AI {g : zM} (hv : vG g) : ∀ n : Nat, n ≤ 100 → AI g (dysA g n) n := by
  have v2 := hv.2.1
  intro n
  induction n with
  | zero =>
    intro _ l h0 h1
    have := hv.2.2.2.2.2.2 l h0 h1
    unfold dysA
    simp [s0A]
    omega
  | succ n ih =>
    intro hn
    have a := lordsA_AI (d := n) hv (by omega) (g 88 12).toNat (dutA g (dysA g n)) (by omega) (dutA_BA hv (dysA_BA hv n (by omega))) (fun l h0 h1 => by
      have := ih (by omega) l h0 h1
      simp [dutA]
      exact this)
    intro l h0 h1
    have b := a l h0 h1
    unfold dysA dayA
    generalize lordsA g n (g 88 12).toNat (dutA g (dysA g n)) = t at b
    simp [endA]
    omega
