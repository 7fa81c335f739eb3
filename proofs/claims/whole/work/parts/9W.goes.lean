/-! the reference's reader: tokens asked for, faults, where it goes on -/
theorem wrA_b {k : Int} : (k ≤ 11 ∧ wrA k = k - 3) ∨ (12 ≤ k ∧ k ≤ 20 ∧ wrA k = k) ∨ (21 ≤ k ∧ wrA k = k - 12) := by
  unfold wrA
  split
  · omega
  · split <;> omega
theorem srA_i {k k0 : Int} (h1 : 24 ≤ k ∧ k ≤ 39 ∧ ¬ k = 35) (h2 : 24 ≤ k0 ∧ k0 ≤ 39 ∧ ¬ k0 = 35) (h : srA k = srA k0) : k = k0 := by
  unfold srA at h
  repeat' split at h
  all_goals omega
theorem RK_k {k v : Int} {u : zM} (h : RK k v u) (hk : 0 ≤ k ∧ k ≤ 39) : (u 88 30 = 1 → 3 ≤ k ∧ k ≤ 23 ∧ u 88 31 = wrA k) ∧ (u 88 30 = 2 → k = 2) ∧ (u 88 30 = 3 → 24 ≤ k ∧ u 88 31 = srA k) ∧ (u 88 30 = 0 → k = 0) := by
  obtain ⟨h0, h1, h2, h3, h4⟩ := h
  have : k = 0 ∨ k = 1 ∨ k = 2 ∨ (3 ≤ k ∧ k ≤ 23) ∨ 24 ≤ k := by omega
  rcases this with z | z | z | z | z
  · have := h0 z; omega
  · have := h1 z; omega
  · have := h2 z; omega
  · have := h3 z.1 z.2; exact ⟨fun _ => ⟨z.1, z.2, this.2⟩, by omega, by omega, by omega⟩
  · have := h4 z; exact ⟨by omega, by omega, fun _ => ⟨z, this.2⟩, by omega⟩
def TN (tx : Int → Int) (n p : Int) (u : zM) : Prop := TM tx n u ∧ RK (tk tx n p).1 (tk tx n p).2.1 u ∧ u 88 32 = tkP tx n p ∧ u 88 29 = (tk tx n p).2.2
/-- behind a line; behind an expression; behind a value -/
def LC (Ω : zΩ) (x : Int) (R : List zV → zM → Prop) : List zV → zM → Prop := fun r m => zk1 r fun v => if v = 0 then R [zI (-1)] m else zG Ω 161 55 [zR 10 88, zU, zI (zw (x + 1))] [] m R
abbrev lwN (w : Int) : Int := if w ≤ 11 then w - 3 else 8
abbrev moN (w : Int) : Int := if w ≤ 11 then 0 else w - 11
def XC (Ω : zΩ) (w x : Int) (R : List zV → zM → Prop) : List zV → zM → Prop := fun r m => zk1 r fun v => if v = 0 then LC Ω x R [zI 0] m else zG Ω 158 83 [zR 10 88, zI (lwN w), zI (moN w)] [] m (LC Ω x R)
def VC (Ω : zΩ) (w x : Int) (R : List zV → zM → Prop) : List zV → zM → Prop := fun r m => zk1 r fun v => if v = 0 then XC Ω w x R [zI 0] m else zG Ω 155 43 [zR 10 88, zI (w - 7), zU] [] m (XC Ω w x R)
section L3
variable {Ω : zΩ} {Q R : List zV → zM → Prop} {u : zM} {tx : Int → Int} {n w x : Int}
theorem r_sgn {k v c k0 : Int} {A B : zM → Prop} (h : RK k v u) (hk : 0 ≤ k ∧ k ≤ 39 ∧ ¬ k = 35) (h0 : 24 ≤ k0 ∧ k0 ≤ 39 ∧ ¬ k0 = 35) (hc : srA k0 = c) (f : k = k0 → B u) (g : ¬ k = k0 → A u) : zG Ω 144 0 [zR 10 88, zI c] [] u (fun r m1 => zk1 r fun v => if v = 0 then A m1 else B m1) := by
  have rk := RK_k h (by omega)
  refine w_X10_isSign_0 (zif (fun z => zif (fun y => zk1_t (f ?_)) fun y => zk1_f (g ?_)) fun z => zk1_f (g ?_))
  · have := rk.2.2.1 z
    exact srA_i ⟨this.1, hk.2⟩ h0 (by rw [← this.2, y, hc])
  · intro q
    have := rk.2.2.1 z
    rw [q, hc] at this
    exact y this.2
  · intro q
    exact z (h.2.2.2.2 (by omega)).1
theorem r_tk {p : Int} (h : TM tx n u) (hp : u 88 29 = p) (b : 0 ≤ p ∧ p ≤ n) (K : ∀ u2, FU u u2 → TN tx n p u2 → Q [] u2) : zG Ω 143 0 [zR 10 88, zU] [] u Q :=
  t_takeM h hp b fun u2 f rk a b => K u2 f ⟨TM_f h f, rk, a, b⟩
theorem LC_0 (h : R [zI (-1)] u) : LC Ω x R [zI 0] u := zk1_f h
theorem LC_1 (hx : -1 ≤ x ∧ x ≤ 1000) (h : zG Ω 161 55 [zR 10 88, zU, zI (x + 1)] [] u R) : LC Ω x R [zI 1] u := by
  unfold LC
  rw [zw_i (by omega) (by omega)]
  exact zk1_t h
theorem XC_0 (h : R [zI (-1)] u) : XC Ω w x R [zI 0] u := zk1_f (LC_0 h)
theorem XC_1 (h : zG Ω 158 83 [zR 10 88, zI (lwN w), zI (moN w)] [] u (LC Ω x R)) : XC Ω w x R [zI 1] u := zk1_t h
theorem VC_0 (h : R [zI (-1)] u) : VC Ω w x R [zI 0] u := zk1_f (XC_0 h)
theorem VC_1 (h : zG Ω 155 43 [zR 10 88, zI (w - 7), zU] [] u (XC Ω w x R)) : VC Ω w x R [zI 1] u := zk1_t h
theorem r_badL {k : Int} (h : R [zI (-1)] (wroF u k)) : zG Ω 137 0 [zR 10 88, zI k] [] u (fun r m => zk1 r fun v => zbl v (LC Ω x R [zI v] m)) := r_wrong (zk1_i (zbl_of (by omega) (by omega) (LC_0 h)))
theorem r_badV {k : Int} (h : R [zI (-1)] (wroF u k)) : zG Ω 137 0 [zR 10 88, zI k] [] u (fun r m => zk1 r fun v => zbl v (VC Ω w x R [zI v] m)) := r_wrong (zk1_i (zbl_of (by omega) (by omega) (VC_0 h)))
end L3
theorem wro_c {u : zM} {k : Int} : wroF u k 88 26 = k ∧ wroF u k 88 27 = u 88 32 ∧ FrM u (wroF u k) := by
  refine ⟨?_, zup_s _ _ _ _, FrM_u (FrM_u FrM_r ?_) ?_⟩
  · unfold wroF; rw [zup_j (by decide)]; exact zup_s _ _ _ _
  · unfold rdY; omega
  · unfold rdY; omega
/-- a step that touches only what is in work -/
theorem UF_k {a u u' : zM} {E K O F : Int} (hF : F ≤ O) (h0 : 0 ≤ O) (hK : 0 ≤ K) (hc : cdR a E u K O) (e : ∀ x j, ¬ (x = 88 ∧ ((29 ≤ j ∧ j ≤ 32) ∨ (42 ≤ j ∧ j ≤ 53))) → ¬ (118 ≤ x ∧ x ≤ 121) → ¬ (111 ≤ x ∧ x ≤ 114 ∧ j = 96 + K) → ¬ (x = 115 ∧ 96 + O ≤ j) → u' x j = u x j) : UF F u u' := by
  refine ⟨fun x j h => e x j (by unfold rdY at h; omega) (by unfold rdY at h; omega) (by unfold rdY at h; omega) (by unfold rdY at h; omega), ⟨e _ _ (by omega) (by omega) (by omega) (by omega), e _ _ (by omega) (by omega) (by omega) (by omega)⟩, fun x j h => e _ _ (by omega) (by omega) (by omega) (by omega), fun i i0 i1 => ⟨e _ _ (by omega) (by omega) (by omega) (by omega), fun c c1 c2 => ?_⟩⟩
  have := (hc i i0 (by omega)).1
  exact e _ _ (by omega) (by omega) (by omega) (by omega)
theorem opu_c {u : zM} : ∀ u3, u3 = zup (zup (waiF (zup (zup u 121 (u 88 50) (u 88 51)) 88 50 (u 88 50 + 1)) 100 (-1)) 88 51 0) 88 53 1 → u3 118 (u 88 46) = 100 ∧ u3 119 (u 88 46) = -1 ∧ (∀ c j, (c = 118 ∨ c = 119) → ¬ j = u 88 46 → u3 c j = u c j) ∧ u3 121 (u 88 50) = u 88 51 ∧ (∀ j, ¬ j = u 88 50 → u3 121 j = u 121 j) ∧ u3 88 46 = u 88 46 + 1 ∧ u3 88 50 = u 88 50 + 1 ∧ u3 88 51 = 0 ∧ u3 88 53 = 1 ∧ (∀ j, ¬ j = 46 → ¬ j = 50 → ¬ j = 51 → ¬ j = 53 → u3 88 j = u 88 j) ∧ (∀ c j, ¬ c = 88 → ¬ c = 118 → ¬ c = 119 → ¬ c = 121 → u3 c j = u c j) := by
  intro u3 h
  subst h
  refine ⟨?_, ?_, ?_, ?_, ?_, ?_, ?_, ?_, ?_, ?_, ?_⟩
  · simp [zup, waiF]
  · simp [zup, waiF]
  · intro c j hc hj
    rcases hc with z | z <;> subst z <;> simp [zup, waiF, hj]
  · simp [zup, waiF]
  · intro j hj; simp [zup, waiF, hj]
  · simp [zup, waiF]
  · simp [zup, waiF]
  · simp [zup, waiF]
  · simp [zup, waiF]
  · intro j h1 h2 h3 h4; simp [zup, waiF, h1, h2, h3, h4]
  · intro c j h1 h2 h3 h4; simp [zup, waiF, h1, h2, h3, h4]
theorem wai_c {u : zM} {k x : Int} : waiF u k x 118 (u 88 46) = k ∧ waiF u k x 119 (u 88 46) = x ∧ (∀ c j, (c = 118 ∨ c = 119) → ¬ j = u 88 46 → waiF u k x c j = u c j) ∧ waiF u k x 88 46 = u 88 46 + 1 ∧ (∀ c j, ¬ (c = 88 ∧ j = 46) → ¬ c = 118 → ¬ c = 119 → waiF u k x c j = u c j) := by
  refine ⟨?_, ?_, ?_, ?_, ?_⟩
  · simp [zup, waiF]
  · simp [zup, waiF]
  · intro c j hc hj
    rcases hc with z | z <;> subst z <;> simp [zup, waiF, hj]
  · simp [zup, waiF]
  · intro c j h1 h2 h3; simp [zup, waiF, h1, h2, h3]
theorem don_c {u : zM} {x : Int} : donF u x 115 (96 + u 88 43) = x ∧ (∀ j, ¬ j = 96 + u 88 43 → donF u x 115 j = u 115 j) ∧ donF u x 88 43 = u 88 43 + 1 ∧ donF u x 120 (u 88 48) = x ∧ (∀ j, ¬ j = u 88 48 → donF u x 120 j = u 120 j) ∧ donF u x 88 48 = u 88 48 + 1 ∧ (∀ c j, ¬ (c = 88 ∧ (j = 43 ∨ j = 48)) → ¬ c = 115 → ¬ c = 120 → donF u x c j = u c j) := by
  refine ⟨?_, ?_, ?_, ?_, ?_, ?_, ?_⟩
  · simp [zup, donF]
  · intro j hj; simp [zup, donF, hj]
  · simp [zup, donF]
  · simp [zup, donF]
  · intro j hj; simp [zup, donF, hj]
  · simp [zup, donF]
  · intro c j h1 h2 h3
    have n1 : ¬ (c = 88 ∧ j = 43) := by omega
    have n2 : ¬ (c = 88 ∧ j = 48) := by omega
    simp [zup, donF, n1, n2, h2, h3]
