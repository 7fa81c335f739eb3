/-! the invariant holds where the loop begins -/
theorem zht_c {a : Nat} (h : ((List.range 3).all fun k => (List.range 100).all fun d => decide (zm0 (3 + 2 * ((k + a : Nat) : Int) + 1) d = 0) && decide (zm0 96 (100 * ((k + a : Nat) : Int) + d) = 0)) = true) {k d : Int} (h0 : (a : Int) ≤ k) (h1 : k < a + 3) (d0 : 0 ≤ d) (d1 : d < 100) : zm0 (3 + 2 * k + 1) d = 0 ∧ zm0 96 (100 * k + d) = 0 := by
  have q := List.all_eq_true.mp (List.all_eq_true.mp h (k.toNat - a) (List.mem_range.mpr (by omega))) d.toNat (List.mem_range.mpr (by omega))
  have e : ((k.toNat - a + a : Nat) : Int) = k := by omega
  have e2 : (d.toNat : Int) = d := by omega
  obtain ⟨q1, q2⟩ := zb_and q
  have q1 := of_decide_eq_true q1
  have q2 := of_decide_eq_true q2
  rw [e, e2] at q1 q2
  exact ⟨q1, q2⟩
theorem zfx_s : ∀ t ∈ zfx, ¬ t.1 = -2 := by decide +kernel
theorem VI_m0 (S : Int → Int) : VI S (zmx zm0 S) := by
  refine VI_0 (fun t ht => ?_) (fun k k0 k1 d d0 d1 => ?_) fun j => if_pos rfl
  · rw [zmx_n (zfx_s t ht)]
    exact of_decide_eq_true (List.all_eq_true.mp zfx_ok t ht)
  · rw [zmx_n (by omega), zmx_n (by omega)]
    have : (k < 3) ∨ (3 ≤ k ∧ k < 6) ∨ (6 ≤ k ∧ k < 9) ∨ (9 ≤ k ∧ k < 12) := by omega
    rcases this with z | z | z | z
    · exact zht_c zht_0 k0 (by omega) d0 d1
    · exact zht_c zht_1 z.1 (by omega) d0 d1
    · exact zht_c zht_2 z.1 (by omega) d0 d1
    · exact zht_c zht_3 z.1 (by omega) d0 d1
