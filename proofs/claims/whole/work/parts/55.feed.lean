theorem zand_255 (x : Int) : zand x 255 = x % 256 := by
  unfold zand
  have h := pk_and (Int32.ofInt x) (m := Int32.ofInt 255) 8 (by decide)
  rw [h]
  have h1 : (Int32.ofInt x).toBitVec.toNat = (x % 4294967296).toNat := by
    show (BitVec.ofInt 32 x).toNat = _
    rw [BitVec.toNat_ofInt]
    rfl
  rw [h1, nI_toInt (by omega)]
  omega
/-- the byte i of the five numbers of feed, before it is cut -/
def fdw (a b c d e : Int) (i : Int) : Int := zshr (if i < 4 then a else if i < 8 then b else if i < 12 then c else if i < 16 then d else e) (24 - 8 * (i % 4))
section L2
variable {Ω : zΩ} {Q : List zV → zM → Prop}
/-- the reference's tape behind i bytes more -/
def fdM (m : zM) (t a b c d e : Int) (i : Int) : zM := fun x j => if x = 89 ∧ t ≤ j ∧ j < t + i then fdw a b c d e (j - t) % 256 else m x j
theorem fdM_s {m : zM} {t a b c d e i : Int} (hi : 0 ≤ i) : zup (fdM m t a b c d e i) 89 (t + i) (fdw a b c d e i % 256) = fdM m t a b c d e (i + 1) := by
  funext x j
  unfold zup fdM
  by_cases h1 : x = 89 ∧ j = t + i
  · rw [if_pos h1, if_pos (by omega), show j - t = i by omega]
  · rw [if_neg h1]
    by_cases h2 : x = 89 ∧ t ≤ j ∧ j < t + i
    · rw [if_pos h2, if_pos (by omega)]
    · rw [if_neg h2, if_neg (by omega)]
theorem s_feed_23 {m : zM} {t a b c d e : Int} (ht : 0 ≤ t ∧ t ≤ 580) (hm : m 88 1 = t) : ∀ (n : Nat) (i : Int), 0 ≤ i → i ≤ 20 → 20 - i ≤ n → Q [zI (t + 20)] (zup (fdM m t a b c d e 20) 88 1 (t + 20)) → zG Ω 125 23 [zR 10 88, zI a, zI b, zI c, zI d, zI e, zI i, zU] [] (fdM m t a b c d e i) Q := by
  have e1 : ∀ i, fdM m t a b c d e i 88 1 = t := fun i => by unfold fdM; rw [if_neg (by omega)]; exact hm
  intro n
  induction n with
  | zero =>
    intro i h0 h1 h2 h
    refine w_X10_feed_23 (zif (fun h3 => absurd h3 (by omega)) fun _ => ?_)
    rw [e1, zw_id (by unfold zri; omega), show i = 20 by omega]
    exact h
  | succ n ih =>
    intro i h0 h1 h2 h
    have hq : zw (24 - zw (8 * Int.tmod i 4)) = 24 - 8 * (i % 4) := by
      rw [Int.tmod_eq_emod_of_nonneg h0]
      rw [zw_id (x := 8 * (i % 4)) (by unfold zri; omega), zw_id (by unfold zri; omega)]
    have key : i < 20 → zG Ω 125 23 [zR 10 88, zI a, zI b, zI c, zI d, zI e, zI (zw (i + 1)), zU] [] (zup (fdM m t a b c d e i) 89 (zw (t + i)) (zand (fdw a b c d e i) 255)) Q := by
      intro h3
      rw [zand_255, zw_id (x := i + 1) (by unfold zri; omega), zw_id (x := t + i) (by unfold zri; omega), fdM_s h0]
      exact ih _ (by omega) (by omega) (by omega) h
    refine w_X10_feed_23 (zif (fun h3 => ?_) fun h3 => ?_)
    · have k := key h3
      unfold fdw at k
      rw [e1, hq]
      have hin : 0 ≤ zw (t + i) ∧ zw (t + i) < 600 := by rw [zw_id (by unfold zri; omega)]; omega
      refine zif (fun h4 => zin_of hin.1 hin.2 ?_) fun h4 => zif (fun h5 => zin_of hin.1 hin.2 ?_) fun h5 => zif (fun h6 => zin_of hin.1 hin.2 ?_) fun h6 => zif (fun h7 => zin_of hin.1 hin.2 ?_) fun h7 => zin_of hin.1 hin.2 ?_
      · rwa [if_pos h4] at k
      · rwa [if_neg h4, if_pos h5] at k
      · rwa [if_neg h4, if_neg h5, if_pos h6] at k
      · rwa [if_neg h4, if_neg h5, if_neg h6, if_pos h7] at k
      · rwa [if_neg h4, if_neg h5, if_neg h6, if_neg h7] at k
    · rw [e1, zw_id (by unfold zri; omega), show i = 20 by omega]
      exact h
end L2
