/-! the script is what it was -/
def SCR (Ω : zΩ) (S : Int → Int) : Prop := S (-1) = (Ω.2.2.2.2.1 : Int) ∧ ∀ j : Nat, j < Ω.2.2.2.2.1 → S j = (Ω.2.2.2.2.2 j).toInt
theorem zG_scr {Ω : zΩ} {S : Int → Int} (hS : SCR Ω S) {M pc : Nat} {ls st : List zV} {m : zM} {Q : List zV → zM → Prop} (h : m (-2) (-1) = S (-1) → (∀ j : Int, 0 ≤ j → j < S (-1) → m (-2) j = S j) → zG Ω M pc ls st m Q) : zG Ω M pc ls st m Q := by
  intro p e s mi args below meth c H locs arr K0 h1 h2 h3 h4 h5 h6 h7 h8
  obtain ⟨w1, w2, w3, w4, w5, w6, w7, w8⟩ := id h2
  refine h ?_ (fun j j0 j1 => ?_) p e s mi args below meth c H locs arr K0 h1 h2 h3 h4 h5 h6 h7 h8
  · rw [hS.1]; exact w6.symm
  · rw [hS.1] at j1
    have hj : ((j.toNat : Nat) : Int) = j := by omega
    have a := w7 j.toNat (by omega)
    have b := hS.2 j.toNat (by omega)
    rw [hj] at a b
    rw [b]; exact a.symm
theorem SCR_r {Ω : zΩ} {S : Int → Int} (hS : SCR Ω S) {j : Int} (j0 : 0 ≤ j) (j1 : j < S (-1)) : zri (S j) := by
  rw [hS.1] at j1
  have hj : ((j.toNat : Nat) : Int) = j := by omega
  have b := hS.2 j.toNat (by omega)
  rw [hj] at b
  rw [b]
  exact zi_ri _
