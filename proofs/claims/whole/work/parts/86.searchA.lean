/-! the search, as numbers alone -/
def lwA (g : zM) (mv d : Int) : Int → Int := fun l => if mv = 0 then g 105 l else if 0 ≤ g 108 l ∧ g 108 l < d then g 108 l else if d < g 105 l then g 105 l else d
def hiA (g : zM) (mv d : Int) : Int → Int := fun l => if mv = 0 then g 106 l else if 0 ≤ g 108 l ∧ g 108 l < d then g 108 l else g 106 l
/-- how many days a lord has to set out -/
def nnA (g : zM) (mv d : Int) : Int → Int := fun l => if atA g l = 0 then 1 else hiA g mv d l - lwA g mv d l + 1
def prdA (f : Int → Int) : Nat → Int
  | 0 => 1
  | n + 1 => prdA f n * f n
theorem prdA_pos {f : Int → Int} {N : Int} (h : ∀ j, 0 ≤ j → j < N → 1 ≤ f j) : ∀ n : Nat, (n : Int) ≤ N → 1 ≤ prdA f n := by
  intro n
  induction n with
  | zero => intro _; unfold prdA; omega
  | succ n ih =>
    intro hn
    have a := ih (by omega)
    have b := h n (by omega) (by omega)
    unfold prdA
    have := Int.mul_le_mul (a := 1) (b := 1) (c := prdA f n) (d := f n) a b (by omega) (by omega)
    omega
theorem prdA_mono {f : Int → Int} {N : Int} (h : ∀ j, 0 ≤ j → j < N → 1 ≤ f j) (n : Nat) : ∀ k : Nat, ((n + k : Nat) : Int) ≤ N → prdA f n ≤ prdA f (n + k) := by
  intro k
  induction k with
  | zero => intro _; exact Int.le_refl _
  | succ k ih =>
    intro hn
    have a := ih (by omega)
    have b := h (n + k : Nat) (by omega) (by omega)
    have c := prdA_pos h (n + k) (by omega)
    show _ ≤ prdA f (n + k) * f (n + k : Nat)
    have := Int.mul_le_mul (a := prdA f (n + k)) (b := 1) (c := prdA f (n + k)) (d := f (n + k : Nat)) (Int.le_refl _) b (by omega) (by omega)
    omega
/-- the number of a row behind k lords from the last -/
def vvA (f : Int → Int) (N : Nat) (c : Int) : Nat → Int
  | 0 => c
  | k + 1 => vvA f N c k / f ((N : Int) - 1 - k)
theorem vvA_b {f : Int → Int} {N : Nat} {c : Int} (hc : 0 ≤ c) (h : ∀ j, 0 ≤ j → j < (N : Int) → 1 ≤ f j) : ∀ k : Nat, k ≤ N → 0 ≤ vvA f N c k ∧ vvA f N c k ≤ c := by
  intro k
  induction k with
  | zero => intro _; exact ⟨hc, Int.le_refl _⟩
  | succ k ih =>
    intro hk
    have a := ih (by omega)
    have b := h ((N : Int) - 1 - k) (by omega) (by omega)
    unfold vvA
    exact ⟨Int.ediv_nonneg a.1 (by omega), Int.le_trans (Int.ediv_le_self _ a.1) a.2⟩
/-- the days of row number c -/
def dyA (g : zM) (mv d c : Int) : Int → Int := fun l => if atA g l = 0 then -1 else lwA g mv d l + vvA (nnA g mv d) (g 88 12).toNat c ((g 88 12).toNat - 1 - l.toNat) % nnA g mv d l
theorem div_succ {v n : Int} (hn : 1 ≤ n) (hv : 0 ≤ v) : (v % n < n - 1 → (v + 1) % n = v % n + 1 ∧ (v + 1) / n = v / n) ∧ (¬ v % n < n - 1 → (v + 1) % n = 0 ∧ (v + 1) / n = v / n + 1) := by
  have h1 := Int.emod_nonneg v (show n ≠ 0 by omega)
  have h2 := Int.emod_lt_of_pos v (show 0 < n by omega)
  have h3 := Int.mul_ediv_add_emod v n
  refine ⟨fun h => ?_, fun h => ?_⟩
  · have e : v + 1 = (v % n + 1) + n * (v / n) := by omega
    rw [e, Int.add_mul_emod_self_left, Int.add_mul_ediv_left _ _ (by omega), Int.emod_eq_of_lt (by omega) (by omega), Int.ediv_eq_zero_of_lt (by omega) (by omega)]
    omega
  · have e : v + 1 = 0 + n * (v / n + 1) := by rw [Int.mul_add]; omega
    rw [e, Int.add_mul_emod_self_left, Int.add_mul_ediv_left _ _ (by omega)]
    simp
def wtS (g : zM) (d : Int → Int) : Int → Int := fun l => if atA g l = 0 then 0 else if d l = g 108 l then 0 else 10 - g 98 l
def otS (g : zM) (d : Int → Int) : Int → Int := fun l => if atA g l = 0 then 0 else if d l = g 108 l then 0 else 1
abbrev wgA (g : zM) (mv : Int) (d : Int → Int) : Int := if mv = 0 then 0 else sumA (wtS g d) (g 88 12).toNat
abbrev ylA (g : zM) (d : Int → Int) : Int := sumA (SD g (atA g) d 134) (g 88 12).toNat
abbrev csA (g : zM) (d : Int → Int) : Int := sumA (ccD g (atA g) d) (g 88 12).toNat
abbrev zBs : Type := Int × Int × Int × Int × Int × (Int → Int)
abbrev btR (g : zM) (mv : Int) (B : zBs) (d : Int → Int) : Prop := B.1 = 0 ∨ wgA g mv d < B.2.1 ∨ (wgA g mv d = B.2.1 ∧ (ylA g d < B.2.2.1 ∨ (ylA g d = B.2.2.1 ∧ csA g d < B.2.2.2.1)))
/-- the best of the first n rows: whether there is one, its weight, yields, costs, how many moved, its days -/
def bsA (g : zM) (mv d : Int) : Nat → zBs
  | 0 => (0, 0, 0, 0, 0, fun _ => 0)
  | c + 1 => if btR g mv (bsA g mv d c) (dyA g mv d c) then (1, wgA g mv (dyA g mv d c), ylA g (dyA g mv d c), csA g (dyA g mv d c), sumA (otS g (dyA g mv d c)) (g 88 12).toNat, dyA g mv d c) else bsA g mv d c
/-- windows as they can be -/
def WG (g : zM) : Prop := ∀ l, 0 ≤ l → l < g 88 12 → (0 ≤ g 105 l ∧ g 105 l ≤ g 106 l ∧ g 106 l ≤ 60) ∧ (-1 ≤ g 108 l ∧ g 108 l ≤ 60) ∧ (0 ≤ g 98 l ∧ g 98 l ≤ 9)
theorem lw_b {g : zM} {mv d l : Int} (hw : WG g) (hd : 0 ≤ d ∧ d ≤ 99) (h0 : 0 ≤ l) (h1 : l < g 88 12) : 0 ≤ lwA g mv d l ∧ lwA g mv d l ≤ 99 ∧ 0 ≤ hiA g mv d l ∧ hiA g mv d l ≤ 60 := by
  have := hw l h0 h1
  unfold lwA hiA
  split
  · omega
  · split
    · omega
    · split <;> omega
theorem wg_b {g : zM} {mv : Int} {d : Int → Int} (hN : 0 ≤ g 88 12 ∧ g 88 12 ≤ 6) (hw : WG g) : 0 ≤ wgA g mv d ∧ wgA g mv d ≤ 60 := by
  have := sumA_b (f := wtS g d) (A := 0) (B := 10) (g 88 12).toNat fun j a b => by
    have := hw j (by omega) (by omega)
    unfold wtS
    split
    · omega
    · split <;> omega
  unfold wgA
  split <;> omega
theorem yl_b {g : zM} {d : Int → Int} (hg : LG g) (hr : RGd g) : 0 ≤ ylA g d ∧ ylA g d ≤ 3600 := by
  have := yield_b (DG_vG (r := atA g) (d := d) hg hr) (SS_BAD (rr := atA g) (dd := d) hg hr) (by omega)
  exact this
theorem cs_b {g : zM} {d : Int → Int} (hg : LG g) (hr : RGd g) : 0 ≤ csA g d ∧ csA g d ≤ 103000000 := by
  have hN := hg.2.2.1
  have a := cost_b (DG_vG (r := atA g) (d := d) hg hr) (SS_BAD (rr := atA g) (dd := d) hg hr) (by omega)
  have a : 0 ≤ sumA (SD g (atA g) d 135) (g 88 12).toNat ∧ sumA (SD g (atA g) d 135) (g 88 12).toNat ≤ 102000000 := a
  have b := ccA_sumD (g := g) (rr := atA g) (dd := d) (g 88 12).toNat
  have c := sumA_b (f := fiD g (atA g) d) (A := 0) (B := 9999) (g 88 12).toNat fun j a b => by
    have := coA_b (vl g 3 (fA g j (lateA g (SD g (atA g) d) j)))
    unfold fiD fnA
    split <;> omega
  show 0 ≤ sumA (ccD g (atA g) d) (g 88 12).toNat ∧ sumA (ccD g (atA g) d) (g 88 12).toNat ≤ 103000000
  omega
theorem bs_b {g : zM} {mv d : Int} (hg : LG g) (hr : RGd g) (hw : WG g) : ∀ c : Nat, (0 < c → (bsA g mv d c).1 = 1) ∧ ((bsA g mv d c).1 = 0 ∨ (bsA g mv d c).1 = 1) ∧ (0 ≤ (bsA g mv d c).2.1 ∧ (bsA g mv d c).2.1 ≤ 60) ∧ (0 ≤ (bsA g mv d c).2.2.1 ∧ (bsA g mv d c).2.2.1 ≤ 3600) ∧ (0 ≤ (bsA g mv d c).2.2.2.1 ∧ (bsA g mv d c).2.2.2.1 ≤ 103000000) := by
  intro c
  induction c with
  | zero => unfold bsA; dsimp only; omega
  | succ c ih =>
    have a := wg_b (mv := mv) (d := dyA g mv d c) hg.2.2.1 hw
    have b := yl_b (d := dyA g mv d c) hg hr
    have e := cs_b (d := dyA g mv d c) hg hr
    rw [bsA]
    split
    · dsimp only; exact ⟨fun _ => rfl, Or.inr rfl, a, b, e⟩
    · rename_i q
      refine ⟨fun _ => ?_, ih.2⟩
      rcases ih.2.1 with z | z
      · exact absurd (Or.inl z) q
      · exact z
theorem vvA_same {f : Int → Int} {N : Nat} {c c' : Int} {k : Nat} (h : vvA f N c' k = vvA f N c k) : ∀ e : Nat, vvA f N c' (k + e) = vvA f N c (k + e) := by
  intro e
  induction e with
  | zero => exact h
  | succ e ih =>
    show vvA f N c' (k + e) / _ = vvA f N c (k + e) / _
    rw [ih]
