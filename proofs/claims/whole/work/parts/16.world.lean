def zA (B : zB) : Nat → Prop := fun q => B.1 ≤ q
def ztys (cA : Nat → ClassId) : List (ClassId × FieldType) := [(cA 1, .int), (cA 2, .long), (cA 3, .byte), (cA 4, .boolean), (cA 17, .object RX7), (cA 11, .object RX1), (cA 12, .object RX2)]
theorem zws_len (B : zB) (cA : Nat → ClassId) (s : zS) : (zws B cA s).length = s.1 := by simp [zws]
theorem zws_get0 {B : zB} {cA : Nat → ClassId} {s : zS} {x : Nat} (h : x < s.1) : (zws B cA s)[x]? = some (B.1 + x, zen B cA s (zvi x)) := by
  simp [zws, h]
theorem zws_get {B : zB} {cA : Nat → ClassId} {s : zS} {x : Nat} (h : zrho x < s.1) : (zws B cA s)[zrho x]? = some (B.1 + zrho x, zen B cA s x) := by
  rw [zws_get0 h, zvi_rho]
theorem zws_inv {B : zB} {cA : Nat → ClassId} {s : zS} {x : Nat} {q : Nat × va_E} (h : (zws B cA s)[x]? = some q) : x < s.1 ∧ q = (B.1 + x, zen B cA s (zvi x)) := by
  have hx : x < s.1 := by
    have := (List.getElem?_eq_some_iff.mp h).1
    rwa [zws_len] at this
  exact ⟨hx, Option.some.inj (h.symm.trans (zws_get0 hx))⟩
theorem zws_D (B : zB) (cA : Nat → ClassId) (s : zS) : va_D (zA B) (zws B cA s) := by
  refine ⟨fun i j p q hp hq e => ?_, fun k q hq => ?_⟩
  · obtain ⟨-, rfl⟩ := zws_inv hp
    obtain ⟨-, rfl⟩ := zws_inv hq
    have : B.1 + i = B.1 + j := e
    omega
  · obtain ⟨-, rfl⟩ := zws_inv hq
    exact Nat.le_add_right _ _
theorem zws_set {B : zB} {cA : Nat → ClassId} {s s' : zS} {x : Nat} {en : va_E} (hK : s'.1 = s.1) (hx : zen B cA s' x = en) (ho : ∀ y, y ≠ x → zen B cA s' y = zen B cA s y) : (zws B cA s).set (zrho x) (B.1 + zrho x, en) = zws B cA s' := by
  apply List.ext_getElem?
  intro k
  by_cases hk : k < s.1
  · rw [zws_get0 (s := s') (by omega), List.getElem?_set]
    by_cases q : zrho x = k
    · subst q
      rw [if_pos rfl, if_pos (by rw [zws_len]; exact hk), zvi_rho, hx]
    · rw [if_neg q, zws_get0 hk, ho (zvi k) (fun z => q (by rw [← z, zrho_vi]))]
  · rw [List.getElem?_eq_none (by rw [List.length_set, zws_len]; omega), List.getElem?_eq_none (by rw [zws_len]; omega)]
theorem zws_push {B : zB} {cA : Nat → ClassId} {s s' : zS} {en : va_E} (hK : s'.1 = s.1 + 1) (hx : zen B cA s' (zvi s.1) = en) (ho : ∀ y, y ≠ zvi s.1 → zen B cA s' y = zen B cA s y) : zws B cA s ++ [(B.1 + s.1, en)] = zws B cA s' := by
  apply List.ext_getElem?
  intro k
  rcases Nat.lt_trichotomy k s.1 with hk | hk | hk
  · rw [zws_get0 (s := s') (by omega), List.getElem?_append_left (by rw [zws_len]; exact hk), zws_get0 hk, ho (zvi k) (fun z => by have := congrArg zrho z; rw [zrho_vi, zrho_vi] at this; omega)]
  · subst hk
    rw [zws_get0 (s := s') (by omega), List.getElem?_append_right (by rw [zws_len]; exact Nat.le_refl _), zws_len, hx]
    simp
  · rw [List.getElem?_eq_none (by rw [List.length_append, zws_len]; simp; omega), List.getElem?_eq_none (by rw [zws_len]; omega)]
theorem zlay_len : zlay.length = 148 := by decide +kernel
theorem zlay_lt : ∀ x, x < 148 → zlay.getD x 99 < 37 := by decide +kernel
theorem zkd_ok : ∀ t, t < 37 → (zKd t).1 ≤ 6 ∧ (zKd t).2.1 < 2147483648 ∧ ((zKd t).1 = 0 → (zKd t).2.2 = t ∧ t < 11) := by decide +kernel
def zwby : List Int32 := [109, 97, 114, 99, 104, 32, 110, 101, 119, 115, 32, 104, 111, 108, 100, 32, 112, 97, 121, 32, 97, 116, 116, 101, 110, 100, 32, 98, 101, 97, 114, 101, 114, 115, 32, 114, 111, 111, 109, 32, 102, 105, 110, 101, 32, 121, 105, 101, 108, 100, 32, 121, 101, 97, 114, 32, 114, 97, 110, 107, 32, 119, 111, 114, 116, 104, 32, 109, 101, 110, 32, 104, 111, 117, 115, 101, 32, 104, 111, 117, 114, 115, 32, 103, 117, 110, 115, 32, 119, 111, 109, 101, 110, 32, 108, 97, 116, 101, 32, 111, 114, 32, 97, 110, 100, 32, 110, 111, 116, 32]
/-- the script and the text of the words, in the old heap -/
def zXs (B : zB) (L : Nat) (xs : Nat → Int32) (U : State) (H : Heap) : Prop := va_X B.2.1 L xs U H ∧ (∃ adV : Nat, vk_S 1 [110] [zwby] (fun _ => B.2.2) (fun _ => adV) (zA B) U H) ∧ va_Z "java/lang/String" "COMPACT_STRINGS" "Z" (.int 1) (zA B) U H ∧ ∃ vf : Value, va_Z "jdk/internal/util/Preconditions" "SIOOBE_FORMATTER" "Ljava/util/function/BiFunction;" vf (zA B) U H ∧ vf.category = 1
/-- the script, and the cells -/
def zWd (B : zB) (cA : Nat → ClassId) (D : va_G) (L : Nat) (xs : Nat → Int32) (U : State) (H : Heap) (s : zS) : Prop :=
  va_P D vwCl (zws B cA s) H ∧ zinv s ∧ s.1 ≤ 147 ∧ zXs B L xs U H ∧ B.2.1 < B.1 ∧ (L : Int) = s.2.2 (-2) (-1) ∧ (∀ j : Nat, j < L → (xs j).toInt = s.2.2 (-2) j) ∧ L < 2147483648
theorem zen_upm {B : zB} {cA : Nat → ClassId} {s : zS} {f g : zM} {k j v : Int} {y : Nat} (h : (y : Int) ≠ k) (hf : f = s.2.1 ∨ f = zup s.2.1 k j v) (hg : g = s.2.2 ∨ g = zup s.2.2 k j v) : zen B cA (s.1, f, g) y = zen B cA s y := by
  have e1 : ∀ i : Int, f y i = s.2.1 y i := fun i => by
    rcases hf with rfl | rfl
    · rfl
    · simp [zup, h]
  have e2 : ∀ i : Int, g y i = s.2.2 y i := fun i => by
    rcases hg with rfl | rfl
    · rfl
    · simp [zup, h]
  unfold zen
  simp only [e1, e2]
theorem zinv_up {s : zS} {f g : zM} {x j : Nat} {v : Int} (h : zinv s) (hf : f = s.2.1 ∨ f = zup s.2.1 x j v) (hg : g = s.2.2 ∨ g = zup s.2.2 x j v) (hn : zrho x < s.1 → j < (zKd (zlay.getD x 99)).2.1 → zsok s.1 (zsk (zlay.getD x 99) j) (f x j) (g x j)) : zinv (s.1, f, g) := by
  intro y hy i hi
  by_cases q : y = x ∧ i = j
  · obtain ⟨rfl, rfl⟩ := q
    exact hn hy hi
  · have q' : ¬ ((y : Int) = x ∧ (i : Int) = j) := fun z => q ⟨by omega, by omega⟩
    have e1 : f y i = s.2.1 y i := by
      rcases hf with rfl | rfl
      · rfl
      · simp only [zup, if_neg q']
    have e2 : g y i = s.2.2 y i := by
      rcases hg with rfl | rfl
      · rfl
      · simp only [zup, if_neg q']
    show zsok s.1 _ (f y i) (g y i)
    rw [e1, e2]
    exact h y hy i hi
theorem zok_ref {K t : Nat} {x : Int} (hK : K ≤ 147) (h : zok K (zR t x)) (h90 : t < 37) : ∃ X : Nat, x = X ∧ zrho X < K ∧ zlay.getD X 99 = t := by
  rcases h with h | h | ⟨h1, h2, h3⟩
  · omega
  · omega
  · exact ⟨x.toNat, by omega, h2, h3⟩
theorem zv_ref {B : zB} {t X : Nat} (h : t < 37) : zv B (zR t (X : Int)) = .ref (B.1 + zrho X) := by
  unfold zv
  dsimp only
  rw [if_neg (by omega), if_neg (by omega)]
  simp
theorem zvp_in {i : Int} {n : Nat} (h0 : 0 ≤ i) (h : i < (n : Int)) (hn : n < 2147483648) : vp_in (Int32.ofInt i) n := by
  rw [vp_in_iff, zi_toInt (by unfold zri; omega)]
  exact ⟨h0, h⟩
theorem zcl {i : Int} (h0 : 0 ≤ i) (h : i < 2147483648) : (Int32.ofInt i).toNatClampNeg = i.toNat := by
  have : (Int32.ofInt i).toInt = i := zi_toInt (by unfold zri; omega)
  show ((Int32.ofInt i).toInt).toNat = i.toNat
  rw [this]
/-- a reference that moves: its cell out of what stands in memory, and back -/
theorem zed_7 : ∀ X, X < 148 → zlay.getD X 99 = 7 → 3 ≤ X ∧ X % 2 = 1 := by decide +kernel
theorem zed_2 : ∀ X, X < 148 → zlay.getD X 99 = 2 → 30 ≤ X ∧ X % 6 = 0 := by decide +kernel
theorem zed {e X : Nat} (h : X < 148) (hl : zlay.getD X 99 = e) : zdec e (zenc e (X : Int)) = X ∧ 0 ≤ zenc e (X : Int) := by
  by_cases h7 : e = 7
  · subst h7
    have := zed_7 X h hl
    show 3 + 2 * (((X : Int) - 3) / 2) = X ∧ 0 ≤ ((X : Int) - 3) / 2
    omega
  · by_cases h2 : e = 2
    · subst h2
      have := zed_2 X h hl
      show 30 + 6 * (((X : Int) - 30) / 6) = X ∧ 0 ≤ ((X : Int) - 30) / 6
      omega
    · unfold zdec zenc
      split
      · exact absurd rfl h7
      · exact absurd rfl h2
      · split
        · exact absurd rfl h7
        · exact absurd rfl h2
        · exact ⟨rfl, Int.natCast_nonneg X⟩
theorem zdec_pos {e : Nat} {y : Int} (h : 0 ≤ y) : 0 ≤ zdec e y := by
  unfold zdec
  split <;> omega
