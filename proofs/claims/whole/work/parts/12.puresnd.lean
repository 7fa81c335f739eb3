/-! the order of making is a permutation -/
theorem zrhl_len : zrhl.length = 148 := by decide +kernel
theorem zvil_len : zvil.length = 148 := by decide +kernel
theorem zrho_a : ∀ x, x < 148 → zvi (zrho x) = x ∧ zrho x < 148 := by decide +kernel
theorem zvi_a : ∀ x, x < 148 → zrho (zvi x) = x ∧ zvi x < 148 := by decide +kernel
theorem zrho_b {x : Nat} (h : 148 ≤ x) : zrho x = x := by
  unfold zrho
  rw [List.getD_eq_getElem?_getD, List.getElem?_eq_none (by rw [zrhl_len]; exact h)]
  rfl
theorem zvi_b {x : Nat} (h : 148 ≤ x) : zvi x = x := by
  unfold zvi
  rw [List.getD_eq_getElem?_getD, List.getElem?_eq_none (by rw [zvil_len]; exact h)]
  rfl
theorem zvi_rho (x : Nat) : zvi (zrho x) = x := by
  rcases Nat.lt_or_ge x 148 with h | h
  · exact (zrho_a x h).1
  · rw [zrho_b h, zvi_b h]
theorem zrho_vi (x : Nat) : zrho (zvi x) = x := by
  rcases Nat.lt_or_ge x 148 with h | h
  · exact (zvi_a x h).1
  · rw [zvi_b h, zrho_b h]
theorem zrho_inj {x y : Nat} (h : zrho x = zrho y) : x = y := by rw [← zvi_rho x, h, zvi_rho]
theorem zrho_lt {x : Nat} (h : zrho x < 148) : x < 148 := by
  rcases Nat.lt_or_ge x 148 with q | q
  · exact q
  · rw [zrho_b q] at h; exact h
/-! THE MACHINE DOES WHAT zpure SAYS -/
def zok (K : Nat) : zV → Prop
  | .inl x => zri x
  | .inr (.inl x) => zrl x
  | .inr (.inr (.inl (t, x))) => t = 90 ∨ t = 91 ∨ (0 ≤ x ∧ zrho x.toNat < K ∧ zlay.getD x.toNat 99 = t)
  | .inr (.inr (.inr _)) => True
def zoks (K : Nat) (st : List zV) : Prop := ∀ v ∈ st, zok K v
def zlv (B : zB) (arr : Array Slot) (nL : Nat) (ls : List zV) : Prop := ls.length = nL ∧ arr.size = nL ∧ lv_wf arr ∧ ∀ (i : Nat) (v : zV), ls[i]? = some v → v ≠ zU → arr[i]? = some (.val (zv B v))
def zpos (B : zB) : Nat → List zV → List (Nat × Value)
  | _, [] => []
  | k, v :: t => if v = zU then zpos B (k + 1) t else (k, zv B v) :: zpos B (k + 1) t
theorem zpos_mem (B : zB) : ∀ (ls : List zV) (k i : Nat) (v : zV), ls[i]? = some v → v ≠ zU → (k + i, zv B v) ∈ zpos B k ls := by
  intro ls
  induction ls with
  | nil => intro k i v h; simp at h
  | cons x t ih =>
    intro k i v h hv
    unfold zpos
    cases i with
    | zero =>
      simp at h
      subst h
      rw [if_neg hv]
      exact List.mem_cons_self
    | succ i =>
      simp only [List.getElem?_cons_succ] at h
      have := ih (k + 1) i v h hv
      rw [show k + 1 + i = k + (i + 1) by omega] at this
      split
      · exact this
      · exact List.mem_cons_of_mem _ this
theorem zpos_of (B : zB) : ∀ (ls : List zV) (k : Nat) (q : Nat × Value), q ∈ zpos B k ls → ∃ (i : Nat) (v : zV), ls[i]? = some v ∧ v ≠ zU ∧ q = (k + i, zv B v) := by
  intro ls
  induction ls with
  | nil => intro k q h; simp [zpos] at h
  | cons x t ih =>
    intro k q h
    unfold zpos at h
    split at h
    · obtain ⟨i, v, h1, h2, h3⟩ := ih (k + 1) q h
      exact ⟨i + 1, v, by simpa using h1, h2, by rw [h3]; congr 1; omega⟩
    · rename_i hx
      rcases List.mem_cons.mp h with h | h
      · exact ⟨0, x, by simp, hx, by rw [h]; rfl⟩
      · obtain ⟨i, v, h1, h2, h3⟩ := ih (k + 1) q h
        exact ⟨i + 1, v, by simpa using h1, h2, by rw [h3]; congr 1; omega⟩
theorem zlv_has {B : zB} {arr : Array Slot} {nL : Nat} {ls : List zV} (h : zlv B arr nL ls) : lv_has arr nL (zpos B 0 ls) := by
  refine ⟨h.2.1, h.2.2.1, fun q hq => ?_⟩
  obtain ⟨i, v, h1, h2, h3⟩ := zpos_of B ls 0 q hq
  rw [h3]
  simpa using h.2.2.2 i v h1 h2
theorem zset1_len : ∀ (ls : List zV) (i : Nat) (v : zV), (zset1 ls i v).length = ls.length := by
  intro ls
  induction ls with
  | nil => intro i v; rfl
  | cons x t ih => intro i v; cases i with
    | zero => rfl
    | succ i => simp [zset1, ih]
theorem zset1_get : ∀ (ls : List zV) (i j : Nat) (v w : zV), (zset1 ls i v)[j]? = some w → (j = i ∧ w = v) ∨ (j ≠ i ∧ (w = zU ∨ (ls[j]? = some w ∧ ¬ (j + 1 = i ∧ zcat w = 2)))) := by
  intro ls
  induction ls with
  | nil => intro i j v w h; simp [zset1] at h
  | cons x t ih =>
    intro i j v w h
    cases i with
    | zero =>
      cases j with
      | zero => simp [zset1] at h; exact Or.inl ⟨rfl, h.symm⟩
      | succ j => simp only [zset1, List.getElem?_cons_succ] at h; exact Or.inr ⟨by omega, Or.inr ⟨by simpa using h, by omega⟩⟩
    | succ i =>
      cases j with
      | zero =>
        simp only [zset1, List.getElem?_cons_zero, Option.some.injEq] at h
        refine Or.inr ⟨by omega, ?_⟩
        split at h
        · exact Or.inl h.symm
        · rename_i hn
          subst h
          exact Or.inr ⟨by simp, fun q => hn ⟨by omega, q.2⟩⟩
      | succ j =>
        simp only [zset1, List.getElem?_cons_succ] at h
        rcases ih i j v w h with ⟨a, b⟩ | ⟨a, b⟩
        · exact Or.inl ⟨by omega, b⟩
        · refine Or.inr ⟨by omega, b.imp id fun c => ⟨by simpa using c.1, fun q => c.2 ⟨by omega, q.2⟩⟩⟩
theorem zset2_len : ∀ (ls : List zV) (i : Nat) (v : zV), (zset2 ls i v).length = ls.length := by
  intro ls
  induction ls with
  | nil => intro i v; rfl
  | cons x t ih => intro i v; cases i with
    | zero => cases t <;> rfl
    | succ i => simp [zset2, ih]
theorem zset2_get : ∀ (ls : List zV) (i j : Nat) (v w : zV), (zset2 ls i v)[j]? = some w → (j = i ∧ w = v) ∨ (j ≠ i ∧ (w = zU ∨ (ls[j]? = some w ∧ j ≠ i + 1 ∧ ¬ (j + 1 = i ∧ zcat w = 2)))) := by
  intro ls
  induction ls with
  | nil => intro i j v w h; simp [zset2] at h
  | cons x t ih =>
    intro i j v w h
    cases i with
    | zero =>
      cases t with
      | nil =>
        cases j with
        | zero => simp [zset2] at h; exact Or.inl ⟨rfl, h.symm⟩
        | succ j => simp [zset2] at h
      | cons y t =>
        cases j with
        | zero => simp [zset2] at h; exact Or.inl ⟨rfl, h.symm⟩
        | succ j =>
          cases j with
          | zero => simp [zset2] at h; exact Or.inr ⟨by omega, Or.inl h.symm⟩
          | succ j => simp only [zset2, List.getElem?_cons_succ] at h; exact Or.inr ⟨by omega, Or.inr ⟨by simpa using h, by omega, by omega⟩⟩
    | succ i =>
      cases j with
      | zero =>
        simp only [zset2, List.getElem?_cons_zero, Option.some.injEq] at h
        refine Or.inr ⟨by omega, ?_⟩
        split at h
        · exact Or.inl h.symm
        · rename_i hn
          subst h
          exact Or.inr ⟨by simp, by omega, fun q => hn ⟨by omega, q.2⟩⟩
      | succ j =>
        simp only [zset2, List.getElem?_cons_succ] at h
        rcases ih i j v w h with ⟨a, b⟩ | ⟨a, b⟩
        · exact Or.inl ⟨by omega, b⟩
        · refine Or.inr ⟨by omega, b.imp id fun c => ⟨by simpa using c.1, by omega, fun q => c.2.2 ⟨by omega, q.2⟩⟩⟩
theorem zlv_set1 {B : zB} {arr arr' : Array Slot} {nL i : Nat} {ls : List zV} {v : zV} (h : zlv B arr nL ls) (h' : lv_has arr' nL ((i, zv B v) :: (zpos B 0 ls).filter (fun q => !(q.1 == i) && !(q.1 + 1 == i && q.2.category == 2)))) : zlv B arr' nL (zset1 ls i v) := by
  refine ⟨(zset1_len ls i v).trans h.1, h'.1, h'.2.1, fun j w hj hw => ?_⟩
  rcases zset1_get ls i j v w hj with ⟨a, b⟩ | ⟨a, b | ⟨b, c⟩⟩
  · subst a; subst b
    exact h'.2.2 _ List.mem_cons_self
  · exact absurd b hw
  · have := zpos_mem B ls 0 j w b hw
    rw [Nat.zero_add] at this
    refine h'.2.2 (j, zv B w) (List.mem_cons_of_mem _ (List.mem_filter.mpr ⟨this, ?_⟩))
    rw [zv_cat]
    simp only [Bool.and_eq_true, Bool.not_eq_true', beq_eq_false_iff_ne, ne_eq, Bool.and_eq_false_iff]
    refine ⟨a, ?_⟩
    by_cases q : j + 1 = i
    · exact Or.inr (fun z => c ⟨q, z⟩)
    · exact Or.inl q
theorem zlv_set2 {B : zB} {arr arr' : Array Slot} {nL i : Nat} {ls : List zV} {v : zV} (h : zlv B arr nL ls) (h' : lv_has arr' nL ((i, zv B v) :: (zpos B 0 ls).filter (fun q => !(q.1 == i) && (!(q.1 == i + 1) && !(q.1 + 1 == i && q.2.category == 2))))) : zlv B arr' nL (zset2 ls i v) := by
  refine ⟨(zset2_len ls i v).trans h.1, h'.1, h'.2.1, fun j w hj hw => ?_⟩
  rcases zset2_get ls i j v w hj with ⟨a, b⟩ | ⟨a, b | ⟨b, c1, c⟩⟩
  · subst a; subst b
    exact h'.2.2 _ List.mem_cons_self
  · exact absurd b hw
  · have := zpos_mem B ls 0 j w b hw
    rw [Nat.zero_add] at this
    refine h'.2.2 (j, zv B w) (List.mem_cons_of_mem _ (List.mem_filter.mpr ⟨this, ?_⟩))
    rw [zv_cat]
    simp only [Bool.and_eq_true, Bool.not_eq_true', beq_eq_false_iff_ne, ne_eq, Bool.and_eq_false_iff]
    refine ⟨a, c1, ?_⟩
    by_cases q : j + 1 = i
    · exact Or.inr (fun z => c ⟨q, z⟩)
    · exact Or.inl q
theorem zoks_set1 {K : Nat} {ls : List zV} {i : Nat} {v : zV} (h : zoks K ls) (hv : zok K v) : zoks K (zset1 ls i v) := by
  intro w hw
  obtain ⟨j, hj⟩ := List.getElem?_of_mem hw
  rcases zset1_get ls i j v w hj with ⟨a, b⟩ | ⟨a, b | ⟨b, c⟩⟩
  · rw [b]; exact hv
  · rw [b]; exact trivial
  · exact h w (List.mem_of_getElem? b)
theorem zoks_set2 {K : Nat} {ls : List zV} {i : Nat} {v : zV} (h : zoks K ls) (hv : zok K v) : zoks K (zset2 ls i v) := by
  intro w hw
  obtain ⟨j, hj⟩ := List.getElem?_of_mem hw
  rcases zset2_get ls i j v w hj with ⟨a, b⟩ | ⟨a, b | ⟨b, c⟩⟩
  · rw [b]; exact hv
  · rw [b]; exact trivial
  · exact h w (List.mem_of_getElem? b)
theorem zoks_cons {K : Nat} {v : zV} {st : List zV} (hv : zok K v) (h : zoks K st) : zoks K (v :: st) := by
  intro w hw
  rcases List.mem_cons.mp hw with q | q
  · rw [q]; exact hv
  · exact h w q
theorem zoks_head {K : Nat} {v : zV} {st : List zV} (h : zoks K (v :: st)) : zok K v := h v List.mem_cons_self
theorem zoks_tail {K : Nat} {v : zV} {st : List zV} (h : zoks K (v :: st)) : zoks K st := fun w hw => h w (List.mem_cons_of_mem _ hw)
theorem zget_of {ls : List zV} {n : Nat} {v : zV} (h : ls.getD n zU = v) (hv : v ≠ zU) : ls[n]? = some v := by
  rw [List.getD_eq_getElem?_getD] at h
  cases hq : ls[n]? with
  | none => rw [hq] at h; exact absurd h.symm hv
  | some w => rw [hq] at h; exact congrArg some h
