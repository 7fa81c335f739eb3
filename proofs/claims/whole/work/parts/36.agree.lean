/-! only the references that are there count -/
def zag (K : Nat) (f g : zM) : Prop := ∀ x : Nat, zrho x < K → ∀ j : Nat, j < (zKd (zlay.getD x 99)).2.1 → ((zsk (zlay.getD x 99) j).1 = 2 ∨ (zsk (zlay.getD x 99) j).1 = 6) → f x j = g x j
theorem arrV_c {cA : ClassId} {n : Nat} {f g : Nat → Value} (h : ∀ j, j < n → f j = g j) : arrV cA n f = arrV cA n g := by
  unfold arrV
  congr 2; funext j; exact h j.1 j.2
theorem zen_ag {B : zB} {cA : Nat → ClassId} {D : va_G} {H : Heap} {K : Nat} {f g m : zM} {x : Nat} (hx : zrho x < K) (a : zag K f g) (h : va_at D vwCl (B.1 + zrho x, zen B cA (K, f, m) x) H) : va_at D vwCl (B.1 + zrho x, zen B cA (K, g, m) x) H := by
  have a := a x hx
  rcases hk : zKd (zlay.getD x 99) with ⟨k, n, e⟩
  rw [hk] at a
  by_cases k5 : k = 5
  · subst k5
    have s5 : ∀ j, (zsk (zlay.getD x 99) j).1 = 2 := fun j => by unfold zsk; rw [hk]; rfl
    unfold zen at h ⊢
    rw [hk] at h ⊢
    refine Eq.trans h (congrArg some ?_)
    show arrV (cA (10 + e)) n (fun j => va_rf (if f x j < 0 then none else some (B.1 + zrho (f x j).toNat))) = arrV (cA (10 + e)) n (fun j => va_rf (if g x j < 0 then none else some (B.1 + zrho (g x j).toNat)))
    exact arrV_c fun j hj => by rw [a j hj (Or.inl (s5 j))]
  · have q : zen B cA (K, g, m) x = zen B cA (K, f, m) x := by
      unfold zen
      rw [hk]
      match k, k5 with
      | 0, _ =>
        refine congrArg (fun l => (Sum.inr (zlay.getD x 99, l) : va_E)) (List.map_congr_left fun j hj => ?_)
        dsimp only
        unfold zsv
        split
        · rename_i c
          rw [a j (List.mem_range.mp hj) (Or.inl c)]
        · rfl
        · rename_i c
          rw [a j (List.mem_range.mp hj) (Or.inr c)]
        · rfl
      | 1, _ => rfl
      | 2, _ => rfl
      | 3, _ => rfl
      | 4, _ => rfl
      | 5, z => exact absurd rfl z
      | 6, _ => rfl
      | n + 7, _ => rfl
    rw [q]
    exact h
theorem zsok_n {K : Nat} {q : Nat × Nat} {r r' m : Int} (c : ¬ (q.1 = 2 ∨ q.1 = 6)) (h : zsok K q r m) : zsok K q r' m := by
  obtain ⟨k, e⟩ := q
  match k, c with
  | 0, _ => exact h
  | 1, _ => exact h
  | 2, z => exact absurd (Or.inl rfl) z
  | 3, _ => exact h
  | 4, _ => exact h
  | 5, _ => exact h
  | 6, z => exact absurd (Or.inr rfl) z
  | n + 7, _ => exact h
theorem zWd_ag {B : zB} {cA : Nat → ClassId} {D : va_G} {L : Nat} {xs : Nat → Int32} {U : State} {H : Heap} {K : Nat} {f g m : zM} (a : zag K f g) (h : zWd B cA D L xs U H (K, f, m)) : zWd B cA D L xs U H (K, g, m) := by
  obtain ⟨h1, h2, h3, h4⟩ := h
  refine ⟨fun k q hq => ?_, fun x hx j hj => ?_, h3, h4⟩
  · have hq' : ((List.range K).map fun x => (B.1 + x, zen B cA (K, g, m) (zvi x)))[k]? = some q := hq
    rw [List.getElem?_map] at hq'
    obtain ⟨x, hx, rfl⟩ := Option.map_eq_some_iff.mp hq'
    have hk := List.getElem?_eq_some_iff.mp hx
    obtain ⟨hl, e⟩ := hk
    rw [List.getElem_range] at e
    subst e
    have hl : k < K := by rwa [List.length_range] at hl
    have hz := zen_ag (B := B) (cA := cA) (D := D) (H := H) (m := m) (x := zvi k) (by rw [zrho_vi]; exact hl) a
    rw [zrho_vi] at hz
    refine hz (h1 k _ ?_)
    show ((List.range K).map fun x => (B.1 + x, zen B cA (K, f, m) (zvi x)))[k]? = _
    rw [List.getElem?_map, hx]
    rfl
  · have h2 := h2 x hx j hj
    have a := a x hx j hj
    by_cases c : (zsk (zlay.getD x 99) j).1 = 2 ∨ (zsk (zlay.getD x 99) j).1 = 6
    · have a := a c
      show zsok K (zsk (zlay.getD x 99) j) (g x j) (m x j)
      rw [← a]
      exact h2
    · exact zsok_n c h2
