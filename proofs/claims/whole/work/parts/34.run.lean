/-! a run with safe stacks -/
def zrus : Nat → Nat → Nat → List zV → List zV → zS → Option (List zV × zS)
  | 0, _, _, _, _, _ => none
  | n + 1, M, pc, ls, st, σ => match zsafe st with
    | false => none
    | true => match zent M pc with
      | none => none
      | some q => match zstep q.2.1 q.2.2.1 q.2.2.2.1.1 q.2.2.2.1.2.1 q.2.2.2.1.2.2.1 q.2.2.2.1.2.2.2 q.2.2.2.2 pc ls st σ with
        | none => none
        | some (.inl f) => zrus n M f.1.1 f.1.2.1 f.1.2.2 f.2
        | some (.inr (.inl r)) => some r
        | some (.inr (.inr f)) => match Nat.ble 206 f.1 with
          | true => match Nat.ble f.1 210, zmath f.1 f.2.1 with
            | true, some v => zrus n M f.2.2.1.1 f.2.2.1.2.1 (v :: f.2.2.1.2.2) f.2.2.2
            | _, _ => none
          | false => match Nat.ble (zinl f.2.1).length (zmi f.1).2.2.1, zrus n f.1 0 (zini f.1 f.2.1) [] f.2.2.2 with
            | true, some r => zrus n M f.2.2.1.1 f.2.2.1.2.1 (r.1 ++ f.2.2.1.2.2) r.2
            | _, _ => none
theorem zrus_ok (S : Int → Int) : ∀ (n M pc : Nat) (ls st : List zV) (σ : zS) (r : List zV × zS), zrus n M pc ls st σ = some r → zrun n M pc ls st (zmxS S σ) = some (r.1, zmxS S r.2) := by
  intro n
  induction n with
  | zero => intro M pc ls st σ r h; cases h
  | succ n ih =>
    intro M pc ls st σ r h
    unfold zrus at h
    unfold zrun
    split at h
    · cases h
    · rename_i hz
      split at h
      · cases h
      · rename_i q he
        rw [he]
        dsimp only
        split at h
        · cases h
        · rename_i f hs
          rw [zstep_mx (S := S) hz hs]
          exact ih _ _ _ _ _ _ h
        · rename_i f hs
          rw [zstep_mx (S := S) hz hs]
          cases h
          rfl
        · rename_i f hs
          rw [zstep_mx (S := S) hz hs]
          split at h
          · rename_i hb
            split at h
            · rename_i v hb2 hv
              show (match Nat.ble 206 f.1 with | true => _ | false => _) = _
              rw [hb]
              dsimp only [zmxO]
              rw [hb2, hv]
              exact ih _ _ _ _ _ _ h
            · cases h
          · rename_i hb
            split at h
            · rename_i r1 hb2 hr1
              show (match Nat.ble 206 f.1 with | true => _ | false => _) = _
              rw [hb]
              dsimp only [zmxO]
              rw [hb2, ih _ _ _ _ _ _ hr1]
              exact ih _ _ _ _ _ _ h
            · cases h
