section L2
variable {Ω : zΩ} {Q : List zV → zM → Prop} {m : zM}
def cntC (m : zM) (w : Int) : Int := if w = 0 then m 1 1 else if w = 1 then m 0 9 else if w = 2 then m 0 11 else if w = 3 then m (m 0 7) 0 else if w = 4 then m (m 0 7) 1 else if w = 5 then m (m 0 7) 2 else if w = 6 then m (m 0 7) 3 else if w = 7 then m (m 0 7) 5 else -1
def cntM (m : zM) (w : Int) : Int := if w = 0 then m 88 4 else if w = 1 then m 88 12 else if w = 2 then m 88 3 else if w = 3 then m 110 0 else if w = 4 then m 110 1 else if w = 5 then m 110 2 else if w = 6 then m 110 3 else if w = 7 then m 88 41 else -1
theorem s_count {w : Int} (h7 : 0 ≤ m 0 7) (h : Q [zI (cntC m w)] m) : zG Ω 117 0 [zR 9 0, zI w] [] m Q := by
  unfold cntC at h
  refine w_X9_count_0 (zif (fun h0 => ?_) fun h0 => zif (fun h1 => ?_) fun h1 => zif (fun h2 => ?_) fun h2 => zif (fun h3 => ⟨h7, ?_⟩) fun h3 => zif (fun h4 => ⟨h7, ?_⟩) fun h4 => zif (fun h5 => ⟨h7, ?_⟩) fun h5 => zif (fun h6 => ⟨h7, ?_⟩) fun h6 => zif (fun h8 => ⟨h7, ?_⟩) fun h8 => ?_)
  · rwa [if_pos h0] at h
  · rwa [if_neg h0, if_pos h1] at h
  · rwa [if_neg h0, if_neg h1, if_pos h2] at h
  · rwa [if_neg h0, if_neg h1, if_neg h2, if_pos h3] at h
  · rwa [if_neg h0, if_neg h1, if_neg h2, if_neg h3, if_pos h4] at h
  · rwa [if_neg h0, if_neg h1, if_neg h2, if_neg h3, if_neg h4, if_pos h5] at h
  · rwa [if_neg h0, if_neg h1, if_neg h2, if_neg h3, if_neg h4, if_neg h5, if_pos h6] at h
  · rwa [if_neg h0, if_neg h1, if_neg h2, if_neg h3, if_neg h4, if_neg h5, if_neg h6, if_pos h8] at h
  · rwa [if_neg h0, if_neg h1, if_neg h2, if_neg h3, if_neg h4, if_neg h5, if_neg h6, if_neg h8] at h
theorem s_countM {w : Int} (h : Q [zI (cntM m w)] (zup m 88 2 0)) : zG Ω 201 0 [zR 10 88, zI w] [] m Q := by
  unfold cntM at h
  refine w_X10_count_0 (zif (fun h0 => ?_) fun h0 => zif (fun h1 => ?_) fun h1 => zif (fun h2 => ?_) fun h2 => zif (fun h3 => ?_) fun h3 => zif (fun h4 => ?_) fun h4 => zif (fun h5 => ?_) fun h5 => zif (fun h6 => ?_) fun h6 => zif (fun h8 => ?_) fun h8 => ?_)
  · rwa [if_pos h0] at h
  · rwa [if_neg h0, if_pos h1] at h
  · rwa [if_neg h0, if_neg h1, if_pos h2] at h
  · rw [if_neg h0, if_neg h1, if_neg h2, if_pos h3] at h
    subst h3
    exact h
  · rw [if_neg h0, if_neg h1, if_neg h2, if_neg h3, if_pos h4] at h
    subst h4
    exact h
  · rw [if_neg h0, if_neg h1, if_neg h2, if_neg h3, if_neg h4, if_pos h5] at h
    subst h5
    exact h
  · rw [if_neg h0, if_neg h1, if_neg h2, if_neg h3, if_neg h4, if_neg h5, if_pos h6] at h
    subst h6
    exact h
  · rwa [if_neg h0, if_neg h1, if_neg h2, if_neg h3, if_neg h4, if_neg h5, if_neg h6, if_pos h8] at h
  · rwa [if_neg h0, if_neg h1, if_neg h2, if_neg h3, if_neg h4, if_neg h5, if_neg h6, if_neg h8] at h
end L2
