/-! the reference's reader against the class's: what both have read -/
abbrev rdY (x j : Int) : Prop := (x = 88 ∧ (j = 26 ∨ j = 27 ∨ (29 ≤ j ∧ j ≤ 32) ∨ (42 ≤ j ∧ j ≤ 53))) ∨ (x = 110 ∧ 4 ≤ j) ∨ (111 ≤ x ∧ x ≤ 115 ∧ 96 ≤ j) ∨ (116 ≤ x ∧ x ≤ 117 ∧ 7 ≤ j) ∨ (118 ≤ x ∧ x ≤ 122)
def FrM (u u' : zM) : Prop := ∀ x j, ¬ rdY x j → u' x j = u x j
theorem FrM_r {u : zM} : FrM u u := fun _ _ _ => rfl
theorem FrM_t {u u1 u2 : zM} (a : FrM u u1) (b : FrM u1 u2) : FrM u u2 := fun x j h => (b x j h).trans (a x j h)
theorem FrM_u {u u' : zM} {x j v : Int} (a : FrM u u') (hx : rdY x j) : FrM u (zup u' x j v) := fun x' j' h => by
  unfold zup
  rw [if_neg (by rintro ⟨rfl, rfl⟩; exact h hx)]
  exact a x' j' h
theorem FrM_U {u u' : zM} (a : FU u u') : FrM u u' := fun x j h => a x j (fun q => h (Or.inl (by omega)))
theorem FrM_B {u u' : zM} (a : frB u u') : FrM u u' := fun x j h => a x j (by unfold rdY at h; omega) (by unfold rdY at h; omega) (by unfold rdY at h; omega)
/-- an expression that is told and whole -/
def FXe (a : zM) (E : Int) (u : zM) (e O : Int) : Prop := a (E + 3) e = 7 + u 116 (7 + e) ∧ a (E + 4) e = 7 + u 116 (7 + e) + u 117 (7 + e) ∧ (0 ≤ u 116 (7 + e) ∧ 1 ≤ u 117 (7 + e) ∧ u 116 (7 + e) + u 117 (7 + e) ≤ O) ∧ ∃ x, rnB u (u 117 (7 + e)).toNat (96 + u 116 (7 + e)) [] [x]
def NB (a : zM) (E : Int) (u : zM) : Prop := (u 110 4 = a E 0 ∧ u 110 5 = a E 1 ∧ u 110 6 = a E 2 ∧ u 110 7 = a E 3) ∧ (1 ≤ a E 0 ∧ a E 0 ≤ 24) ∧ (1 ≤ a E 1 ∧ a E 1 ≤ 99) ∧ (1 ≤ a E 2 ∧ a E 2 ≤ 9) ∧ (0 ≤ a E 3 ∧ a E 3 ≤ 99)
def TB (a u : zM) : Prop := ∀ w, 3 ≤ w → w ≤ 11 → (u 122 (w - 3) = 0 ∨ u 122 (w - 3) = 1) ∧ (u 122 (w - 3) = 0 ↔ zand (a 72 5) (zshl 1 w) = 0)
/-- what stands without a line -/
def DC (a : zM) (E : Int) : Prop := (a (E + 1) 0 = 2 ∧ a (E + 2) 0 = 1) ∧ (a (E + 1) 1 = 15 ∧ a (E + 1) 2 = 2 ∧ a (E + 2) 2 = 10 ∧ a (E + 1) 3 = 33) ∧ (a (E + 1) 4 = 2 ∧ a (E + 2) 4 = 10) ∧ (a (E + 1) 5 = 2 ∧ a (E + 2) 5 = 0) ∧ a (E + 1) 6 = 13
abbrev dfS (e : Int) : Int := if e = 0 then 0 else if e = 1 then 1 else if e = 2 then 4 else if e = 3 then 5 else 6
abbrev dfE (e : Int) : Int := if e = 0 then 1 else if e = 1 then 4 else if e = 2 then 5 else if e = 3 then 6 else 7
/-- the expressions; c: the one that is being read -/
def XB (a : zM) (E : Int) (u : zM) (c O : Int) : Prop := (∀ e, 0 ≤ e → e ≤ 6 → ¬ u 117 (7 + e) = 0 → FXe a E u e O) ∧ (∀ e, 0 ≤ e → e ≤ 4 → ¬ e = c → (u 122 (4 + e) = 0 ↔ u 117 (7 + e) = 0)) ∧ (∀ e, 0 ≤ e → e ≤ 4 → u 122 (4 + e) = 0 → a (E + 3) e = dfS e ∧ a (E + 4) e = dfE e) ∧ (0 ≤ c → u 117 (7 + c) = 0 ∧ (c ≤ 4 → ¬ u 122 (4 + c) = 0) ∧ (4 ≤ c → a E 12 = c - 3 ∧ ¬ u 122 8 = 0)) ∧ (1 ≤ a E 12 ∧ a E 12 ≤ 3) ∧ (∀ e, 5 ≤ e → e ≤ 6 → ¬ e = c → (u 117 (7 + e) = 0 ↔ 4 + a E 12 ≤ e)) ∧ (u 122 8 = 0 → a E 12 = 1)
def RBd (a : zM) (E : Int) (u u0 : zM) (c O : Int) : Prop := FrM u0 u ∧ (u 88 26 = 0 ∧ u 88 27 = -1) ∧ NB a E u ∧ TB a u ∧ DC a E ∧ XB a E u c O
/-- frames of both for what is read already -/
def AF (E : Int) (a a' : zM) : Prop := (∀ j, j ≤ 3 ∨ j = 12 → a' E j = a E j) ∧ a' 72 5 = a 72 5 ∧ (∀ j, j < 7 → a' (E + 1) j = a (E + 1) j ∧ a' (E + 2) j = a (E + 2) j) ∧ (∀ j, a' (E + 3) j = a (E + 3) j ∧ a' (E + 4) j = a (E + 4) j)
def UF (O : Int) (u u' : zM) : Prop := FrM u u' ∧ (u' 88 26 = u 88 26 ∧ u' 88 27 = u 88 27) ∧ (∀ x j, (x = 110 ∨ x = 116 ∨ x = 117 ∨ x = 122) → u' x j = u x j) ∧ DN u u' O
theorem AF_r {E : Int} {a : zM} : AF E a a := ⟨fun _ _ => rfl, rfl, fun _ _ => ⟨rfl, rfl⟩, fun _ => ⟨rfl, rfl⟩⟩
theorem UF_r {O : Int} {u : zM} : UF O u u := ⟨FrM_r, ⟨rfl, rfl⟩, fun _ _ _ => rfl, DN_r⟩
theorem UF_t {O : Int} {u u1 u2 : zM} (a : UF O u u1) (b : UF O u1 u2) : UF O u u2 := ⟨FrM_t a.1 b.1, ⟨b.2.1.1.trans a.2.1.1, b.2.1.2.trans a.2.1.2⟩, fun x j h => (b.2.2.1 x j h).trans (a.2.2.1 x j h), DN_t a.2.2.2 b.2.2.2⟩
theorem UF_l {O O' : Int} {u u' : zM} (h : O' ≤ O) (a : UF O u u') : UF O' u u' := ⟨a.1, a.2.1, a.2.2.1, DN_l h a.2.2.2⟩
theorem UF_U {O : Int} {u u' : zM} (a : FU u u') : UF O u u' := ⟨FrM_U a, ⟨a _ _ (by omega), a _ _ (by omega)⟩, fun x j h => a _ _ (by omega), fun i _ _ => ⟨a _ _ (by omega), fun c c1 c2 => a _ _ (by omega)⟩⟩
theorem UF_B {O : Int} {u u' : zM} (a : frB u u') (d : DN u u' O) : UF O u u' := ⟨FrM_B a, ⟨a _ _ (by omega) (by omega) (by omega), a _ _ (by omega) (by omega) (by omega)⟩, fun x j h => a _ _ (by omega) (by omega) (by omega), d⟩
theorem FXe_f {a a' u u' : zM} {E e O O' : Int} (hO : O ≤ O') (h3 : a' (E + 3) e = a (E + 3) e) (h4 : a' (E + 4) e = a (E + 4) e) (h16 : u' 116 (7 + e) = u 116 (7 + e)) (h17 : u' 117 (7 + e) = u 117 (7 + e)) (d : DN u u' O) (h : FXe a E u e O) : FXe a' E u' e O' := by
  obtain ⟨f1, f2, f3, x, f4⟩ := h
  unfold FXe
  rw [h3, h4, h16, h17]
  refine ⟨f1, f2, by omega, x, rnB_f _ _ _ _ (fun i i0 i1 => ?_) f4⟩
  have := d (i - 96) (by omega) (by omega)
  have e96 : 96 + (i - 96) = i := by omega
  rw [e96] at this
  exact this
theorem XB_f {a a' u u' : zM} {E c O O' : Int} (hO : O ≤ O') (A : AF E a a') (U : UF O u u') (h : XB a E u c O) : XB a' E u' c O' := by
  obtain ⟨A1, A2, A3, A4⟩ := A
  obtain ⟨U1, U2, U3, U4⟩ := U
  have e17 : ∀ j, u' 117 j = u 117 j := fun j => U3 _ _ (by omega)
  have e16 : ∀ j, u' 116 j = u 116 j := fun j => U3 _ _ (by omega)
  have e22 : ∀ j, u' 122 j = u 122 j := fun j => U3 _ _ (by omega)
  have e12 : a' E 12 = a E 12 := A1 12 (by omega)
  have e3 : ∀ j, a' (E + 3) j = a (E + 3) j := fun j => (A4 j).1
  have e4 : ∀ j, a' (E + 4) j = a (E + 4) j := fun j => (A4 j).2
  obtain ⟨h1, h2, h3, h4, h5, h6⟩ := h
  unfold XB
  simp only [e17, e22, e12, e3, e4]
  exact ⟨fun e e0 e1 hn => FXe_f hO (e3 e) (e4 e) (e16 _) (e17 _) U4 (h1 e e0 e1 hn), h2, h3, h4, h5, h6⟩
theorem RBd_f {a a' u u' u0 : zM} {E c O O' : Int} (hO : O ≤ O') (A : AF E a a') (U : UF O u u') (h : RBd a E u u0 c O) : RBd a' E u' u0 c O' := by
  obtain ⟨h1, h2, h3, h4, h5, h6⟩ := h
  have X := XB_f hO A U h6
  obtain ⟨A1, A2, A3, A4⟩ := A
  obtain ⟨U1, U2, U3, U4⟩ := U
  refine ⟨FrM_t h1 U1, ⟨U2.1.trans h2.1, U2.2.trans h2.2⟩, ?_, ?_, ?_, X⟩
  · unfold NB at h3 ⊢
    rw [U3 110 4 (by omega), U3 110 5 (by omega), U3 110 6 (by omega), U3 110 7 (by omega), A1 0 (by omega), A1 1 (by omega), A1 2 (by omega), A1 3 (by omega)]
    exact h3
  · intro w w0 w1
    rw [U3 122 _ (by omega), A2]
    exact h4 w w0 w1
  · unfold DC at h5 ⊢
    rw [(A3 0 (by decide)).1, (A3 0 (by decide)).2, (A3 1 (by decide)).1, (A3 2 (by decide)).1, (A3 2 (by decide)).2, (A3 3 (by decide)).1, (A3 4 (by decide)).1, (A3 4 (by decide)).2, (A3 5 (by decide)).1, (A3 5 (by decide)).2, (A3 6 (by decide)).1]
    exact h5
/-- between two expressions -/
def R1 (a : zM) (E : Int) (u0 u : zM) : Prop := u 88 42 = a E 5 ∧ u 88 43 = a E 11 - 7 ∧ cdR a E u (a E 5) (a E 11 - 7) ∧ RBd a E u u0 (-1) (a E 11 - 7)
/-- within an expression; d = 1: a value has just been read -/
def RE (d : Nat) (a : zM) (E : Int) (u0 u : zM) : Prop := ∃ F K O W N H, EC a E u F K O W N H ∧ u 88 42 = K ∧ O + cnW W = K ∧ H.length = nbW W + d ∧ (opW W : Int) = a 72 8 ∧ u 88 50 = a 72 8 ∧ u 88 51 = a 74 (a 72 8) ∧ (∀ j, 0 ≤ j → j < a 72 8 → u 121 j = a 74 j) ∧ (∀ j, 0 ≤ j → j ≤ a 72 8 → a 74 j = 0 ∨ a 74 j = 1) ∧ (u 88 53 = a 72 9 ∧ (a 72 9 = 0 ∨ a 72 9 = 1)) ∧ u 88 52 = 1 - d ∧ u 116 (a 72 6) = F ∧ a (E + 3) (a 72 6 - 7) = 7 + F ∧ RBd a E u u0 (a 72 6 - 7) F
/-- the token at hand -/
def TS (tx : Int → Int) (n : Int) (a u : zM) : Prop := TM tx n u ∧ u 88 29 = a 75 2 ∧ RK (a 75 3) (a 75 5) u ∧ u 88 32 = a 75 4
theorem RK_v {k v v' : Int} {m : zM} (h : RK k v m) (e : k = 2 → v' = v) : RK k v' m := ⟨h.1, h.2.1, fun q => by rw [e q]; exact h.2.2.1 q, h.2.2.2⟩
/-- the token is another, nothing else -/
theorem AF_g {E : Int} (hE : E = 76 ∨ E = 82) {a a' : zM} (f : FG a a') : AF E a a' := ⟨fun j _ => f _ _ (by omega), f _ _ (by omega), fun j _ => ⟨f _ _ (by omega), f _ _ (by omega)⟩, fun j => ⟨f _ _ (by omega), f _ _ (by omega)⟩⟩
theorem R1_g {a a' u u0 : zM} {E : Int} (hE : E = 76 ∨ E = 82) (f : FG a a') (h : R1 a E u0 u) : R1 a' E u0 u := by
  obtain ⟨h1, h2, h3, h4⟩ := h
  have e5 : a' E 5 = a E 5 := f _ _ (by omega)
  have e11 : a' E 11 = a E 11 := f _ _ (by omega)
  unfold R1
  rw [e5, e11]
  exact ⟨h1, h2, cdR_g (Int.le_refl _) (fun i _ _ => ⟨f _ _ (by omega), f _ _ (by omega)⟩) (fun i _ _ => ⟨rfl, rfl, rfl⟩) h3, RBd_f (Int.le_refl _) (AF_g hE f) UF_r h4⟩
theorem RE_g {d : Nat} {a a' u u0 : zM} {E : Int} (hE : E = 76 ∨ E = 82) (f : FG a a') (h : RE d a E u0 u) : RE d a' E u0 u := by
  obtain ⟨F, K, O, W, N, H, h1, h2⟩ := h
  have e72 : ∀ j, a' 72 j = a 72 j := fun j => f _ _ (by omega)
  have e74 : ∀ j, a' 74 j = a 74 j := fun j => f _ _ (by omega)
  have e3 : ∀ j, a' (E + 3) j = a (E + 3) j := fun j => f _ _ (by omega)
  refine ⟨F, K, O, W, N, H, EC_f h1 (fun j => f _ _ (by omega)) (e72 7) (f _ _ (by omega)) (f _ _ (by omega)) (fun j => ⟨f _ _ (by omega), f _ _ (by omega)⟩) rfl rfl rfl rfl (fun _ _ _ => rfl), ?_⟩
  simp only [e72, e74, e3]
  obtain ⟨g1, g2, g3, g4, g5, g6, g7, g8, g9, g10, g11, g12, g13⟩ := h2
  exact ⟨g1, g2, g3, g4, g5, g6, g7, g8, g9, g10, g11, g12, RBd_f (Int.le_refl _) (AF_g hE f) UF_r g13⟩
