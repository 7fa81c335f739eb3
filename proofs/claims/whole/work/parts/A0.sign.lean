/-! a sign, a bracket that closes, an expression's end: the relation behind it -/
theorem wrF_lo {E b : Int} (hE : E = 76 ∨ E = 82) : ∀ (k : Nat) (m : zM) (j : Int), j < m E 11 → wrF E b k m (E + 1) j = m (E + 1) j ∧ wrF E b k m (E + 2) j = m (E + 2) j := by
  intro k
  induction k with
  | zero => intro m j _; exact ⟨rfl, rfl⟩
  | succ k ih =>
    intro m j h
    unfold wrF
    split
    · exact ⟨rfl, rfl⟩
    · have e11 : zup (addF m E (m 73 (k : Int)) 0) 72 7 k E 11 = m E 11 + 1 := by
        rcases hE with z | z <;> subst z <;> simp [addF, zup]
      have hn : ¬ j = m E 11 := by omega
      have e1 : zup (addF m E (m 73 (k : Int)) 0) 72 7 k (E + 1) j = m (E + 1) j ∧ zup (addF m E (m 73 (k : Int)) 0) 72 7 k (E + 2) j = m (E + 2) j := by
        rcases hE with z | z <;> subst z <;> simp [addF, zup, hn]
      have := ih (zup (addF m E (m 73 (k : Int)) 0) 72 7 k) j (by omega)
      exact ⟨this.1.trans e1.1, this.2.trans e1.2⟩
theorem UF_0 {O : Int} {u u' : zM} (e : ∀ x j, ¬ (x = 88 ∧ ((29 ≤ j ∧ j ≤ 32) ∨ (42 ≤ j ∧ j ≤ 53))) → ¬ (118 ≤ x ∧ x ≤ 121) → u' x j = u x j) : UF O u u' :=
  ⟨fun x j h => e x j (by unfold rdY at h; omega) (by unfold rdY at h; omega), ⟨e _ _ (by omega) (by omega), e _ _ (by omega) (by omega)⟩, fun x j h => e _ _ (by omega) (by omega), fun i _ _ => ⟨e _ _ (by omega) (by omega), fun c c1 c2 => e _ _ (by omega) (by omega)⟩⟩
theorem wr_AF {E b : Int} (hE : E = 76 ∨ E = 82) {m : zM} (h : 7 ≤ m E 11) (k : Nat) : AF E m (wrF E b k m) :=
  ⟨fun j hj => wrF_o hE k m E j (by omega), wrF_o hE k m 72 5 (by omega), fun j hj => wrF_lo hE k m j (by omega), fun j => ⟨wrF_o hE k m _ j (by omega), wrF_o hE k m _ j (by omega)⟩⟩
theorem AF_t {E : Int} {a a1 a2 : zM} (h : AF E a a1) (g : AF E a1 a2) : AF E a a2 :=
  ⟨fun j hj => (g.1 j hj).trans (h.1 j hj), g.2.1.trans h.2.1, fun j hj => ⟨(g.2.2.1 j hj).1.trans (h.2.2.1 j hj).1, (g.2.2.1 j hj).2.trans (h.2.2.1 j hj).2⟩, fun j => ⟨(g.2.2.2 j).1.trans (h.2.2.2 j).1, (g.2.2.2 j).2.trans (h.2.2.2 j).2⟩⟩
theorem RE_s {a u u0 u2 u3 u4 : zM} {E kd v : Int} {F K O O' : Int} {W N N' H H' : List Int} (hE : E = 76 ∨ E = 82) (hb : ¬ bdS kd = 0) (h11 : 7 ≤ a E 11)
    (hW : (a 72 7).toNat = W.length) (hv : v = 0 ∨ v = 1)
    (g0 : EC a E u F K O W N H) (g1 : u 88 42 = K) (hK : 0 ≤ K) (g4 : (opW W : Int) = a 72 8) (g5 : u 88 50 = a 72 8) (g6 : u 88 51 = a 74 (a 72 8)) (g7 : ∀ j, 0 ≤ j → j < a 72 8 → u 121 j = a 74 j) (g8 : ∀ j, 0 ≤ j → j ≤ a 72 8 → a 74 j = 0 ∨ a 74 j = 1) (g11 : u 116 (a 72 6) = F) (g12 : a (E + 3) (a 72 6 - 7) = 7 + F) (g13 : RBd a E u u0 (a 72 6 - 7) F)
    (c0 : EC (wrF E (bdS kd) W.length (kuF a E)) E u2 F K O' (popW (bdS kd) W) N' H') (c1 : H'.length = nbW (popW (bdS kd) W) + 1) (c2 : O' + cnW (popW (bdS kd) W) = K) (c3 : frB (groF u (wmp kd) 0) u2) (c4 : DN (groF u (wmp kd) 0) u2 O)
    (hu : ∀ x j, ¬ (x = 88 ∧ 51 ≤ j ∧ j ≤ 53) → u3 x j = waiF u2 (wmp kd) (96 + K) x j) (hu1 : u3 88 51 = if bdS kd = 4 then 1 else if bdS kd < 4 then 0 else u 88 51) (hu2 : u3 88 52 = 1) (hu3 : u3 88 53 = v) (f : FU u3 u4) {a1 : zM} (ha : a1 = zup (zup (sg2F a E kd) 72 9 v) 72 4 4) : RE 0 a1 E u0 u4 := by
  obtain ⟨ok, n36, n35, n23, n2, bw, bb⟩ := bdS_ok hb
  obtain ⟨k5, ko⟩ := ku_c (m := a) (E := E)
  have ro := fun x j => wrF_o (b := bdS kd) hE W.length (kuF a E) x j
  have haf := wr_AF (b := bdS kd) hE (m := kuF a E) (by rw [ko E 11 (by omega)]; exact h11) W.length
  obtain ⟨p1, p2, p3, p4, p5, p6, p7, p8⟩ := sg_c (m := a) (E := E) (k := kd) (v := v) rfl a1 ha
  rw [hW] at p1 p2 p3 p6 p7 p8
  generalize wrF E (bdS kd) W.length (kuF a E) = w at *
  obtain ⟨r1, r2, r3, r4, r5⟩ := gro_c (u := u) (k := wmp kd) (v := 0)
  obtain ⟨q1, q2, q3, q4, q5⟩ := wai_c (u := u2) (k := wmp kd) (x := 96 + K)
  rw [g1] at r1 r2 r3 r4
  have wl := c0.wl
  have wu := c0.wu
  have fo := g0.fo
  have fo' := c0.fo
  rw [wl] at p1 p2
  rw [wu] at q1 q2 q3
  have w6 := (ro 72 6 (by omega)).trans (ko 72 6 (by omega))
  have w8 := (ro 72 8 (by omega)).trans (ko 72 8 (by omega))
  have w74 : ∀ j, w 74 j = a 74 j := fun j => (ro 74 j (by omega)).trans (ko 74 j (by omega))
  have wE5 : w E 5 = a E 5 + 1 := (ro E 5 (by omega)).trans k5
  have w3 : ∀ j, w (E + 3) j = a (E + 3) j := fun j => (ro (E + 3) j (by omega)).trans (ko (E + 3) j (by omega))
  have ka := g0.ka
  have e2 : ∀ j, ¬ j = 42 → ¬ j = 43 → ¬ j = 46 → ¬ j = 48 → u2 88 j = u 88 j := fun j h1 h2 h3 h4 => (c3 88 j (by omega) (by omega) (by omega)).trans (r5 88 j (by omega) (by omega))
  have u42 : u2 88 42 = K + 1 := (c3 88 42 (by omega) (by omega) (by omega)).trans r1
  have f88 : ∀ j, ¬ (29 ≤ j ∧ j ≤ 32) → ¬ (51 ≤ j ∧ j ≤ 53) → ¬ j = 46 → u4 88 j = u2 88 j := fun j h1 h2 h3 => ((f 88 j (by omega)).trans (hu 88 j (by omega))).trans (q5 88 j (by omega) (by omega) (by omega))
  have f46 : u4 88 46 = u2 88 46 + 1 := ((f 88 46 (by omega)).trans (hu 88 46 (by omega))).trans q4
  have fx : ∀ x j, ¬ x = 88 → ¬ x = 118 → ¬ x = 119 → u4 x j = u2 x j := fun x j h1 h2 h3 => ((f x j (by omega)).trans (hu x j (by omega))).trans (q5 x j (by omega) h2 h3)
  have fw : ∀ x j, (x = 118 ∨ x = 119) → u4 x j = waiF u2 (wmp kd) (96 + K) x j := fun x j h1 => (f x j (by omega)).trans (hu x j (by omega))
  have e6 : a1 72 6 = a 72 6 := (p6 6 (by decide) (by decide) (by decide)).trans w6
  have e8 : a1 72 8 = a 72 8 := (p6 8 (by decide) (by decide) (by decide)).trans w8
  have pw : ∀ x j, (x = 118 ∨ x = 119) → ¬ j = ((popW (bdS kd) W).length : Int) → u4 x j = u2 x j := fun x j h1 h2 => (fw x j h1).trans (q3 x j h1 h2)
  have x116 : ∀ j, u4 116 j = u 116 j := fun j => (fx 116 j (by decide) (by decide) (by decide)).trans ((c3 116 j (by omega) (by omega) (by omega)).trans (r5 116 j (by omega) (by omega)))
  have x121 : ∀ j, u4 121 j = u 121 j := fun j => (fx 121 j (by decide) (by decide) (by decide)).trans ((c3 121 j (by omega) (by omega) (by omega)).trans (r5 121 j (by omega) (by omega)))
  refine ⟨F, K + 1, O', kd :: popW (bdS kd) W, (96 + K) :: N', H', EC_w c0 ok n36 hK p1 p2 p3 (by rw [p8 E 5 (by omega) (by omega) (by omega), wE5, ka, g1]) (p8 E 11 (by omega) (by omega) (by omega)) (fun j => ⟨p8 _ j (by omega) (by omega) (by omega), p8 _ j (by omega) (by omega) (by omega)⟩) f46 ((f88 42 (by omega) (by omega) (by omega)).trans u42) (f88 43 (by omega) (by omega) (by omega)) (f88 48 (by omega) (by omega) (by omega)) ((fw 118 _ (by omega)).trans q1) ((fw 119 _ (by omega)).trans q2) pw ?_ ?_ (fun x j h1 h2 h3 => fx x j (by omega) (by omega) (by omega)) (fun x j h1 => fx x j (by omega) (by omega) (by omega)) (rW_lt (n := (popW (bdS kd) W).length) (fun x j h1 h2 => pw x j h1 (by omega)) _ N' (Int.le_refl _) c0.r), (f88 42 (by omega) (by omega) (by omega)).trans u42, ?_⟩
  · exact (fx 111 _ (by decide) (by decide) (by decide)).trans ((c3 111 _ (by omega) (by omega) (by omega)).trans r2)
  · exact (fx 114 _ (by decide) (by decide) (by decide)).trans ((c3 114 _ (by omega) (by omega) (by omega)).trans r3)
  rw [e6, e8, p5, (f88 50 (by omega) (by omega) (by omega)).trans (e2 50 (by omega) (by omega) (by omega) (by omega)), (f 88 51 (by omega)).trans hu1, (f 88 52 (by omega)).trans hu2, (f 88 53 (by omega)).trans hu3, x116, p8 (E + 3) _ (by omega) (by omega) (by omega), w3]
  have t1 : cnW (kd :: popW (bdS kd) W) = cnW (popW (bdS kd) W) + 1 := if_neg n36
  have t2 : nbW (kd :: popW (bdS kd) W) = nbW (popW (bdS kd) W) + 1 := if_neg (by omega)
  have t3 : opW (kd :: popW (bdS kd) W) = opW (popW (bdS kd) W) := if_neg n36
  rw [t1, t2, t3, popW_op (by omega)]
  have e74 : ∀ j, ¬ j = a 72 8 → a1 74 j = a 74 j := fun j hj => by rw [p7 j, if_neg (by omega), w74]
  have e748 : a1 74 (a 72 8) = if bdS kd = 4 then 1 else if bdS kd < 4 then 0 else a 74 (a 72 8) := by
    rw [p7]
    by_cases z : bdS kd ≤ 4
    · rw [if_pos ⟨z, rfl⟩]
      by_cases y : bdS kd = 4
      · rw [if_pos y, if_pos y]
      · rw [if_neg y, if_neg y, if_pos (by omega)]
    · rw [if_neg (by omega), if_neg (by omega), if_neg (by omega), w74]
  refine ⟨by omega, by omega, g4, g5, by rw [e748, g6], fun j j0 j1 => by rw [x121, e74 j (by omega)]; exact g7 j j0 j1, fun j j0 j1 => ?_, ⟨rfl, hv⟩, rfl, g11, g12, ?_⟩
  · by_cases z : j = a 72 8
    · rw [z, e748]
      have := g8 (a 72 8) (by omega) (Int.le_refl _)
      split
      · omega
      · split
        · omega
        · exact this
    · rw [e74 j z]; exact g8 j j0 j1
  · have aku : AF E a (kuF a E) := ⟨fun j hj => ko E j (by omega), ko 72 5 (by omega), fun j _ => ⟨ko _ j (by omega), ko _ j (by omega)⟩, fun j => ⟨ko _ j (by omega), ko _ j (by omega)⟩⟩
    have aw1 : AF E w a1 := ⟨fun j _ => p8 E j (by omega) (by omega) (by omega), p6 5 (by decide) (by decide) (by decide), fun j _ => ⟨p8 _ j (by omega) (by omega) (by omega), p8 _ j (by omega) (by omega) (by omega)⟩, fun j => ⟨p8 _ j (by omega) (by omega) (by omega), p8 _ j (by omega) (by omega) (by omega)⟩⟩
    refine RBd_f (Int.le_refl _) (AF_t (AF_t aku haf) aw1) (UF_t (UF_k (u' := groF u (wmp kd) 0) (K := K) (a := a) (E := E) fo.2 (by omega) hK g0.cd (fun x j h1 h2 h3 h4 => ?_)) (UF_t (UF_l fo.2 (UF_B c3 c4)) (UF_0 (fun x j h1 h2 => ?_)))) g13
    · by_cases z : 111 ≤ x ∧ x ≤ 114
      · exact r4 x j z.1 z.2 (by omega)
      · exact r5 x j (by omega) (by omega)
    · by_cases z : x = 88
      · subst z; exact f88 j (by omega) (by omega) (by omega)
      · exact fx x j z (by omega) (by omega)
theorem RE_c {a u u0 u2 u3 u4 : zM} {E : Int} {F K O O' : Int} {W W' N N' H H' : List Int} (hE : E = 76 ∨ E = 82) (h11 : 7 ≤ a E 11)
    (h8 : 0 < a 72 8)
    (g0 : EC a E u F K O W N H) (g1 : u 88 42 = K) (hp : popW 1 W = 36 :: W') (g4 : (opW W' : Int) = a 72 8 - 1) (g5 : u 88 50 = a 72 8) (g7 : ∀ j, 0 ≤ j → j < a 72 8 → u 121 j = a 74 j) (g8 : ∀ j, 0 ≤ j → j ≤ a 72 8 → a 74 j = 0 ∨ a 74 j = 1) (g9 : u 88 53 = a 72 9 ∧ (a 72 9 = 0 ∨ a 72 9 = 1)) (g10 : u 88 52 = 0) (g11 : u 116 (a 72 6) = F) (g12 : a (E + 3) (a 72 6 - 7) = 7 + F) (g13 : RBd a E u u0 (a 72 6 - 7) F)
    (c0 : EC (wrF E 1 W.length a) E u2 F K O' (popW 1 W) N' H') (c1 : H'.length = nbW (popW 1 W) + 1) (c2 : O' + cnW (popW 1 W) = K) (c3 : frB u u2) (c4 : DN u u2 O)
    (hu : u3 = zup (zup (zup u2 88 46 (u2 88 46 - 1)) 88 50 (u2 88 50 - 1)) 88 51 (u2 121 (u2 88 50 - 1))) (f : FU u3 u4) {a1 : zM} (ha : a1 = zup (zup (wrF E 1 W.length a) 72 7 (if 0 < wrF E 1 W.length a 72 7 - 1 then wrF E 1 W.length a 72 7 - 1 else 0)) 72 8 (wrF E 1 W.length a 72 8 - 1)) : RE 1 a1 E u0 u4 := by
  have ro := fun x j => wrF_o (b := 1) hE W.length a x j
  have haf := wr_AF (b := 1) hE h11 W.length
  obtain ⟨p1, p2, p3, p4⟩ := cl_c _ ha
  clear ha
  generalize wrF E 1 W.length a = w at *
  rw [hp] at c0 c1 c2
  have e1 : cnW (36 :: W') = cnW W' := if_pos rfl
  have e2 : nbW (36 :: W') = nbW W' := if_pos (Or.inl rfl)
  rw [e1] at c2
  rw [e2] at c1
  have wl := c0.wl
  rw [List.length_cons] at wl
  have e7 : (if 0 < w 72 7 - 1 then w 72 7 - 1 else 0) = w 72 7 - 1 := by split <;> omega
  rw [e7] at p1
  have w6 := ro 72 6 (by omega)
  have w8 := ro 72 8 (by omega)
  have w9 := ro 72 9 (by omega)
  have w74 : ∀ j, w 74 j = a 74 j := fun j => ro 74 j (by omega)
  have w3 : ∀ j, w (E + 3) j = a (E + 3) j := fun j => ro (E + 3) j (by omega)
  have v50 : u2 88 50 = a 72 8 := (c3 88 50 (by omega) (by omega) (by omega)).trans g5
  have e121 : ∀ j, u2 121 j = u 121 j := fun j => c3 121 j (by omega) (by omega) (by omega)
  have z0 : ∀ x j, ¬ (x = 88 ∧ (j = 46 ∨ j = 50 ∨ j = 51)) → u3 x j = u2 x j := fun x j hx => by
    rw [hu]; unfold zup
    rw [if_neg (by omega), if_neg (by omega), if_neg (by omega)]
  have z46 : u3 88 46 = u2 88 46 - 1 := by rw [hu]; simp [zup]
  have z50 : u3 88 50 = a 72 8 - 1 := by rw [hu, ← v50]; simp [zup]
  have z51 : u3 88 51 = a 74 (a 72 8 - 1) := by
    rw [hu, zup_s, e121, v50]
    exact g7 _ (by omega) (by omega)
  clear hu
  have f88 : ∀ j, ¬ (29 ≤ j ∧ j ≤ 32) → u4 88 j = u3 88 j := fun j h1 => f 88 j (by omega)
  have fx : ∀ x j, ¬ x = 88 → u4 x j = u2 x j := fun x j h1 => (f x j (by omega)).trans (z0 x j (by omega))
  have k6 : a1 72 6 = a 72 6 := (p3 6 (by decide) (by decide)).trans w6
  have k9 : a1 72 9 = a 72 9 := (p3 9 (by decide) (by decide)).trans w9
  have k74 : ∀ j, a1 74 j = a 74 j := fun j => (p4 74 j (by decide)).trans (w74 j)
  have fo := g0.fo
  cases N' with
  | nil => exact absurd c0.r (fun y => y)
  | cons y N' =>
    refine ⟨F, K, O', W', N', H', EC_c c0 (fun j => p4 73 j (by decide)) p1 (p4 E 5 (by omega)) (p4 E 11 (by omega)) (fun j => ⟨p4 _ j (by omega), p4 _ j (by omega)⟩) ((f88 46 (by omega)).trans z46) ((f88 42 (by omega)).trans (z0 88 42 (by omega))) ((f88 43 (by omega)).trans (z0 88 43 (by omega))) ((f88 48 (by omega)).trans (z0 88 48 (by omega))) (fun x j h1 => fx x j (by omega)), ((f88 42 (by omega)).trans (z0 88 42 (by omega))).trans ((c3 88 42 (by omega) (by omega) (by omega)).trans g1), c2, c1, ?_⟩
    rw [k6, k9, p2, w8, (f88 50 (by omega)).trans z50, (f88 51 (by omega)).trans z51, (f88 52 (by omega)).trans ((z0 88 52 (by omega)).trans ((c3 88 52 (by omega) (by omega) (by omega)).trans g10)), (f88 53 (by omega)).trans ((z0 88 53 (by omega)).trans (c3 88 53 (by omega) (by omega) (by omega))), fx 116 _ (by decide), c3 116 _ (by omega) (by omega) (by omega), p4 (E + 3) _ (by omega), w3, k74]
    refine ⟨g4, rfl, rfl, fun j j0 j1 => by rw [fx 121 j (by decide), e121, k74]; exact g7 j j0 (by omega), fun j j0 j1 => by rw [k74]; exact g8 j j0 (by omega), g9, rfl, g11, g12, ?_⟩
    have aw1 : AF E w a1 := ⟨fun j _ => p4 E j (by omega), p3 5 (by decide) (by decide), fun j _ => ⟨p4 _ j (by omega), p4 _ j (by omega)⟩, fun j => ⟨p4 _ j (by omega), p4 _ j (by omega)⟩⟩
    refine RBd_f (Int.le_refl _) (AF_t haf aw1) (UF_t (UF_l fo.2 (UF_B c3 c4)) (UF_0 (fun x j h1 h2 => ?_))) g13
    by_cases z : x = 88
    · subst z; exact (f88 j (by omega)).trans (z0 88 j (by omega))
    · exact fx x j z
