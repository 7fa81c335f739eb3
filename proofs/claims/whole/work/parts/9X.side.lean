/-! a side is read: the relation behind it -/
theorem RE_o {a u u0 : zM} {E : Int} (hE : E = 76 ∨ E = 82) (h : RE 0 a E u0 u) {a1 u3 u4 : zM} (ha : a1 = zup (zup (zup (offF a 36) 72 8 (a 72 8 + 1)) 74 (a 72 8 + 1) 0) 72 9 1) (hu : u3 = zup (zup (waiF (zup (zup u 121 (u 88 50) (u 88 51)) 88 50 (u 88 50 + 1)) 100 (-1)) 88 51 0) 88 53 1) (f : FU u3 u4) : RE 0 a1 E u0 u4 := by
  obtain ⟨F, K, O, W, N, H, g0, g1, g2, g3, g4, g5, g6, g7, g8, g9, g10, g11, g12, g13⟩ := h
  obtain ⟨p1, p2, p3, p4, p5, p6, p7, p8, p9⟩ := op_c (m := a) a1 ha
  obtain ⟨q1, q2, q3, q4, q5, q6, q7, q8, q9, q10, q11⟩ := opu_c (u := u) u3 hu
  clear ha hu
  have fo := g0.fo
  have hk := g0.k
  have hcd := g0.cd
  have wl := g0.wl
  have wu := g0.wu
  rw [wl] at p1 p2
  rw [wu] at q1 q2 q3
  have f88 : ∀ j, (j < 29 ∨ 32 < j) → u4 88 j = u3 88 j := fun j hj => f 88 j (by omega)
  have fx : ∀ c j, ¬ c = 88 → u4 c j = u3 c j := fun c j hj => f c j (by omega)
  have aE : ∀ x j, E ≤ x → x ≤ E + 4 → a1 x j = a x j := fun x j h1 h2 => p9 x j (by omega) (by omega) (by omega)
  have u6 : u4 88 46 = u 88 46 + 1 := (f88 46 (by omega)).trans q6
  have u0' : ∀ j, ¬ (29 ≤ j ∧ j ≤ 32) → ¬ j = 46 → ¬ j = 50 → ¬ j = 51 → ¬ j = 53 → u4 88 j = u 88 j := fun j h0 h1 h2 h3 h4 => (f88 j (by omega)).trans (q10 j h1 h2 h3 h4)
  have uc : ∀ c j, ¬ c = 88 → ¬ c = 118 → ¬ c = 119 → ¬ c = 121 → u4 c j = u c j := fun c j h1 h2 h3 h4 => (fx c j h1).trans (q11 c j h1 h2 h3 h4)
  have e6 : a1 72 6 = a 72 6 := p6 6 (by decide) (by decide) (by decide)
  have hK : 0 ≤ K := by omega
  refine ⟨F, K, O, 36 :: W, (-1) :: N, H, EC_o g0 (by omega) p1 p2 p3 (aE E 5 (by omega) (by omega)) (aE E 11 (by omega) (by omega)) (fun j => ⟨aE _ j (by omega) (by omega), aE _ j (by omega) (by omega)⟩) u6 (u0' 42 (by omega) (by omega) (by omega) (by omega) (by omega)) (u0' 43 (by omega) (by omega) (by omega) (by omega) (by omega)) (u0' 48 (by omega) (by omega) (by omega) (by omega) (by omega)) ((fx 118 _ (by decide)).trans q1) ((fx 119 _ (by decide)).trans q2) (fun c j hc hj => (fx c j (by omega)).trans (q3 c j hc hj)) (fun c j hc => uc c j (by omega) (by omega) (by omega) (by omega)), ?_⟩
  rw [e6, p4, p5, u0' 42 (by omega) (by omega) (by omega) (by omega) (by omega), (f88 50 (by omega)).trans q7, (f88 51 (by omega)).trans q8, (f88 53 (by omega)).trans q9, u0' 52 (by omega) (by omega) (by omega) (by omega) (by omega), uc 116 _ (by decide) (by decide) (by decide) (by decide), aE (E + 3) _ (by omega) (by omega), p7]
  have c1 : cnW (36 :: W) = cnW W := if_pos rfl
  have c2 : nbW (36 :: W) = nbW W := if_pos (Or.inl rfl)
  have c3 : opW (36 :: W) = opW W + 1 := if_pos rfl
  rw [c1, c2, c3]
  refine ⟨g1, g2, g3, by omega, by omega, rfl, fun j j0 j1 => ?_, fun j j0 j1 => ?_, ⟨rfl, Or.inr rfl⟩, g10, g11, g12, ?_⟩
  · rw [fx 121 j (by decide), p8 j (by omega)]
    by_cases z : j = u 88 50
    · rw [z, q4, g6, g5]
    · rw [q5 j z]; exact g7 j j0 (by omega)
  · by_cases z : j = a 72 8 + 1
    · rw [z, p7]; exact Or.inl rfl
    · rw [p8 j z]; exact g8 j j0 (by omega)
  · refine RBd_f (Int.le_refl _) ⟨fun j _ => aE E j (by omega) (by omega), p6 5 (by decide) (by decide) (by decide), fun j _ => ⟨aE _ j (by omega) (by omega), aE _ j (by omega) (by omega)⟩, fun j => ⟨aE _ j (by omega) (by omega), aE _ j (by omega) (by omega)⟩⟩ (UF_t (UF_k (K := K) (a := a) (E := E) fo.2 (by omega) hK hcd (fun c j h1 h2 h3 h4 => ?_)) (UF_U f)) g13
    by_cases z : c = 88
    · subst z; exact q10 j (by omega) (by omega) (by omega) (by omega)
    · exact q11 c j z (by omega) (by omega) (by omega)
theorem RE_u {a u u0 : zM} {E s c v : Int} (hE : E = 76 ∨ E = 82) (hs : (s = 35 ∧ c = 12) ∨ (s = 23 ∧ c = 13)) (hv : v = 0 ∨ v = 1) (h : RE 0 a E u0 u) (h0 : 0 ≤ u 88 42) {a1 u3 u4 : zM} (ha : a1 = zup (offF (kuF a E) s) 72 9 v) (hu : ∀ x j, ¬ (x = 88 ∧ j = 53) → u3 x j = waiF (groF u c 0) c (96 + u 88 42) x j) (hu3 : u3 88 53 = v) (f : FU u3 u4) : RE 0 a1 E u0 u4 := by
  obtain ⟨F, K, O, W, N, H, g0, g1, g2, g3, g4, g5, g6, g7, g8, g9, g10, g11, g12, g13⟩ := h
  obtain ⟨p1, p2, p3, p4, p5, p6, p7, p8⟩ := un_c (m := a) (s := s) (v := v) hE a1 ha
  obtain ⟨r1, r2, r3, r4, r5⟩ := gro_c (u := u) (k := c) (v := 0)
  obtain ⟨q1, q2, q3, q4, q5⟩ := wai_c (u := groF u c 0) (k := c) (x := 96 + u 88 42)
  have r46 : groF u c 0 88 46 = u 88 46 := r5 88 46 (by omega) (by omega)
  rw [r46] at q1 q2 q3 q4
  clear ha
  have fo := g0.fo
  have hcd := g0.cd
  have wl := g0.wl
  have wu := g0.wu
  have ka := g0.ka
  rw [wl] at p1 p2
  rw [wu] at q1 q2 q3
  rw [g1] at r1 r2 r3 r4 q2 q1 q3 q4 q5
  rw [g1] at hu
  have hK : 0 ≤ K := by omega
  have f88 : ∀ j, (j < 29 ∨ 32 < j) → u4 88 j = u3 88 j := fun j hj => f 88 j (by omega)
  have fx : ∀ x j, ¬ x = 88 → u4 x j = u3 x j := fun x j hj => f x j (by omega)
  have aE : ∀ x j, E < x → x ≤ E + 4 → a1 x j = a x j := fun x j h1 h2 => p8 x j (by omega) (by omega) (by omega)
  have u0' : ∀ j, ¬ (29 ≤ j ∧ j ≤ 32) → ¬ j = 46 → ¬ j = 42 → ¬ j = 53 → u4 88 j = u 88 j := fun j h0 h1 h2 h3 => ((f88 j (by omega)).trans (hu 88 j (by omega))).trans ((q5 88 j (by omega) (by omega) (by omega)).trans (r5 88 j (by omega) (by omega)))
  have uk : ∀ x j, 111 ≤ x → x ≤ 114 → u4 x j = groF u c 0 x j := fun x j h1 h2 => ((fx x j (by omega)).trans (hu x j (by omega))).trans (q5 x j (by omega) (by omega) (by omega))
  have uw : ∀ x j, (x = 118 ∨ x = 119) → u4 x j = waiF (groF u c 0) c (96 + K) x j := fun x j h1 => (fx x j (by omega)).trans (hu x j (by omega))
  have uc : ∀ x j, ¬ x = 88 → ¬ (111 ≤ x ∧ x ≤ 114) → ¬ x = 118 → ¬ x = 119 → u4 x j = u x j := fun x j h1 h2 h3 h4 => ((fx x j h1).trans (hu x j (by omega))).trans ((q5 x j (by omega) h3 h4).trans (r5 x j (by omega) (by omega)))
  have u42 : u4 88 42 = K + 1 := ((f88 42 (by omega)).trans (hu 88 42 (by omega))).trans ((q5 88 42 (by omega) (by omega) (by omega)).trans r1)
  have u46 : u4 88 46 = u 88 46 + 1 := ((f88 46 (by omega)).trans (hu 88 46 (by omega))).trans q4
  have e6 : a1 72 6 = a 72 6 := p5 6 (by decide) (by decide)
  have e8 : a1 72 8 = a 72 8 := p5 8 (by decide) (by decide)
  have e74 : ∀ j, a1 74 j = a 74 j := fun j => p8 74 j (by decide) (by decide) (by omega)
  have ok : okW s ∧ ¬ s = 36 ∧ wmp s = c := by
    rcases hs with ⟨z, y⟩ | ⟨z, y⟩ <;> subst z <;> subst y <;> decide
  have pw : ∀ x j, (x = 118 ∨ x = 119) → ¬ j = (W.length : Int) → u4 x j = u x j := fun x j h1 h2 => (uw x j h1).trans ((q3 x j h1 h2).trans (r5 x j (by omega) (by omega)))
  refine ⟨F, K + 1, O, s :: W, (96 + K) :: N, H, EC_w g0 ok.1 ok.2.1 hK p1 p2 p3 (by rw [p6, ka, g1]) (p7 11 (by decide)) (fun j => ⟨aE _ j (by omega) (by omega), aE _ j (by omega) (by omega)⟩) u46 u42 (u0' 43 (by omega) (by omega) (by omega) (by omega)) (u0' 48 (by omega) (by omega) (by omega) (by omega)) (by rw [uw 118 _ (by omega), ok.2.2]; exact q1) (by rw [uw 119 _ (by omega)]; exact q2) pw (by rw [uk 111 _ (by omega) (by omega), ok.2.2]; exact r2) (by rw [uk 114 _ (by omega) (by omega)]; exact r3) (fun x j h1 h2 h3 => (uk x j h1 h2).trans (r4 x j h1 h2 h3)) (fun x j h1 => uc x j (by omega) (by omega) (by omega) (by omega)) (rW_lt (n := W.length) (fun x j h1 h2 => pw x j h1 (by omega)) W N (Int.le_refl _) g0.r), u42, ?_⟩
  rw [e6, e8, p4, u0' 50 (by omega) (by omega) (by omega) (by omega), u0' 51 (by omega) (by omega) (by omega) (by omega), (f88 53 (by omega)).trans hu3, u0' 52 (by omega) (by omega) (by omega) (by omega), uc 116 _ (by decide) (by decide) (by decide) (by decide), aE (E + 3) _ (by omega) (by omega)]
  have c1 : cnW (s :: W) = cnW W + 1 := if_neg ok.2.1
  have c2 : nbW (s :: W) = nbW W := if_pos (by omega)
  have c3 : opW (s :: W) = opW W := if_neg ok.2.1
  rw [c1, c2, c3]
  refine ⟨by omega, g3, g4, g5, by rw [e74]; exact g6, fun j j0 j1 => ?_, fun j j0 j1 => by rw [e74]; exact g8 j j0 j1, ⟨rfl, hv⟩, g10, g11, g12, ?_⟩
  · rw [uc 121 j (by decide) (by decide) (by decide) (by decide), e74]
    exact g7 j j0 j1
  · refine RBd_f (Int.le_refl _) ⟨fun j hj => p7 j (by omega), p5 5 (by decide) (by decide), fun j _ => ⟨aE _ j (by omega) (by omega), aE _ j (by omega) (by omega)⟩, fun j => ⟨aE _ j (by omega) (by omega), aE _ j (by omega) (by omega)⟩⟩ (UF_t (UF_k (u' := u3) (K := K) (a := a) (E := E) fo.2 (by omega) hK hcd (fun x j h1 h2 h3 h4 => ?_)) (UF_U f)) g13
    rw [hu x j (by omega), q5 x j (by omega) (by omega) (by omega)]
    by_cases z : 111 ≤ x ∧ x ≤ 114
    · exact r4 x j z.1 z.2 (by omega)
    · exact r5 x j (by omega) (by omega)
theorem RE_l {a u u0 : zM} {E k kd v av : Int} (hE : E = 76 ∨ E = 82) (hk : (k = 0 ∧ bdA v ∧ kd = 2 ∧ av = v) ∨ (k = 16 ∧ (0 ≤ v ∧ v ≤ 8) ∧ kd = 12 + v)) (h : RE 0 a E u0 u) (h0 : 0 ≤ u 88 42) {a1 u3 u4 : zM} (ha : a1 = zup (addF (kuF a E) E kd av) 72 4 5) (f : FU (zup (groF u k v) 88 52 0) u3) (hu : u4 = donF u3 (96 + u 88 42)) : RE 1 a1 E u0 u4 := by
  obtain ⟨F, K, O, W, N, H, g0, g1, g2, g3, g4, g5, g6, g7, g8, g9, g10, g11, g12, g13⟩ := h
  obtain ⟨p1, p2, p3, p4, p5, p6, p7, p8, p9⟩ := lf_c (m := a) (s := kd) (v := av) hE a1 ha
  obtain ⟨r1, r2, r3, r4, r5⟩ := gro_c (u := u) (k := k) (v := v)
  have f88 : ∀ j, (j < 29 ∨ 32 < j) → ¬ j = 52 → ¬ j = 42 → u3 88 j = u 88 j := fun j hj h2 h3 => ((f 88 j (by omega)).trans (zup_j h2)).trans (r5 88 j (by omega) (by omega))
  have fx : ∀ x j, ¬ x = 88 → u3 x j = groF u k v x j := fun x j hj => (f x j (by omega)).trans (zup_c hj)
  have f42 : u3 88 42 = u 88 42 + 1 := ((f 88 42 (by omega)).trans (zup_j (by decide))).trans r1
  have f52 : u3 88 52 = 0 := (f 88 52 (by omega)).trans (zup_s _ _ _ _)
  obtain ⟨q1, q2, q3, q4, q5, q6, q7⟩ := don_c (u := u3) (x := 96 + u 88 42)
  rw [← hu] at q1 q2 q3 q4 q5 q6 q7
  rw [f88 43 (by omega) (by omega) (by omega)] at q1 q2 q3
  rw [f88 48 (by omega) (by omega) (by omega)] at q4 q5 q6
  clear ha
  have fo := g0.fo
  have hcd := g0.cd
  have ho := g0.o
  have oa := g0.oa
  have ka := g0.ka
  rw [g1] at r1 r2 r3 r4 q1 q4 f42
  rw [ho] at q1 q2 q3
  rw [show a E 11 = 7 + O by omega] at p6 p7 p8
  have hK : 0 ≤ K := by omega
  have aE : ∀ x j, E + 3 ≤ x → x ≤ E + 4 → a1 x j = a x j := fun x j h1 h2 => p9 x j (by omega) (by omega) (by omega) (by omega)
  have u0' : ∀ j, ¬ (29 ≤ j ∧ j ≤ 32) → ¬ j = 42 → ¬ j = 43 → ¬ j = 48 → ¬ j = 52 → u4 88 j = u 88 j := fun j h0 h1 h2 h3 h4 => (q7 88 j (by omega) (by omega) (by omega)).trans (f88 j (by omega) h4 h1)
  have uk : ∀ x j, 111 ≤ x → x ≤ 114 → u4 x j = groF u k v x j := fun x j h1 h2 => (q7 x j (by omega) (by omega) (by omega)).trans (fx x j (by omega))
  have uc : ∀ x j, ¬ x = 88 → ¬ (111 ≤ x ∧ x ≤ 115) → ¬ x = 120 → u4 x j = u x j := fun x j h1 h2 h3 => (q7 x j (by omega) (by omega) (by omega)).trans ((fx x j h1).trans (r5 x j (by omega) (by omega)))
  have u42 : u4 88 42 = K + 1 := (q7 88 42 (by omega) (by omega) (by omega)).trans f42
  have e6 : a1 72 6 = a 72 6 := p2 6 (by decide)
  have e8 : a1 72 8 = a 72 8 := p2 8 (by decide)
  have e9 : a1 72 9 = a 72 9 := p2 9 (by decide)
  have e74 : ∀ j, a1 74 j = a 74 j := fun j => p9 74 j (by decide) (by omega) (by omega) (by omega)
  have sk : a1 (E + 1) (7 + O) = sgK k v ∧ (k = 0 → a1 (E + 2) (7 + O) = v) := by
    rw [p6, p7]
    rcases hk with z | z
    · rw [z.1, z.2.2.1, z.2.2.2]; exact ⟨rfl, fun _ => rfl⟩
    · rw [z.1, z.2.2]; exact ⟨rfl, fun y => absurd y (by decide)⟩
  refine ⟨F, K + 1, O + 1, W, N, (96 + K) :: H, EC_l (k := k) (v := v) g0 (hk.imp (fun z => ⟨z.1, z.2.1⟩) fun z => ⟨z.1, z.2.1⟩) hK (fun j => p9 73 j (by decide) (by omega) (by omega) (by omega)) (p2 7 (by decide)) (by rw [p3, ka, g1]) (by rw [p4]; omega) sk.1 sk.2 (fun j hj => p8 j hj) (u0' 46 (by omega) (by omega) (by omega) (by omega) (by omega)) u42 q3 q6 q4 (fun j hj => (q5 j hj).trans ((fx 120 j (by decide)).trans (r5 120 j (by omega) (by omega)))) q1 (fun j hj => (q2 j hj).trans ((fx 115 j (by decide)).trans (r5 115 j (by omega) (by omega)))) (by rw [uk 111 _ (by omega) (by omega)]; exact r2) (by rw [uk 114 _ (by omega) (by omega)]; exact r3) (fun x j h1 h2 h3 => (uk x j h1 h2).trans (r4 x j h1 h2 h3)) (fun x j h1 => uc x j (by omega) (by omega) (by omega)), u42, ?_⟩
  rw [e6, e8, e9, u0' 50 (by omega) (by omega) (by omega) (by omega) (by omega), u0' 51 (by omega) (by omega) (by omega) (by omega) (by omega), u0' 53 (by omega) (by omega) (by omega) (by omega) (by omega), (q7 88 52 (by omega) (by omega) (by omega)).trans f52, uc 116 _ (by decide) (by decide) (by decide), aE (E + 3) _ (by omega) (by omega)]
  refine ⟨by omega, by rw [List.length_cons]; omega, g4, g5, by rw [e74]; exact g6, fun j j0 j1 => ?_, fun j j0 j1 => by rw [e74]; exact g8 j j0 j1, g9, by omega, g11, g12, ?_⟩
  · rw [uc 121 j (by decide) (by decide) (by decide), e74]
    exact g7 j j0 j1
  · refine RBd_f (Int.le_refl _) ⟨fun j hj => p5 j (by omega) (by omega), p2 5 (by decide), fun j hj => p8 j (by omega), fun j => ⟨aE _ j (by omega) (by omega), aE _ j (by omega) (by omega)⟩⟩ (UF_k (u' := u4) (K := K) (a := a) (E := E) fo.2 (by omega) hK hcd (fun x j h1 h2 h3 h4 => ?_)) g13
    by_cases z : x = 88
    · subst z; exact u0' j (by omega) (by omega) (by omega) (by omega) (by omega)
    by_cases y : 111 ≤ x ∧ x ≤ 114
    · exact (uk x j y.1 y.2).trans (r4 x j y.1 y.2 (by omega))
    by_cases t : x = 115
    · subst t; exact (q2 j (by omega)).trans ((fx 115 j (by decide)).trans (r5 115 j (by omega) (by omega)))
    · exact uc x j z (by omega) (by omega)
