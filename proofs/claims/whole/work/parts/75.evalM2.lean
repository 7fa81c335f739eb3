theorem sgK_s {k a : Int} (h : (1 ≤ k ∧ k ≤ 11) ∨ k = 14 ∨ k = 15) : sgK k a = sgK k 0 ∧ 21 ≤ sgK k a ∧ sgK k a ≤ 34 ∧ ¬ sgK k a = 23 := by
  rcases h with h | h | h
  · have e : ∀ a, sgK k a = 23 + k := fun a => by
      unfold sgK
      rw [if_neg (by omega), if_neg (by omega), if_neg (by omega), if_neg (by omega), if_neg (by omega), if_neg (by omega)]
    rw [e, e]
    omega
  · subst h
    have e : ∀ a, sgK 14 a = 22 := fun a => rfl
    rw [e, e]
    omega
  · subst h
    have e : ∀ a, sgK 15 a = 21 := fun a => rfl
    rw [e, e]
    omega
theorem fA_vroad {g : zM} (hv : vG g) : vroad (g 90) (g 91) (g 88 4) := ⟨hv.1.2, fun k a b => by have := hv.2.2.1 k a b; omega⟩
section L2
variable {Ω : zΩ} {Q : List zV → zM → Prop} {g : zM}
theorem s_name {m : zM} {a l lt : Int} (hv : vroad (g 90) (g 91) (g 88 4)) (hS : 1 ≤ g 88 4) (hp : PG g m) (hl : 0 ≤ l ∧ l < 6) (hh : 0 ≤ g 97 l ∧ g 97 l < g 88 4) (ha : 0 ≤ a ∧ a ≤ 8) (K : Q [zI (fA g l lt (12 + a))] m) : zG Ω 167 0 [zR 10 88, zI a, zI l, zI lt] [] m Q := by
  unfold fA at K
  refine w_X10_nameValue_0 ?_
  rw [hp 88 3 (by unfold prA; omega), hp 98 l (by unfold prA; omega), hp 99 l (by unfold prA; omega), hp 100 l (by unfold prA; omega), hp 97 l (by unfold prA; omega), hp 101 l (by unfold prA; omega), hp 102 l (by unfold prA; omega)]
  refine zif (fun h => ?_) fun h0 => ?_
  · rwa [if_pos (by omega)] at K
  rw [if_neg (by omega)] at K
  refine zif (fun h => zin_of (by omega) (by omega) ?_) fun h1 => ?_
  · rwa [if_pos (by omega)] at K
  rw [if_neg (by omega)] at K
  refine zif (fun h => zin_of (by omega) (by omega) ?_) fun h2 => ?_
  · rwa [if_pos (by omega)] at K
  rw [if_neg (by omega)] at K
  refine zif (fun h => zin_of (by omega) (by omega) ?_) fun h3 => ?_
  · rwa [if_pos (by omega)] at K
  rw [if_neg (by omega)] at K
  refine zif (fun h => ?_) fun h4 => ?_
  · rwa [if_pos (by omega)] at K
  rw [if_neg (by omega)] at K
  refine zif (fun h => zin_of (by omega) (by omega) ?_) fun h5 => ?_
  · rw [if_pos (by omega)] at K
    have e90 : m 90 = g 90 := by funext j; exact hp 90 j (by unfold prA; omega)
    have e91 : m 91 = g 91 := by funext j; exact hp 91 j (by unfold prA; omega)
    have e4 : m 88 4 = g 88 4 := hp 88 4 (by unfold prA; omega)
    refine s_far (by rw [e90, e91, e4]; exact hv) hh.1 (by rw [e4]; exact hh.2) (Int.le_refl _) (by rw [e4]; omega) (zk1_i ?_)
    rw [e90, e91]
    exact K
  rw [if_neg (by omega)] at K
  refine zif (fun h => zin_of (by omega) (by omega) ?_) fun h6 => ?_
  · rwa [if_pos (by omega)] at K
  rw [if_neg (by omega)] at K
  refine zif (fun h => zin_of (by omega) (by omega) ?_) fun h7 => ?_
  · rwa [if_pos (by omega)] at K
  rwa [if_neg (by omega)] at K
theorem s_value_11 {e l lt F : Int} (hv : vroad (g 90) (g 91) (g 88 4)) (hS : 1 ≤ g 88 4) (he : 0 ≤ e ∧ e < 7) (hl : 0 ≤ l ∧ l < 6) (hh : 0 ≤ g 97 l ∧ g 97 l < g 88 4) (hF : g 116 e = F ∧ 0 ≤ F) (hfb : ∀ c, 12 ≤ c → c ≤ 20 → bdA (fA g l lt c)) : ∀ (n : Nat) (i v : Int) (ids st : List Int) (m : zM), PG g m → m 88 57 = 0 → 0 ≤ i → i + n ≤ 96 → g 117 e = i + n → wfA g n (F + i) ids → rstk m ids st → (∀ x ∈ ids, 0 ≤ x ∧ x < 96) → (∀ x ∈ st, bdA x) → (ids = [] ∨ ∃ t, st = v :: t) → (∀ m', FE m m' → Q [zL (evA (sgM g) (nmM g) (fA g l lt) n (F + i) st)] m') → zG Ω 168 11 [zR 10 88, zI e, zI l, zI lt, zL v, zU, zI i, zU, zU] [] m Q := by
  intro n
  induction n with
  | zero =>
    intro i v ids st m hp h57 hi0 hi1 hm hw hr hid hst hvv K
    have K := K m FE_r
    have e117 := hp 117 e (by unfold prA; omega)
    have hst1 : ∃ x, st = [x] := by
      match ids, st, hw, hr with
      | [a], [b], _, _ => exact ⟨b, rfl⟩
    obtain ⟨x, rfl⟩ := hst1
    have hx : x = v := by
      rcases hvv with z | ⟨t, z⟩
      · rw [z] at hw; cases hw
      · cases z; rfl
    subst hx
    refine w_X10_valueOf_11 (zin_of (by omega) (by omega) (zif (fun h => absurd h (by omega)) fun _ => zif (fun _ => K) fun h => absurd h57 h))
  | succ n ih =>
    intro i v ids st m hp h57 hi0 hi1 hm hw hr hid hst hvv K
    have e117 := hp 117 e (by unfold prA; omega)
    have e116 := hp 116 e (by unfold prA; omega)
    obtain ⟨w0, w1, w2, w3⟩ := hw
    have e115 := hp 115 (F + i) (by unfold prA; omega)
    have e111 := hp 111 (g 115 (F + i)) (by unfold prA; omega)
    have e112 := hp 112 (g 115 (F + i)) (by unfold prA; omega)
    have e113 := hp 113 (g 115 (F + i)) (by unfold prA; omega)
    have e114 := hp 114 (g 115 (F + i)) (by unfold prA; omega)
    have wq : zw (F + i) = F + i := zw_i (by omega) (by omega)
    have go : ∀ (m1 : zM) (x : Int) (ids' st' : List Int), FE m m1 → m1 88 57 = 0 → (∀ j, m1 124 j = m 124 j) → wfA g n (F + i + 1) (g 115 (F + i) :: ids') → ¬ g 115 (F + i) ∈ ids' → rstk m ids' st' → (∀ x ∈ ids', 0 ≤ x ∧ x < 96) → (∀ x ∈ st', bdA x) → bdA x → evA (sgM g) (nmM g) (fA g l lt) (n + 1) (F + i) st = evA (sgM g) (nmM g) (fA g l lt) n (F + i + 1) (x :: st') → zG Ω 168 11 [zR 10 88, zI e, zI l, zI lt, zL x, zU, zI (i + 1), zU, zU] [] (zup m1 124 (g 115 (F + i)) x) Q := by
      intro m1 x ids' st' f1 h1 h2 hw' hn' hr' hid' hst' hx heq
      refine ih (i + 1) x (g 115 (F + i) :: ids') (x :: st') _ (PG_e hp (FE_u f1 (by omega))) (by rw [zup_c (by decide)]; exact h1) (by omega) (by omega) (by omega) (by rw [← Int.add_assoc]; exact hw') ⟨zup_e rfl rfl, rstk_up ids' st' hn' (rstk_eq h2 ids' st' hr')⟩ (fun y hy => ?_) (fun y hy => ?_) (Or.inr ⟨st', rfl⟩) fun m' f' => ?_
      · rcases List.mem_cons.mp hy with z | z
        · rw [z]; exact w1
        · exact hid' y z
      · rcases List.mem_cons.mp hy with z | z
        · rw [z]; exact hx
        · exact hst' y z
      · rw [← Int.add_assoc, ← heq]
        exact K m' (FE_t (FE_u f1 (by omega)) f')
    have stop : ∀ m1 : zM, FE m m1 → m1 88 57 = 1 → evA (sgM g) (nmM g) (fA g l lt) (n + 1) (F + i) st = 0 → zG Ω 168 11 [zR 10 88, zI e, zI l, zI lt, zL 0, zU, zI (i + 1), zU, zU] [] (zup m1 124 (g 115 (F + i)) 0) Q := by
      intro m1 f1 h1 heq
      have K := K (zup m1 124 (g 115 (F + i)) 0) (FE_u f1 (by omega))
      rw [heq] at K
      have q : ¬ zup m1 124 (g 115 (F + i)) 0 88 57 = 0 := by rw [zup_c (by decide), h1]; decide
      refine w_X10_valueOf_11 (zin_of (by omega) (by omega) (zif (fun _ => zif (fun h => absurd h q) fun _ => zif (fun h => absurd h q) fun _ => K) fun _ => zif (fun h => absurd h q) fun _ => K))
    refine w_X10_valueOf_11 (zin_of (by omega) (by omega) (zif (fun _ => zif (fun _ => zin_of (by omega) (by omega) ?_) fun h => absurd h57 h) fun h => absurd (show i < m 117 e by omega) h))
    rw [e116, hF.1, wq, e115, zw_i (x := i + 1) (by omega) (by omega)]
    refine zin_of (by omega) (by omega) (zin_of (by omega) (by omega) ?_)
    rw [e111, e112, e113, e114]
    have sgq : sgM g (F + i) = sgK (g 111 (g 115 (F + i))) (g 114 (g 115 (F + i))) := rfl
    rcases w3 with ⟨k0, kb, kw⟩ | ⟨k0, kb, kw⟩ | ⟨k0, a, t, rfl, ka, kw⟩ | ⟨k0, b, a, t, rfl, kb, ka, kw⟩
    · have sg : sgM g (F + i) = 2 := by rw [sgq, k0]; rfl
      refine zif (fun _ => zin_of (by omega) (by omega) (zin_of (by omega) (by omega) ?_)) fun h => absurd k0 h
      refine go m _ ids st FE_r h57 (fun _ => rfl) kw w2 hr hid hst kb ?_
      rw [evA_s (Or.inl sg), if_pos sg]
    · have sg : sgM g (F + i) = 12 + g 114 (g 115 (F + i)) := by rw [sgq, k0]; rfl
      refine zif (fun h => absurd h (by omega)) fun _ => zif (fun _ => zin_of (by omega) (by omega) (s_name (lt := lt) hv hS hp hl hh kb (zk1_i (zin_of (by omega) (by omega) ?_)))) fun h => absurd k0 h
      refine go m _ ids st FE_r h57 (fun _ => rfl) kw w2 hr hid hst (hfb _ (by omega) (by omega)) ?_
      rw [evA_s (Or.inr (by rw [sg]; omega)), if_neg (by rw [sg]; omega), sg]
    · have ha := hid a List.mem_cons_self
      have hn' : ¬ g 115 (F + i) ∈ t := fun z => w2 (List.mem_cons_of_mem _ z)
      have hid' : ∀ x ∈ t, 0 ≤ x ∧ x < 96 := fun x hx => hid x (List.mem_cons_of_mem _ hx)
      cases st with
      | nil => exact absurd hr id
      | cons y st' =>
        have hy : m 124 a = y := hr.1
        have by' : bdA y := hst y List.mem_cons_self
        have hst' : ∀ x ∈ st', bdA x := fun x hx => hst x (List.mem_cons_of_mem _ hx)
        have by2 := by'
        unfold bdA at by2
        rw [ka, hy]
        simp only [zcmp_e]
        rw [zwl_i (x := -y) (by omega) (by omega)]
        refine zif (fun h => absurd h (by omega)) fun _ => zif (fun h => absurd h (by omega)) fun _ => zif (fun h => zin_of (by omega) (by omega) (zin_of (by omega) (by omega) (zin_of (by omega) (by omega) ?_))) fun h12 => zif (fun h => zin_of (by omega) (by omega) (zin_of (by omega) (by omega) (zif (fun z => s_trT (zk2_i (zin_of (by omega) (by omega) ?_))) fun z => s_trF (zk2_i (zin_of (by omega) (by omega) ?_))))) fun h13 => absurd k0 (by omega)
        · have sg : sgM g (F + i) = 35 := by rw [sgq, h]; rfl
          refine go m _ t st' FE_r h57 (fun _ => rfl) kw hn' hr.2 hid' hst' (by unfold bdA; omega) ?_
          rw [evA_u (Or.inr sg), if_pos sg]
        · have sg : sgM g (F + i) = 23 := by rw [sgq, h]; rfl
          refine go m _ t st' FE_r h57 (fun _ => rfl) kw hn' hr.2 hid' hst' (by unfold bdA; omega) ?_
          rw [evA_u (Or.inl sg), if_neg (by rw [sg]; decide), if_pos z]
        · have sg : sgM g (F + i) = 23 := by rw [sgq, h]; rfl
          refine go m _ t st' FE_r h57 (fun _ => rfl) kw hn' hr.2 hid' hst' (by unfold bdA; omega) ?_
          rw [evA_u (Or.inl sg), if_neg (by rw [sg]; decide), if_neg z]
    · have hb := hid b List.mem_cons_self
      have ha := hid a (List.mem_cons_of_mem _ List.mem_cons_self)
      have hn' : ¬ g 115 (F + i) ∈ t := fun z => w2 (List.mem_cons_of_mem _ (List.mem_cons_of_mem _ z))
      have hid' : ∀ x ∈ t, 0 ≤ x ∧ x < 96 := fun x hx => hid x (List.mem_cons_of_mem _ (List.mem_cons_of_mem _ hx))
      cases st with
      | nil => exact absurd hr id
      | cons z st' =>
        cases st' with
        | nil => exact absurd hr.2 id
        | cons y st' =>
          have hz : m 124 b = z := hr.1
          have hy : m 124 a = y := hr.2.1
          have bz : bdA z := hst z List.mem_cons_self
          have by' : bdA y := hst y (List.mem_cons_of_mem _ List.mem_cons_self)
          have hst' : ∀ x ∈ st', bdA x := fun x hx => hst x (List.mem_cons_of_mem _ (List.mem_cons_of_mem _ hx))
          obtain ⟨s1, s2, s3, s4⟩ := sgK_s (a := g 114 (g 115 (F + i))) k0
          rw [ka, kb, hy, hz]
          refine zif (fun h => absurd h (by omega)) fun _ => zif (fun h => absurd h (by omega)) fun _ => zif (fun h => absurd h (by omega)) fun _ => zif (fun h => absurd h (by omega)) fun _ => zin_of (by omega) (by omega) (zin_of (by omega) (by omega) (zin_of (by omega) (by omega) (zin_of (by omega) (by omega) (s_made (c := sgM g (F + i)) h57 k0 (sgq.trans s1) by' bz (fun m1 he f1 h2 h1 => zk2_i (zin_of (by omega) (by omega) ?_)) fun m1 he f1 h2 h1 => zk2_i (zin_of (by omega) (by omega) ?_)))))
          · refine stop m1 f1 h1 ?_
            rw [evA_b (by rw [sgq]; unfold sdA; omega) (by rw [sgq]; omega), if_pos he]
          · refine go m1 _ t st' f1 h1 h2 kw hn' hr.2.2 hid' hst' (jn_bd by' bz he) ?_
            rw [evA_b (by rw [sgq]; unfold sdA; omega) (by rw [sgq]; omega), if_neg he]
end L2
