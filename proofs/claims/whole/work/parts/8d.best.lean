theorem m_fw6 {A : Mem} {B b : Nat} {K11 : Int32 → Mem → RT} (hM : InvM A) (hB : B ≤ 24) (eB : A 33 0 0 = nI B) (hb : b < B) :
    ∀ (d t fuel : Nat) (X : Mem), t + d = 6 → d < fuel → sK A X → (∀ b', 1 ≤ b' → b' < B → ∀ s, s < 6 → ∀ t, t < 6 → ctOk X A b' s t) → (∀ b', b < b' → b' < B → ∀ u, u < 6 → wOk X A B b' u) → (∀ u, u < t → wOk X A B b u) →
    ∃ X', f_X8_findWays_p17 K11 fuel (nI b) (nI t) X = K11 (nI b + (-1)) X' ∧ sK A X' ∧ (∀ b', 1 ≤ b' → b' < B → ∀ s, s < 6 → ∀ t, t < 6 → ctOk X' A b' s t) ∧ ∀ b', b ≤ b' → b' < B → ∀ u, u < 6 → wOk X' A B b' u := by
  intro d
  induction d with
  | zero =>
    intro t fuel X hd hf hk hct ho hd2
    obtain ⟨fu, rfl⟩ : ∃ fu, fuel = fu + 1 := ⟨fuel - 1, by omega⟩
    have : t = 6 := by omega
    subst this
    refine ⟨X, by rw [f_X8_findWays_p17, if_pos (by decide)], hk, hct, fun b' h1 h2 u hu => ?_⟩
    by_cases z : b' = b
    · rw [z]; exact hd2 u hu
    · exact ho b' (by omega) h2 u hu
  | succ d ih =>
    intro t fuel X hd hf hk hct ho hd2
    obtain ⟨fu, rfl⟩ : ∃ fu, fuel = fu + 1 := ⟨fuel - 1, by omega⟩
    obtain ⟨X1, e1, l1, o1⟩ := m_fw1 (K11 := K11) (fu := fu) hM hB eB hb (show t < 6 by omega) hk (fun hl s hs t ht => hct (b + 1) (by omega) hl s hs t ht) (fun hl u hu => ho (b + 1) (by omega) hl u hu)
    obtain ⟨X2, e2, k2, c2, o2⟩ := ih (t + 1) fu X1 (by omega) (by omega) (fun g hg => by rw [l1.1 g (by omega)]; exact hk g hg) (fun b' h1 h2 s hs t ht => ctOk_fr (hct b' h1 h2 s hs t ht) (by rw [l1.1 57 (by decide)])) (fun b' h1 h2 u hu => wOk_fr (ho b' h1 h2 u hu) l1 (by omega)) (fun u hu => by
      by_cases z : u = t
      · rw [z]; exact o1
      · exact wOk_fr (hd2 u (by omega)) l1 (by omega))
    exact ⟨X2, by rw [e1, e2], k2, c2, o2⟩
theorem m_fwB {A : Mem} {B : Nat} (hM : InvM A) (hB : B ≤ 24) (eB : A 33 0 0 = nI B) :
    ∀ (b fuel : Nat) (X : Mem), b < B → b + 1 < fuel → sK A X → (∀ b', 1 ≤ b' → b' < B → ∀ s, s < 6 → ∀ t, t < 6 → ctOk X A b' s t) → (∀ b', b < b' → b' < B → ∀ u, u < 6 → wOk X A B b' u) →
    ∃ X', f_X8_findWays_p11 fuel (nI b) X = rV X' ∧ sK A X' ∧ ∀ b', b' < B → ∀ u, u < 6 → wOk X' A B b' u := by
  intro b
  induction b with
  | zero =>
    intro fuel X hb hf hk hct ho
    obtain ⟨fu, rfl⟩ : ∃ fu, fuel = fu + 2 := ⟨fuel - 2, by omega⟩
    obtain ⟨X1, e1, k1, c1, o1⟩ := m_fw6 (K11 := fun a1 I => f_X8_findWays_p11 (fu + 1) a1 I) hM hB eB hb 6 0 FU X (by omega) (by rw [FU_v]; omega) hk hct ho (fun u hu => by omega)
    refine ⟨X1, ?_, k1, fun b' hb' u hu => o1 b' (by omega) hb' u hu⟩
    rw [f_X8_findWays_p11, if_neg (nI_nneg (by omega))]
    refine Eq.trans e1 ?_
    show f_X8_findWays_p11 (fu + 1) (nI 0 + (-1)) X1 = _
    rw [f_X8_findWays_p11, if_pos (by decide)]
  | succ b ih =>
    intro fuel X hb hf hk hct ho
    obtain ⟨fu, rfl⟩ : ∃ fu, fuel = fu + 1 := ⟨fuel - 1, by omega⟩
    obtain ⟨X1, e1, k1, c1, o1⟩ := m_fw6 (K11 := fun a1 I => f_X8_findWays_p11 fu a1 I) hM hB eB hb 6 0 FU X (by omega) (by rw [FU_v]; omega) hk hct ho (fun u hu => by omega)
    obtain ⟨X2, e2, k2, o2⟩ := ih fu X1 (by omega) (by omega) k1 c1 (fun b' h1 h2 u hu => o1 b' (by omega) h2 u hu)
    refine ⟨X2, ?_, k2, o2⟩
    rw [f_X8_findWays_p11, if_neg (nI_nneg (by omega))]
    refine Eq.trans e1 ?_
    show f_X8_findWays_p11 fu (nI (b + 1) + (-1)) X1 = _
    rw [show nI (b + 1) + (-1) = nI b from by rw [← nI_1]; grind]
    exact e2
theorem m_ways {A : Mem} {B : Nat} (hM : InvM A) (hB1 : 1 ≤ B) (hB : B ≤ 24) (eB : A 33 0 0 = nI B) : ∃ X, f_X8_findWays A = rV X ∧ sK A X ∧ ∀ b, b < B → ∀ u, u < 6 → wOk X A B b u := by
  obtain ⟨X1, e1, g1, c1⟩ := m_costs hM hB1 hB eB
  obtain ⟨X2, e2, k2, o2⟩ := m_fwB hM hB eB (B - 1) FU X1 (by omega) (by rw [FU_v]; omega) (fun g hg => g1 g (by omega)) c1 (fun b' h1 h2 => by omega)
  refine ⟨X2, ?_, k2, o2⟩
  unfold f_X8_findWays
  rw [e1, cV_r, g1 33 (by decide), eB, mM1 hB1]
  exact e2
/-! the model's pick of a rank -/
theorem m_before {X : Mem} {k l : Nat} {x y : WE} (hk : k < 2880) (hl : l < 2880) (hx : eOk x) (hy : eOk y) (k53 : X 53 0 k = Int32.ofInt x.v) (k54 : X 54 0 k = nI x.jn) (l53 : X 53 0 l = Int32.ofInt y.v) (l54 : X 54 0 l = nI y.jn) : f_X8_isBefore (nI k) (nI l) X = rI (bi (y.key < x.key)) X := by
  obtain ⟨x1, x2, x3, -⟩ := hx
  obtain ⟨y1, y2, y3, -⟩ := hy
  unfold f_X8_isBefore
  rw [ix_nI hk (by decide), ix_nI hl (by decide), ix_nI hk (by decide), ix_nI hl (by decide), ix_nI hk (by decide), ix_nI hl (by decide), k53, k54, l53, l54]
  by_cases h1 : x.v = y.v
  · rw [if_pos (by rw [h1])]
    by_cases h3 : y.jn ≤ x.jn
    · rw [if_pos ((nI_leI (by omega) (by omega)).mpr h3), bi_f (by unfold WE.key; omega)]
    · rw [if_neg (by rw [nI_leI (by omega) (by omega)]; exact h3), bi_t (by unfold WE.key; omega)]
  · rw [if_neg (by rw [oI_inj (by omega) (by omega) (by omega) (by omega)]; exact h1)]
    by_cases h3 : x.v ≤ y.v
    · rw [if_pos (by rw [le_i, oI (by omega) (by omega), oI (by omega) (by omega)]; exact h3), bi_f (by unfold WE.key; omega)]
    · rw [if_neg (by rw [le_i, oI (by omega) (by omega), oI (by omega) (by omega)]; exact h3), bi_t (by unfold WE.key; omega)]
theorem fi_at {X A : Mem} {B u j : Nat} {e : WE} (hM : InvM A) (hB1 : 1 ≤ B) (hB : B ≤ 24) (hu : u < 6) (hj : j < 20) (ho : wOk X A B 0 u) (h : (fiF A B u)[j]? = some e) : eOk e ∧ X 53 0 (20 * u + j) = Int32.ofInt e.v ∧ X 54 0 (20 * u + j) = nI e.jn := by
  obtain ⟨x, hx, rfl⟩ := fiF_get h
  have kx := LL_key hM hB hu (by omega) hx
  obtain ⟨h1, h2, -⟩ := ho.2 j x hj hx
  rw [show 6 * 0 + u = u by omega] at h1 h2
  refine ⟨?_, h1, h2⟩
  unfold eOk mkW4 WE.v WE.jn WE.u at *
  dsimp only
  omega
theorem m_sel {A X : Mem} {B a i : Nat} {h : Nat → Nat} {K46 : Int32 → Int32 → Mem → RT} (hM : InvM A) (hB1 : 1 ≤ B) (hB : B ≤ 24) (ho : ∀ u, u < 6 → wOk X A B 0 u) (h58 : ∀ u, u < 6 → X 58 0 u = nI (h u)) (hh : ∀ u, u < 6 → h u < 20) :
    ∀ (d u fuel : Nat), u + d = 6 → d < fuel → ∃ fu, f_X8_best_p52 K46 fuel (nI a) (nI i) (p3 (pk (dF (fiF A B) h) u)) (nI u) X = f_X8_best_p52 K46 (fu + 1) (nI a) (nI i) (p3 (pk (dF (fiF A B) h) 6)) (nI 6) X := by
  intro d
  induction d with
  | zero =>
    intro u fuel hd hf
    obtain ⟨fu, rfl⟩ : ∃ fu, fuel = fu + 1 := ⟨fuel - 1, by omega⟩
    have : u = 6 := by omega
    subst this
    exact ⟨fu, rfl⟩
  | succ d ih =>
    intro u fuel hd hf
    obtain ⟨fu, rfl⟩ : ∃ fu, fuel = fu + 1 := ⟨fuel - 1, by omega⟩
    have hu : u < 6 := by omega
    have hhu := hh u hu
    obtain ⟨f2, next⟩ := ih (u + 1) fu (by omega) (by omega)
    refine ⟨f2, ?_⟩
    rw [← next, f_X8_best_p52, if_neg (show ¬ (6 : Int32) ≤ nI u from nI_ge hu (by decide)), ix6 hu, ix_nI (by omega) (by decide), h58 u hu]
    have h52 : X 52 0 u = nI (min 20 (LL A B 0 u).length) := by
      have := (ho u hu).1
      rw [show 6 * 0 + u = u by omega] at this
      exact this
    have hlen : (fiF A B u).length = (LL A B 0 u).length := by unfold fiF; rw [List.length_mapIdx]
    rw [h52]
    cases hg : (fiF A B u)[h u]? with
    | none =>
      have hz := List.getElem?_eq_none_iff.mp hg
      rw [if_pos ((nI_leI (by omega) (by omega)).mpr (by omega))]
      unfold f_X8_best_p78
      rw [if_pos rfl, nI_1, pk_nil (dF_none hg)]
    | some e =>
      obtain ⟨hz, -⟩ := List.getElem?_eq_some_iff.mp hg
      obtain ⟨X2, eX⟩ := dF_some hg
      obtain ⟨oe, e53, e54⟩ := fi_at hM hB1 hB hu hhu (ho u hu) hg
      rw [if_neg (by rw [nI_leI (by omega) (by omega)]; omega)]
      unfold f_X8_best_p78 f_X8_best_p117
      rw [if_neg (by decide)]
      cases hp : pk (dF (fiF A B) h) u with
      | none =>
        rw [if_pos (show p3 none < 0 by decide), nI_1, pk_cn eX hp]
        rfl
      | some q =>
        obtain ⟨w, x⟩ := q
        obtain ⟨hw, ⟨X3, hX3⟩, -⟩ := pk_some u hp
        have hhw := hh w (by omega)
        obtain ⟨ox, x53, x54⟩ := fi_at hM hB1 hB (show w < 6 by omega) hhw (ho w (by omega)) (dF_cons hX3)
        rw [if_neg (show ¬ p3 (some (w, x)) < 0 from nI_nneg (by omega)), ix6 hu, show p3 (some (w, x)) = nI w from rfl, ix6 (by omega), h58 u hu, h58 w (by omega), mul20, mul20, nI_add, nI_add, m_before (by omega) (by omega) oe ox e53 e54 x53 x54, cI_r, nI_1, pk_cs eX hp]
        by_cases hk : x.key < e.key
        · rw [bi_t hk, if_neg (by decide), if_pos hk]
          rfl
        · rw [bi_f hk, if_pos rfl, if_neg hk]
          rfl
theorem m_bst {A : Mem} {B a : Nat} (hM : InvM A) (hB1 : 1 ≤ B) (hB : B ≤ 24) (ha : a < 20) :
    ∀ (d i fuel : Nat) (h : Nat → Nat) (X : Mem), i + d = a → d < fuel → (∀ u, u < 6 → wOk X A B 0 u) → (∀ u, u < 6 → X 58 0 u = nI (h u)) → (∀ u, u < 6 → h u ≤ i) →
    ∃ X', (∀ g, g ≠ 58 → X' g = X g) ∧ (((mgl (dF (fiF A B) h) 6)[d]? = none ∧ f_X8_best_p46 fuel (nI a) (nI i) X = cI (f_X8_answer (-1000006) X') fun v11 J10 => rI v11 J10) ∨ ∃ e : WE, (mgl (dF (fiF A B) h) 6)[d]? = some e ∧ X' 58 0 e.u = nI e.j ∧ f_X8_best_p46 fuel (nI a) (nI i) X = (cV (f_X8_follow (nI e.u) (nI e.j) X') fun J7 => ix (nI e.u) 6 fun j8 => ix ((20 * nI e.u) + (J7 58 0 j8)) 2880 fun j9 => rI (J7 53 0 j9) J7)) := by
  intro d
  induction d with
  | zero =>
    intro i fuel h X hd hf ho h58 hh
    obtain ⟨fu, rfl⟩ : ∃ fu, fuel = fu + 1 := ⟨fuel - 1, by omega⟩
    have : i = a := by omega
    subst this
    obtain ⟨f2, e2⟩ := m_sel (a := i) (i := i) (K46 := fun a1 a3 I => f_X8_best_p46 fu a1 a3 I) hM hB1 hB ho h58 (fun u hu => by have := hh u hu; omega) 6 0 FU (by omega) (by rw [FU_v]; omega)
    have e2' : f_X8_best_p46 (fu + 1) (nI i) (nI i) X = _ := e2
    rw [f_X8_best_p52, if_pos (by decide)] at e2'
    refine ⟨X, fun _ _ => rfl, ?_⟩
    cases hp : pk (dF (fiF A B) h) 6 with
    | none =>
      left
      rw [hp, if_neg (show ¬ (0 : Int32) ≤ p3 none by decide)] at e2'
      exact ⟨by rw [pk_none 6 hp]; rfl, e2'⟩
    | some q =>
      obtain ⟨w, x⟩ := q
      obtain ⟨hw, ⟨X3, hX3⟩, hmg⟩ := pk_some 6 hp
      obtain ⟨x1, x2⟩ := fiF_uj w (h w) x (dF_cons hX3)
      right
      rw [hp, if_pos (show (0 : Int32) ≤ p3 (some (w, x)) from (nI_leI (a := 0) (by omega) (by omega)).mpr (Nat.zero_le _)), if_pos rfl, show p3 (some (w, x)) = nI w from rfl, ix6 hw, h58 w hw] at e2'
      refine ⟨x, by rw [hmg]; rfl, by rw [x1, x2]; exact h58 w hw, ?_⟩
      rw [x1, x2]
      exact e2'
  | succ d ih =>
    intro i fuel h X hd hf ho h58 hh
    obtain ⟨fu, rfl⟩ : ∃ fu, fuel = fu + 1 := ⟨fuel - 1, by omega⟩
    obtain ⟨f2, e2⟩ := m_sel (a := a) (i := i) (K46 := fun a1 a3 I => f_X8_best_p46 fu a1 a3 I) hM hB1 hB ho h58 (fun u hu => by have := hh u hu; omega) 6 0 FU (by omega) (by rw [FU_v]; omega)
    have e2' : f_X8_best_p46 (fu + 1) (nI a) (nI i) X = _ := e2
    rw [f_X8_best_p52, if_pos (by decide)] at e2'
    cases hp : pk (dF (fiF A B) h) 6 with
    | none =>
      refine ⟨X, fun _ _ => rfl, Or.inl ?_⟩
      rw [hp, if_neg (show ¬ (0 : Int32) ≤ p3 none by decide)] at e2'
      exact ⟨by rw [pk_none 6 hp]; rfl, e2'⟩
    | some q =>
      obtain ⟨w, x⟩ := q
      obtain ⟨hw, ⟨X3, hX3⟩, hmg⟩ := pk_some 6 hp
      have hhw := hh w hw
      rw [hp, if_pos (show (0 : Int32) ≤ p3 (some (w, x)) from (nI_leI (a := 0) (by omega) (by omega)).mpr (Nat.zero_le _)), if_neg (fun z => by have := (nI_inj (by omega) (by omega)).mp z; omega), show p3 (some (w, x)) = nI w from rfl, ix6 hw, ix6 hw, h58 w hw, nI_1, nI_1] at e2'
      obtain ⟨X', g', c'⟩ := ih (i + 1) fu (hup h w) (mup X 58 0 w (nI (h w + 1))) (by omega) (by omega) (fun u hu => by
        have := ho u hu
        unfold wOk at this ⊢
        simp only [mup_g (show (52 : Nat) ≠ 58 by decide), mup_g (show (53 : Nat) ≠ 58 by decide), mup_g (show (54 : Nat) ≠ 58 by decide), mup_g (show (55 : Nat) ≠ 58 by decide), mup_g (show (56 : Nat) ≠ 58 by decide)]
        exact this) (fun u hu => by
        rw [mup_0]
        unfold hup
        by_cases z : u = w
        · rw [if_pos z, if_pos z, z]
        · rw [if_neg z, if_neg z]; exact h58 u hu) (fun u hu => by
        have := hh u hu
        unfold hup
        split <;> omega)
      refine ⟨X', fun g hg => by rw [g' g hg, mup_g hg], ?_⟩
      rw [hmg, tl_dF, List.getElem?_cons_succ, e2']
      exact c'
