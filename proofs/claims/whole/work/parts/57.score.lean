theorem m_bg67 : ∀ (d k fuel : Nat) (X : Mem), k + d = 576 → d < fuel → f_X8_begin_p67 fuel (nI k) (fil X 44 0 0 k 0) = rV (mup (fil (fil X 44 0 0 576 0) 46 0 0 6 0) 33 0 19 0) := by
  intro d
  induction d with
  | zero =>
    intro k fuel X hk hf
    obtain ⟨fu, rfl⟩ : ∃ fu, fuel = fu + 1 := ⟨fuel - 1, by omega⟩
    have : k = 576 := by omega
    subst this
    rw [f_X8_begin_p67, if_pos (by decide), m_layNone, cV_r]
  | succ d ih =>
    intro k fuel X hk hf
    obtain ⟨fu, rfl⟩ : ∃ fu, fuel = fu + 1 := ⟨fuel - 1, by omega⟩
    rw [f_X8_begin_p67, if_neg (show ¬ (576 : Int32) ≤ nI k from nI_ge (b := 576) (by omega) (by decide)), ix_nI (by omega) (by decide), fil_s (by omega), nI_1]
    exact ih (k + 1) fu X (by omega) (by omega)
theorem m_bg45 : ∀ (d k fuel : Nat) (X : Mem), k + d = 144 → d < fuel → f_X8_begin_p45 fuel (nI k) (fil X 45 0 0 k (-1)) = rV (mup (fil (fil (fil X 45 0 0 144 (-1)) 44 0 0 576 0) 46 0 0 6 0) 33 0 19 0) := by
  intro d
  induction d with
  | zero =>
    intro k fuel X hk hf
    obtain ⟨fu, rfl⟩ : ∃ fu, fuel = fu + 1 := ⟨fuel - 1, by omega⟩
    have : k = 144 := by omega
    subst this
    rw [f_X8_begin_p45, if_pos (by decide)]
    have := m_bg67 576 0 FU (fil X 45 0 0 144 (-1)) (by omega) (by decide)
    rw [fil_0] at this
    exact this
  | succ d ih =>
    intro k fuel X hk hf
    obtain ⟨fu, rfl⟩ : ∃ fu, fuel = fu + 1 := ⟨fuel - 1, by omega⟩
    rw [f_X8_begin_p45, if_neg (show ¬ (144 : Int32) ≤ nI k from nI_ge (b := 144) (by omega) (by decide)), ix_nI (by omega) (by decide), fil_s (by omega), nI_1]
    exact ih (k + 1) fu X (by omega) (by omega)
def bgP (J X : Mem) (k : Nat) : Prop := (∀ b, k ≤ b → b < 24 → J 34 0 b = 100 ∧ J 35 0 b = 3 ∧ J 36 0 b = 0 ∧ J 37 0 b = -1) ∧ (∀ b, b < k → J 34 0 b = X 34 0 b ∧ J 35 0 b = X 35 0 b ∧ J 36 0 b = X 36 0 b ∧ J 37 0 b = X 37 0 b) ∧ (∀ i, i < 144 → J 45 0 i = -1) ∧ (∀ i, i < 576 → J 44 0 i = 0) ∧ (∀ u, u < 6 → J 46 0 u = 0) ∧ J 33 0 19 = 0 ∧ (∀ c, c ≠ 19 → J 33 0 c = X 33 0 c) ∧ ∀ g, ¬ (33 ≤ g ∧ g ≤ 37) → ¬ (44 ≤ g ∧ g ≤ 46) → J g = X g
theorem m_bg : ∀ (d k fuel : Nat) (X : Mem), k + d = 24 → d < fuel → ∃ J, f_X8_begin_p2 fuel (nI k) X = rV J ∧ bgP J X k := by
  intro d
  induction d with
  | zero =>
    intro k fuel X hk hf
    obtain ⟨fu, rfl⟩ : ∃ fu, fuel = fu + 1 := ⟨fuel - 1, by omega⟩
    have : k = 24 := by omega
    subst this
    have := m_bg45 144 0 FU X (by omega) (by decide)
    rw [fil_0] at this
    have e : f_X8_begin_p2 (fu + 1) (nI 24) X = rV (mup (fil (fil (fil X 45 0 0 144 (-1)) 44 0 0 576 0) 46 0 0 6 0) 33 0 19 0) := by
      rw [f_X8_begin_p2, if_pos (by decide)]
      exact this
    refine ⟨_, e, fun b h1 h2 => by omega, fun b hb => ⟨rfl, rfl, rfl, rfl⟩, fun i hi => ?_, fun i hi => ?_, fun u hu => ?_, ?_, fun c hc => ?_, fun g h1 h2 => ?_⟩
    · rw [mup_g (by decide), fil_g (by decide), fil_g (by decide), fil_at, if_pos ⟨by omega, hi⟩]
    · rw [mup_g (by decide), fil_g (by decide), fil_at, if_pos ⟨by omega, hi⟩]
    · rw [mup_g (by decide), fil_at, if_pos ⟨by omega, hu⟩]
    · rw [mup_at]
    · rw [mup_0, if_neg hc, fil_g (by decide), fil_g (by decide), fil_g (by decide)]
    · rw [mup_g (by omega), fil_g (by omega), fil_g (by omega), fil_g (by omega)]
  | succ d ih =>
    intro k fuel X hk hf
    obtain ⟨fu, rfl⟩ : ∃ fu, fuel = fu + 1 := ⟨fuel - 1, by omega⟩
    rw [f_X8_begin_p2, if_neg (show ¬ (24 : Int32) ≤ nI k from nI_ge (b := 24) (by omega) (by decide)), ix_nI (by omega) (by decide), ix_nI (by omega) (by decide), ix_nI (by omega) (by decide), ix_nI (by omega) (by decide), znar_b (Or.inl rfl), nI_1]
    obtain ⟨J, e, p1, p2, p3, p4, p5, p6, p7, p8⟩ := ih (k + 1) fu (mup (mup (mup (mup X 34 0 k 100) 35 0 k 3) 36 0 k 0) 37 0 k (-1)) (by omega) (by omega)
    have x34 : ∀ b, (mup (mup (mup (mup X 34 0 k 100) 35 0 k 3) 36 0 k 0) 37 0 k (-1)) 34 0 b = if b = k then 100 else X 34 0 b := fun b => by
      rw [mup_g (by decide), mup_g (by decide), mup_g (by decide), mup_0]
    have x35 : ∀ b, (mup (mup (mup (mup X 34 0 k 100) 35 0 k 3) 36 0 k 0) 37 0 k (-1)) 35 0 b = if b = k then 3 else X 35 0 b := fun b => by
      rw [mup_g (by decide), mup_g (by decide), mup_0, mup_g (by decide)]
    have x36 : ∀ b, (mup (mup (mup (mup X 34 0 k 100) 35 0 k 3) 36 0 k 0) 37 0 k (-1)) 36 0 b = if b = k then 0 else X 36 0 b := fun b => by
      rw [mup_g (by decide), mup_0, mup_g (by decide), mup_g (by decide)]
    have x37 : ∀ b, (mup (mup (mup (mup X 34 0 k 100) 35 0 k 3) 36 0 k 0) 37 0 k (-1)) 37 0 b = if b = k then -1 else X 37 0 b := fun b => by
      rw [mup_0, mup_g (by decide), mup_g (by decide), mup_g (by decide)]
    refine ⟨J, e, fun b h1 h2 => ?_, fun b hb => ?_, p3, p4, p5, p6, fun c hc => ?_, fun g h1 h2 => ?_⟩
    · by_cases hb : b = k
      · obtain ⟨q1, q2, q3, q4⟩ := p2 b (by omega)
        rw [q1, q2, q3, q4, x34, x35, x36, x37, if_pos hb, if_pos hb, if_pos hb, if_pos hb]
        exact ⟨rfl, rfl, rfl, rfl⟩
      · exact p1 b (by omega) h2
    · obtain ⟨q1, q2, q3, q4⟩ := p2 b (by omega)
      have hb : ¬ b = k := by omega
      rw [q1, q2, q3, q4, x34, x35, x36, x37, if_neg hb, if_neg hb, if_neg hb, if_neg hb]
      exact ⟨rfl, rfl, rfl, rfl⟩
    · rw [p7 c hc, mup_g (by decide), mup_g (by decide), mup_g (by decide), mup_g (by decide)]
    · rw [p8 g h1 h2, mup_g (by omega), mup_g (by omega), mup_g (by omega), mup_g (by omega)]
theorem m_sc : ∀ (d k fuel : Nat) (X : Mem), k + d = 6 → d < fuel → ∃ J, f_X8_score_p28 fuel (nI k) X = rI (X 33 0 0) J ∧ (∀ g, g ≠ 38 → J g = X g) ∧ (∀ u, u < k → J 38 0 u = X 38 0 u) ∧ (∀ u, k ≤ u → u < 6 → J 38 0 u = if isP X u ∧ ¬ X 40 0 u < X 33 0 0 then -1 else X 38 0 u) := by
  intro d
  induction d with
  | zero =>
    intro k fuel X hk hf
    obtain ⟨fu, rfl⟩ : ∃ fu, fuel = fu + 1 := ⟨fuel - 1, by omega⟩
    have : k = 6 := by omega
    subst this
    exact ⟨X, by rw [f_X8_score_p28, if_pos (by decide)], fun _ _ => rfl, fun _ _ => rfl, fun u h1 h2 => by omega⟩
  | succ d ih =>
    intro k fuel X hk hf
    obtain ⟨fu, rfl⟩ : ∃ fu, fuel = fu + 1 := ⟨fuel - 1, by omega⟩
    have hk6 : k < 6 := by omega
    have e0 : ∃ v, f_X8_score_p28 (fu + 1) (nI k) X = f_X8_score_p28 fu (nI (k + 1)) (mup X 38 0 k v) ∧ v = if isP X k ∧ ¬ X 40 0 k < X 33 0 0 then -1 else X 38 0 k := by
      have same : mup X 38 0 k (X 38 0 k) = X := by
        funext g i c
        unfold mup
        split
        · rename_i h; obtain ⟨rfl, rfl, rfl⟩ := h; rfl
        · rfl
      rw [f_X8_score_p28, if_neg (show ¬ (6 : Int32) ≤ nI k from nI_ge (b := 6) (by omega) (by decide)), m_isPart hk6, cI_r, bi_ite, nI_1]
      by_cases hp : isP X k
      · rw [if_pos hp, ix6 hk6]
        by_cases hl : X 40 0 k < X 33 0 0
        · rw [if_pos hl, ix6 hk6, ix6 hk6]
          exact ⟨_, rfl, by rw [if_neg (fun z => z.2 hl)]⟩
        · rw [if_neg hl, ix6 hk6]
          exact ⟨_, rfl, by rw [if_pos ⟨hp, hl⟩]⟩
      · rw [if_neg hp]
        exact ⟨X 38 0 k, by rw [same], by rw [if_neg (fun z => hp z.1)]⟩
    obtain ⟨v, e1, hv⟩ := e0
    obtain ⟨J, e, p1, p2, p3⟩ := ih (k + 1) fu (mup X 38 0 k v) (by omega) (by omega)
    rw [e1, e, mup_g (by decide)]
    refine ⟨J, rfl, fun g hg => by rw [p1 g hg, mup_g hg], fun u hu => ?_, fun u h1 h2 => ?_⟩
    · rw [p2 u (by omega), mup_0, if_neg (by omega)]
    · by_cases hu : u = k
      · rw [p2 u (by omega), mup_0, if_pos hu, hv, hu]
      · rw [p3 u (by omega) h2]
        have : isP (mup X 38 0 k v) u ↔ isP X u := by
          unfold isP
          rw [mup_0, if_neg hu]
        rw [mup_g (by decide), mup_g (by decide)]
        by_cases hc : isP X u ∧ ¬ X 40 0 u < X 33 0 0
        · rw [if_pos hc, if_pos ⟨this.mpr hc.1, hc.2⟩]
        · rw [if_neg hc, if_neg (fun z => hc ⟨this.mp z.1, z.2⟩), mup_0, if_neg hu]
def rnP (J X : Mem) (k : Nat) : Prop := (∀ b, k ≤ b → b < 24 → J 2 0 b = 100 ∧ J 3 0 b = 3 ∧ J 4 0 b = 0 ∧ J 5 0 b = -1) ∧ (∀ b, b < k → J 2 0 b = X 2 0 b ∧ J 3 0 b = X 3 0 b ∧ J 4 0 b = X 4 0 b ∧ J 5 0 b = X 5 0 b) ∧ ∀ g, ¬ (2 ≤ g ∧ g ≤ 5) → J g = X g
theorem c_rn : ∀ (d k fuel : Nat) (X : Mem), k + d = 24 → d < fuel → ∃ J, f_X4_renew_p7 fuel (nI k) X = rV J ∧ rnP J X k := by
  intro d
  induction d with
  | zero =>
    intro k fuel X hk hf
    obtain ⟨fu, rfl⟩ : ∃ fu, fuel = fu + 1 := ⟨fuel - 1, by omega⟩
    have : k = 24 := by omega
    subst this
    exact ⟨X, by rw [f_X4_renew_p7, if_pos (by decide)], fun b h1 h2 => by omega, fun b hb => ⟨rfl, rfl, rfl, rfl⟩, fun g h => rfl⟩
  | succ d ih =>
    intro k fuel X hk hf
    obtain ⟨fu, rfl⟩ : ∃ fu, fuel = fu + 1 := ⟨fuel - 1, by omega⟩
    rw [f_X4_renew_p7, if_neg (show ¬ (24 : Int32) ≤ nI k from nI_ge (b := 24) (by omega) (by decide)), ix_nI (by omega) (by decide), ix_nI (by omega) (by decide), ix_nI (by omega) (by decide), ix_nI (by omega) (by decide), znar_b (Or.inl rfl), nI_1]
    obtain ⟨J, e, p1, p2, p8⟩ := ih (k + 1) fu (mup (mup (mup (mup X 2 0 k 100) 3 0 k 3) 4 0 k 0) 5 0 k (-1)) (by omega) (by omega)
    have x2 : ∀ b, (mup (mup (mup (mup X 2 0 k 100) 3 0 k 3) 4 0 k 0) 5 0 k (-1)) 2 0 b = if b = k then 100 else X 2 0 b := fun b => by
      rw [mup_g (by decide), mup_g (by decide), mup_g (by decide), mup_0]
    have x3 : ∀ b, (mup (mup (mup (mup X 2 0 k 100) 3 0 k 3) 4 0 k 0) 5 0 k (-1)) 3 0 b = if b = k then 3 else X 3 0 b := fun b => by
      rw [mup_g (by decide), mup_g (by decide), mup_0, mup_g (by decide)]
    have x4 : ∀ b, (mup (mup (mup (mup X 2 0 k 100) 3 0 k 3) 4 0 k 0) 5 0 k (-1)) 4 0 b = if b = k then 0 else X 4 0 b := fun b => by
      rw [mup_g (by decide), mup_0, mup_g (by decide), mup_g (by decide)]
    have x5 : ∀ b, (mup (mup (mup (mup X 2 0 k 100) 3 0 k 3) 4 0 k 0) 5 0 k (-1)) 5 0 b = if b = k then -1 else X 5 0 b := fun b => by
      rw [mup_0, mup_g (by decide), mup_g (by decide), mup_g (by decide)]
    refine ⟨J, e, fun b h1 h2 => ?_, fun b hb => ?_, fun g h1 => ?_⟩
    · by_cases hb : b = k
      · obtain ⟨q1, q2, q3, q4⟩ := p2 b (by omega)
        rw [q1, q2, q3, q4, x2, x3, x4, x5, if_pos hb, if_pos hb, if_pos hb, if_pos hb]
        exact ⟨rfl, rfl, rfl, rfl⟩
      · exact p1 b (by omega) h2
    · obtain ⟨q1, q2, q3, q4⟩ := p2 b (by omega)
      have hb : ¬ b = k := by omega
      rw [q1, q2, q3, q4, x2, x3, x4, x5, if_neg hb, if_neg hb, if_neg hb, if_neg hb]
      exact ⟨rfl, rfl, rfl, rfl⟩
    · rw [p8 g h1, mup_g (by omega), mup_g (by omega), mup_g (by omega), mup_g (by omega)]
/-- a take meets the new score -/
def msP (J X : Mem) (u : Nat) (a : Int32) : Prop := (∀ c, c ≠ 0 → c ≠ 1 → c ≠ 4 → J 7 u c = X 7 u c) ∧ J 7 u 1 = 0 ∧ J 8 u = X 8 u ∧ (∀ b, b < 24 → J 9 u b = -1) ∧ (∀ b, b < 96 → J 11 u b = 0) ∧ ((X 7 u 2 = 1 ∨ X 7 u 2 = 2) → J 7 u 4 = X 7 u 4 ∧ J 7 u 0 = if X 7 u 4 < a then X 7 u 0 else 0) ∧ (¬ (X 7 u 2 = 1 ∨ X 7 u 2 = 2) → J 7 u 4 = a - 1 ∧ J 7 u 0 = X 7 u 0)
theorem c_meet {X : Mem} {u : Nat} {a : Int32} (hX : rcX X) (hk : rg 0 4 (X 7 u 2)) : ∃ J, f_X6_meetScore u a X = rV J ∧ msP J X u a ∧ (∀ g, g ≠ 7 → g ≠ 9 → g ≠ 11 → J g = X g) ∧ ∀ v, v ≠ u → J 7 v = X 7 v ∧ J 9 v = X 9 v ∧ J 11 v = X 11 v := by
  obtain ⟨k, hk5, ek⟩ := rg_nI (n := 4) hk.1 hk.2 (by decide)
  have y7 : ∀ c, clrC X u 7 u c = if c = 1 then 0 else X 7 u c := fun c => by
    unfold clrC
    rw [fil_g (by decide), fil_g (by decide), mup_t]
    simp only [true_and]
  have y7v : ∀ v, v ≠ u → clrC X u 7 v = X 7 v := fun v hv => by
    unfold clrC
    rw [fil_g (by decide), fil_g (by decide), mup_i hv]
  have y9 : ∀ v, v ≠ u → clrC X u 9 v = X 9 v := fun v hv => by
    unfold clrC
    rw [fil_g (by decide), fil_i hv]; rfl
  have y11 : ∀ v, v ≠ u → clrC X u 11 v = X 11 v := fun v hv => by
    unfold clrC
    rw [fil_i hv]; rfl
  have y9t : ∀ c, c < 24 → clrC X u 9 u c = -1 := fun c hc => by
    unfold clrC
    rw [fil_g (by decide), fil_at, if_pos ⟨Nat.zero_le _, hc⟩]
  have y11t : ∀ c, c < 96 → clrC X u 11 u c = 0 := fun c hc => by
    unfold clrC
    rw [fil_at, if_pos ⟨Nat.zero_le _, hc⟩]
  have yg : ∀ g, g ≠ 7 → g ≠ 9 → g ≠ 11 → clrC X u g = X g := fun g h1 h2 h3 => by
    unfold clrC
    rw [fil_g h3, fil_g h2, mup_g h1]
  have hX' : rcX (clrC X u) := by
    unfold rcX
    rw [yg 101 (by decide) (by decide) (by decide), yg 102 (by decide) (by decide) (by decide)]
    exact hX
  have hu : und k 1 ↔ (X 7 u 2 = 1 ∨ X 7 u 2 = 2) := by
    have a1 : nI k = 1 ↔ k = 1 := nI_eq (by omega) (by decide)
    have a2 : nI k = 2 ↔ k = 2 := nI_eq (by omega) (by decide)
    rw [ek, a1, a2]
    unfold und
    omega
  have e1 : f_X6_meetScore u a X = if und k 1 then (if X 7 u 4 < a then rV (clrC X u) else rV (mup (clrC X u) 7 u 0 0)) else rV (mup (clrC X u) 7 u 4 (a - 1)) := by
    unfold f_X6_meetScore
    rw [c_clear, cV_r, y7, if_neg (by decide), ek, show (1 : Int32) = nI 1 from rfl, c_under hX' (by omega) (by decide), cI_r, bi_ite, y7, if_neg (show ¬ (4 : Nat) = 1 by decide)]
  rw [e1]
  by_cases hp : und k 1
  · rw [if_pos hp]
    by_cases hl : X 7 u 4 < a
    · rw [if_pos hl]
      refine ⟨_, rfl, ⟨fun c h0 h1 h4 => ?_, ?_, ?_, y9t, y11t, fun _ => ⟨?_, ?_⟩, fun z => absurd (hu.mp hp) z⟩, yg, fun v hv => ⟨y7v v hv, y9 v hv, y11 v hv⟩⟩
      · rw [y7, if_neg h1]
      · rw [y7, if_pos rfl]
      · rw [yg 8 (by decide) (by decide) (by decide)]
      · rw [y7, if_neg (by decide)]
      · rw [y7, if_neg (show ¬ (0 : Nat) = 1 by decide), if_pos hl]
    · rw [if_neg hl]
      refine ⟨_, rfl, ⟨fun c h0 h1 h4 => ?_, ?_, ?_, fun b hb => ?_, fun b hb => ?_, fun _ => ⟨?_, ?_⟩, fun z => absurd (hu.mp hp) z⟩, fun g h1 h2 h3 => ?_, fun v hv => ⟨?_, ?_, ?_⟩⟩
      · rw [mup_t, if_neg (by omega), y7, if_neg h1]
      · rw [mup_t, if_neg (by omega), y7, if_pos rfl]
      · rw [mup_g (by decide), yg 8 (by decide) (by decide) (by decide)]
      · rw [mup_g (by decide)]; exact y9t b hb
      · rw [mup_g (by decide)]; exact y11t b hb
      · rw [mup_t, if_neg (by omega), y7, if_neg (by decide)]
      · rw [mup_at, if_neg hl]
      · rw [mup_g h1]; exact yg g h1 h2 h3
      · rw [mup_i hv]; exact y7v v hv
      · rw [mup_g (by decide)]; exact y9 v hv
      · rw [mup_g (by decide)]; exact y11 v hv
  · rw [if_neg hp]
    refine ⟨_, rfl, ⟨fun c h0 h1 h4 => ?_, ?_, ?_, fun b hb => ?_, fun b hb => ?_, fun z => absurd (hu.mpr z) hp, fun _ => ⟨?_, ?_⟩⟩, fun g h1 h2 h3 => ?_, fun v hv => ⟨?_, ?_, ?_⟩⟩
    · rw [mup_t, if_neg (by omega), y7, if_neg h1]
    · rw [mup_t, if_neg (by omega), y7, if_pos rfl]
    · rw [mup_g (by decide), yg 8 (by decide) (by decide) (by decide)]
    · rw [mup_g (by decide)]; exact y9t b hb
    · rw [mup_g (by decide)]; exact y11t b hb
    · rw [mup_at]
    · rw [mup_t, if_neg (by omega), y7, if_neg (by decide)]
    · rw [mup_g h1]; exact yg g h1 h2 h3
    · rw [mup_i hv]; exact y7v v hv
    · rw [mup_g (by decide)]; exact y9 v hv
    · rw [mup_g (by decide)]; exact y11 v hv
theorem c_sc (a : Int32) : ∀ (d k fuel : Nat) (X : Mem), k + d = 6 → d < fuel → rcX X → (∀ u, u < 6 → rg 0 4 (X 7 u 2)) → ∃ J, f_X7_score_p27 fuel a (nI k) X = rI a J ∧ (∀ g, g ≠ 7 → g ≠ 9 → g ≠ 11 → g ≠ 27 → J g = X g) ∧ J 27 0 2 = 0 ∧ (∀ c, c ≠ 2 → J 27 0 c = X 27 0 c) ∧ (∀ u, u < k → J 7 u = X 7 u ∧ J 9 u = X 9 u ∧ J 11 u = X 11 u) ∧ (∀ u, k ≤ u → u < 6 → msP J X u a) := by
  intro d
  induction d with
  | zero =>
    intro k fuel X hk hf hX hr
    obtain ⟨fu, rfl⟩ : ∃ fu, fuel = fu + 1 := ⟨fuel - 1, by omega⟩
    have : k = 6 := by omega
    subst this
    exact ⟨_, by rw [f_X7_score_p27, if_pos (by decide)], fun g _ _ _ h => mup_g h, mup_at, fun c hc => by rw [mup_0, if_neg hc], fun u _ => ⟨by rw [mup_g (by decide)], by rw [mup_g (by decide)], by rw [mup_g (by decide)]⟩, fun u h1 h2 => by omega⟩
  | succ d ih =>
    intro k fuel X hk hf hX hr
    obtain ⟨fu, rfl⟩ : ∃ fu, fuel = fu + 1 := ⟨fuel - 1, by omega⟩
    obtain ⟨Y, e1, q1, q2, q3⟩ := c_meet (a := a) hX (hr k (by omega))
    have hXY : rcX Y := by
      unfold rcX
      rw [q2 101 (by decide) (by decide) (by decide), q2 102 (by decide) (by decide) (by decide)]
      exact hX
    have hrY : ∀ u, u < 6 → rg 0 4 (Y 7 u 2) := fun u hu => by
      by_cases h : u = k
      · subst h; rw [q1.1 2 (by decide) (by decide) (by decide)]; exact hr u hu
      · rw [(q3 u h).1]; exact hr u hu
    obtain ⟨J, e, p1, p2, p3, p4, p5⟩ := ih (k + 1) fu Y (by omega) (by omega) hXY hrY
    refine ⟨J, ?_, fun g h1 h2 h3 h4 => (p1 g h1 h2 h3 h4).trans (q2 g h1 h2 h3), p2, fun c hc => ?_, fun u hu => ?_, fun u h1 h2 => ?_⟩
    · rw [f_X7_score_p27, if_neg (show ¬ (6 : Int32) ≤ nI k from nI_ge (b := 6) (by omega) (by decide)), ix6 (by omega), e1, cV_r, nI_1]
      exact e
    · rw [p3 c hc, q2 27 (by decide) (by decide) (by decide)]
    · obtain ⟨r1, r2, r3⟩ := p4 u (by omega)
      rw [r1, r2, r3]
      exact q3 u (by omega)
    · by_cases h : u = k
      · subst h
        obtain ⟨r1, r2, r3⟩ := p4 u (by omega)
        unfold msP
        rw [r1, r2, r3, p1 8 (by decide) (by decide) (by decide) (by decide)]
        exact q1
      · have := p5 u (by omega) h2
        unfold msP at this
        rw [(q3 u h).1, q2 8 (by decide) (by decide) (by decide)] at this
        exact this
theorem op_score (a : Int32) : opA (f_X7_score a) (f_X8_score a) := by
  intro I A hR hM
  by_cases h : 1 ≤ a ∧ a ≤ 24
  · obtain ⟨rS, rT, rJ, -, -, rF, rN, rX⟩ := hR
    obtain ⟨⟨B0, ⟨b1, b2, eB⟩, hb, htk, hs, -⟩, hn⟩ := hM
    obtain ⟨B, hB, rfl⟩ := rg_nI (n := 24) (by have := le_i.mp h.1; have : (1 : Int32).toInt = 1 := by decide
                                               omega) (le_i.mp h.2) (by decide)
    have hB1 : 1 ≤ B := (nI_leI (a := 1) (by decide) (by omega)).mp h.1
    obtain ⟨X, e1, p1, -, p3, p4, p5, p6, p7, p8⟩ := m_bg 24 0 FU (mup A 33 0 0 (nI B)) (by omega) (by decide)
    obtain ⟨A', e2, q1, -, q3⟩ := m_sc 6 0 FU X (by omega) (by decide)
    have x0 : X 33 0 0 = nI B := by rw [p7 0 (by decide), mup_at]
    have m1 : f_X8_score (nI B) A = rI (nI B) A' := by
      unfold f_X8_score f_X8_begin
      rw [m_in, cI_r, bi_ite, if_pos h, show (0 : Int32) = nI 0 from rfl, e1, cV_r, e2, x0]
    obtain ⟨Y, e3, r1, -, r3⟩ := c_rn 24 0 FU (mup I 1 0 0 (nI B)) (by omega) (by decide)
    have y7 : Y 7 = I 7 := by rw [r3 7 (by decide), mup_g (by decide)]
    have yX : rcX Y := by
      unfold rcX
      rw [r3 101 (by decide), r3 102 (by decide), mup_g (by decide), mup_g (by decide)]
      exact rX
    obtain ⟨J, e4, s1, s2, s3, -, s5⟩ := c_sc (nI B) 6 0 FU Y (by omega) (by decide) yX (fun u hu => by rw [y7]; exact (rT u hu).2.1)
    have c1 : f_X7_score (nI B) I = rI (nI B) J := by
      unfold f_X7_score f_X4_renew
      rw [c_within, cI_r, bi_ite, if_pos h, show (0 : Int32) = nI 0 from rfl, e3, cV_r, e4]
    have jg : ∀ g, g ≠ 1 → ¬ (2 ≤ g ∧ g ≤ 5) → g ≠ 7 → g ≠ 9 → g ≠ 11 → g ≠ 27 → J g = I g := fun g h1 h2 h3 h4 h5 h6 => by
      rw [s1 g h3 h4 h5 h6, r3 g h2, mup_g h1]
    have ag : ∀ g, ¬ (33 ≤ g ∧ g ≤ 38) → ¬ (44 ≤ g ∧ g ≤ 46) → A' g = A g := fun g h1 h2 => by
      rw [q1 g (by omega), p8 g (by omega) h2, mup_g (by omega)]
    have a33 : ∀ c, c ≠ 0 → c ≠ 19 → A' 33 0 c = A 33 0 c := fun c h1 h2 => by
      rw [q1 33 (by decide), p7 c h2, mup_0, if_neg h1]
    have a0 : A' 33 0 0 = nI B := by rw [q1 33 (by decide), x0]
    have a19 : A' 33 0 19 = 0 := by rw [q1 33 (by decide), p6]
    have x38 : X 38 = A 38 := by rw [p8 38 (by decide) (by decide), mup_g (by decide)]
    have x40 : X 40 = A 40 := by rw [p8 40 (by decide) (by decide), mup_g (by decide)]
    have a38 : ∀ u, u < 6 → A' 38 0 u = if isP A u ∧ ¬ A 40 0 u < nI B then -1 else A 38 0 u := fun u hu => by
      have := q3 u (by omega) hu
      unfold isP at this
      rw [x38, x40, x0] at this
      exact this
    have ab : ∀ b, b < 24 → A' 34 0 b = 100 ∧ A' 35 0 b = 3 ∧ A' 36 0 b = 0 ∧ A' 37 0 b = -1 := fun b hb => by
      rw [q1 34 (by decide), q1 35 (by decide), q1 36 (by decide), q1 37 (by decide)]
      exact p1 b (by omega) hb
    have a46 : ∀ u, u < 6 → A' 46 0 u = 0 := fun u hu => by rw [q1 46 (by decide)]; exact p5 u hu
    have a45 : ∀ i, i < 144 → A' 45 0 i = -1 := fun u hu => by rw [q1 45 (by decide)]; exact p3 u hu
    have a44 : ∀ i, i < 576 → A' 44 0 i = 0 := fun u hu => by rw [q1 44 (by decide)]; exact p4 u hu
    refine ⟨nI B, J, A', m1, ?_, ?_, c1, ?_, ?_⟩
    · refine InvM_none hB1 hB a0 (fun b hb => ?_) a46 (fun u hu => ?_) a19 ?_ ?_
      · obtain ⟨w1, w2, w3, w4⟩ := ab b hb
        rw [w1, w2, w3, w4]
        exact ⟨⟨by decide, by decide⟩, ⟨by decide, by decide⟩, Or.inl rfl, by decide, by decide⟩
      · obtain ⟨k1, k2, k3, k4, k5, k6, k7⟩ := tkOk_U (htk u hu)
        unfold tkU
        rw [ag 39 (by decide) (by decide), ag 40 (by decide) (by decide), ag 41 (by decide) (by decide), ag 42 (by decide) (by decide), ag 43 (by decide) (by decide)]
        refine ⟨?_, fun q => ?_, k3, k4, k5, fun b hb m hm => ?_, fun b hb => ?_⟩
        · rw [a38 u hu]
          split
          · exact ⟨by decide, by decide⟩
          · exact k1
        · unfold isP at q
          rw [a38 u hu] at q
          by_cases hc : isP A u ∧ ¬ A 40 0 u < nI B
          · rw [if_pos hc] at q
            exact absurd q (by decide)
          · rw [if_neg hc] at q
            have q' : isP A u := q
            obtain ⟨f, l, w1, w2, w3, w4⟩ := k2 q'
            have : A 40 0 u < nI B := Decidable.byContradiction fun z => hc ⟨q', z⟩
            rw [w4] at this
            have := (nI_ltI (by omega) (by omega)).mp this
            exact ⟨f, l, w1, this, w3, w4⟩
        · rw [a44 _ (by omega)]
          exact ⟨⟨by decide, by decide⟩, fun _ => rfl⟩
        · rw [a45 _ (by omega)]
          exact ⟨by decide, by decide⟩
      · rw [a33 15 (by decide) (by decide), a33 16 (by decide) (by decide), a33 17 (by decide) (by decide), a33 18 (by decide) (by decide)]
        exact hs
      · rw [a33 22 (by decide) (by decide)]; exact hn
    · intro g hg
      exact (ag g (by omega) (by omega)).symm
    · refine RC_none a46 (fun u hu => ?_) (fun u hu => (s5 u (by omega) hu).2.1) a19 s2 ?_ ?_ ?_ ?_ ?_
      · obtain ⟨u1, u2, u3, u4, u5, u6, u7, u8⟩ := rcT_U (rT u hu)
        obtain ⟨w1, w2, w3, w4, w5, w6, w7⟩ := s5 u (by omega) hu
        rw [y7] at w1 w6 w7
        have y8 : Y 8 = I 8 := by rw [r3 8 (by decide), mup_g (by decide)]
        rw [y8] at w3
        have hk := htk u hu
        refine ⟨?_, ?_, fun q => ?_, ?_, ?_, fun i hi => ?_, fun _ b hb => ?_, fun b hb m hm => ?_⟩
        · rw [a38 u hu]
          by_cases hh : 0 ≤ A 38 0 u
          · obtain ⟨v1, v2, v3⟩ := u3 hh
            rw [v1] at w6 w7
            by_cases hp : A 38 0 u = 1 ∨ A 38 0 u = 2
            · have hp' : isP A u := hp
              have v3' : I 7 u 4 = A 40 0 u := by rw [v3]; unfold mEnd; rw [if_pos hp']
              rw [(w6 hp).2, v3']
              by_cases hl : A 40 0 u < nI B
              · rw [if_pos hl, if_neg (fun z => z.2 hl), u1]
              · rw [if_neg hl, if_pos ⟨hp', hl⟩]; rfl
            · rw [(w7 hp).2, u1, if_neg (fun z => hp z.1)]
          · have hp : ¬ (isP A u ∧ ¬ A 40 0 u < nI B) := by
              rintro ⟨z | z, -⟩
              · rw [z] at hh; exact hh (by decide)
              · rw [z] at hh; exact hh (by decide)
            rw [if_neg hp, bi_f hh]
            rw [bi_f hh] at u1
            by_cases hq : I 7 u 2 = 1 ∨ I 7 u 2 = 2
            · rw [(w6 hq).2, u1]; split <;> rfl
            · rw [(w7 hq).2, u1]
        · rw [w1 2 (by decide) (by decide) (by decide)]; exact u2
        · have hc : ¬ (isP A u ∧ ¬ A 40 0 u < nI B) := fun z => by
            rw [a38 u hu, if_pos z] at q
            exact absurd q (by decide)
          have e38 : A' 38 0 u = A 38 0 u := by rw [a38 u hu, if_neg hc]
          rw [e38] at q
          obtain ⟨v1, v2, v3⟩ := u3 q
          rw [v1] at w6 w7
          rw [w1 2 (by decide) (by decide) (by decide), w1 3 (by decide) (by decide) (by decide), v1, v2, e38]
          unfold mBeg mEnd isP
          unfold mEnd at v3
          rw [e38, ag 39 (by decide) (by decide), ag 40 (by decide) (by decide), a0]
          refine ⟨rfl, rfl, ?_⟩
          by_cases hp : A 38 0 u = 1 ∨ A 38 0 u = 2
          · have hp' : isP A u := hp
            rw [if_pos hp'] at v3
            rw [(w6 hp).1, v3, if_pos hp]
          · rw [(w7 hp).1, if_neg hp]
        · rw [w1 5 (by decide) (by decide) (by decide), ag 41 (by decide) (by decide)]; exact u4
        · rw [w1 6 (by decide) (by decide) (by decide), ag 42 (by decide) (by decide)]; exact u5
        · rw [w3, ag 43 (by decide) (by decide)]; exact u6 i hi
        · rw [w4 b hb, a45 _ (by omega)]
        · rw [w5 _ (by omega), a44 _ (by omega)]
      · refine ⟨by rw [s1 1 (by decide) (by decide) (by decide) (by decide), r3 1 (by decide), mup_at, a0], fun b hb => ?_⟩
        obtain ⟨w1, w2, w3, w4⟩ := ab b hb
        rw [w1, w2, w3, w4, s1 2 (by decide) (by decide) (by decide) (by decide), s1 3 (by decide) (by decide) (by decide) (by decide), s1 4 (by decide) (by decide) (by decide) (by decide), s1 5 (by decide) (by decide) (by decide) (by decide)]
        exact r1 b (by omega) hb
      · unfold rcJ
        rw [jg 12 (by decide) (by decide) (by decide) (by decide) (by decide) (by decide), s3 3 (by decide), r3 27 (by decide), mup_g (by decide), a33 15 (by decide) (by decide), a33 16 (by decide) (by decide), a33 17 (by decide) (by decide), a33 18 (by decide) (by decide)]
        exact rJ
      · unfold rcF
        rw [jg 31 (by decide) (by decide) (by decide) (by decide) (by decide) (by decide), ag 50 (by decide) (by decide)]
        exact rF
      · unfold rcN
        rw [jg 0 (by decide) (by decide) (by decide) (by decide) (by decide) (by decide), jg 32 (by decide) (by decide) (by decide) (by decide) (by decide) (by decide), ag 49 (by decide) (by decide), a33 22 (by decide) (by decide)]
        exact rN
      · unfold rcX
        rw [jg 101 (by decide) (by decide) (by decide) (by decide) (by decide) (by decide), jg 102 (by decide) (by decide) (by decide) (by decide) (by decide) (by decide)]
        exact rX
    · intro g hg
      exact (jg g (by omega) (by omega) (by omega) (by omega) (by omega) (by omega)).symm
  · refine op_ref (c := -1000001) 0 (by decide) hR hM ?_ ?_
    · unfold f_X8_score
      rw [m_in, cI_r, bi_ite, if_neg h]; rfl
    · unfold f_X7_score
      rw [c_within, cI_r, bi_ite, if_neg h]; rfl
