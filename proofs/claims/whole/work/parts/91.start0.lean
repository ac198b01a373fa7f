/-! ===== the start ===== -/
theorem mz_g {I : Mem} {g i a : Nat} (h : a ≠ g) : mz I g i a = I a := by
  funext b c
  unfold mz
  rw [if_neg (fun z => h z.1)]
theorem mz_at {I : Mem} {g i c : Nat} : mz I g i g i c = 0 := by simp [mz]
theorem mz_i {I : Mem} {g i u : Nat} (h : u ≠ i) : mz I g i g u = I g u := by
  funext c
  unfold mz
  rw [if_neg (fun z => h z.2)]
theorem c_rn0 : ∀ (d k fuel : Nat) (X : Mem), k + d = 24 → d < fuel → ∃ J, f_X4_renew_at10_p7 fuel (nI k) X = rV J ∧ rnP J X k := by
  intro d
  induction d with
  | zero =>
    intro k fuel X hk hf
    obtain ⟨fu, rfl⟩ : ∃ fu, fuel = fu + 1 := ⟨fuel - 1, by omega⟩
    have : k = 24 := by omega
    subst this
    exact ⟨X, by rw [f_X4_renew_at10_p7, if_pos (by decide)], fun b h1 h2 => by omega, fun b hb => ⟨rfl, rfl, rfl, rfl⟩, fun g h => rfl⟩
  | succ d ih =>
    intro k fuel X hk hf
    obtain ⟨fu, rfl⟩ : ∃ fu, fuel = fu + 1 := ⟨fuel - 1, by omega⟩
    rw [f_X4_renew_at10_p7, if_neg (show ¬ (24 : Int32) ≤ nI k from nI_ge (b := 24) (by omega) (by decide)), ix_nI (by omega) (by decide), ix_nI (by omega) (by decide), ix_nI (by omega) (by decide), ix_nI (by omega) (by decide), znar_b (Or.inl rfl), nI_1]
    obtain ⟨J, e, p1, p2, p8⟩ := ih (k + 1) fu (mup (mup (mup (mup X 2 0 k 100) 3 0 k 3) 4 0 k 0) 5 0 k (-1)) (by omega) (by omega)
    have x2 : ∀ b, (mup (mup (mup (mup X 2 0 k 100) 3 0 k 3) 4 0 k 0) 5 0 k (-1)) 2 0 b = if b = k then 100 else X 2 0 b := fun b => by
      rw [mup_g (by decide), mup_g (by decide), mup_g (by decide), mup_0]
    have x3 : ∀ b, (mup (mup (mup (mup X 2 0 k 100) 3 0 k 3) 4 0 k 0) 5 0 k (-1)) 3 0 b = if b = k then 3 else X 3 0 b := fun b => by
      rw [mup_g (by decide), mup_g (by decide), mup_0, mup_g (by decide)]
    have x4 : ∀ b, (mup (mup (mup (mup X 2 0 k 100) 3 0 k 3) 4 0 k 0) 5 0 k (-1)) 4 0 b = if b = k then 0 else X 4 0 b := fun b => by
      rw [mup_g (by decide), mup_0, mup_g (by decide), mup_g (by decide)]
    have x5 : ∀ b, (mup (mup (mup (mup X 2 0 k 100) 3 0 k 3) 4 0 k 0) 5 0 k (-1)) 5 0 b = if b = k then -1 else X 5 0 b := fun b => by
      rw [mup_0, mup_g (by decide), mup_g (by decide), mup_g (by decide)]
    refine ⟨J, e, fun b h1 h2 => ?_, fun b hb => ?_, fun g h1 => ?_⟩
    · by_cases hb : b = k
      · obtain ⟨q1, q2, q3, q4⟩ := p2 b (by omega)
        rw [q1, q2, q3, q4, x2, x3, x4, x5, if_pos hb, if_pos hb, if_pos hb, if_pos hb]
        exact ⟨rfl, rfl, rfl, rfl⟩
      · exact p1 b (by omega) h2
    · obtain ⟨q1, q2, q3, q4⟩ := p2 b (by omega)
      have hb : ¬ b = k := by omega
      rw [q1, q2, q3, q4, x2, x3, x4, x5, if_neg hb, if_neg hb, if_neg hb, if_neg hb]
      exact ⟨rfl, rfl, rfl, rfl⟩
    · rw [p8 g h1, mup_g (by omega), mup_g (by omega), mup_g (by omega), mup_g (by omega)]
theorem fill_81 (I : Mem) (v : Int32) : ∀ (d k fuel : Nat), k + d = 864 → d < fuel → f_J7_fill_53178_at81_p5 fuel v (nI k) (nI 864) (fil I 16 0 0 k v) = rV (fil I 16 0 0 864 v) := by
  intro d
  induction d with
  | zero =>
    intro k fuel hk hf
    obtain ⟨fu, rfl⟩ : ∃ fu, fuel = fu + 1 := ⟨fuel - 1, by omega⟩
    have : k = 864 := by omega
    subst this
    rw [f_J7_fill_53178_at81_p5, if_pos (by decide)]
  | succ d ih =>
    intro k fuel hk hf
    obtain ⟨fu, rfl⟩ : ∃ fu, fuel = fu + 1 := ⟨fuel - 1, by omega⟩
    rw [f_J7_fill_53178_at81_p5, if_neg (by rw [nI_leI (by omega) (by omega)]; omega), ix_nI (by omega) (by decide), fil_s (by omega), nI_1]
    exact ih (k + 1) fu (by omega) (by omega)
/-- the class as it is made -/
theorem c_init (I : Mem) : ∃ J, f_c0_X7_init (mz I 0 0) = rV J ∧ (∀ g, 33 ≤ g → J g = I g) ∧ J 1 0 0 = 4 ∧ (∀ b, b < 24 → J 2 0 b = 100 ∧ J 3 0 b = 3 ∧ J 4 0 b = 0 ∧ J 5 0 b = -1) ∧ (∀ u, u < 6 → ∀ c, J 7 u c = 0 ∧ J 8 u c = 0 ∧ J 9 u c = 0 ∧ J 11 u c = 0) ∧ J 12 0 1 = 8 ∧ J 12 0 2 = 3 ∧ J 12 0 3 = 200 ∧ J 27 0 3 = 4 ∧ J 27 0 2 = 0 ∧ (∀ j, J 31 0 j = 0) ∧ (∀ j, J 32 0 j = 0) ∧ J 0 0 8 = 0 := by
  obtain ⟨J1, e1, p1, -, p3⟩ := c_rn0 24 0 FU (mup (mz (mz (mz (mz (mz (mz I 0 0) 1 0) 2 0) 3 0) 4 0) 5 0) 1 0 0 4) (by omega) (by decide)
  have f81 : ∀ X, f_J7_fill_53178_at81 (-1) X = rV (fil X 16 0 0 864 (-1)) := fun X => by
    have := fill_81 X (-1) 864 0 FU (by omega) (by decide)
    rw [fil_0] at this
    exact this
  have e1' : f_X4_renew_at10 4 (mz (mz (mz (mz (mz (mz I 0 0) 1 0) 2 0) 3 0) 4 0) 5 0) = rV J1 := e1
  have e2 : ∃ J, f_c0_X7_init (mz I 0 0) = rV J := by
    unfold f_c0_X7_init f_c1_X4_init f_c2_X6_init f_c3_X6_init f_c4_X6_init f_c5_X6_init f_c6_X6_init f_c7_X6_init f_c8_X1_init f_c9_X2_init f_c10_X0_init f_c11_X3_init f_c12_X5_init f_c13_X5_init f_c14_X5_init f_c15_X5_init f_c16_X5_init f_c17_X5_init f_c18_X5_init f_c19_X5_init f_c20_X5_init f_c21_X5_init f_c22_X5_init f_c23_X5_init f_c24_X5_init f_c25_X5_init f_c26_X5_init f_c27_X5_init f_c28_X5_init f_c29_X5_init f_c30_X5_init f_c31_X5_init f_c32_X5_init f_c33_X5_init f_c34_X5_init f_c35_X5_init
    simp only [e1', f81, cV_r]
    exact ⟨_, rfl⟩
  sorry
