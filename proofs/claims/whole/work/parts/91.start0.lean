/-! ===== the start ===== -/
theorem mz_g {I : Mem} {g i a : Nat} (h : a ≠ g) : mz I g i a = I a := by
  funext b c
  unfold mz
  rw [if_neg (fun z => h z.1)]
theorem mz_at {I : Mem} {g i c : Nat} : mz I g i g i c = 0 := by simp [mz]
theorem mz_i {I : Mem} {g i u : Nat} (h : u ≠ i) : mz I g i g u = I g u := by
  funext c
  unfold mz
  rw [if_neg (fun z => h z.2)]
theorem c_rn0 : ∀ (d k fuel : Nat) (X : Mem), k + d = 24 → d < fuel → ∃ J, f_X4_renew_at10_p7 fuel (nI k) X = rV J ∧ rnP J X k := by
  intro d
  induction d with
  | zero =>
    intro k fuel X hk hf
    obtain ⟨fu, rfl⟩ : ∃ fu, fuel = fu + 1 := ⟨fuel - 1, by omega⟩
    have : k = 24 := by omega
    subst this
    exact ⟨X, by rw [f_X4_renew_at10_p7, if_pos (by decide)], fun b h1 h2 => by omega, fun b hb => ⟨rfl, rfl, rfl, rfl⟩, fun g h => rfl⟩
  | succ d ih =>
    intro k fuel X hk hf
    obtain ⟨fu, rfl⟩ : ∃ fu, fuel = fu + 1 := ⟨fuel - 1, by omega⟩
    rw [f_X4_renew_at10_p7, if_neg (show ¬ (24 : Int32) ≤ nI k from nI_ge (b := 24) (by omega) (by decide)), ix_nI (by omega) (by decide), ix_nI (by omega) (by decide), ix_nI (by omega) (by decide), ix_nI (by omega) (by decide), znar_b (Or.inl rfl), nI_1]
    obtain ⟨J, e, p1, p2, p8⟩ := ih (k + 1) fu (mup (mup (mup (mup X 2 0 k 100) 3 0 k 3) 4 0 k 0) 5 0 k (-1)) (by omega) (by omega)
    have x2 : ∀ b, (mup (mup (mup (mup X 2 0 k 100) 3 0 k 3) 4 0 k 0) 5 0 k (-1)) 2 0 b = if b = k then 100 else X 2 0 b := fun b => by
      rw [mup_g (by decide), mup_g (by decide), mup_g (by decide), mup_0]
    have x3 : ∀ b, (mup (mup (mup (mup X 2 0 k 100) 3 0 k 3) 4 0 k 0) 5 0 k (-1)) 3 0 b = if b = k then 3 else X 3 0 b := fun b => by
      rw [mup_g (by decide), mup_g (by decide), mup_0, mup_g (by decide)]
    have x4 : ∀ b, (mup (mup (mup (mup X 2 0 k 100) 3 0 k 3) 4 0 k 0) 5 0 k (-1)) 4 0 b = if b = k then 0 else X 4 0 b := fun b => by
      rw [mup_g (by decide), mup_0, mup_g (by decide), mup_g (by decide)]
    have x5 : ∀ b, (mup (mup (mup (mup X 2 0 k 100) 3 0 k 3) 4 0 k 0) 5 0 k (-1)) 5 0 b = if b = k then -1 else X 5 0 b := fun b => by
      rw [mup_0, mup_g (by decide), mup_g (by decide), mup_g (by decide)]
    refine ⟨J, e, fun b h1 h2 => ?_, fun b hb => ?_, fun g h1 => ?_⟩
    · by_cases hb : b = k
      · obtain ⟨q1, q2, q3, q4⟩ := p2 b (by omega)
        rw [q1, q2, q3, q4, x2, x3, x4, x5, if_pos hb, if_pos hb, if_pos hb, if_pos hb]
        exact ⟨rfl, rfl, rfl, rfl⟩
      · exact p1 b (by omega) h2
    · obtain ⟨q1, q2, q3, q4⟩ := p2 b (by omega)
      have hb : ¬ b = k := by omega
      rw [q1, q2, q3, q4, x2, x3, x4, x5, if_neg hb, if_neg hb, if_neg hb, if_neg hb]
      exact ⟨rfl, rfl, rfl, rfl⟩
    · rw [p8 g h1, mup_g (by omega), mup_g (by omega), mup_g (by omega), mup_g (by omega)]
theorem fill_81 (I : Mem) (v : Int32) : ∀ (d k fuel : Nat), k + d = 864 → d < fuel → f_J7_fill_53178_at81_p5 fuel v (nI k) (nI 864) (fil I 16 0 0 k v) = rV (fil I 16 0 0 864 v) := by
  intro d
  induction d with
  | zero =>
    intro k fuel hk hf
    obtain ⟨fu, rfl⟩ : ∃ fu, fuel = fu + 1 := ⟨fuel - 1, by omega⟩
    have : k = 864 := by omega
    subst this
    rw [f_J7_fill_53178_at81_p5, if_pos (by decide)]
  | succ d ih =>
    intro k fuel hk hf
    obtain ⟨fu, rfl⟩ : ∃ fu, fuel = fu + 1 := ⟨fuel - 1, by omega⟩
    rw [f_J7_fill_53178_at81_p5, if_neg (by rw [nI_leI (by omega) (by omega)]; omega), ix_nI (by omega) (by decide), fil_s (by omega), nI_1]
    exact ih (k + 1) fu (by omega) (by omega)
/-- the class as it is made -/
theorem c_init (I : Mem) : ∃ J, f_c0_X7_init (mz I 0 0) = rV J ∧ (∀ g, 33 ≤ g → J g = I g) ∧ J 1 0 0 = 4 ∧ (∀ b, b < 24 → J 2 0 b = 100 ∧ J 3 0 b = 3 ∧ J 4 0 b = 0 ∧ J 5 0 b = -1) ∧ (∀ u, u < 6 → ∀ c, J 7 u c = 0 ∧ J 8 u c = 0 ∧ J 11 u c = 0) ∧ J 12 0 1 = 8 ∧ J 12 0 2 = 3 ∧ J 12 0 3 = 200 ∧ J 27 0 3 = 4 ∧ J 27 0 2 = 0 ∧ (∀ j, J 31 0 j = 0) ∧ (∀ j, J 32 0 j = 0) ∧ J 0 0 8 = 0 := by
  obtain ⟨J1, e1, p1, -, p3⟩ := c_rn0 24 0 FU (mup (mz (mz (mz (mz (mz (mz I 0 0) 1 0) 2 0) 3 0) 4 0) 5 0) 1 0 0 4) (by omega) (by decide)
  have f81 : ∀ X, f_J7_fill_53178_at81 (-1) X = rV (fil X 16 0 0 864 (-1)) := fun X => by
    have := fill_81 X (-1) 864 0 FU (by omega) (by decide)
    rw [fil_0] at this
    exact this
  have e1' : f_X4_renew_at10 4 (mz (mz (mz (mz (mz (mz I 0 0) 1 0) 2 0) 3 0) 4 0) 5 0) = rV J1 := e1
  have j1 : J1 1 0 0 = 4 := by rw [p3 1 (by decide), mup_at]
  have j33 : ∀ g, 33 ≤ g → J1 g = I g := fun g hg => by rw [p3 g (by omega), mup_g (by omega), mz_g (by omega), mz_g (by omega), mz_g (by omega), mz_g (by omega), mz_g (by omega), mz_g (by omega)]
  have e2 : ∃ J, f_c0_X7_init (mz I 0 0) = rV J ∧ (∀ g, 33 ≤ g → J g = J1 g) ∧ J 1 = J1 1 ∧ J 2 = J1 2 ∧ J 3 = J1 3 ∧ J 4 = J1 4 ∧ J 5 = J1 5 ∧ (∀ u, u < 6 → ∀ c, J 7 u c = 0 ∧ J 8 u c = 0 ∧ J 11 u c = 0) ∧ J 12 0 1 = 8 ∧ J 12 0 2 = 3 ∧ J 12 0 3 = 200 ∧ J 27 0 3 = 4 ∧ J 27 0 2 = 0 ∧ (∀ j, J 31 0 j = 0) ∧ (∀ j, J 32 0 j = 0) ∧ J 0 0 8 = 0 := by
    unfold f_c0_X7_init f_c1_X4_init f_c2_X6_init f_c3_X6_init f_c4_X6_init f_c5_X6_init f_c6_X6_init f_c7_X6_init f_c8_X1_init f_c9_X2_init f_c10_X0_init f_c11_X3_init f_c12_X5_init f_c13_X5_init f_c14_X5_init f_c15_X5_init f_c16_X5_init f_c17_X5_init f_c18_X5_init f_c19_X5_init f_c20_X5_init f_c21_X5_init f_c22_X5_init f_c23_X5_init f_c24_X5_init f_c25_X5_init f_c26_X5_init f_c27_X5_init f_c28_X5_init f_c29_X5_init f_c30_X5_init f_c31_X5_init f_c32_X5_init f_c33_X5_init f_c34_X5_init f_c35_X5_init
    simp only [e1', f81, cV_r]
    refine ⟨_, rfl, fun g hg => ?_, ?_, ?_, ?_, ?_, ?_, fun u hu c => ?_, ?_, ?_, ?_, ?_, ?_, fun j => ?_, fun j => ?_, ?_⟩
    · have hh : ∀ k, k < 33 → g ≠ k := fun k hk => by omega
      simp only [mup_g (hh 0 (by decide)), mz_g (hh 32 (by decide)), mz_g (hh 31 (by decide)), mz_g (hh 30 (by decide)), mz_g (hh 29 (by decide)), mz_g (hh 28 (by decide)), mz_g (hh 27 (by decide)), mup_g (hh 27 (by decide)), mz_g (hh 26 (by decide)), mz_g (hh 25 (by decide)), mz_g (hh 24 (by decide)), mz_g (hh 23 (by decide)), mz_g (hh 22 (by decide)), mz_g (hh 21 (by decide)), mz_g (hh 20 (by decide)), mz_g (hh 19 (by decide)), mz_g (hh 18 (by decide)), mz_g (hh 17 (by decide)), fil_g (hh 16 (by decide)), mz_g (hh 16 (by decide)), mz_g (hh 15 (by decide)), mz_g (hh 14 (by decide)), mz_g (hh 13 (by decide)), mz_g (hh 12 (by decide)), mup_g (hh 12 (by decide)), mz_g (hh 11 (by decide)), mz_g (hh 10 (by decide)), mz_g (hh 9 (by decide)), mz_g (hh 8 (by decide)), mz_g (hh 7 (by decide)), mz_g (hh 6 (by decide))]
    · funext i c; simp [mup, mz, fil]
    · funext i c; simp [mup, mz, fil]
    · funext i c; simp [mup, mz, fil]
    · funext i c; simp [mup, mz, fil]
    · funext i c; simp [mup, mz, fil]
    · have h6 : u = 0 ∨ u = 1 ∨ u = 2 ∨ u = 3 ∨ u = 4 ∨ u = 5 := by omega
      rcases h6 with rfl | rfl | rfl | rfl | rfl | rfl <;> simp [mup, mz, fil]
    all_goals simp [mup, mz, fil]
  obtain ⟨J, e, q33, q1, q2, q3, q4, q5, q⟩ := e2
  refine ⟨J, e, fun g hg => (q33 g hg).trans (j33 g hg), by rw [q1]; exact j1, fun b hb => ?_, q⟩
  rw [q2, q3, q4, q5]
  exact p1 b (by omega) hb
/-- the model as it is made -/
theorem m_init (I : Mem) : ∃ J, f_c36_X8_init (mz I 33 0) = rV J ∧ (∀ g, (g < 33 ∨ 68 ≤ g) → J g = I g) ∧ J 33 0 0 = 4 ∧ (∀ b, b < 24 → J 34 0 b = 100 ∧ J 35 0 b = 3 ∧ J 36 0 b = 0 ∧ J 37 0 b = -1) ∧ (∀ t, t < 6 → J 38 0 t = -1 ∧ J 46 0 t = 0) ∧ (∀ c, J 41 0 c = 0 ∧ J 42 0 c = 0 ∧ J 43 0 c = 0) ∧ (∀ c, c < 576 → J 44 0 c = 0) ∧ (∀ c, c < 144 → J 45 0 c = -1) ∧ J 33 0 15 = 8 ∧ J 33 0 16 = 3 ∧ J 33 0 17 = 200 ∧ J 33 0 18 = 4 ∧ J 33 0 19 = 0 ∧ J 33 0 22 = 0 ∧ (∀ c, J 49 0 c = 0 ∧ J 50 0 c = 0) := by
  unfold f_c36_X8_init f_X8_begin
  rw [show ∀ f : Nat → RT, ix 0 6 f = f 0 from fun f => ix6 (t := 0) (by decide), show ∀ f : Nat → RT, ix 1 6 f = f 1 from fun f => ix6 (t := 1) (by decide), show ∀ f : Nat → RT, ix 2 6 f = f 2 from fun f => ix6 (t := 2) (by decide), show ∀ f : Nat → RT, ix 3 6 f = f 3 from fun f => ix6 (t := 3) (by decide), show ∀ f : Nat → RT, ix 4 6 f = f 4 from fun f => ix6 (t := 4) (by decide), show ∀ f : Nat → RT, ix 5 6 f = f 5 from fun f => ix6 (t := 5) (by decide)]
  obtain ⟨J, e, p1, -, p3, p4, p5, p6, p7, p8⟩ := m_bg 24 0 FU (mup (mup (mup (mup (mup (mup (mz (mz (mz (mz (mz (mz (mz (mz (mz (mz (mz (mz (mz (mz (mz (mz (mz (mz (mz (mz (mup (mup (mup (mup (mz (mz (mz (mz (mz (mz (mz (mz (mz (mz (mz (mz (mz (mz (mup (mz I 33 0) 33 0 0 4) 34 0) 35 0) 36 0) 37 0) 38 0) 39 0) 40 0) 41 0) 42 0) 43 0) 44 0) 45 0) 46 0) 47 0) 33 0 15 8) 33 0 16 3) 33 0 17 200) 33 0 18 4) 48 0) 49 0) 50 0) 51 0) 52 0) 53 0) 54 0) 55 0) 56 0) 57 0) 58 0) 59 0) 60 0) 61 0) 62 0) 63 0) 64 0) 65 0) 66 0) 67 0) 38 0 0 (-1)) 38 0 1 (-1)) 38 0 2 (-1)) 38 0 3 (-1)) 38 0 4 (-1)) 38 0 5 (-1)) (by omega) (by decide)
  refine ⟨J, ?_, ?_, ?_, fun b hb => p1 b (by omega) hb, fun t ht => ⟨?_, p5 t ht⟩, fun c => ⟨?_, ?_, ?_⟩, p4, p3, ?_, ?_, ?_, ?_, p6, ?_, fun c => ⟨?_, ?_⟩⟩
  · refine Eq.trans (congrArg (fun z => cV z fun J7 => rV J7) e) ?_
    rfl
  · intro g hg
    rw [p8 g (by omega) (by omega)]
    have hh : ∀ k, 33 ≤ k → k < 68 → g ≠ k := fun k h1 h2 => by omega
    funext i c
    simp [mup, mz, hh]
  · rw [p7 0 (by decide)]; simp [mup, mz]
  · rw [p8 38 (by decide) (by decide)]
    have h6 : t = 0 ∨ t = 1 ∨ t = 2 ∨ t = 3 ∨ t = 4 ∨ t = 5 := by omega
    rcases h6 with rfl | rfl | rfl | rfl | rfl | rfl <;> simp [mup, mz]
  · rw [p8 41 (by decide) (by decide)]; simp [mup, mz]
  · rw [p8 42 (by decide) (by decide)]; simp [mup, mz]
  · rw [p8 43 (by decide) (by decide)]; simp [mup, mz]
  · rw [p7 15 (by decide)]; simp [mup, mz]
  · rw [p7 16 (by decide)]; simp [mup, mz]
  · rw [p7 17 (by decide)]; simp [mup, mz]
  · rw [p7 18 (by decide)]; simp [mup, mz]
  · rw [p7 22 (by decide)]; simp [mup, mz]
  · rw [p8 49 (by decide) (by decide)]; simp [mup, mz]
  · rw [p8 50 (by decide) (by decide)]; simp [mup, mz]
theorem start_RC {I : Mem} (hX : rcX I) : ∃ J, (cV (f_c0_X7_init (mz I 0 0)) fun J1 => cV (f_c36_X8_init (mz J1 33 0)) fun J2 => f_L_loop J2) = f_L_loop J ∧ RC J J ∧ InvM J ∧ J 103 = I 103 := by
  obtain ⟨C, e1, c33, c1, cb, ct, d1, d2, d3, d4, d5, d6, d7, d8⟩ := c_init I
  obtain ⟨J, e2, m0, m1, mb, mt, mz', m44, m45, n1, n2, n3, n4, n5, n6, n7⟩ := m_init C
  have lo : ∀ g, g < 33 → J g = C g := fun g hg => m0 g (Or.inl hg)
  have hi : ∀ g, 68 ≤ g → J g = I g := fun g hg => by rw [m0 g (Or.inr hg), c33 g (by omega)]
  refine ⟨J, by rw [e1, cV_r, e2, cV_r], ?_, ?_, hi 103 (by decide)⟩
  · have n1' : ¬ (0 : Int32) ≤ -1 := by decide
    refine RC_none (fun u hu => (mt u hu).2) (fun u hu => ?_) (fun u hu => by rw [lo 7 (by decide)]; exact (ct u hu 1).1) n5 (by rw [lo 27 (by decide)]; exact d5) ⟨by rw [lo 1 (by decide), c1, m1], fun b hb => ?_⟩ ?_ (fun j hj => by rw [lo 31 (by decide), d6 j, (n7 (j + 1)).2]) ⟨by rw [lo 0 (by decide), d8, n6], fun j hj => by rw [lo 32 (by decide), d7 j, (n7 j).1]⟩ ?_
    · have h0 : J 38 0 u = -1 := (mt u hu).1
      refine ⟨?_, ?_, fun q => ?_, ?_, ?_, fun i hi => ?_, fun q => ?_, fun b hb m hm => ?_⟩
      · rw [lo 7 (by decide), (ct u hu 0).1, h0]; rfl
      · rw [lo 7 (by decide), (ct u hu 2).1]; exact ⟨by decide, by decide⟩
      · rw [h0] at q; exact absurd q n1'
      · rw [lo 7 (by decide), (ct u hu 5).1, (mz' u).1]
      · rw [lo 7 (by decide), (ct u hu 6).1, (mz' u).2.1]
      · rw [lo 8 (by decide), (ct u hu i).2.1, (mz' _).2.2]
      · rw [h0] at q; exact absurd q n1'
      · rw [lo 11 (by decide), (ct u hu _).2.2, m44 _ (by omega)]
    · obtain ⟨w1, w2, w3, w4⟩ := cb b hb
      obtain ⟨v1, v2, v3, v4⟩ := mb b hb
      rw [lo 2 (by decide), lo 3 (by decide), lo 4 (by decide), lo 5 (by decide), w1, w2, w3, w4, v1, v2, v3, v4]
      exact ⟨rfl, rfl, rfl, rfl⟩
    · unfold rcJ
      rw [lo 12 (by decide), lo 27 (by decide), d1, d2, d3, d4, n1, n2, n3, n4]
      exact ⟨rfl, rfl, rfl, rfl⟩
    · unfold rcX
      rw [hi 101 (by decide), hi 102 (by decide)]
      exact hX
  · refine InvM_none (B := 4) (by decide) (by decide) m1 (fun b hb => ?_) (fun u hu => (mt u hu).2) (fun u hu => ?_) n5 ?_ ⟨0, by decide, n6⟩
    · obtain ⟨v1, v2, v3, v4⟩ := mb b hb
      rw [v1, v2, v3, v4]
      exact ⟨⟨by decide, by decide⟩, ⟨by decide, by decide⟩, Or.inl rfl, by decide, by decide⟩
    · have h0 : J 38 0 u = -1 := (mt u hu).1
      refine ⟨?_, fun q => ?_, ?_, ⟨0, by omega, (mz' u).2.1⟩, fun i hi => ?_, fun b hb m hm => ?_, fun b hb => ?_⟩
      · rw [h0]; exact ⟨by decide, by decide⟩
      · unfold isP at q
        rw [h0] at q
        exact absurd q (by decide)
      · rw [(mz' u).1]; exact ⟨by decide, by decide⟩
      · rw [(mz' _).2.2]; exact ⟨by decide, by decide⟩
      · rw [m44 _ (by omega)]; exact ⟨⟨by decide, by decide⟩, fun _ => rfl⟩
      · rw [m45 _ (by omega)]; exact ⟨by decide, by decide⟩
    · rw [n1, n2, n3, n4]
      exact ⟨⟨by decide, by decide⟩, ⟨by decide, by decide⟩, ⟨by decide, by decide⟩, by decide, by decide⟩
