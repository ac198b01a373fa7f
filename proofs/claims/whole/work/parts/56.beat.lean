/-! ===== beat and score: every take loses its laying ===== -/
theorem RC_none {I' A' : Mem} (h46 : ∀ u, u < 6 → A' 46 0 u = 0) (hU : ∀ u, u < 6 → rcU I' A' u) (h71 : ∀ u, u < 6 → I' 7 u 1 = 0) (hw : A' 33 0 19 = 0) (hw2 : I' 27 0 2 = 0) (hS : rcS I' A') (hJ : rcJ I' A') (hF : rcF I' A') (hN : rcN I' A') (hX : rcX I') : RC I' A' :=
  ⟨hS, fun u hu => by
    obtain ⟨u1, u2, u3, u4, u5, u6, u7, u8⟩ := hU u hu
    refine ⟨u1, u2, u3, u4, u5, u6, u7, u8, ?_, ?_⟩
    · rw [h71 u hu, h46 u hu]
    · intro z
      rw [h46 u hu] at z
      exact absurd z (by decide), hJ, rcC_no h46, ⟨by rw [hw, hw2], fun z => by
    rw [hw] at z
    exact absurd z (by decide)⟩, hF, hN, hX⟩
theorem InvM_none {A' : Mem} {B : Nat} (h1 : 1 ≤ B) (h2 : B ≤ 24) (e : A' 33 0 0 = nI B) (hb : ∀ b, b < 24 → rg 0 10000 (A' 34 0 b) ∧ rg 1 40 (A' 35 0 b) ∧ (A' 36 0 b = 0 ∨ A' 36 0 b = 1) ∧ rg (-1) 5 (A' 37 0 b)) (h46 : ∀ u, u < 6 → A' 46 0 u = 0) (hU : ∀ u, u < 6 → tkU A' B u) (hw : A' 33 0 19 = 0) (hs : rg 1 20 (A' 33 0 15) ∧ rg 0 9 (A' 33 0 16) ∧ rg 0 1000 (A' 33 0 17) ∧ rg 0 9 (A' 33 0 18)) (hn : ∃ n, n ≤ 30 ∧ A' 33 0 22 = nI n) : InvM A' :=
  ⟨⟨B, ⟨h1, h2, e⟩, hb, fun u hu => by
    obtain ⟨u1, u2, u3, u4, u5, u6, u7⟩ := hU u hu
    refine ⟨u1, u2, u3, u4, u5, u6, u7, Or.inl (h46 u hu), ?_, ?_⟩
    · intro z
      rw [h46 u hu] at z
      exact absurd z (by decide)
    · intro z
      rw [h46 u hu] at z
      exact absurd z (by decide), hs, Or.inl hw⟩, hn⟩
theorem m_layN {X : Mem} : ∀ (d k fuel : Nat), k + d = 6 → d < fuel → f_X8_layNone_p2 fuel (nI k) (fil X 46 0 0 k 0) = rV (mup (fil X 46 0 0 6 0) 33 0 19 0) := by
  intro d
  induction d with
  | zero =>
    intro k fuel hk hf
    obtain ⟨fu, rfl⟩ : ∃ fu, fuel = fu + 1 := ⟨fuel - 1, by omega⟩
    have : k = 6 := by omega
    subst this
    rw [f_X8_layNone_p2, if_pos (by decide)]
  | succ d ih =>
    intro k fuel hk hf
    obtain ⟨fu, rfl⟩ : ∃ fu, fuel = fu + 1 := ⟨fuel - 1, by omega⟩
    rw [f_X8_layNone_p2, if_neg (show ¬ (6 : Int32) ≤ nI k from nI_ge (b := 6) (by omega) (by decide)), ix_nI (by omega) (by decide), znar_b (Or.inl rfl), fil_s (by omega), nI_1]
    exact ih (k + 1) fu (by omega) (by omega)
theorem m_layNone {X : Mem} : f_X8_layNone X = rV (mup (fil X 46 0 0 6 0) 33 0 19 0) := by
  have := m_layN (X := X) 6 0 FU (by omega) (by decide)
  rw [fil_0] at this
  exact this
theorem c_chgN {v : Int32} : ∀ (d k fuel : Nat) (X : Mem), k + d = 6 → 0 < d → d < fuel → ∃ J, f_X7_beat_p62 fuel (nI k) X = rI 1 J ∧ (∀ g, g ≠ 7 → g ≠ 27 → J g = X g) ∧ (∀ u c, c ≠ 1 → J 7 u c = X 7 u c) ∧ (∀ u, u < k → J 7 u 1 = X 7 u 1) ∧ (∀ u, k ≤ u → u < 6 → J 7 u 1 = 0) ∧ J 27 0 2 = 0 ∧ ∀ c, c ≠ 2 → J 27 0 c = X 27 0 c := by
  intro d
  induction d with
  | zero => intro k fuel X hk h0 hf; omega
  | succ d ih =>
    intro k fuel X hk h0 hf
    obtain ⟨fu, rfl⟩ : ∃ fu, fuel = fu + 1 := ⟨fuel - 1, by omega⟩
    rw [f_X7_beat_p62, if_neg (show ¬ (6 : Int32) ≤ nI k from nI_ge (b := 6) (by omega) (by decide)), c_changeTake (by omega), cV_r, nI_1]
    have x7 : ∀ u c, cChg X k 7 u c = if u = k ∧ c = 1 then 0 else X 7 u c := fun u c => by
      unfold cChg
      rw [mup_g (by decide), mup_t]
    have xg : ∀ g, g ≠ 7 → g ≠ 27 → cChg X k g = X g := fun g h1 h2 => by
      unfold cChg
      rw [mup_g h2, mup_g h1]
    have x27 : ∀ c, cChg X k 27 0 c = if c = 2 then 0 else X 27 0 c := fun c => by
      unfold cChg
      rw [mup_0, mup_g (by decide)]
    by_cases hd : d = 0
    · subst hd
      obtain ⟨fu, rfl⟩ : ∃ f, fu = f + 1 := ⟨fu - 1, by omega⟩
      have : k = 5 := by omega
      subst this
      refine ⟨_, by rw [f_X7_beat_p62, if_pos (by decide)], xg, fun u c hc => ?_, fun u hu => ?_, fun u h1 h2 => ?_, ?_, fun c hc => ?_⟩
      · rw [x7, if_neg (by omega)]
      · rw [x7, if_neg (by omega)]
      · rw [x7, if_pos (by omega)]
      · rw [x27, if_pos rfl]
      · rw [x27, if_neg hc]
    · obtain ⟨J, e, j1, j2, j3, j4, j5, j6⟩ := ih (k + 1) fu (cChg X k) (by omega) (by omega) (by omega)
      refine ⟨J, e, fun g h1 h2 => (j1 g h1 h2).trans (xg g h1 h2), fun u c hc => ?_, fun u hu => ?_, fun u h1 h2 => ?_, j5, fun c hc => ?_⟩
      · rw [j2 u c hc, x7, if_neg (by omega)]
      · rw [j3 u (by omega), x7, if_neg (by omega)]
      · by_cases hu : u = k
        · rw [j3 u (by omega), x7, if_pos ⟨hu, rfl⟩]
        · exact j4 u (by omega) h2
      · rw [j6 c hc, x27, if_neg hc]
theorem op_beat (a c d : Int32) : opA (f_X7_beat a c d) (f_X8_beat a c d) := by
  intro I A hR hM
  have hM0 := hM
  obtain ⟨⟨B, ⟨b1, b2, eB⟩, hb, htk, hs, -⟩, hn⟩ := hM0
  have eI : I 1 0 0 = nI B := by rw [hR.1.1, eB]
  by_cases h1 : 0 ≤ a ∧ a ≤ nI B - 1
  · by_cases h2 : 0 ≤ c ∧ c ≤ 10000
    · by_cases h3 : 1 ≤ d ∧ d ≤ 40
      · rcases bt_cases a b1 (by omega) with ⟨b, hb', rfl⟩ | hf
        · have m1 : f_X8_beat (nI b) c d A = rI 1 (mup (fil (mup (mup A 34 0 b c) 35 0 b d) 46 0 0 6 0) 33 0 19 0) := by
            unfold f_X8_beat
            rw [m_isBeat, cI_r, bi_ite, eB, if_pos h1, m_in, cI_r, bi_ite, if_pos h2, m_in, cI_r, bi_ite, if_pos h3, ix_nI (by omega) (by decide), ix_nI (by omega) (by decide), m_layNone, cV_r]
          obtain ⟨J, e, j1, j2, -, j4, j5, j6⟩ := c_chgN (v := 0) 6 0 FU (mup (mup I 2 0 b c) 3 0 b d) (by omega) (by omega) (by decide)
          have c1 : f_X7_beat (nI b) c d I = rI 1 J := by
            unfold f_X7_beat
            rw [c_holds eI b1 (by omega), cI_r, bi_ite, if_pos h1, c_within, cI_r, bi_ite, if_pos h2, c_within, cI_r, bi_ite, if_pos h3, ix_nI (by omega) (by decide), ix_nI (by omega) (by decide)]
            exact e
          have z34 : ∀ x, (mup (fil (mup (mup A 34 0 b c) 35 0 b d) 46 0 0 6 0) 33 0 19 0) 34 0 x = if x = b then c else A 34 0 x := fun x => by
            rw [mup_g (by decide), fil_g (by decide), mup_g (by decide), mup_0]
          have z35 : ∀ x, (mup (fil (mup (mup A 34 0 b c) 35 0 b d) 46 0 0 6 0) 33 0 19 0) 35 0 x = if x = b then d else A 35 0 x := fun x => by
            rw [mup_g (by decide), fil_g (by decide), mup_0, mup_g (by decide)]
          have z46 : ∀ x, x < 6 → (mup (fil (mup (mup A 34 0 b c) 35 0 b d) 46 0 0 6 0) 33 0 19 0) 46 0 x = 0 := fun x hx => by
            rw [mup_g (by decide), fil_at, if_pos ⟨by omega, hx⟩]
          have z33 : ∀ x, (mup (fil (mup (mup A 34 0 b c) 35 0 b d) 46 0 0 6 0) 33 0 19 0) 33 0 x = if x = 19 then 0 else A 33 0 x := fun x => by
            rw [mup_0, fil_g (by decide), mup_g (by decide), mup_g (by decide)]
          have zg : ∀ g, g ≠ 33 → g ≠ 34 → g ≠ 35 → g ≠ 46 → (mup (fil (mup (mup A 34 0 b c) 35 0 b d) 46 0 0 6 0) 33 0 19 0) g = A g := fun g h1 h2 h3 h4 => by
            rw [mup_g h1, fil_g h4, mup_g h3, mup_g h2]
          generalize hA' : (mup (fil (mup (mup A 34 0 b c) 35 0 b d) 46 0 0 6 0) 33 0 19 0) = A' at m1 z34 z35 z46 z33 zg
          have y33 : ∀ x, x ≠ 19 → A' 33 0 x = A 33 0 x := fun x hx => by rw [z33, if_neg hx]
          have jg : ∀ g, g ≠ 2 → g ≠ 3 → g ≠ 7 → g ≠ 27 → J g = I g := fun g h1 h2 h3 h4 => by rw [j1 g h3 h4, mup_g h2, mup_g h1]
          have j7 : ∀ u x, x ≠ 1 → J 7 u x = I 7 u x := fun u x hx => by rw [j2 u x hx, mup_g (by decide), mup_g (by decide)]
          have j27 : ∀ x, x ≠ 2 → J 27 0 x = I 27 0 x := fun x hx => by rw [j6 x hx, mup_g (by decide), mup_g (by decide)]
          have e0 : A' 33 0 0 = A 33 0 0 := y33 0 (by decide)
          refine ⟨1, J, A', m1, ?_, ?_, c1, ?_, ?_⟩
          · refine InvM_none b1 b2 (e0.trans eB) (fun x hx => ?_) z46 (fun u hu => ?_) (by rw [z33, if_pos rfl]) ?_ (by rw [y33 22 (by decide)]; exact hn)
            · obtain ⟨q1, q2, q3, q4⟩ := hb x hx
              rw [z34, z35, zg 36 (by decide) (by decide) (by decide) (by decide), zg 37 (by decide) (by decide) (by decide) (by decide)]
              refine ⟨?_, ?_, q3, q4⟩
              · split
                · exact ⟨le_i.mp h2.1, le_i.mp h2.2⟩
                · exact q1
              · split
                · exact ⟨le_i.mp h3.1, le_i.mp h3.2⟩
                · exact q2
            · obtain ⟨k1, k2, k3, k4, k5, k6, k7⟩ := tkOk_U (htk u hu)
              unfold tkU isP
              rw [zg 38 (by decide) (by decide) (by decide) (by decide), zg 39 (by decide) (by decide) (by decide) (by decide), zg 40 (by decide) (by decide) (by decide) (by decide), zg 41 (by decide) (by decide) (by decide) (by decide), zg 42 (by decide) (by decide) (by decide) (by decide), zg 43 (by decide) (by decide) (by decide) (by decide), zg 44 (by decide) (by decide) (by decide) (by decide), zg 45 (by decide) (by decide) (by decide) (by decide)]
              exact ⟨k1, k2, k3, k4, k5, k6, k7⟩
            · rw [y33 15 (by decide), y33 16 (by decide), y33 17 (by decide), y33 18 (by decide)]
              exact hs
          · intro g hg
            exact (zg g (by omega) (by omega) (by omega) (by omega)).symm
          · obtain ⟨rS, rT, rJ, -, -, rF, rN, rX⟩ := hR
            refine RC_none z46 (fun u hu => ?_) (fun u hu => j4 u (by omega) hu) (by rw [z33, if_pos rfl]) j5 ?_ ?_ ?_ ?_ ?_
            · obtain ⟨u1, u2, u3, u4, u5, u6, u7, u8⟩ := rcT_U (rT u hu)
              unfold rcU mBeg mEnd isP
              rw [j7 u 0 (by decide), j7 u 2 (by decide), j7 u 3 (by decide), j7 u 4 (by decide), j7 u 5 (by decide), j7 u 6 (by decide), jg 8 (by decide) (by decide) (by decide) (by decide), jg 9 (by decide) (by decide) (by decide) (by decide), jg 11 (by decide) (by decide) (by decide) (by decide), e0, zg 38 (by decide) (by decide) (by decide) (by decide), zg 39 (by decide) (by decide) (by decide) (by decide), zg 40 (by decide) (by decide) (by decide) (by decide), zg 41 (by decide) (by decide) (by decide) (by decide), zg 42 (by decide) (by decide) (by decide) (by decide), zg 43 (by decide) (by decide) (by decide) (by decide), zg 44 (by decide) (by decide) (by decide) (by decide), zg 45 (by decide) (by decide) (by decide) (by decide)]
              exact ⟨u1, u2, u3, u4, u5, u6, u7, u8⟩
            · refine ⟨by rw [jg 1 (by decide) (by decide) (by decide) (by decide), e0]; exact rS.1, fun x hx => ?_⟩
              obtain ⟨s1, s2, s3, s4⟩ := rS.2 x hx
              rw [jg 4 (by decide) (by decide) (by decide) (by decide), jg 5 (by decide) (by decide) (by decide) (by decide), zg 36 (by decide) (by decide) (by decide) (by decide), zg 37 (by decide) (by decide) (by decide) (by decide), z34, z35, j1 2 (by decide) (by decide), j1 3 (by decide) (by decide), mup_g (show (2 : Nat) ≠ 3 by decide), mup_0, mup_0, mup_g (show (3 : Nat) ≠ 2 by decide), s1, s2]
              exact ⟨rfl, rfl, s3, s4⟩
            · unfold rcJ
              rw [jg 12 (by decide) (by decide) (by decide) (by decide), j27 3 (by decide), y33 15 (by decide), y33 16 (by decide), y33 17 (by decide), y33 18 (by decide)]
              exact rJ
            · unfold rcF
              rw [jg 31 (by decide) (by decide) (by decide) (by decide), zg 50 (by decide) (by decide) (by decide) (by decide)]
              exact rF
            · unfold rcN
              rw [jg 0 (by decide) (by decide) (by decide) (by decide), jg 32 (by decide) (by decide) (by decide) (by decide), zg 49 (by decide) (by decide) (by decide) (by decide), y33 22 (by decide)]
              exact rN
            · unfold rcX
              rw [jg 101 (by decide) (by decide) (by decide) (by decide), jg 102 (by decide) (by decide) (by decide) (by decide)]
              exact rX
          · intro g hg
            exact (jg g (by omega) (by omega) (by omega) (by omega)).symm
        · exact absurd h1 hf
      · refine op_ref (c := -1000001) 0 (by decide) hR hM ?_ ?_
        · unfold f_X8_beat
          rw [m_isBeat, cI_r, bi_ite, eB, if_pos h1, m_in, cI_r, bi_ite, if_pos h2, m_in, cI_r, bi_ite, if_neg h3]; rfl
        · unfold f_X7_beat
          rw [c_holds eI b1 (by omega), cI_r, bi_ite, if_pos h1, c_within, cI_r, bi_ite, if_pos h2, c_within, cI_r, bi_ite, if_neg h3]; rfl
    · refine op_ref (c := -1000001) 0 (by decide) hR hM ?_ ?_
      · unfold f_X8_beat
        rw [m_isBeat, cI_r, bi_ite, eB, if_pos h1, m_in, cI_r, bi_ite, if_neg h2]; rfl
      · unfold f_X7_beat
        rw [c_holds eI b1 (by omega), cI_r, bi_ite, if_pos h1, c_within, cI_r, bi_ite, if_neg h2]; rfl
  · refine op_ref (c := -1000001) 0 (by decide) hR hM ?_ ?_
    · unfold f_X8_beat
      rw [m_isBeat, cI_r, bi_ite, eB, if_neg h1]; rfl
    · unfold f_X7_beat
      rw [c_holds eI b1 (by omega), cI_r, bi_ite, if_neg h1]; rfl
