theorem c_write {A J : Mem} {t F f k : Nat} (hF : F ≤ 40) (hfk : f + k < 24) (ef : J 7 t 3 = nI f) (el : J 7 t 4 = nI (f + k)) (hrows : ∀ b', f ≤ b' → b' ≤ f + k → rowC J A t F f (f + k - b') b') (hfr : ∀ i, i ≤ k → frP A t F k f i < F ∧ sp A t F (k - i) (f + i) (frP A t F k f i) ≠ EE) (h3 : J 3 0 (f + k) = A 35 0 (f + k)) (hgo : ∀ i, i ≤ k → frP A t F k f i + (k - i) < F ∧ i ≤ frP A t F k f i) :
    ∀ (d i fuel : Nat) (X : Mem) (a4 : Int32), i + d = k + 1 → d < fuel → (i ≤ k → a4 = nI (frP A t F k f i)) → (∀ g, g ≠ 10 → X g = J g) → (∀ u, u ≠ t → X 10 u = J 10 u) → (∀ j, j < i → X 10 t (f + j) = nI (frP A t F k f j)) →
    ∃ J', f_X2_write_p9 fuel t a4 (nI (f + i)) X = rV J' ∧ (∀ g, g ≠ 7 → g ≠ 10 → J' g = J g) ∧ (∀ u, u ≠ t → J' 7 u = J 7 u ∧ J' 10 u = J 10 u) ∧ (∀ c, c ≠ 1 → J' 7 t c = J 7 t c) ∧ J' 7 t 1 = 1 ∧ (∀ j, j ≤ k → J' 10 t (f + j) = nI (frP A t F k f j)) ∧ J' 10 t (f + k + 1) = nI (frP A t F k f k) + A 35 0 (f + k) := by
  intro d
  induction d with
  | zero =>
    intro i fuel X a4 hi hfu ha hg hu hx
    obtain ⟨fu, rfl⟩ : ∃ fu, fuel = fu + 1 := ⟨fuel - 1, by omega⟩
    have : i = k + 1 := by omega
    subst this
    have e : f_X2_write_p9 (fu + 1) t a4 (nI (f + (k + 1))) X = rV (mup (mup X 10 t (f + k + 1) (X 10 t (f + k) + X 3 0 (f + k))) 7 t 1 1) := by
      rw [f_X2_write_p9, hg 7 (by decide), el, if_pos ((nI_ltI (by omega) (by omega)).mpr (by omega)), ix_nI (by omega) (by decide), ix_nI (by omega) (by decide), nI_1, ix_nI (by omega) (by decide)]
    refine ⟨_, e, fun g h1 h2 => by rw [mup_g h1, mup_g h2, hg g h2], fun u hut => ⟨by rw [mup_i hut, mup_g (by decide), hg 7 (by decide)], by rw [mup_g (by decide), mup_i hut, hu u hut]⟩, fun c hc => by rw [mup_t, if_neg (by omega), mup_g (by decide), hg 7 (by decide)], by rw [mup_at], fun j hj => ?_, ?_⟩
    · rw [mup_g (by decide), mup_t, if_neg (by omega)]
      exact hx j (by omega)
    · rw [mup_g (by decide), mup_at, hx k (by omega), hg 3 (by decide), h3]
  | succ d ih =>
    intro i fuel X a4 hi hfu ha hg hu hx
    obtain ⟨fu, rfl⟩ : ∃ fu, fuel = fu + 1 := ⟨fuel - 1, by omega⟩
    have hik : i ≤ k := by omega
    have hfi := hfr i hik
    have hgi := hgo i hik
    rw [ha hik]
    have x20 : (mup X 10 t (f + i) (nI (frP A t F k f i))) 20 = J 20 := by rw [mup_g (by decide), hg 20 (by decide)]
    obtain ⟨J', e, q⟩ := ih (i + 1) fu (mup X 10 t (f + i) (nI (frP A t F k f i))) (J 20 0 ((f + i) * 40 + frP A t F k f i)) (by omega) (by omega) (fun h => by
      have := (hrows (f + i) (by omega) (by omega) (frP A t F k f i) (by omega) (by omega)).2
      rw [show f + k - (f + i) = k - i by omega] at this
      have := this hfi.2 (k - i - 1) (by omega)
      rw [this, frP]) (fun g h => by rw [mup_g h, hg g h]) (fun u h => by rw [mup_i h, hu u h]) (fun j hj => by
      by_cases hji : j = i
      · subst hji; rw [mup_at]
      · rw [mup_t, if_neg (by omega)]; exact hx j (by omega))
    refine ⟨J', ?_, q⟩
    rw [f_X2_write_p9, hg 7 (by decide), el, if_neg (by rw [nI_ltI (by omega) (by omega)]; omega), ix_nI (by omega) (by decide), mul40, nI_add, ix_nI (by omega) (by decide), x20, nI_1]
    exact e
theorem frP_go {A : Mem} {t F k f : Nat} (h : mnN (sp A t F k f) 0 F < EE) : ∀ i, i ≤ k → frP A t F k f i + (k - i) < F ∧ i ≤ frP A t F k f i := by
  intro i hi
  obtain ⟨h1, h2⟩ := frP_ok h i hi
  refine ⟨Decidable.byContradiction fun z => h2 (sp_far (k - i) (f + i) _ h1 (by omega)), ?_⟩
  clear h1 h2
  induction i with
  | zero => omega
  | succ i ih =>
    have := ih (by omega)
    obtain ⟨h1, h2⟩ := frP_ok h i (by omega)
    rw [show k - i = (k - i - 1) + 1 by omega] at h2
    have := (nx_ok h2).1
    rw [frP]
    omega
/-- the whole of place -/
theorem c_place {A I : Mem} {t n : Nat} (hM : InvM A) (ht : t < 6) (hR : RC I A) (hk : 0 ≤ A 38 0 t) (e : A 42 0 t = nI n) (hn : n ≤ 400) {f l : Nat} (hfl : f ≤ l) (hl : l < 24) (ef : mBeg A t = nI f) (el : mEnd A t = nI l) :
    (mnN (sp A t ((n + 9) / 10) (l - f) f) 0 ((n + 9) / 10) = EE ∧ ∃ J, f_X2_place t I = rI (-1) J ∧ lch I J) ∨
    (mnN (sp A t ((n + 9) / 10) (l - f) f) 0 ((n + 9) / 10) < EE ∧ ∃ J, f_X2_place t I = rI (nI (mnN (sp A t ((n + 9) / 10) (l - f) f) 0 ((n + 9) / 10))) J ∧ (∀ g, g ≠ 7 → g ≠ 10 → g ≠ 18 → g ≠ 19 → g ≠ 20 → J g = I g) ∧ (∀ u, u ≠ t → J 7 u = I 7 u ∧ J 10 u = I 10 u) ∧ (∀ c, c ≠ 1 → J 7 t c = I 7 t c) ∧ J 7 t 1 = 1 ∧ (∀ j, j ≤ l - f → J 10 t (f + j) = nI (frP A t ((n + 9) / 10) (l - f) f j)) ∧ J 10 t (l + 1) = nI (frP A t ((n + 9) / 10) (l - f) f (l - f)) + A 35 0 l) := by
  have hT := hR.2.1 t ht
  obtain ⟨q1, q2, q3⟩ := hT.2.2.1 hk
  rw [ef] at q2
  rw [el] at q3
  have hF : (n + 9) / 10 ≤ 40 := by omega
  have e7 : I 7 t 6 = nI n := by rw [hT.2.2.2.2.1, e]
  generalize hFF : (n + 9) / 10 = F at hF ⊢
  have lev : ∀ (d x fuel : Nat) (J : Mem), x + d = F → d < fuel → lch I J → (∀ y, y < x → J 18 0 y = mLv A t y) → ∃ J', f_X2_place_p13 fuel t (nI F) (nI x) J = f_X2_place_p49 FU t (nI F - 1) (nI l) J' ∧ lch I J' ∧ ∀ y, y < F → J' 18 0 y = mLv A t y := by
    intro d
    induction d with
    | zero =>
      intro x fuel J hx hfu hc h18
      obtain ⟨fu, rfl⟩ : ∃ fu, fuel = fu + 1 := ⟨fuel - 1, by omega⟩
      have : x = F := by omega
      subst this
      exact ⟨J, by rw [f_X2_place_p13, if_pos ((nI_leI (by omega) (by omega)).mpr (Nat.le_refl _)), hc 7 (by decide) (by decide) (by decide), q3], hc, h18⟩
    | succ d ih =>
      intro x fuel J hx hfu hc h18
      obtain ⟨fu, rfl⟩ : ∃ fu, fuel = fu + 1 := ⟨fuel - 1, by omega⟩
      have hTJ : rcT J A t := by
        unfold rcT
        rw [hc 7 (by decide) (by decide) (by decide), hc 8 (by decide) (by decide) (by decide), hc 9 (by decide) (by decide) (by decide), hc 10 (by decide) (by decide) (by decide), hc 11 (by decide) (by decide) (by decide)]
        exact hT
      have eL : mLvI A t (nI x) = mLv A t x := by
        unfold mLvI
        rw [if_neg (nI_nneg (by omega)), nI_clamp (by omega)]
      obtain ⟨J', e', p1, p2⟩ := ih (x + 1) fu (mup J 18 0 x (mLv A t x)) (by omega) (by omega) (fun g h1 h2 h3 => by rw [mup_g h1]; exact hc g h1 h2 h3) (fun y hy => by
        rw [mup_0]
        by_cases hyx : y = x
        · rw [if_pos hyx, hyx]
        · rw [if_neg hyx]; exact h18 y (by omega))
      refine ⟨J', ?_, p1, p2⟩
      rw [f_X2_place_p13, if_neg (by rw [nI_leI (by omega) (by omega)]; omega), c_levelAt hTJ e hn, cI_r, ix_nI (by omega) (by decide), eL, nI_1]
      exact e'
  obtain ⟨J0, l1, l2, l3⟩ := lev F 0 FU I (by omega) (by rw [FU_v]; omega) (fun _ _ _ _ => rfl) (fun y hy => by omega)
  obtain ⟨J1, t1, t2, t3⟩ := c_tab hM ht hF hk hT hR.1 hfl hl q2 q3 (l + 1 - f) (l + 1) FU J0 (by omega) (by rw [FU_v]; omega) (Nat.le_refl _) l2 l3 (fun b' h1 h2 => by omega)
  have st : f_X2_place t I = f_X2_place_p49 FU t (nI F - nI (l + 2 - (l + 1))) (nI (l + 1) - 1) J0 := by
    unfold f_X2_place f_J9_min_7cf53
    rw [c_frameCount e7 hn, cI_r, hFF]
    have hmin : ¬ (40 : Int32) < nI F := fun z => by
      have := (nI_ltI (a := 40) (by omega) (by omega)).mp z
      omega
    rw [if_neg hmin, cI_r, show (0 : Int32) = nI 0 from rfl, l1, mM1 (n := l + 1) (by omega), Nat.add_sub_cancel, show l + 2 - (l + 1) = 1 by omega]
    rfl
  rw [t3] at st
  rw [show l + 1 - f = l - f + 1 by omega, c_leastStart hM ht hF (show f + (l - f) < 24 by omega) (t2 f (Nat.le_refl _) hfl), cI_r] at st
  by_cases hE : mnN (sp A t F (l - f) f) 0 F = EE
  · left
    rw [if_pos hE, if_neg (by decide)] at st
    exact ⟨hE, J1, st, t1⟩
  · right
    have hlt : mnN (sp A t F (l - f) f) 0 F < EE := by have := mn_le (sp A t F (l - f) f) 0 F; omega
    obtain ⟨o1, o2, o3, o4⟩ := fi_ok _ _ _ hlt
    rw [if_neg hE, if_pos (nI_pos' (by omega))] at st
    obtain ⟨J', w0, w1, w2, w3, w4, w5, w6⟩ := c_write (k := l - f) (J := J1) hF (by omega) (by rw [t1 7 (by decide) (by decide) (by decide)]; exact q2) (by rw [t1 7 (by decide) (by decide) (by decide), show f + (l - f) = l by omega]; exact q3) (fun b' h1 h2 => by rw [show f + (l - f) - b' = l - b' by omega]; exact t2 b' h1 (by omega)) (frP_ok hlt) (by rw [t1 3 (by decide) (by decide) (by decide)]; exact (hR.1.2 _ (by omega)).2.1) (frP_go hlt) (l - f + 1) 0 FU J1 (nI (fiN (sp A t F (l - f) f) 0 F)) (by omega) (by rw [FU_v]; omega) (fun _ => rfl) (fun _ _ => rfl) (fun _ _ => rfl) (fun j hj => by omega)
    have wr : f_X2_write t (nI (fiN (sp A t F (l - f) f) 0 F)) J1 = rV J' := by
      unfold f_X2_write
      rw [t1 7 (by decide) (by decide) (by decide), q2]
      exact w0
    have g0 := frP_go hlt 0 (by omega)
    rw [frP] at g0
    rw [wr, cV_r, w3 3 (by decide), t1 7 (by decide) (by decide) (by decide), q2, mul40, nI_add, ix_nI (by omega) (by decide), w1 19 (by decide) (by decide), (t2 f (Nat.le_refl _) hfl _ (by omega) (by omega)).1, o3, enc_n (by omega)] at st
    refine ⟨hlt, J', st, fun g h1 h2 h3 h4 h5 => by rw [w1 g h1 h2, t1 g h3 h4 h5], fun u hu => ?_, fun c hc => by rw [w3 c hc, t1 7 (by decide) (by decide) (by decide)], w4, w5, ?_⟩
    · rw [(w2 u hu).1, (w2 u hu).2, t1 7 (by decide) (by decide) (by decide), t1 10 (by decide) (by decide) (by decide)]
      exact ⟨rfl, rfl⟩
    · rw [show f + (l - f) + 1 = l + 1 by omega, show f + (l - f) = l by omega] at w6
      exact w6
