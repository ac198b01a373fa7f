theorem sq_nn (a : Int) : 0 ≤ a * a := by
  rw [← Int.natAbs_mul_self]
  omega
theorem dot_nn (x : Nat → Int32) : ∀ n, 0 ≤ dotI x x n := by
  intro n
  induction n with
  | zero => exact Int.le_refl _
  | succ n ih =>
    rw [dotI]
    have := sq_nn (x n).toInt
    omega
theorem lv_rg {A : Mem} {t : Nat} (hM : InvM A) (ht : t < 6) (f : Nat) : rg 0 10000 (mLv A t f) := by
  obtain ⟨n, hn, e⟩ := cnt_at hM ht
  obtain ⟨B, -, -, hk, -⟩ := hM.1
  unfold mLv frN
  rw [e, nI_clamp (by omega)]
  by_cases h : 10 * f < n
  · rw [if_pos h]
    have hm : 1 ≤ min 10 (n - 10 * f) := by omega
    have hm2 : min 10 (n - 10 * f) ≤ 10 := by omega
    have hm3 : min 10 (n - 10 * f) ≤ n - 10 * f := by omega
    generalize min 10 (n - 10 * f) = m at hm hm2 hm3
    have r : ∀ i, i < m → rg (-100) 100 (A 43 0 (400 * t + 10 * f + i)) := fun i hi => by
      have := (hk t ht).2.2.2.2.1 (10 * f + i) (by omega)
      rw [← Nat.add_assoc] at this
      exact this
    have d1 := dot_t (x := fun i => A 43 0 (400 * t + 10 * f + i)) m (by omega) r r
    have d2 := dot_rg (x := fun i => A 43 0 (400 * t + 10 * f + i)) m r r
    have d3 := dot_nn (fun i => A 43 0 (400 * t + 10 * f + i)) m
    rw [sqs_dot]
    unfold rg
    rw [Int32.toInt_div, d1, nIt (by omega)]
    generalize dotI (fun i => A 43 0 (400 * t + 10 * f + i)) (fun i => A 43 0 (400 * t + 10 * f + i)) m = x at d2 d3
    rw [Int.tdiv_eq_ediv_of_nonneg d3]
    have u1 : 0 ≤ x / (m : Int) := Int.ediv_nonneg d3 (by omega)
    have u2 : x / (m : Int) ≤ 10000 := Int.le_of_lt_add_one (Int.ediv_lt_of_lt_mul (by omega) (by
      rw [Int.add_mul]
      omega))
    rw [bm32 (by omega) (by omega)]
    exact ⟨u1, u2⟩
  · rw [if_neg h]
    exact ⟨by decide, by decide⟩
theorem lvI_rg {A : Mem} {t : Nat} (hM : InvM A) (ht : t < 6) (f : Int32) : rg 0 10000 (mLvI A t f) := by
  unfold mLvI
  split
  · exact ⟨by decide, by decide⟩
  · exact lv_rg hM ht _
theorem rg_w {a b c d : Int} {x : Int32} (h : rg a b x) (h1 : c ≤ a) (h2 : b ≤ d) : rg c d x := ⟨Int.le_trans h1 h.1, Int.le_trans h.2 h2⟩
theorem cell_ix {s t b : Nat} : (nI b * 6 + nI s) * 6 + nI t = nI ((b * 6 + s) * 6 + t) := by
  have m6 : ∀ n : Nat, nI n * 6 = nI (n * 6) := fun n => pk_mul n 6
  rw [m6, nI_add, m6, nI_add]
/-- the scan over the shifts -/
theorem c_scan {A J : Mem} {s t b w D : Nat} {S0 : Int32} (hM : InvM A) (hs : s < 6) (ht : t < 6) (hb : b < 24) (hj : jOk A s t b) (hTs : rcT J A s) (hTt : rcT J A t)
    (hw : w ≤ 20) (h1w : 1 ≤ w) (hD : D ≤ 9) (e1 : J 12 0 1 = nI w) (e2 : J 12 0 2 = nI D) (hS : S0 = sqs (fun i => J 13 0 i) (2 * w))
    (hL : ∀ k, k ≤ 2 * D → cLk (fun i => J 13 0 i) (fun i => J 14 0 (i + k)) (2 * w) = mLk A s t b (Int32.ofInt ((k : Int) - D))) :
    ∀ (d k fuel : Nat) (z : Int), k + d = 2 * D → d < fuel → -(D : Int) ≤ z → z ≤ (k : Int) - D → (∀ e : Int, -(D : Int) ≤ e → e ≤ (k : Int) - D → bet (fun z => mLk A s t b (Int32.ofInt z)) z e) →
    ∃ y : Int, -(D : Int) ≤ y ∧ y ≤ D ∧ (∀ e : Int, -(D : Int) ≤ e → e ≤ D → bet (fun z => mLk A s t b (Int32.ofInt z)) y e) ∧
      f_X1_measure_p120 fuel (nI s) (nI t) (nI b) S0 (sqs (fun i => J 14 0 (i + k)) (2 * w)) (Int32.ofInt z) (mLk A s t b (Int32.ofInt z)) (nI (k + 1)) J
        = rV (mup (mup J 15 0 ((b * 6 + s) * 6 + t) (Int32.ofInt y)) 16 0 ((b * 6 + s) * 6 + t) (1000 - mLk A s t b (Int32.ofInt y) + apt (mLvI A s (mFr A s b)) (mLvI A t (mFr A t b)))) := by
  obtain ⟨ns, hns, es⟩ := cnt_at hM hs
  obtain ⟨nt, hnt, et⟩ := cnt_at hM ht
  intro d
  induction d with
  | zero =>
    intro k fuel z hk hf hz1 hz2 hz
    obtain ⟨fu, rfl⟩ : ∃ fu, fuel = fu + 1 := ⟨fuel - 1, by omega⟩
    have : k = 2 * D := by omega
    subst this
    refine ⟨z, hz1, by omega, fun e h1 h2 => hz e h1 (by omega), ?_⟩
    rw [f_X1_measure_p120, e2, mul2, if_pos ((nI_ltI (by omega) (by omega)).mpr (by omega)), ix6 hs, ix6 hs, c_frameAt hTs hj.2.2.1 (by omega) (jOk_s hj), cI_r, c_levelAt hTs es hns, cI_r, ix6 ht, ix6 ht, c_frameAt hTt hj.2.2.2.1 (by omega) (Or.inl hj.2.2.2.2.1), cI_r, c_levelAt hTt et hnt, cI_r, abs_t, cI_r]
    unfold f_X1_cellOf
    rw [cI_r, cell_ix, ix_nI (by omega) (by decide), cI_r, ix_nI (by omega) (by decide), abs_apt (rg_w (lvI_rg hM hs _) (by decide) (by decide)) (rg_w (lvI_rg hM ht _) (by decide) (by decide))]
  | succ d ih =>
    intro k fuel z hk hf hz1 hz2 hz
    obtain ⟨fu, rfl⟩ : ∃ fu, fuel = fu + 1 := ⟨fuel - 1, by omega⟩
    have hS1 : sqs (fun i => J 14 0 (i + k)) (2 * w) + (J 14 0 (k + 2 * w) * J 14 0 (k + 2 * w) - J 14 0 k * J 14 0 k) = sqs (fun i => J 14 0 (i + (k + 1))) (2 * w) := (sqs_slide (fun i => J 14 0 i) k (2 * w)).symm
    have hlk := hL (k + 1) (by omega)
    unfold cLk at hlk
    have ab : ∀ x : Int, -9 ≤ x → x ≤ 9 → (if 0 ≤ Int32.ofInt x then Int32.ofInt x else -Int32.ofInt x).toInt = x.natAbs := fun x h1 h2 => by
      rw [abs_n ⟨by rw [ofI_t (by omega) (by omega)]; omega, by rw [ofI_t (by omega) (by omega)]; omega⟩, ofI_t (by omega) (by omega)]
    rw [f_X1_measure_p120, e2, mul2, if_neg (by rw [nI_ltI (by omega) (by omega)]; omega), mM1 (by omega), Nat.add_sub_cancel, ix_nI (by omega) (by decide), e1, mul2, nI_add, mM1 (by omega), show k + 1 + 2 * w - 1 = k + 2 * w by omega, ix_nI (by omega) (by decide), hS1, c_liken e1 hw (by omega), cI_r, hS, hlk, e2, ofI_sub (by omega) (by omega)]
    have keep : (∀ e : Int, -(D : Int) ≤ e → e ≤ ((k + 1 : Nat) : Int) - D → bet (fun z => mLk A s t b (Int32.ofInt z)) z e) → ∃ y : Int, -(D : Int) ≤ y ∧ y ≤ D ∧ (∀ e : Int, -(D : Int) ≤ e → e ≤ D → bet (fun z => mLk A s t b (Int32.ofInt z)) y e) ∧
      f_X1_measure_p120 fu (nI s) (nI t) (nI b) (sqs (fun i => J 13 0 i) (2 * w)) (sqs (fun i => J 14 0 (i + (k + 1))) (2 * w)) (Int32.ofInt z) (mLk A s t b (Int32.ofInt z)) (nI (k + 1) + 1) J
        = rV (mup (mup J 15 0 ((b * 6 + s) * 6 + t) (Int32.ofInt y)) 16 0 ((b * 6 + s) * 6 + t) (1000 - mLk A s t b (Int32.ofInt y) + apt (mLvI A s (mFr A s b)) (mLvI A t (mFr A t b)))) := fun hbet => by
      obtain ⟨y, y1, y2, y3, y4⟩ := ih (k + 1) fu z (by omega) (by omega) hz1 (by omega) hbet
      rw [hS] at y4
      exact ⟨y, y1, y2, y3, by rw [nI_1]; exact y4⟩
    have chg : (∀ e : Int, -(D : Int) ≤ e → e ≤ ((k + 1 : Nat) : Int) - D → bet (fun z => mLk A s t b (Int32.ofInt z)) (((k + 1 : Nat) : Int) - D) e) → ∃ y : Int, -(D : Int) ≤ y ∧ y ≤ D ∧ (∀ e : Int, -(D : Int) ≤ e → e ≤ D → bet (fun z => mLk A s t b (Int32.ofInt z)) y e) ∧
      f_X1_measure_p225 (fun a1 a2 a3 a4 a5 a6 a7 a8 I => f_X1_measure_p120 fu a1 a2 a3 a4 a5 a6 a7 a8 I) (nI s) (nI t) (nI b) (sqs (fun i => J 13 0 i) (2 * w)) (sqs (fun i => J 14 0 (i + (k + 1))) (2 * w)) (nI (k + 1)) (mLk A s t b (Int32.ofInt (((k + 1 : Nat) : Int) - D))) (Int32.ofInt (((k + 1 : Nat) : Int) - D)) J
        = rV (mup (mup J 15 0 ((b * 6 + s) * 6 + t) (Int32.ofInt y)) 16 0 ((b * 6 + s) * 6 + t) (1000 - mLk A s t b (Int32.ofInt y) + apt (mLvI A s (mFr A s b)) (mLvI A t (mFr A t b)))) := fun hbet => by
      obtain ⟨y, y1, y2, y3, y4⟩ := ih (k + 1) fu (((k + 1 : Nat) : Int) - D) (by omega) (by omega) (by omega) (by omega) hbet
      rw [hS] at y4
      exact ⟨y, y1, y2, y3, by unfold f_X1_measure_p225; rw [nI_1]; exact y4⟩
    by_cases h1 : mLk A s t b (Int32.ofInt z) < mLk A s t b (Int32.ofInt (((k + 1 : Nat) : Int) - D))
    · rw [if_pos h1]
      refine chg fun e g1 g2 => ?_
      by_cases he : e = ((k + 1 : Nat) : Int) - D
      · subst he
        exact Or.inr ⟨rfl, Or.inr ⟨rfl, by omega⟩⟩
      · have := hz e g1 (by omega)
        rw [lt_i] at h1
        unfold bet at this ⊢
        simp only at this ⊢
        omega
    · rw [if_neg h1]
      by_cases h2 : mLk A s t b (Int32.ofInt (((k + 1 : Nat) : Int) - D)) = mLk A s t b (Int32.ofInt z)
      · rw [if_pos h2, abs_t, cI_r, abs_t, cI_r]
        by_cases h3 : (if 0 ≤ Int32.ofInt z then Int32.ofInt z else -Int32.ofInt z) ≤ (if 0 ≤ Int32.ofInt (((k + 1 : Nat) : Int) - D) then Int32.ofInt (((k + 1 : Nat) : Int) - D) else -Int32.ofInt (((k + 1 : Nat) : Int) - D))
        · rw [if_pos h3]
          rw [le_i, ab z (by omega) (by omega), ab _ (by omega) (by omega)] at h3
          refine keep fun e g1 g2 => ?_
          by_cases he : e = ((k + 1 : Nat) : Int) - D
          · subst he
            unfold bet
            simp only
            rw [h2]
            omega
          · exact hz e g1 (by omega)
        · rw [if_neg h3]
          rw [le_i, ab z (by omega) (by omega), ab _ (by omega) (by omega)] at h3
          refine chg fun e g1 g2 => ?_
          by_cases he : e = ((k + 1 : Nat) : Int) - D
          · subst he
            exact Or.inr ⟨rfl, Or.inr ⟨rfl, by omega⟩⟩
          · have := hz e g1 (by omega)
            unfold bet at this ⊢
            simp only at this ⊢
            rw [h2]
            omega
      · rw [if_neg h2]
        refine keep fun e g1 g2 => ?_
        by_cases he : e = ((k + 1 : Nat) : Int) - D
        · subst he
          rw [lt_i] at h1
          rw [eq_i] at h2
          unfold bet
          simp only
          omega
        · exact hz e g1 (by omega)
