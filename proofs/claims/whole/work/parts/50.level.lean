theorem c_lvl {I A : Mem} {t n f : Nat} (h : rcT I A t) (e : A 42 0 t = nI n) (hn : n ≤ 400) (hf : 10 * f < n) : ∀ (d k fuel : Nat), k + d = frN A t f → d < fuel → f_X6_levelAt_p46 fuel t (nI (10 * f)) (nI (10 * f + frN A t f)) (sqs (fun i => A 43 0 (400 * t + 10 * f + i)) k) (nI (10 * f + k)) I = rI (mLv A t f) I := by
  have hN : frN A t f = min 10 (n - 10 * f) := by unfold frN; rw [e, nI_clamp (by omega)]
  intro d
  induction d with
  | zero =>
    intro k fuel hk hfu
    obtain ⟨fu, rfl⟩ : ∃ fu, fuel = fu + 1 := ⟨fuel - 1, by omega⟩
    have hkN : k = frN A t f := by omega
    have hk0 : 0 < k := by omega
    rw [f_X6_levelAt_p46, ← hkN, if_pos (nI_le (Nat.le_refl _) (by omega)), if_neg (nI_ge (by omega) (by omega)), pk_sub (by omega), show 10 * f + k - 10 * f = k by omega, if_neg (nI_ne0 hk0 (by omega)), mLv, e, nI_clamp (by omega), if_pos hf, ← hkN]
  | succ d ih =>
    intro k fuel hk hfu
    obtain ⟨fu, rfl⟩ : ∃ fu, fuel = fu + 1 := ⟨fuel - 1, by omega⟩
    rw [f_X6_levelAt_p46, if_neg (nI_ge (by omega) (by omega)), ix_nI (by omega) (by decide), ix_nI (by omega) (by decide), nI_1]
    have e4 := h.2.2.2.2.2.1 (10 * f + k) (by omega)
    rw [e4, show 400 * t + (10 * f + k) = 400 * t + 10 * f + k by omega]
    exact ih (k + 1) fu (by omega) (by omega)
theorem c_levelAt {I A : Mem} {t n : Nat} (h : rcT I A t) (e : A 42 0 t = nI n) (hn : n ≤ 400) (x : Int32) : f_X6_levelAt t x I = rI (mLvI A t x) I := by
  unfold f_X6_levelAt mLvI
  have e2 : I 7 t 6 = nI n := h.2.2.2.2.1.trans e
  by_cases h0 : x < 0
  · rw [if_pos h0, if_pos h0]
  · rw [if_neg h0, if_neg h0]
    obtain ⟨f, hf, rfl⟩ := nI_of h0
    rw [nI_clamp hf]
    by_cases q40 : f < 40
    · rw [if_pos (show nI f < 40 from nI_lt q40 (by decide)), e2]
      have e10 : nI f * 10 = nI (10 * f) := by
        have : nI f * 10 = nI (f * 10) := pk_mul f 10
        rw [this, Nat.mul_comm]
      have e11 : nI (10 * f) + 10 = nI (10 * f + 10) := nI_add _ 10
      rw [e10, e11]
      by_cases q : 10 * f < n
      · have hN : frN A t f = min 10 (n - 10 * f) := by unfold frN; rw [e, nI_clamp (by omega)]
        have key := c_lvl h e hn q (frN A t f) 0 FU (by omega) (by
          have : frN A t f ≤ 10 := Nat.min_le_left _ _
          show frN A t f < 20000
          omega)
        by_cases q2 : n ≤ 10 * f + 10
        · rw [if_pos (nI_le q2 (by omega))]
          rw [show 10 * f + frN A t f = n by omega] at key
          exact key
        · rw [if_neg (nI_ge (by omega) (by omega))]
          rw [show 10 * f + frN A t f = 10 * f + 10 by omega] at key
          exact key
      · rw [if_pos (nI_le (by omega) (by omega)), FU_s 0, f_X6_levelAt_p46, if_pos (nI_le (by omega) (by omega)), if_pos (nI_le (by omega) (by omega)), mLv, e, nI_clamp (by omega), if_neg q]
    · rw [if_neg (show ¬ nI f < 40 from nI_nlt (b := 40) (by omega) hf), mLv, e, nI_clamp (by omega), if_neg (by omega)]
theorem op_level (a c : Int32) : opA (f_X7_level a c) (f_X8_level a c) := by
  intro I A hR hM
  rcases tk_cases a with ⟨t, ht, rfl⟩ | ha
  · have hT := hR.2.1 t ht
    by_cases hk : 0 ≤ A 38 0 t
    · obtain ⟨n, hn, e⟩ := cnt_at hM ht
      have e2 : I 7 t 6 = nI n := hT.2.2.2.2.1.trans e
      by_cases hd : (0 ≤ c ∧ c ≤ nI ((n + 9) / 10) - 1)
      · refine op_same hR hM (c := mLvI A t c) ?_ ?_
        · unfold f_X8_level
          rw [look_t ht hk, cI_r, if_neg (by decide), m_frameMany ht e hn, cI_r, m_in, cI_r, bi_ite, if_pos hd, m_levelOf ht e hn, cI_r]
        · unfold f_X7_level
          rw [ask_t ht hT hk, cI_r, if_pos rfl, ix6 ht, c_frameCount e2 hn, cI_r, c_within, cI_r, bi_ite, if_pos hd, ix6 ht, c_levelAt hT e hn, cI_r]
      · refine op_ref (c := -1000001) 0 (by decide) hR hM ?_ ?_
        · unfold f_X8_level
          rw [look_t ht hk, cI_r, if_neg (by decide), m_frameMany ht e hn, cI_r, m_in, cI_r, bi_ite, if_neg hd]; rfl
        · unfold f_X7_level
          rw [ask_t ht hT hk, cI_r, if_pos rfl, ix6 ht, c_frameCount e2 hn, cI_r, c_within, cI_r, bi_ite, if_neg hd]; rfl
    · refine op_ref (c := -1000002) 1 (by decide) hR hM ?_ ?_
      · unfold f_X8_level
        rw [look_f ht hk]; rfl
      · unfold f_X7_level
        rw [ask_f ht hT hk]; rfl
  · refine op_ref (c := -1000001) 0 (by decide) hR hM ?_ ?_
    · unfold f_X8_level
      rw [m_look_no ha]; rfl
    · unfold f_X7_level
      rw [c_askTake_no ha]; rfl
