theorem m_made {I A : Mem} (hR : RC I A) (hM : InvM A) (h1 : A 33 0 19 = 1) : ∃ B n p X, 1 ≤ n ∧ n ≤ 24 ∧ B ≤ 24 ∧ A 33 0 0 = nI B ∧ wayOk A B ∧ rowsOk A B n p ∧ I 27 0 6 = nI n ∧ I 27 0 7 = nI (moN A n p n) ∧ f_X8_make A = rV X ∧ kM A X ∧ X 33 0 41 = nI (moN A n p n) ∧ moN A n p n ≤ 9600 ∧ (∀ r', r' < n → ∀ j, j < szN A n p r' → mkE A X (moN A n p r' + j) (rwT A p r') (p r') (rwHd A p r') (rwS A p r') (loN A p r' + j)) ∧ (∀ r, r < n → I 30 r 0 = A 48 0 (p r) ∧ I 30 r 1 = nI (p r) ∧ I 30 r 2 = rwHd A p r ∧ (0 < r → I 30 r 3 = 10 * mFr A (rwH A p r) (p r)) ∧ I 30 r 4 = rwS A p r ∧ I 30 r 5 = rwL A p r ∧ I 30 r 6 = rwU A n p r ∧ I 30 r 7 = rwM A n p r) ∧ InvM X ∧ RC I X ∧ keepM A X := by
  obtain ⟨B, ⟨hB1, hB, eB⟩, -, -, -, hw⟩ := hM.1
  have eBn : (A 33 0 0).toNatClampNeg = B := by rw [eB, nI_clamp (by omega)]
  have hw' : wayOk A B := by
    rcases hw with z | z
    · rw [h1] at z; exact absurd z (by decide)
    · exact z.2
  obtain ⟨-, n, p, hn1, hn, hrows, s6, s7, s8⟩ := hR.2.2.2.2.1.2 h1
  rw [eBn] at hrows
  have k0 : kM A (mup A 33 0 41 0) := ⟨fun g _ h => mup_g h, fun k hk => by rw [mup_0, if_neg hk]⟩
  obtain ⟨X, e, q1, q2, q3⟩ := m_make7 hM hB eB hw' hrows hn n 0 FU (mup A 33 0 41 0) (by omega) (by rw [FU_v]; omega) k0 (by rw [mup_at]; rfl) (fun r' hr' => by omega)
  refine ⟨B, n, p, X, hn1, hn, hB, eB, hw', hrows, s6, by rw [s7, rwM_t hM hB hw' hrows n (Nat.le_refl _)], ?_, q1, q2, by have := mo_le hM hw' hrows n (Nat.le_refl _); omega, q3, s8, kM_M q1 hM, RC_scrM hR (kM_K q1) (q1.1 50 (by decide) (by decide)) (q1.1 49 (by decide) (by decide)) (q1.2 22 (by decide)), fun g hg => (q1.1 g (by omega) (by omega)).symm⟩
  unfold f_X8_make
  rw [hrows.1] at e
  exact e
theorem op_made : opA f_X7_made f_X8_made := by
  intro I A hR hM
  obtain ⟨p1, -⟩ := hR.2.2.2.2.1
  by_cases h0 : A 33 0 19 = 0
  · refine op_ref (c := -1000006) 5 (by decide) hR hM ?_ ?_
    · unfold f_X8_made
      rw [if_pos h0]; rfl
    · unfold f_X7_made
      rw [p1, if_pos h0]; rfl
  · have h1 : A 33 0 19 = 1 := by
      obtain ⟨B, -, -, -, -, hw⟩ := hM.1
      rcases hw with z | z
      · exact absurd z h0
      · exact z.1
    obtain ⟨B, n, p, X, -, -, -, -, -, -, -, s7, e, -, q2, -, -, -, mx, rx, kx⟩ := m_made hR hM h1
    refine ⟨nI (moN A n p n), I, X, ?_, mx, kx, ?_, rx, agr_rf⟩
    · unfold f_X8_made
      rw [if_neg h0, e, cV_r, q2]
    · unfold f_X7_made
      rw [p1, if_neg h0, s7]
