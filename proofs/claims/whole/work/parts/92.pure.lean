theorem law_from (h_best : ∀ a0, opA (f_X7_best a0) (f_X8_best a0)) (h_few : ∀ a0, opA (f_X7_few a0) (f_X8_few_ a0)) (h_joins : opA f_X7_joins f_X8_joins) (h_made : opA f_X7_made f_X8_made) (h_heard : ∀ a0, opA (f_X7_heard a0) (f_X8_heard a0)) (h_from : ∀ a0 a1, opA (f_X7_from a0 a1) (f_X8_from a0 a1))
    (I : Mem) (L : Nat) (hL : L ≤ 3072) (h3 : I 103 0 0 = nI L) (h1 : ∀ j, I 101 0 j = xsa101.getD j 0) (h2 : ∀ j, I 102 0 j = xsa102.getD j 0) : ∃ J, f_L_law I = rI 1 J := by
  obtain ⟨J, e, r, m, j⟩ := start_RC (I := I) ⟨h1, h2⟩
  obtain ⟨Z, ez⟩ := law_loop h_best h_few h_joins h_made h_heard h_from hL 512 0 FU J (by omega) (by omega) (by rw [FU_v]; omega) r m (by rw [j]; exact h3)
  refine ⟨Z, ?_⟩
  unfold f_L_law
  rw [e]
  exact ez
