/-- where a sample that is made comes from, on both sides -/
theorem both_at {I A : Mem} (hR : RC I A) (hM : InvM A) (h1 : A 33 0 19 = 1) : ∃ N X, f_X8_make A = rV X ∧ X 33 0 41 = nI N ∧ I 27 0 7 = nI N ∧ N ≤ 9600 ∧ InvM X ∧ RC I X ∧ keepM A X ∧ ∀ i, i < N → ∃ r T b x H S, f_X3_stretchOf (nI i) I = rA 30 r I ∧ I 30 r 0 = nI T ∧ I 30 r 1 = nI b ∧ T < 6 ∧ b < 24 ∧ f_X5_indexOf r (nI i) I = rI (nI x) I ∧ f_X3_isInRamp r (nI i) I = rI (bi (mkR A H S (nI x))) I ∧ f_X3_soundOf r (nI i) I = rI (mkV A T b H S (nI x)) I ∧ mkE A X i T b H S x := by
  obtain ⟨B, n, p, X, hn1, hn, hB, eB, hw, hrows, s6, s7, e, q1, q2, q3, q4, mx, rx, kx⟩ := m_made hR hM h1
  have eBn : (A 33 0 0).toNatClampNeg = B := by rw [eB, nI_clamp (by omega)]
  sorry
