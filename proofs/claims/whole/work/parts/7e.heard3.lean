theorem c_sound {I A : Mem} {t : Nat} (hM : InvM A) (hR : rcT I A t) (ht : t < 6) (x : Int32) : f_X6_soundAt t x I = rI (mSam A t x) I := by
  obtain ⟨n, hn, en⟩ := cnt_at hM ht
  obtain ⟨-, -, -, -, r5, r6, -⟩ := hR
  have z0 : (0 : Int32).toInt = 0 := by decide
  have zn : (nI n).toInt = n := nI_toInt (by omega)
  have z1 : (nI n - 1).toInt = (n : Int) - 1 := by
    rw [sub_t (by rw [zn]; simp; omega) (by rw [zn]; simp; omega), zn]; rfl
  unfold f_X6_soundAt mSam
  rw [r5, en]
  by_cases h0 : x < 0
  · rw [if_pos h0, if_neg (by rintro ⟨w, -⟩; rw [le_i] at w; rw [lt_i] at h0; omega)]
  · rw [if_neg h0]
    by_cases h1 : nI n ≤ x
    · rw [if_pos h1, if_neg (by rintro ⟨-, w⟩; rw [le_i, z1] at w; rw [le_i, zn] at h1; omega)]
    · rw [if_neg h1]
      have hx0 : 0 ≤ x.toInt := by rw [lt_i] at h0; omega
      have hx1 : x.toInt < n := by rw [le_i, zn] at h1; omega
      rw [if_pos ⟨by rw [le_i]; omega, by rw [le_i, z1]; omega⟩]
      obtain ⟨k, hk, ek⟩ : ∃ k : Nat, k < n ∧ x = nI k := nI_of_rg hx0 hx1
      rw [ek, ix_nI (by omega) (by decide), nI_clamp (by omega), r6 k (by omega)]
/-- where a sample that is made comes from, on both sides -/
theorem both_at {I A : Mem} (hR : RC I A) (hM : InvM A) (h1 : A 33 0 19 = 1) : ∃ N X, f_X8_make A = rV X ∧ X 33 0 41 = nI N ∧ I 27 0 7 = nI N ∧ N ≤ 9600 ∧ InvM X ∧ RC I X ∧ keepM A X ∧ ∀ i, i < N → ∃ r T b x H S, f_X3_stretchOf (nI i) I = rA 30 r I ∧ I 30 r 0 = nI T ∧ I 30 r 1 = nI b ∧ f_X5_indexOf r (nI i) I = rI (nI x) I ∧ f_X3_isInRamp r (nI i) I = rI (bi (mkR A H S (nI x))) I ∧ f_X3_soundOf r (nI i) I = rI (mkV A T b H S (nI x)) I ∧ mkE A X i T b H S x := by
  obtain ⟨B, n, p, X, hn1, hn, hB, eB, hw, hrows, s6, s7, e, q1, q2, q3, q4, s8, mx, rx, kx⟩ := m_made hR hM h1
  refine ⟨_, X, e, q2, s7, q3, mx, rx, kx, fun i hi => ?_⟩
  obtain ⟨r, hr, m1, m2, e3⟩ := c_str hM hB hw hrows hn1 hn s6 (fun r hr => ⟨(s8 r hr).2.2.2.2.2.1, (s8 r hr).2.2.2.2.2.2.1, (s8 r hr).2.2.2.2.2.2.2⟩) hi q3 (n - 1) 0 FU (by omega) (by rw [FU_v]; omega) (Nat.zero_le _)
  obtain ⟨u0, u1, u2, u3, u4, u5, u6, u7⟩ := s8 r hr
  have hlt := hrows.2.2.1 r hr
  obtain ⟨w1, w2, w3⟩ := way_at hw hrows hr (p r) (Nat.le_refl _) hlt
  have ei := c_index hM hB hw hrows hr u5 u7 m1
  have er := c_ramp hR.2.2.1 u2 u4 ei
  have em := q4 r hr (i - moN A n p r) (by omega)
  rw [show moN A n p r + (i - moN A n p r) = i by omega] at em
  refine ⟨r, rwT A p r, p r, _, _, _, e3, by rw [u0, w1], u1, ei, er, ?_, em⟩
  unfold f_X3_soundOf mkV
  rw [ei, cI_r, u0, w1, ix_nI w2 (by decide), c_sound hM (hR.2.1 _ w2) w2, cI_r, er, cI_r]
  by_cases hk : mkR A (rwHd A p r) (rwS A p r) (nI (loN A p r + (i - moN A n p r)))
  · have hr0 : 0 < r := by
      rcases Nat.eq_zero_or_pos r with z | z
      · subst z
        exact absurd hk.1 (by unfold rwHd; rw [if_pos rfl]; decide)
      · exact z
    obtain ⟨r', rfl⟩ : ∃ r', r = r' + 1 := ⟨r - 1, by omega⟩
    have hlt' := hrows.2.2.1 r' (by omega)
    obtain ⟨y1, y2, y3⟩ := way_at hw hrows (r := r') (by omega) (p (r' + 1) - 1) (by omega) (by omega)
    have eh : rwHd A p (r' + 1) = nI (rwT A p r') := by unfold rwHd; rw [if_neg (by omega), y1]
    have eH : rwH A p (r' + 1) = rwT A p r' := by unfold rwH; rw [y1, nI_clamp (by omega)]
    obtain ⟨-, -, -, rr, -⟩ := hM.1
    rw [bi_t hk, if_neg (by decide), if_pos hk, u2, eh, ix_nI y2 (by decide), u3 hr0, u4, eH, c_sound hM (hR.2.1 _ y2) y2, cI_r, hR.2.2.1.2.2.2, nI_clamp (by omega), fdv_t, cI_r]
    sorry
  · rw [bi_f hk, if_pos rfl, if_neg hk]
