theorem ramp1 {x : Int32} (h1 : 0 ≤ x.toInt) (h2 : x.toInt ≤ 9) : (x + 1).toInt = x.toInt + 1 := by
  rw [Int32.toInt_add, bm32 (by have : (1 : Int32).toInt = 1 := rfl; omega) (by have : (1 : Int32).toInt = 1 := rfl; omega)]
  rfl
/-- where a sample that is made comes from, on both sides -/
theorem both_at {I A : Mem} (hR : RC I A) (hM : InvM A) (h1 : A 33 0 19 = 1) : ∃ N X, f_X8_make A = rV X ∧ X 33 0 41 = nI N ∧ I 27 0 7 = nI N ∧ N ≤ 9600 ∧ InvM X ∧ RC I X ∧ keepM A X ∧ ∀ i, i < N → ∃ r T b x H S, f_X3_stretchOf (nI i) I = rA 30 r I ∧ I 30 r 0 = nI T ∧ I 30 r 1 = nI b ∧ f_X5_indexOf r (nI i) I = rI (nI x) I ∧ f_X3_isInRamp r (nI i) I = rI (bi (mkR A H S (nI x))) I ∧ f_X3_soundOf r (nI i) I = rI (mkV A T b H S (nI x)) I ∧ mkE A X i T b H S x := by
  obtain ⟨B, n, p, X, hn1, hn, hB, eB, hw, hrows, s6, s7, e, q1, q2, q3, q4, s8, mx, rx, kx⟩ := m_made hR hM h1
  refine ⟨_, X, e, q2, s7, q3, mx, rx, kx, fun i hi => ?_⟩
  obtain ⟨r, hr, m1, m2, e3⟩ := c_str hM hB hw hrows hn1 hn s6 (fun r hr => ⟨(s8 r hr).2.2.2.2.2.1, (s8 r hr).2.2.2.2.2.2.1, (s8 r hr).2.2.2.2.2.2.2⟩) hi q3 (n - 1) 0 FU (by omega) (by rw [FU_v]; omega) (Nat.zero_le _)
  obtain ⟨u0, u1, u2, u3, u4, u5, u6, u7⟩ := s8 r hr
  have hlt := hrows.2.2.1 r hr
  obtain ⟨w1, w2, w3⟩ := way_at hw hrows hr (p r) (Nat.le_refl _) hlt
  have ei := c_index hM hB hw hrows hr u5 u7 m1
  have er := c_ramp hR.2.2.1 u2 u4 ei
  have em := q4 r hr (i - moN A n p r) (by omega)
  rw [show moN A n p r + (i - moN A n p r) = i by omega] at em
  refine ⟨r, rwT A p r, p r, _, _, _, e3, by rw [u0, w1], u1, ei, er, ?_, em⟩
  obtain ⟨nc, hc, ec⟩ := cnt_at hM w2
  unfold f_X3_soundOf mkV
  rw [ei, cI_r, u0, w1, ix_nI w2 (by decide), c_sound (hR.2.1 _ w2) ec hc, cI_r, er, cI_r]
  by_cases hk : mkR A (rwHd A p r) (rwS A p r) (nI (loN A p r + (i - moN A n p r)))
  · have hr0 : 0 < r := by
      rcases Nat.eq_zero_or_pos r with z | z
      · subst z
        exact absurd hk.1 (by unfold rwHd; rw [if_pos rfl]; decide)
      · exact z
    obtain ⟨r', rfl⟩ : ∃ r', r = r' + 1 := ⟨r - 1, by omega⟩
    have hlt' := hrows.2.2.1 r' (by omega)
    obtain ⟨y1, y2, y3⟩ := way_at hw hrows (r := r') (by omega) (p (r' + 1) - 1) (by omega) (by omega)
    have eh : rwHd A p (r' + 1) = nI (rwT A p r') := by unfold rwHd; rw [if_neg (by omega), y1]
    have eH : rwH A p (r' + 1) = rwT A p r' := by unfold rwH; rw [y1, nI_clamp (by omega)]
    obtain ⟨nd, hd, ed⟩ := cnt_at hM y2
    obtain ⟨B', -, -, -, ⟨-, -, -, rr1, rr2⟩, -⟩ := hM.1
    rw [bi_t hk, if_neg (by decide), if_pos hk, u2, eh, ix_nI y2 (by decide), u3 hr0, u4, eH, c_sound (hR.2.1 _ y2) ed hd, cI_r, hR.2.2.1.2.2.2, nI_clamp (by omega), fdv_t, cI_r]
    intro z
    have := congrArg Int32.toInt z
    rw [ramp1 rr1 rr2] at this
    have e0 : (0 : Int32).toInt = 0 := by decide
    omega
  · rw [bi_f hk, if_pos rfl, if_neg hk]
theorem op_heard (a : Int32) : opA (f_X7_heard a) (f_X8_heard a) := by
  intro I A hR hM
  obtain ⟨p1, -⟩ := hR.2.2.2.2.1
  by_cases h0 : A 33 0 19 = 0
  · refine op_ref (c := -1000006) 5 (by decide) hR hM ?_ ?_
    · unfold f_X8_heard
      rw [if_pos h0]; rfl
    · unfold f_X7_heard
      rw [p1, if_pos h0]; rfl
  · have h1 : A 33 0 19 = 1 := by
      obtain ⟨B, -, -, -, -, hw⟩ := hM.1
      rcases hw with z | z
      · exact absurd z h0
      · exact z.1
    obtain ⟨N, X, e, q2, s7, hN, mx, rx, kx, hat⟩ := both_at hR hM h1
    rcases nb_cases a (n := N) (by omega) with ⟨i, hi, rfl⟩ | hx
    · obtain ⟨r, T, b, x, H, S, e1, -, -, e4, e5, e6, m1, -⟩ := hat i hi
      refine ⟨mkV A T b H S (nI x), I, X, ?_, mx, kx, ?_, rx, agr_rf⟩
      · unfold f_X8_heard
        rw [if_neg h0, e, cV_r, q2, m_in, cI_r, bi_ite, if_pos (nb_ok hi (by omega)), ix_nI (by omega) (by decide), m1]
      · unfold f_X7_heard
        rw [p1, if_neg h0, s7, c_within, cI_r, bi_ite, if_pos (nb_ok hi (by omega)), e1, cA_r, e6, cI_r]
    · obtain ⟨v, I1, A1, z1, z2, z3, z4, z5, z6⟩ := op_ref (fc := f_X7_heard a) (fm := fun A => cI (f_X8_answer (-1000001) A) fun v5 J4 => rI v5 J4) (c := -1000001) 0 (by decide) rx mx rfl (by
        unfold f_X7_heard
        rw [p1, if_neg h0, s7, c_within, cI_r, bi_ite, if_neg hx]; rfl)
      refine ⟨v, I1, A1, ?_, z2, agr_tr kx z3, z4, z5, z6⟩
      unfold f_X8_heard
      rw [if_neg h0, e, cV_r, q2, m_in, cI_r, bi_ite, if_neg hx]
      exact z1
theorem op_from (a c : Int32) : opA (f_X7_from a c) (f_X8_from a c) := by
  intro I A hR hM
  obtain ⟨p1, -⟩ := hR.2.2.2.2.1
  by_cases h0 : A 33 0 19 = 0
  · refine op_ref (c := -1000006) 5 (by decide) hR hM ?_ ?_
    · unfold f_X8_from
      rw [if_pos h0]; rfl
    · unfold f_X7_from
      rw [p1, if_pos h0]; rfl
  · have h1 : A 33 0 19 = 1 := by
      obtain ⟨B, -, -, -, -, hw⟩ := hM.1
      rcases hw with z | z
      · exact absurd z h0
      · exact z.1
    obtain ⟨N, X, e, q2, s7, hN, mx, rx, kx, hat⟩ := both_at hR hM h1
    by_cases hx : ¬ (0 ≤ a ∧ a ≤ nI N - 1)
    · obtain ⟨v, I1, A1, z1, z2, z3, z4, z5, z6⟩ := op_ref (fc := f_X7_from a c) (fm := fun A => cI (f_X8_answer (-1000001) A) fun v5 J4 => rI v5 J4) (c := -1000001) 0 (by decide) rx mx rfl (by
        unfold f_X7_from f_X7_from_p43
        rw [p1, if_neg h0, s7, c_within, cI_r, bi_ite, if_neg hx]; rfl)
      refine ⟨v, I1, A1, ?_, z2, agr_tr kx z3, z4, z5, z6⟩
      unfold f_X8_from f_X8_from_p41
      rw [if_neg h0, e, cV_r, q2, m_in, cI_r, bi_ite, if_neg hx]
      exact z1
    · have hx' : 0 ≤ a ∧ a ≤ nI N - 1 := Classical.not_not.mp hx
      by_cases hy : ¬ (0 ≤ c ∧ c ≤ 3)
      · obtain ⟨v, I1, A1, z1, z2, z3, z4, z5, z6⟩ := op_ref (fc := f_X7_from a c) (fm := fun A => cI (f_X8_answer (-1000001) A) fun v5 J4 => rI v5 J4) (c := -1000001) 0 (by decide) rx mx rfl (by
          unfold f_X7_from f_X7_from_p43
          rw [p1, if_neg h0, s7, c_within, cI_r, bi_ite, if_pos hx', c_within, cI_r, bi_ite, if_neg hy]; rfl)
        refine ⟨v, I1, A1, ?_, z2, agr_tr kx z3, z4, z5, z6⟩
        unfold f_X8_from f_X8_from_p41
        rw [if_neg h0, e, cV_r, q2, m_in, cI_r, bi_ite, if_pos hx', m_in, cI_r, bi_ite, if_neg hy]
        exact z1
      · have hy' : 0 ≤ c ∧ c ≤ 3 := Classical.not_not.mp hy
        obtain ⟨i, hi, rfl⟩ : ∃ i, i < N ∧ a = nI i := by
          rcases nb_cases a (n := N) (by omega) with z | z
          · exact z
          · exact absurd hx' z
        obtain ⟨k, hk, rfl⟩ : ∃ k, k < 4 ∧ c = nI k := by
          rcases nb_cases c (n := 4) (by omega) with z | z
          · exact z
          · exact absurd hy' z
        obtain ⟨r, T, b, x, H, S, e1, e2, e3, e4, e5, e6, m1, m2, m3, m4, m5⟩ := hat i hi
        have hc : f_X7_from (nI i) (nI k) I = tsw (nI k) 0 [(rI (I 30 r 0) I), (cI (f_X5_indexOf r (nI i) I) fun v10 J9 => rI v10 J9), (rI (I 30 r 1) I)] (cI (f_X3_isInRamp r (nI i) I) fun v12 J11 => if (v12 : Int32) = 0 then (rI 0 J11) else (rI 1 J11)) := by
          unfold f_X7_from
          rw [p1, if_neg h0, s7, c_within, cI_r, bi_ite, if_pos hx', c_within, cI_r, bi_ite, if_pos hy', e1, cA_r]
        have hm : f_X8_from (nI i) (nI k) A = if nI k = 0 then rI (nI T) X else if nI k = 1 then rI (nI x) X else if nI k = 2 then rI (nI b) X else rI (bi (mkR A H S (nI x))) X := by
          unfold f_X8_from
          rw [if_neg h0, e, cV_r, q2, m_in, cI_r, bi_ite, if_pos hx', m_in, cI_r, bi_ite, if_pos hy', ix_nI (by omega) (by decide), ix_nI (by omega) (by decide), ix_nI (by omega) (by decide), ix_nI (by omega) (by decide), m2, m3, m4, m5]
          by_cases hr : mkR A H S (nI x)
          · rw [bi_t hr]; rfl
          · rw [bi_f hr]; rfl
        rw [e2, e3, e4, e5, cI_r, cI_r] at hc
        have hv : ∀ v, f_X8_from (nI i) (nI k) A = rI v X → f_X7_from (nI i) (nI k) I = rI v I → ∃ v I1 A1, f_X8_from (nI i) (nI k) A = rI v A1 ∧ InvM A1 ∧ keepM A A1 ∧ f_X7_from (nI i) (nI k) I = rI v I1 ∧ RC I1 A1 ∧ keepC I I1 := fun v w1 w2 => ⟨v, I, X, w1, mx, kx, w2, rx, agr_rf⟩
        rcases (by omega : k = 0 ∨ k = 1 ∨ k = 2 ∨ k = 3) with rfl | rfl | rfl | rfl
        · exact hv (nI T) hm hc
        · exact hv (nI x) hm hc
        · exact hv (nI b) hm hc
        · refine hv (bi (mkR A H S (nI x))) hm (hc.trans ?_)
          by_cases hr : mkR A H S (nI x)
          · rw [bi_t hr]; rfl
          · rw [bi_f hr]; rfl
