/-! ===== hand, mark, level ===== -/
theorem div10 {n : Nat} (h : n < 2 ^ 20) : (nI n + 9) / 10 = nI ((n + 9) / 10) := by
  have e1 : nI n + 9 = nI (n + 9) := nI_add n 9
  rw [e1]
  exact pk_div (a := n + 9) (d := 10) (by omega) (by decide) (by decide)
theorem m_frameMany {A : Mem} {t n : Nat} (ht : t < 6) (e : A 42 0 t = nI n) (hn : n ≤ 400) : f_X8_frameMany (nI t) A = rI (nI ((n + 9) / 10)) A := by
  unfold f_X8_frameMany
  rw [ix6 ht, if_neg (by decide), e, div10 (by omega)]
theorem c_frameCount {I : Mem} {t n : Nat} (e : I 7 t 6 = nI n) (hn : n ≤ 400) : f_X6_frameCount t I = rI (nI ((n + 9) / 10)) I := by
  unfold f_X6_frameCount
  have e1 : nI n + 10 - 1 = nI n + 9 := by grind
  rw [if_neg (by decide), e, e1, div10 (by omega)]
theorem op_hand (a c d : Int32) : opA (f_X7_hand a c d) (f_X8_hand a c d) := by
  intro I A hR hM
  have e_1 : (-1 : Int32).toInt = -1 := by decide
  rcases tk_cases a with ⟨t, ht, rfl⟩ | ha
  · have hT := hR.2.1 t ht
    by_cases hk : 0 ≤ A 38 0 t
    · obtain ⟨n, hn, e⟩ := cnt_at hM ht
      have e2 : I 7 t 6 = nI n := hT.2.2.2.2.1.trans e
      by_cases hb : mHas A t c
      · obtain ⟨b, hb1, hb2, rfl⟩ := has_num hM ht hb
        by_cases hd : (-1 ≤ d ∧ d ≤ nI ((n + 9) / 10) - 1)
        · have hd2 := hd
          rw [le_i, le_i, sub1 (by omega), e_1] at hd2
          refine op_tk (I' := mup I 9 t b d) (A' := mup A 45 0 (24 * t + b) d) (v := 1) ht hR hM (fun g h1 => mup_g (by omega)) (fun u hu e3 => ⟨agJ_rf, rfl, fun _ _ _ _ => rfl, fun j hj => ?_⟩) (fun g h1 => mup_g (by omega)) (fun u hu e3 => ⟨rfl, rfl, mup_i e3, rfl, rfl⟩) (fun B h1 h2 h3 => ?_) ?_ ?_ ?_
          · rw [mup_0, if_neg (by omega)]
          · obtain ⟨⟨B', ⟨b1, b2, b3⟩, -, h5, -⟩, -⟩ := hM
            have : B' = B := (nI_eq (by omega) (by omega)).mp (b3.symm.trans h3)
            subst this
            obtain ⟨k1, k2, k3, k4, k5, k6, k7⟩ := tkOk_U (h5 t ht)
            refine ⟨k1, k2, k3, k4, k5, k6, fun j hj => ?_⟩
            rw [mup_0]
            split
            · exact ⟨by omega, by omega⟩
            · exact k7 j hj
          · obtain ⟨r1, r2, r3, r4, r5, r6, r7, r8⟩ := rcT_U hT
            refine ⟨r1, r2, r3, r4, r5, r6, fun q0 j hj => ?_, r8⟩
            rw [mup_0, mup_t]
            by_cases q : j = b
            · subst q
              rw [if_pos ⟨rfl, rfl⟩, if_pos rfl]
            · rw [if_neg (by omega), if_neg (by omega)]
              exact r7 q0 j hj
          · unfold f_X8_hand
            rw [look_t ht hk, cI_r, if_neg (by decide), m_has ht, cI_r, bi_ite, if_pos hb, if_neg (by rw [lt_i]; omega), m_frameMany ht e hn, cI_r, if_pos (by rw [lt_i, nIt (by omega)]; omega), mul24, ix_nI (by omega) (by decide), m_changed ht, cV_r]
          · unfold f_X7_hand f_X7_askTakeBeat
            rw [ask_t ht hT hk, cI_r, if_pos rfl, ix6 ht, c_has hT hk, cI_r, bi_ite, if_pos hb, cI_r, if_pos rfl, ix6 ht, c_frameCount e2 hn, cI_r, c_within, cI_r, bi_ite, if_pos hd, ix6 ht, ix_nI (by omega) (by decide), c_changeTake ht, cV_r]
        · refine op_ref (c := -1000001) 0 (by decide) hR hM ?_ ?_
          · unfold f_X8_hand
            rw [look_t ht hk, cI_r, if_neg (by decide), m_has ht, cI_r, bi_ite, if_pos hb]
            by_cases q : d < -1
            · rw [if_pos q]; rfl
            · rw [if_neg q, m_frameMany ht e hn, cI_r, if_neg]
              · rfl
              · intro w
                apply hd
                rw [lt_i, e_1] at q
                rw [lt_i, nIt (by omega)] at w
                rw [le_i, le_i, sub1 (by omega), e_1]
                omega
          · unfold f_X7_hand f_X7_askTakeBeat
            rw [ask_t ht hT hk, cI_r, if_pos rfl, ix6 ht, c_has hT hk, cI_r, bi_ite, if_pos hb, cI_r, if_pos rfl, ix6 ht, c_frameCount e2 hn, cI_r, c_within, cI_r, bi_ite, if_neg hd]; rfl
      · refine op_ref (c := -1000001) 0 (by decide) hR hM ?_ ?_
        · unfold f_X8_hand
          rw [look_t ht hk, cI_r, if_neg (by decide), m_has ht, cI_r, bi_ite, if_neg hb]; rfl
        · unfold f_X7_hand f_X7_askTakeBeat
          rw [ask_t ht hT hk, cI_r, if_pos rfl, ix6 ht, c_has hT hk, cI_r, bi_ite, if_neg hb]; rfl
    · refine op_ref (c := -1000002) 1 (by decide) hR hM ?_ ?_
      · unfold f_X8_hand
        rw [look_f ht hk]; rfl
      · unfold f_X7_hand f_X7_askTakeBeat
        rw [ask_f ht hT hk]; rfl
  · refine op_ref (c := -1000001) 0 (by decide) hR hM ?_ ?_
    · unfold f_X8_hand
      rw [m_look_no ha]; rfl
    · unfold f_X7_hand f_X7_askTakeBeat
      rw [c_askTake_no ha]; rfl
theorem m4_cases (a : Int32) : (∃ m, m < 4 ∧ a = nI m) ∨ ¬ (0 ≤ a ∧ a ≤ 3) := by
  rcases idx_cases a 4 (by decide) with h | h
  · exact Or.inl h
  · refine Or.inr fun q => ?_
    rw [le_i, le_i] at q
    rw [lt_i, le_i] at h
    have e0 : (0 : Int32).toInt = 0 := by decide
    have e5 : (3 : Int32).toInt = 3 := by decide
    have e6 : (nI 4).toInt = 4 := by decide
    omega
theorem m4_ok {k : Nat} (h : k < 4) : 0 ≤ nI k ∧ nI k ≤ 3 := by
  rw [le_i, le_i, nIt (by omega)]
  have e0 : (0 : Int32).toInt = 0 := by decide
  have e5 : (3 : Int32).toInt = 3 := by decide
  omega
theorem op_mark (a c d : Int32) : opA (f_X7_mark a c d) (f_X8_mark a c d) := by
  intro I A hR hM
  rcases tk_cases a with ⟨t, ht, rfl⟩ | ha
  · have hT := hR.2.1 t ht
    by_cases hk : 0 ≤ A 38 0 t
    · have ek : I 7 t 2 = A 38 0 t := (hT.2.2.1 hk).1
      by_cases h4 : A 38 0 t = 4
      · refine op_ref (c := -1000003) 2 (by decide) hR hM ?_ ?_
        · unfold f_X8_mark
          rw [look_t ht hk, cI_r, if_neg (by decide), ix6 ht, if_pos h4]; rfl
        · unfold f_X7_mark
          rw [ask_t ht hT hk, cI_r, if_pos rfl, ix6 ht, if_pos (ek.trans h4)]; rfl
      · have h4' : ¬ I 7 t 2 = 4 := by rw [ek]; exact h4
        by_cases hb : mHas A t c
        · obtain ⟨b, hb1, hb2, rfl⟩ := has_num hM ht hb
          rcases m4_cases d with ⟨m, hm, rfl⟩ | hd
          · have em : (4 : Int32) * (24 * nI t + nI b) + nI m = nI (4 * (24 * t + b) + m) := by rw [mul24, mul4, nI_add]
            have ec : nI b * 4 + nI m = nI (4 * b + m) := by
              have : nI b * 4 = nI (b * 4) := pk_mul b 4
              rw [this, nI_add, Nat.mul_comm]
            have emk : I 11 t (4 * b + m) = A 44 0 (4 * (24 * t + b) + m) := hT.2.2.2.2.2.2.2.1 b hb1 m hm
            obtain ⟨⟨B, hB, h34, h5, h6, h7⟩, h8⟩ := id hM
            have hrg := ((h5 t ht).2.2.2.2.2.1 b hb1 m hm).1
            have e9 : (9 : Int32).toInt = 9 := by decide
            by_cases h9 : A 44 0 (4 * (24 * t + b) + m) = 9
            · refine op_ref (c := -1000005) 4 (by decide) hR hM ?_ ?_
              · unfold f_X8_mark
                rw [look_t ht hk, cI_r, if_neg (by decide), ix6 ht, if_neg h4, m_has ht, cI_r, bi_ite, if_pos hb, m_in, cI_r, bi_ite, if_pos (m4_ok hm), em, ix_nI (by omega) (by decide), if_pos h9]; rfl
              · unfold f_X7_mark
                rw [ask_t ht hT hk, cI_r, if_pos rfl, ix6 ht, if_neg h4', ix6 ht, c_has hT hk, cI_r, bi_ite, if_pos hb, c_within, cI_r, bi_ite, if_pos (m4_ok hm), ix6 ht, ec, ix_nI (by omega) (by decide), emk, h9, if_neg (by decide)]; rfl
            · have hlt : A 44 0 (4 * (24 * t + b) + m) < 9 := by
                rw [eq_i] at h9
                rw [lt_i]
                have := hrg.2
                omega
              obtain ⟨w, hw⟩ : ∃ w, w = A 44 0 (4 * (24 * t + b) + m) + 1 := ⟨_, rfl⟩
              have hwr : rg 0 9 w := by
                obtain ⟨x, hx, ex⟩ := rg_nI (n := 9) hrg.1 hrg.2 (by decide)
                rw [ex] at hlt
                have hx9 : x < 9 := (nI_ltI (by omega) (by decide)).mp hlt
                rw [hw, ex, nI_1]
                unfold rg
                rw [nIt (by omega)]
                omega
              have m1 : f_X8_mark (nI t) (nI b) (nI m) A = rI w (mup (mup A 44 0 (4 * (24 * t + b) + m) w) 33 0 19 0) := by
                unfold f_X8_mark
                rw [look_t ht hk, cI_r, if_neg (by decide), ix6 ht, if_neg h4, m_has ht, cI_r, bi_ite, if_pos hb, m_in, cI_r, bi_ite, if_pos (m4_ok hm), em, ix_nI (by omega) (by decide), if_neg h9, ix_nI (by omega) (by decide), ix_nI (by omega) (by decide), ix_nI (by omega) (by decide), ← hw]
                rw [mup_g (show (44 : Nat) ≠ 33 by decide), mup_at]
              have c1 : f_X7_mark (nI t) (nI b) (nI m) I = rI w (mup (mup I 11 t (4 * b + m) w) 27 0 2 0) := by
                unfold f_X7_mark
                rw [ask_t ht hT hk, cI_r, if_pos rfl, ix6 ht, if_neg h4', ix6 ht, c_has hT hk, cI_r, bi_ite, if_pos hb, c_within, cI_r, bi_ite, if_pos (m4_ok hm), ix6 ht, ec, ix_nI (by omega) (by decide), emk, if_pos hlt, ix6 ht, ix_nI (by omega) (by decide), ix_nI (by omega) (by decide), ix6 ht, ix_nI (by omega) (by decide), emk, ← hw]
                rw [mup_g (show (11 : Nat) ≠ 27 by decide), mup_at]
              have hag : ∀ u, u < 6 → u ≠ t → agT A (mup (mup A 44 0 (4 * (24 * t + b) + m) w) 33 0 19 0) u := by
                intro u hu e3
                refine ⟨agJ_rf, rfl, fun j hj k hk2 => ?_, fun _ _ => rfl⟩
                rw [mup_g (show (44 : Nat) ≠ 33 by decide), mup_0, if_neg (by omega)]
              refine ⟨_, _, _, m1, ?_, agr_up (agr_up agr_rf (by decide)) (by decide), c1, ?_, agr_up (agr_up agr_rf (by decide)) (by decide)⟩
              · refine ⟨⟨B, hB, h34, fun u hu => ?_, h6, Or.inl mup_at⟩, h8⟩
                by_cases q : u = t
                · subst q
                  obtain ⟨k1, k2, k3, k4, k5, k6, k7, k8, k9, k10⟩ := h5 u hu
                  refine ⟨k1, k2, k3, k4, k5, fun j hj k hk2 => ?_, k7, k8, k9, k10⟩
                  rw [mup_g (show (44 : Nat) ≠ 33 by decide), mup_0]
                  split
                  · exact ⟨hwr, fun q => absurd q h4⟩
                  · exact k6 j hj k hk2
                · exact tkOk_ag (hag u hu q) rfl (h5 u hu)
              · refine RC_w0 hR hM (fun u hu => agJ_rf) agG_rf (fun u hu => ?_) rfl rfl hR.1 hR.2.2.1 mup_at mup_at hR.2.2.2.2.2.1 hR.2.2.2.2.2.2.1 hR.2.2.2.2.2.2.2
                by_cases q : u = t
                · subst q
                  obtain ⟨r1, r2, r3, r4, r5, r6, r7, r8, r9, r10⟩ := hT
                  refine ⟨r1, r2, r3, r4, r5, r6, r7, fun j hj k hk2 => ?_, r9, r10⟩
                  rw [mup_g (show (44 : Nat) ≠ 33 by decide), mup_0, mup_g (show (11 : Nat) ≠ 27 by decide), mup_t]
                  by_cases q : 4 * j + k = 4 * b + m
                  · rw [if_pos ⟨rfl, q⟩, if_pos (by omega)]
                  · rw [if_neg (fun w => q w.2), if_neg (by omega)]
                    exact r8 j hj k hk2
                · exact rcT_ag (I := I) hM hu (hag u hu q) agG_rf ⟨rfl, rfl, rfl, rfl, by rw [mup_g (show (11 : Nat) ≠ 27 by decide), mup_i q]⟩ (hR.2.1 u hu)
          · refine op_ref (c := -1000001) 0 (by decide) hR hM ?_ ?_
            · unfold f_X8_mark
              rw [look_t ht hk, cI_r, if_neg (by decide), ix6 ht, if_neg h4, m_has ht, cI_r, bi_ite, if_pos hb, m_in, cI_r, bi_ite, if_neg hd]; rfl
            · unfold f_X7_mark
              rw [ask_t ht hT hk, cI_r, if_pos rfl, ix6 ht, if_neg h4', ix6 ht, c_has hT hk, cI_r, bi_ite, if_pos hb, c_within, cI_r, bi_ite, if_neg hd]; rfl
        · refine op_ref (c := -1000001) 0 (by decide) hR hM ?_ ?_
          · unfold f_X8_mark
            rw [look_t ht hk, cI_r, if_neg (by decide), ix6 ht, if_neg h4, m_has ht, cI_r, bi_ite, if_neg hb]; rfl
          · unfold f_X7_mark
            rw [ask_t ht hT hk, cI_r, if_pos rfl, ix6 ht, if_neg h4', ix6 ht, c_has hT hk, cI_r, bi_ite, if_neg hb]; rfl
    · refine op_ref (c := -1000002) 1 (by decide) hR hM ?_ ?_
      · unfold f_X8_mark
        rw [look_f ht hk]; rfl
      · unfold f_X7_mark
        rw [ask_f ht hT hk]; rfl
  · refine op_ref (c := -1000001) 0 (by decide) hR hM ?_ ?_
    · unfold f_X8_mark
      rw [m_look_no ha]; rfl
    · unfold f_X7_mark
      rw [c_askTake_no ha]; rfl
/-! levels -/
theorem m_lvl {A : Mem} {t n f : Nat} (ht : t < 6) (e : A 42 0 t = nI n) (hn : n ≤ 400) (hf : 10 * f < n) : ∀ (d k fuel : Nat), k + d = frN A t f → d < fuel → f_X8_levelOf_p26 fuel (nI t) (nI f) (sqs (fun i => A 43 0 (400 * t + 10 * f + i)) k) (nI k) (nI (10 * f + k)) A = rI (mLv A t f) A := by
  have hN : frN A t f = min 10 (n - 10 * f) := by unfold frN; rw [e, nI_clamp (by omega)]
  have e10 : (10 : Int32) * nI f + 10 = nI (10 * f + 10) := by
    have : (10 : Int32) * nI f = nI (10 * f) := pk_mul 10 f
    rw [this]; exact nI_add _ 10
  intro d
  induction d with
  | zero =>
    intro k fuel hk hfu
    obtain ⟨fu, rfl⟩ : ∃ fu, fuel = fu + 1 := ⟨fuel - 1, by omega⟩
    have hkN : k = frN A t f := by omega
    have hk0 : 0 < k := by omega
    have hfin : (if (nI k : Int32) = 0 then none else rI (sqs (fun i => A 43 0 (400 * t + 10 * f + i)) k / nI k) A) = rI (mLv A t f) A := by
      rw [if_neg (nI_ne0 hk0 (by omega)), mLv, e, nI_clamp (by omega), if_pos hf, ← hkN]
    rw [f_X8_levelOf_p26, e10]
    by_cases q : 10 * f + 10 ≤ 10 * f + k
    · rw [if_pos (nI_le q (by omega))]
      exact hfin
    · rw [if_neg (nI_ge (by omega) (by omega)), ix6 ht, e, if_pos (nI_le (by omega) (by omega))]
      exact hfin
  | succ d ih =>
    intro k fuel hk hfu
    obtain ⟨fu, rfl⟩ : ∃ fu, fuel = fu + 1 := ⟨fuel - 1, by omega⟩
    rw [f_X8_levelOf_p26, e10, if_neg (nI_ge (by omega) (by omega)), ix6 ht, e, if_neg (nI_ge (by omega) (by omega)), mul400, ix_nI (by omega) (by decide), nI_1, nI_1]
    have e3 : 400 * t + (10 * f + k) = 400 * t + 10 * f + k := by omega
    rw [e3]
    exact ih (k + 1) fu (by omega) (by omega)
theorem m_levelOf {A : Mem} {t n : Nat} (ht : t < 6) (e : A 42 0 t = nI n) (hn : n ≤ 400) (x : Int32) : f_X8_levelOf (nI t) x A = rI (mLvI A t x) A := by
  unfold f_X8_levelOf mLvI
  by_cases h0 : x < 0
  · rw [if_pos h0, if_pos h0]
  · rw [if_neg h0, if_neg h0, m_frameMany ht e hn, cI_r]
    obtain ⟨f, hf, rfl⟩ := nI_of h0
    rw [nI_clamp hf]
    by_cases q : f < (n + 9) / 10
    · rw [if_pos (nI_lt q (by omega))]
      have e10 : (10 : Int32) * nI f = nI (10 * f + 0) := pk_mul 10 f
      rw [e10]
      have h10 : 10 * f < n := by omega
      exact m_lvl ht e hn h10 (frN A t f) 0 FU (by omega) (by
        have : frN A t f ≤ 10 := Nat.min_le_left _ _
        show frN A t f < 20000
        omega)
    · rw [if_neg (nI_nlt (by omega) hf), mLv, e, nI_clamp (by omega), if_neg (by omega)]
