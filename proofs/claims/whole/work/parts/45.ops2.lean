/-! ===== sample, frame, as ===== -/
theorem sub1 {n : Nat} (h : n < 2 ^ 30) : (nI n - 1).toInt = (n : Int) - 1 := pk_sub_toInt (a := n) (b := 1) h (by decide)
theorem nb_cases (a : Int32) {n : Nat} (h : n < 2 ^ 30) : (∃ i, i < n ∧ a = nI i) ∨ ¬ (0 ≤ a ∧ a ≤ nI n - 1) := by
  rcases idx_cases a n (by omega) with q | q
  · exact Or.inl q
  · refine Or.inr fun w => ?_
    rw [le_i, le_i, sub1 h] at w
    rw [lt_i, le_i, nIt (by omega)] at q
    have e0 : (0 : Int32).toInt = 0 := by decide
    omega
theorem nb_ok {i n : Nat} (h : i < n) (h2 : n < 2 ^ 30) : 0 ≤ nI i ∧ nI i ≤ nI n - 1 := by
  rw [le_i, le_i, sub1 h2, nIt (by omega)]
  have e0 : (0 : Int32).toInt = 0 := by decide
  omega
theorem mul400 (t i : Nat) : (400 : Int32) * nI t + nI i = nI (400 * t + i) := by
  have : (400 : Int32) * nI t = nI (400 * t) := pk_mul 400 t
  rw [this, nI_add]
theorem mul24 (t i : Nat) : (24 : Int32) * nI t + nI i = nI (24 * t + i) := by
  have : (24 : Int32) * nI t = nI (24 * t) := pk_mul 24 t
  rw [this, nI_add]
theorem kind_cases (x : Int32) : 0 ≤ x ∨ ¬ 0 ≤ x := Decidable.em _
/-- a take of the pair: here, or missing on both sides -/
theorem here_t {I A : Mem} {t : Nat} (h : rcT I A t) (hk : 0 ≤ A 38 0 t) : ¬ I 7 t 0 = 0 := by rw [h.1, bi_t hk]; decide
theorem here_f {I A : Mem} {t : Nat} (h : rcT I A t) (hk : ¬ 0 ≤ A 38 0 t) : I 7 t 0 = 0 := by rw [h.1, bi_f hk]
theorem look_t {A : Mem} {t : Nat} (ht : t < 6) (hk : 0 ≤ A 38 0 t) : f_X8_look (nI t) A = rI 0 A := by rw [m_look ht, if_pos hk]
theorem look_f {A : Mem} {t : Nat} (ht : t < 6) (hk : ¬ 0 ≤ A 38 0 t) : f_X8_look (nI t) A = rI (-1000002) A := by rw [m_look ht, if_neg hk]
theorem ask_t {I A : Mem} {t : Nat} (ht : t < 6) (h : rcT I A t) (hk : 0 ≤ A 38 0 t) : f_X7_askTake (nI t) I = rI 0 I := by rw [c_askTake ht, if_neg (here_t h hk)]
theorem ask_f {I A : Mem} {t : Nat} (ht : t < 6) (h : rcT I A t) (hk : ¬ 0 ≤ A 38 0 t) : f_X7_askTake (nI t) I = rI (-1000002) I := by rw [c_askTake ht, if_pos (here_f h hk)]
theorem c_sound {I A : Mem} {t n : Nat} (h : rcT I A t) (e : A 42 0 t = nI n) (hn : n ≤ 400) (x : Int32) : f_X6_soundAt t x I = rI (mSam A t x) I := by
  unfold f_X6_soundAt mSam
  rw [h.2.2.2.2.1, e]
  rcases nb_cases x (n := n) (by omega) with ⟨i, hi, rfl⟩ | hx
  · rw [if_pos (nb_ok hi (by omega)), if_neg (nI_pos (by omega)), if_neg (nI_ge hi (by omega)), ix_nI (by omega) (by decide), nI_clamp (by omega), h.2.2.2.2.2.1 i (by omega)]
  · rw [if_neg hx]
    by_cases q : x < 0
    · rw [if_pos q]
    · rw [if_neg q, if_pos]
      rw [le_i, le_i, sub1 (by omega)] at hx
      rw [lt_i] at q
      rw [le_i, nIt (by omega)]
      omega
theorem op_sample (a c : Int32) : opA (f_X7_sample a c) (f_X8_sample a c) := by
  intro I A hR hM
  rcases tk_cases a with ⟨t, ht, rfl⟩ | ha
  · have hT := hR.2.1 t ht
    by_cases hk : 0 ≤ A 38 0 t
    · obtain ⟨n, hn, e⟩ := cnt_at hM ht
      have e2 : I 7 t 6 = nI n := hT.2.2.2.2.1.trans e
      by_cases hc : c = -1
      · subst hc
        refine op_same hR hM (c := nI n) ?_ ?_
        · unfold f_X8_sample
          rw [look_t ht hk, cI_r, if_neg (by decide), ix6 ht, m_in, cI_r, bi_ite, e, if_pos, if_pos rfl, ix6 ht, e]
          refine ⟨by decide, ?_⟩
          rw [le_i, sub1 (by omega)]
          have : (-1 : Int32).toInt = -1 := by decide
          omega
        · unfold f_X7_sample
          rw [ask_t ht hT hk, cI_r, if_pos rfl, if_pos rfl, ix6 ht, e2]
      · rcases nb_cases c (n := n) (by omega) with ⟨i, hi, rfl⟩ | hx
        · refine op_same hR hM (c := A 43 0 (400 * t + i)) ?_ ?_
          · unfold f_X8_sample
            rw [look_t ht hk, cI_r, if_neg (by decide), ix6 ht, m_in, cI_r, bi_ite, e, if_pos, if_neg hc, mul400, ix_nI (by omega) (by decide)]
            refine ⟨?_, (nb_ok hi (by omega)).2⟩
            rw [le_i, nIt (by omega)]
            have : (-1 : Int32).toInt = -1 := by decide
            omega
          · unfold f_X7_sample
            rw [ask_t ht hT hk, cI_r, if_pos rfl, if_neg hc, ix6 ht, c_within, cI_r, bi_ite, e2, if_pos (nb_ok hi (by omega)), ix6 ht, c_sound hT e hn, cI_r]
            unfold mSam
            rw [e, if_pos (nb_ok hi (by omega)), nI_clamp (by omega)]
        · refine op_ref (c := -1000001) 0 (by decide) hR hM ?_ ?_
          · unfold f_X8_sample f_X8_sample_p26 f_X8_sample_p37
            rw [look_t ht hk, cI_r, if_neg (by decide), ix6 ht, m_in, cI_r, bi_ite, e, if_neg]
            · rfl
            · intro q
              refine hx ⟨?_, q.2⟩
              have q1 := q.1
              rw [le_i] at q1 ⊢
              rw [eq_i] at hc
              have e1 : (-1 : Int32).toInt = -1 := by decide
              have e0 : (0 : Int32).toInt = 0 := by decide
              omega
          · unfold f_X7_sample
            rw [ask_t ht hT hk, cI_r, if_pos rfl, if_neg hc, ix6 ht, c_within, cI_r, bi_ite, e2, if_neg hx]; rfl
    · refine op_ref (c := -1000002) 1 (by decide) hR hM ?_ ?_
      · unfold f_X8_sample
        rw [look_f ht hk]; rfl
      · unfold f_X7_sample
        rw [ask_f ht hT hk]; rfl
  · refine op_ref (c := -1000001) 0 (by decide) hR hM ?_ ?_
    · unfold f_X8_sample
      rw [m_look_no ha]; rfl
    · unfold f_X7_sample
      rw [c_askTake_no ha]; rfl
theorem c_has {I A : Mem} {t : Nat} (h : rcT I A t) (hk : 0 ≤ A 38 0 t) (x : Int32) : f_X6_has t x I = rI (bi (mHas A t x)) I := by
  unfold f_X6_has mHas
  rw [(h.2.2.1 hk).2.1, (h.2.2.1 hk).2.2]
  by_cases h1 : x < mBeg A t
  · rw [if_pos h1, bi_f (fun q => Int32.not_le.mpr h1 q.1)]
  · rw [if_neg h1]
    by_cases h2 : mEnd A t < x
    · rw [if_pos h2, bi_f (fun q => Int32.not_le.mpr h2 q.2)]
    · rw [if_neg h2, bi_t ⟨Int32.not_lt.mp h1, Int32.not_lt.mp h2⟩]
/-- the beats of a take that is here -/
theorem beg_at {A : Mem} {t : Nat} (h : InvM A) (ht : t < 6) : ∃ f l, f ≤ l ∧ l < 24 ∧ l < (A 33 0 0).toNatClampNeg ∧ mBeg A t = nI f ∧ mEnd A t = nI l := by
  obtain ⟨⟨B, ⟨h1, h2, h3⟩, -, h5, -⟩, -⟩ := h
  rw [h3, nI_clamp (by omega)]
  unfold mBeg mEnd
  split
  · next q =>
    obtain ⟨f, l, w1, w2, w3, w4⟩ := (h5 t ht).2.1 q
    exact ⟨f, l, w1, by omega, w2, w3, w4⟩
  · exact ⟨0, B - 1, by omega, by omega, by omega, rfl, by rw [h3, mM1 h1]⟩
theorem has_iff {A : Mem} {t f l : Nat} (h1 : mBeg A t = nI f) (h2 : mEnd A t = nI l) (hl : l < 24) (b : Nat) (hb : b < 2 ^ 31) (hf : f ≤ l) : mHas A t (nI b) ↔ f ≤ b ∧ b ≤ l := by
  unfold mHas
  rw [h1, h2, nI_leI (by omega) hb, nI_leI hb (by omega)]
/-- a beat that a take has is a number below 24 -/
theorem has_num {A : Mem} {t : Nat} (h : InvM A) (ht : t < 6) {x : Int32} (hx : mHas A t x) : ∃ b, b < 24 ∧ b < (A 33 0 0).toNatClampNeg ∧ x = nI b := by
  obtain ⟨f, l, h1, h2, h3, h4, h5⟩ := beg_at h ht
  unfold mHas at hx
  rw [h4, h5] at hx
  rcases idx_cases x (l + 1) (by omega) with ⟨b, hb, rfl⟩ | q
  · exact ⟨b, by omega, by omega, rfl⟩
  · exfalso
    rw [le_i, le_i, nIt (by omega), nIt (by omega)] at hx
    rw [lt_i, le_i, nIt (by omega)] at q
    have e0 : (0 : Int32).toInt = 0 := by decide
    omega
theorem laid_01 {A : Mem} {t : Nat} (h : InvM A) (ht : t < 6) : A 46 0 t = 0 ∨ A 46 0 t = 1 := by
  obtain ⟨⟨B, -, -, h5, -⟩, -⟩ := h
  exact (h5 t ht).2.2.2.2.2.2.2.1
theorem op_frame (a c : Int32) : opA (f_X7_frame a c) (f_X8_frame a c) := by
  intro I A hR hM
  rcases tk_cases a with ⟨t, ht, rfl⟩ | ha
  · have hT := hR.2.1 t ht
    by_cases hk : 0 ≤ A 38 0 t
    · have e1 : I 7 t 1 = A 46 0 t := hT.2.2.2.2.2.2.2.2.1
      by_cases hl : A 46 0 t = 0
      · refine op_ref (c := -1000006) 5 (by decide) hR hM ?_ ?_
        · unfold f_X8_frame
          rw [look_t ht hk, cI_r, if_pos (by decide), ix6 ht, if_pos hl]; rfl
        · unfold f_X7_frame
          rw [ask_t ht hT hk, cI_r, if_pos rfl, ix6 ht, if_pos (e1.trans hl)]; rfl
      · have hl1 : A 46 0 t = 1 := (laid_01 hM ht).resolve_left hl
        by_cases hb : mHas A t c
        · obtain ⟨b, hb1, hb2, rfl⟩ := has_num hM ht hb
          obtain ⟨f, l, w1, w2, w3, w4, w5⟩ := beg_at hM ht
          have hfr : I 10 t b = A 47 0 (24 * t + b) := by
            rw [hT.2.2.2.2.2.2.2.2.2 hl1 b (by omega) (Or.inl hb), mFr, w5, if_neg]
            have := (has_iff w4 w5 w2 b (by omega) w1).mp hb
            exact nI_nlt (by omega) (by omega)
          refine op_same hR hM (c := A 47 0 (24 * t + b)) ?_ ?_
          · unfold f_X8_frame
            rw [look_t ht hk, cI_r, if_pos (by decide), ix6 ht, if_neg hl, m_has ht, cI_r, bi_ite, if_pos hb, mul24, ix_nI (by omega) (by decide)]
          · unfold f_X7_frame
            rw [ask_t ht hT hk, cI_r, if_pos rfl, ix6 ht, if_neg (by rw [e1]; exact hl), ix6 ht, c_has hT hk, cI_r, bi_ite, if_pos hb, ix6 ht, ix_nI (by omega) (by decide), hfr]
        · refine op_ref (c := -1000001) 0 (by decide) hR hM ?_ ?_
          · unfold f_X8_frame
            rw [look_t ht hk, cI_r, if_pos (by decide), ix6 ht, if_neg hl, m_has ht, cI_r, bi_ite, if_neg hb]; rfl
          · unfold f_X7_frame
            rw [ask_t ht hT hk, cI_r, if_pos rfl, ix6 ht, if_neg (by rw [e1]; exact hl), ix6 ht, c_has hT hk, cI_r, bi_ite, if_neg hb]; rfl
    · refine op_ref (c := -1000002) 1 (by decide) hR hM ?_ ?_
      · unfold f_X8_frame
        rw [look_f ht hk]; rfl
      · unfold f_X7_frame
        rw [ask_f ht hT hk]; rfl
  · refine op_ref (c := -1000001) 0 (by decide) hR hM ?_ ?_
    · unfold f_X8_frame
      rw [m_look_no ha]; rfl
    · unfold f_X7_frame
      rw [c_askTake_no ha]; rfl
