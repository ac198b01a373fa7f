/-! ===== as, worth, level ===== -/
abbrev und (k m : Nat) : Prop := m = 0 ∨ m = k ∨ (m = 1 ∧ k = 2) ∨ (m = 3 ∧ k = 4)
theorem un_step {I : Mem} {n k i : Nat} (hk : k < 5) (hi : i < 5) (a : Int32) : f_X7_isUnder_p4 (n + 1) a (nI k) (nI i) I = if nI k = a then rI 1 I else f_X7_isUnder_p4 n a (I 101 0 k) (nI (i + 1)) I := by
  rw [f_X7_isUnder_p4, if_neg (show ¬ (5 : Int32) ≤ nI i from nI_ge hi (by decide)), if_neg (nI_pos (by omega)), if_neg (show ¬ (5 : Int32) ≤ nI k from nI_ge hk (by decide)), ix_nI hk (by decide), nI_1]
theorem un_neg {I : Mem} {n : Nat} (a i : Int32) : f_X7_isUnder_p4 (n + 1) a (-1) i I = rI 0 I := by
  rw [f_X7_isUnder_p4]
  split
  · rfl
  · rw [if_pos (by decide)]
theorem FU_s (n : Nat) : FU = 19990 + 10 := rfl
theorem c_under {I : Mem} (hX : rcX I) {k m : Nat} (hk : k < 5) (hm : m < 5) : f_X7_isUnder (nI k) (nI m) I = rI (bi (und k m)) I := by
  have x0 : I 101 0 0 = -1 := hX.1 0
  have x1 : I 101 0 1 = nI 0 := hX.1 1
  have x2 : I 101 0 2 = nI 1 := hX.1 2
  have x3 : I 101 0 3 = nI 0 := hX.1 3
  have x4 : I 101 0 4 = nI 3 := hX.1 4
  have u0 : ∀ n i, i < 5 → f_X7_isUnder_p4 (n + 2) (nI m) (nI 0) (nI i) I = rI (bi (m = 0)) I := by
    intro n i hi
    rw [un_step (by decide) hi, x0, un_neg]
    by_cases h : m = 0
    · subst h; rw [if_pos rfl, bi_t rfl]
    · rw [if_neg (fun q => h ((nI_eq (by omega) (by omega)).mp q).symm), bi_f h]
  unfold f_X7_isUnder
  rw [FU_s 0]
  rcases (show k = 0 ∨ k = 1 ∨ k = 2 ∨ k = 3 ∨ k = 4 by omega) with rfl | rfl | rfl | rfl | rfl
  · rw [show (0 : Int32) = nI 0 from rfl, u0 _ 0 (by decide)]
    exact congrArg (fun z => rI z I) (bi_eq (by omega))
  · rw [show (0 : Int32) = nI 0 from rfl, un_step (by decide) (by decide), x1, u0 _ 1 (by decide)]
    by_cases h : m = 1
    · subst h; rfl
    · rw [if_neg (fun q => h ((nI_eq (by omega) (by omega)).mp q).symm)]
      exact congrArg (fun z => rI z I) (bi_eq (by omega))
  · rw [show (0 : Int32) = nI 0 from rfl, un_step (by decide) (by decide), x2, un_step (by decide) (by decide), x1, u0 _ 2 (by decide)]
    by_cases h : m = 2
    · subst h; rfl
    · rw [if_neg (fun q => h ((nI_eq (by omega) (by omega)).mp q).symm)]
      by_cases h1 : m = 1
      · subst h1; rfl
      · rw [if_neg (fun q => h1 ((nI_eq (by omega) (by omega)).mp q).symm)]
        exact congrArg (fun z => rI z I) (bi_eq (by omega))
  · rw [show (0 : Int32) = nI 0 from rfl, un_step (by decide) (by decide), x3, u0 _ 1 (by decide)]
    by_cases h : m = 3
    · subst h; rfl
    · rw [if_neg (fun q => h ((nI_eq (by omega) (by omega)).mp q).symm)]
      exact congrArg (fun z => rI z I) (bi_eq (by omega))
  · rw [show (0 : Int32) = nI 0 from rfl, un_step (by decide) (by decide), x4, un_step (by decide) (by decide), x3, u0 _ 2 (by decide)]
    by_cases h : m = 4
    · subst h; rfl
    · rw [if_neg (fun q => h ((nI_eq (by omega) (by omega)).mp q).symm)]
      by_cases h1 : m = 3
      · subst h1; rfl
      · rw [if_neg (fun q => h1 ((nI_eq (by omega) (by omega)).mp q).symm)]
        exact congrArg (fun z => rI z I) (bi_eq (by omega))
/-- a number from 0 on, by its range -/
theorem rg_nI {x : Int32} {n : Nat} (h0 : 0 ≤ x.toInt) (h1 : x.toInt ≤ n) (hn : n < 2 ^ 31) : ∃ k, k ≤ n ∧ x = nI k := by
  refine ⟨x.toInt.toNat, by omega, ?_⟩
  rw [eq_i, nIt (by omega)]
  omega
theorem kd_at {A : Mem} {t : Nat} (h : InvM A) (ht : t < 6) (hk : 0 ≤ A 38 0 t) : ∃ k, k < 5 ∧ A 38 0 t = nI k := by
  obtain ⟨⟨B, -, -, h5, -⟩, -⟩ := h
  have h1 := (h5 t ht).1
  rw [le_i] at hk
  have e0 : (0 : Int32).toInt = 0 := by decide
  obtain ⟨k, h2, h3⟩ := rg_nI (n := 4) (x := A 38 0 t) (by omega) h1.2 (by decide)
  exact ⟨k, by omega, h3⟩
theorem kn_cases (a : Int32) : (∃ k, k < 5 ∧ a = nI k) ∨ ¬ (0 ≤ a ∧ a ≤ 4) := by
  rcases idx_cases a 5 (by decide) with h | h
  · exact Or.inl h
  · refine Or.inr fun q => ?_
    rw [le_i, le_i] at q
    rw [lt_i, le_i] at h
    have e0 : (0 : Int32).toInt = 0 := by decide
    have e5 : (4 : Int32).toInt = 4 := by decide
    have e6 : (nI 5).toInt = 5 := by decide
    omega
theorem kn_ok {k : Nat} (h : k < 5) : 0 ≤ nI k ∧ nI k ≤ 4 := by
  rw [le_i, le_i, nIt (by omega)]
  have e0 : (0 : Int32).toInt = 0 := by decide
  have e5 : (4 : Int32).toInt = 4 := by decide
  omega
theorem op_as (a c : Int32) : opA (f_X7_as a c) (f_X8_as a c) := by
  intro I A hR hM
  rcases kn_cases c with ⟨m, hm, rfl⟩ | hc
  · rcases tk_cases a with ⟨t, ht, rfl⟩ | ha
    · have hT := hR.2.1 t ht
      by_cases hk : 0 ≤ A 38 0 t
      · obtain ⟨k, hk5, ek⟩ := kd_at hM ht hk
        obtain ⟨q1, q2, q3⟩ := hT.2.2.1 hk
        have m1 : f_X8_as (nI t) (nI m) A = if und k m then rI (mEnd A t - mBeg A t + 1) A else rI (-1000003) (mAns A 3) := by
          have y1 : f_X8_as_p83 (nI t) A = rI (mEnd A t - mBeg A t + 1) A := by
            unfold f_X8_as_p83 f_X8_as_p88
            rw [if_neg (by decide), m_ends ht, cI_r, m_begins ht, cI_r]
          have y0 : f_X8_as_p87 (nI t) A = rI (-1000003) (mAns A 3) := rfl
          have ne : ∀ x y : Nat, x < 5 → y < 5 → (nI x = nI y ↔ x = y) := fun x y hx hy => nI_eq (by omega) (by omega)
          unfold f_X8_as f_X8_as_p68
          rw [m_isTake, cI_r, bi_ite, if_pos (tk_ok ht), m_in, cI_r, bi_ite, if_pos (kn_ok hm), ix6 ht, if_pos hk, ix6 ht, ix6 ht, ix6 ht, ek, y1, y0]
          have z0 : (nI m = 0) = (m = 0) := propext (ne m 0 hm (by decide))
          have z1 : (nI m = 1) = (m = 1) := propext (ne m 1 hm (by decide))
          have z3 : (nI m = 3) = (m = 3) := propext (ne m 3 hm (by decide))
          have zk : (nI m = nI k) = (m = k) := propext (ne m k hm hk5)
          have k2 : (nI k = 2) = (k = 2) := propext (ne k 2 hk5 (by decide))
          have k4 : (nI k = 4) = (k = 4) := propext (ne k 4 hk5 (by decide))
          simp only [z0, z1, z3, zk, k2, k4]
          by_cases c0 : m = 0
          · rw [if_pos c0, if_pos (Or.inl c0)]
          · rw [if_neg c0]
            by_cases ck : m = k
            · rw [if_pos ck, if_pos (Or.inr (Or.inl ck))]
            · rw [if_neg ck]
              by_cases c1 : m = 1
              · rw [if_pos c1]
                by_cases d2 : k = 2
                · rw [if_pos d2, if_pos (Or.inr (Or.inr (Or.inl ⟨c1, d2⟩)))]
                · rw [if_neg d2, if_neg (by omega), if_neg (by omega)]
              · rw [if_neg c1]
                by_cases c3 : m = 3
                · rw [if_pos c3]
                  by_cases d4 : k = 4
                  · rw [if_pos d4, if_pos (Or.inr (Or.inr (Or.inr ⟨c3, d4⟩)))]
                  · rw [if_neg d4, if_neg (by omega)]
                · rw [if_neg c3, if_neg (by omega)]
        have c1 : f_X7_as (nI t) (nI m) I = if und k m then rI (mEnd A t - mBeg A t + 1) I else rI (-1000003) (cAns I 2) := by
          unfold f_X7_as f_X7_as_p17
          rw [c_isKind, cI_r, bi_ite, if_pos (kn_ok hm), ask_t ht hT hk, cI_r, if_pos rfl, ix6 ht, q1, ek, c_under hR.2.2.2.2.2.2.2 hk5 hm, cI_r, bi_ite]
          split
          · rw [ix6 ht, ix6 ht, q2, q3]
          · rfl
        by_cases hu : und k m
        · rw [if_pos hu] at m1 c1
          exact op_same hR hM m1 c1
        · rw [if_neg hu] at m1 c1
          exact op_ref 2 (by decide) hR hM m1 c1
      · refine op_ref (c := -1000002) 1 (by decide) hR hM ?_ ?_
        · unfold f_X8_as
          rw [m_isTake, cI_r, bi_ite, if_pos (tk_ok ht), m_in, cI_r, bi_ite, if_pos (kn_ok hm), ix6 ht, if_neg hk]; rfl
        · unfold f_X7_as f_X7_as_p17
          rw [c_isKind, cI_r, bi_ite, if_pos (kn_ok hm), ask_f ht hT hk, cI_r]; rfl
    · refine op_ref (c := -1000001) 0 (by decide) hR hM ?_ ?_
      · unfold f_X8_as
        rw [m_isTake, cI_r, bi_ite, if_neg ha]; rfl
      · unfold f_X7_as f_X7_as_p17
        rw [c_isKind, cI_r, bi_ite, if_pos (kn_ok hm), c_askTake_no ha, cI_r]; rfl
  · refine op_ref (c := -1000001) 0 (by decide) hR hM ?_ ?_
    · unfold f_X8_as
      rw [m_isTake, cI_r, bi_ite]
      split
      · rw [m_in, cI_r, bi_ite, if_neg hc]; rfl
      · rfl
    · unfold f_X7_as f_X7_as_p17
      rw [c_isKind, cI_r, bi_ite, if_neg hc]; rfl
/-- the worth of a beat -/
def mWo (A : Mem) (t b : Nat) : Int32 := 1000 + (if A 38 0 t = 3 then 2 * (-300 * A 44 0 (4 * (24 * t + b)) - 100 * A 44 0 (4 * (24 * t + b) + 1) - 50 * A 44 0 (4 * (24 * t + b) + 2)) else -300 * A 44 0 (4 * (24 * t + b)) - 100 * A 44 0 (4 * (24 * t + b) + 1) - 50 * A 44 0 (4 * (24 * t + b) + 2)) + 200 * A 44 0 (4 * (24 * t + b) + 3) + A 41 0 t
theorem alg_w2 (m x0 x1 x2 x3 : Int32) : 1000 + m + 2 * -300 * x0 + 2 * -100 * x1 + 2 * -50 * x2 + 1 * 200 * x3 = 1000 + 2 * (-300 * x0 - 100 * x1 - 50 * x2) + 200 * x3 + m := by grind
theorem alg_w1 (m x0 x1 x2 x3 : Int32) : 1000 + m + 1 * -300 * x0 + 1 * -100 * x1 + 1 * -50 * x2 + 1 * 200 * x3 = 1000 + (-300 * x0 - 100 * x1 - 50 * x2) + 200 * x3 + m := by grind
theorem alg_w0 (m x3 : Int32) : 1000 + m + 2 * -300 * 0 + 2 * -100 * 0 + 2 * -50 * 0 + 1 * 200 * x3 = 1000 + (-300 * 0 - 100 * 0 - 50 * 0) + 200 * x3 + m := by grind
theorem mul4 (n : Nat) : (4 : Int32) * nI n = nI (4 * n) := pk_mul 4 n
theorem m_worthOf {t b : Nat} (ht : t < 6) (hb : b < 24) (A : Mem) : f_X8_worthOf (nI t) (nI b) A = rI (mWo A t b) A := by
  unfold f_X8_worthOf f_X8_worthOf_p67 mWo
  rw [mul24, mul4]
  have e1 : nI (4 * (24 * t + b)) + 1 = nI (4 * (24 * t + b) + 1) := nI_1 _
  have e2 : nI (4 * (24 * t + b)) + 2 = nI (4 * (24 * t + b) + 2) := nI_add _ 2
  have e3 : nI (4 * (24 * t + b)) + 3 = nI (4 * (24 * t + b) + 3) := nI_add _ 3
  rw [e1, e2, e3, ix_nI (by omega) (by decide), ix_nI (by omega) (by decide), ix_nI (by omega) (by decide), ix6 ht]
  split
  · rw [ix_nI (by omega) (by decide), ix6 ht]
  · rw [ix_nI (by omega) (by decide), ix6 ht]
theorem wo_step {I : Mem} {n t b m : Nat} {bl sm : Int32} (hm : m < 4) (hb : b < 24) : f_X6_worthAt_p39 (n + 1) t (nI b) bl sm (nI m) I = f_X6_worthAt_p39 n t (nI b) bl (sm + (if 0 ≤ I 102 0 m then 1 else bl) * I 102 0 m * I 11 t (4 * b + m)) (nI (m + 1)) I := by
  rw [f_X6_worthAt_p39, if_neg (show ¬ (4 : Int32) ≤ nI m from nI_ge hm (by decide)), ix_nI hm (by decide)]
  have e : nI b * 4 + nI m = nI (4 * b + m) := by
    have : nI b * 4 = nI (b * 4) := pk_mul b 4
    rw [this, nI_add, Nat.mul_comm]
  unfold f_X6_worthAt_p59
  split <;> (rw [ix_nI hm (by decide), e, ix_nI (by omega) (by decide), nI_1])
theorem c_worthAt {I A : Mem} {t b : Nat} (hM : InvM A) (hX : rcX I) (ht : t < 6) (hb : b < 24) (h : rcT I A t) (hk : 0 ≤ A 38 0 t) (hh : mHas A t (nI b)) : f_X6_worthAt t (nI b) I = rI (mWo A t b) I := by
  obtain ⟨k, hk5, ek⟩ := kd_at hM ht hk
  have hmk : ∀ m, m < 4 → I 11 t (4 * b + m) = A 44 0 (4 * (24 * t + b) + m) := fun m hm => h.2.2.2.2.2.2.2.1 b hb m hm
  have x0 : I 102 0 0 = -300 := hX.2 0
  have x1 : I 102 0 1 = -100 := hX.2 1
  have x2 : I 102 0 2 = -50 := hX.2 2
  have x3 : I 102 0 3 = 200 := hX.2 3
  have key : ∀ bl : Int32, f_X6_worthAt_p26 t (nI b) bl I = rI (1000 + A 41 0 t + bl * -300 * A 44 0 (4 * (24 * t + b)) + bl * -100 * A 44 0 (4 * (24 * t + b) + 1) + bl * -50 * A 44 0 (4 * (24 * t + b) + 2) + 1 * 200 * A 44 0 (4 * (24 * t + b) + 3)) I := by
    intro bl
    unfold f_X6_worthAt_p26
    rw [FU_s 0, show (0 : Int32) = nI 0 from rfl, wo_step (by decide) hb, wo_step (by decide) hb, wo_step (by decide) hb, wo_step (by decide) hb, hmk 0 (by decide), hmk 1 (by decide), hmk 2 (by decide), hmk 3 (by decide), x0, x1, x2, x3, h.2.2.2.1]
    rw [f_X6_worthAt_p39, if_pos (by decide)]
    rfl
  unfold f_X6_worthAt
  rw [c_has h hk, cI_r, bi_ite, if_pos hh, (h.2.2.1 hk).1, ek, show (3 : Int32) = nI 3 from rfl, c_under hX hk5 (by decide), cI_r, bi_ite, key, key]
  unfold mWo
  rw [ek]
  obtain ⟨⟨B, -, -, h5, -⟩, -⟩ := hM
  have hz := (h5 t ht).2.2.2.2.2.1 b hb
  rcases (show k = 3 ∨ k = 4 ∨ (k ≠ 3 ∧ k ≠ 4) by omega) with rfl | rfl | ⟨n3, n4⟩
  · rw [if_pos (by omega), if_pos (by decide), alg_w2]
  · have z0 := (hz 0 (by decide)).2 ek
    have z1 := (hz 1 (by decide)).2 ek
    have z2 := (hz 2 (by decide)).2 ek
    rw [Nat.add_zero] at z0
    rw [if_pos (by omega), if_neg (by decide), z0, z1, z2, alg_w0]
  · rw [if_neg (by omega), if_neg (show ¬ nI k = 3 from fun q => n3 ((nI_eq (by omega) (by decide)).mp q)), alg_w1]
theorem op_worth (a c : Int32) : opA (f_X7_worth a c) (f_X8_worth a c) := by
  intro I A hR hM
  rcases tk_cases a with ⟨t, ht, rfl⟩ | ha
  · have hT := hR.2.1 t ht
    by_cases hk : 0 ≤ A 38 0 t
    · by_cases hb : mHas A t c
      · obtain ⟨b, hb1, hb2, rfl⟩ := has_num hM ht hb
        refine op_same hR hM (c := mWo A t b) ?_ ?_
        · unfold f_X8_worth
          rw [look_t ht hk, cI_r, if_neg (by decide), m_has ht, cI_r, bi_ite, if_pos hb, m_worthOf ht hb1, cI_r]
        · unfold f_X7_worth f_X7_askTakeBeat
          rw [ask_t ht hT hk, cI_r, if_pos rfl, ix6 ht, c_has hT hk, cI_r, bi_ite, if_pos hb, cI_r, if_pos rfl, ix6 ht, c_worthAt hM hR.2.2.2.2.2.2.2 ht hb1 hT hk hb, cI_r]
      · refine op_ref (c := -1000001) 0 (by decide) hR hM ?_ ?_
        · unfold f_X8_worth
          rw [look_t ht hk, cI_r, if_neg (by decide), m_has ht, cI_r, bi_ite, if_neg hb]; rfl
        · unfold f_X7_worth f_X7_askTakeBeat
          rw [ask_t ht hT hk, cI_r, if_pos rfl, ix6 ht, c_has hT hk, cI_r, bi_ite, if_neg hb]; rfl
    · refine op_ref (c := -1000002) 1 (by decide) hR hM ?_ ?_
      · unfold f_X8_worth
        rw [look_f ht hk]; rfl
      · unfold f_X7_worth f_X7_askTakeBeat
        rw [ask_f ht hT hk]; rfl
  · refine op_ref (c := -1000001) 0 (by decide) hR hM ?_ ?_
    · unfold f_X8_worth
      rw [m_look_no ha]; rfl
    · unfold f_X7_worth f_X7_askTakeBeat
      rw [c_askTake_no ha]; rfl
