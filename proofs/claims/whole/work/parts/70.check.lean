/-! ===== may a take stand at a beat; check ===== -/
theorem m_may {A : Mem} {t b : Nat} (hM : InvM A) (ht : t < 6) (hb : b < 24) : f_X8_may (nI t) (nI b) A = rI (bi (mMay A t b)) A := by
  unfold f_X8_may f_X8_may_p46
  have neg : ∀ v : Int32, (v < 0 ↔ ¬ 0 ≤ v) := fun v => by rw [lt_i, le_i]; omega
  rw [ix6 ht]
  by_cases h1 : 0 ≤ A 38 0 t
  · rw [if_neg (fun z => (neg _).mp z h1), ix6 ht]
    rcases laid_01 hM ht with h2 | h2
    · rw [if_pos h2, bi_f (by rintro ⟨-, z, -⟩; rw [h2] at z; exact absurd z (by decide))]
    · rw [if_neg (by rw [h2]; decide), m_has ht, cI_r, bi_ite]
      by_cases h3 : mHas A t (nI b)
      · rw [if_pos h3, ix_nI (by omega) (by decide)]
        by_cases h4 : A 37 0 b < 0
        · rw [if_pos h4, bi_t ⟨h1, h2, h3, Or.inl h4⟩]
        · rw [if_neg h4, ix_nI (by omega) (by decide)]
          by_cases h5 : A 37 0 b = nI t
          · rw [if_pos h5, bi_t ⟨h1, h2, h3, Or.inr h5⟩]
          · rw [if_neg h5, bi_f (by rintro ⟨-, -, -, z | z⟩ <;> contradiction)]
      · rw [if_neg h3, bi_f (fun z => h3 z.2.2.1)]
  · rw [if_pos ((neg _).mpr h1), bi_f (fun z => h1 z.1)]
theorem c_fits {I A : Mem} {t b : Nat} (hR : RC I A) (hM : InvM A) (ht : t < 6) (hb : b < 24) : f_X0_fits (nI t) (nI b) I = rI (bi (mMay A t b)) I := by
  have hT := hR.2.1 t ht
  have hq : I 5 0 b = A 37 0 b := (hR.1.2 b hb).2.2.2
  have hr : rg (-1) 5 (A 37 0 b) := by
    obtain ⟨B, -, hq, -⟩ := hM.1
    exact (hq b hb).2.2.2
  unfold f_X0_fits f_X0_fits_p63
  rw [ix6 ht]
  by_cases h1 : 0 ≤ A 38 0 t
  · rw [if_neg (here_t hT h1), ix6 ht, hT.2.2.2.2.2.2.2.2.1]
    rcases laid_01 hM ht with h2 | h2
    · rw [if_pos h2, bi_f (by rintro ⟨-, z, -⟩; rw [h2] at z; exact absurd z (by decide))]
    · rw [if_neg (by rw [h2]; decide), ix6 ht, c_has hT h1, cI_r, bi_ite]
      by_cases h3 : mHas A t (nI b)
      · rw [if_pos h3, ix_nI (by omega) (by decide), hq]
        have e1 : A 37 0 b = -1 ↔ A 37 0 b < 0 := by
          have h1 := hr.1
          have z : (0 : Int32).toInt = 0 := by decide
          have y : (-1 : Int32).toInt = -1 := by decide
          rw [eq_i, lt_i]
          omega
        by_cases h4 : A 37 0 b < 0
        · rw [if_pos (e1.mpr h4), bi_t ⟨h1, h2, h3, Or.inl h4⟩]
        · rw [if_neg (fun z => h4 (e1.mp z)), ix_nI (by omega) (by decide), hq]
          by_cases h5 : A 37 0 b = nI t
          · rw [if_pos h5, bi_t ⟨h1, h2, h3, Or.inr h5⟩]
          · rw [if_neg h5, bi_f (by rintro ⟨-, -, -, z | z⟩ <;> contradiction)]
      · rw [if_neg h3, bi_f (fun z => h3 z.2.2.1)]
  · rw [if_pos (here_f hT h1), bi_f (fun z => h1 z.1)]
theorem may_j {A : Mem} {s t b : Nat} (h1 : mMay A s b) (h2 : mMay A t (b + 1)) : jOk A s t (b + 1) := ⟨h1.1, h2.1, h1.2.1, h2.2.1, h2.2.2.1, Or.inr ⟨by omega, h1.2.2.1⟩⟩
theorem bar_01 {A : Mem} {b : Nat} (hM : InvM A) (hb : b < 24) : A 36 0 b = 0 ∨ A 36 0 b = 1 := by
  obtain ⟨B, -, hq, -⟩ := hM.1
  exact (hq b hb).2.2.1
theorem ck_loop {A : Mem} {B n : Nat} (hM : InvM A) (hB1 : 1 ≤ B) (hB : B ≤ 24) (eB : A 33 0 0 = nI B) (hn : n ≤ 30) :
    ∀ (d b fuel : Nat) (J : Mem) (sm : Int32), b + d = B → d < fuel → b ≤ n → RC J A → (∀ p, b = p + 1 → ∃ t, t < 6 ∧ A 49 0 p = nI t ∧ mMay A t p) →
    ∃ v J', f_X7_check_p14 fuel (nI n) sm (nI b) J = rI v J' ∧ f_X8_check_p14 fuel (nI n) sm (nI b) A = rI v A ∧ RC J' A ∧ cch J J' := by
  intro d
  induction d with
  | zero =>
    intro b fuel J sm hb hfu hbn hR hp
    obtain ⟨fu, rfl⟩ : ∃ fu, fuel = fu + 1 := ⟨fuel - 1, by omega⟩
    have : b = B := by omega
    subst this
    have eJ : J 1 0 0 = nI b := by rw [hR.1.1, eB]
    have l1 : nI n ≤ nI b ↔ n ≤ b := nI_leI (by omega) (by omega)
    have l2 : nI n = nI b ↔ n = b := nI_eq (by omega) (by omega)
    rw [f_X7_check_p14, f_X8_check_p14, eJ, eB, if_pos ((nI_leI (by omega) (by omega)).mpr (Nat.le_refl _)), if_pos ((nI_leI (by omega) (by omega)).mpr (Nat.le_refl _))]
    by_cases h : n = b
    · rw [if_pos (l1.mpr (by omega)), if_pos (l2.mpr h)]
      exact ⟨_, J, rfl, rfl, hR, cch_rf⟩
    · rw [if_neg (fun z => h (by have := l1.mp z; omega)), if_neg (fun z => h (l2.mp z)), ix_nI (by omega) (by decide), ix_nI (by omega) (by decide), hR.2.2.2.2.2.2.1.2 b (by omega)]
      refine ⟨if A 49 0 b = sm then (if nI n ≤ nI b + 1 then 0 else 101) else 100, J, ?_, ?_, hR, cch_rf⟩
      · split
        · split <;> rfl
        · rfl
      · split
        · split <;> rfl
        · rfl
  | succ d ih =>
    intro b fuel J sm hb hfu hbn hR hp
    obtain ⟨fu, rfl⟩ : ∃ fu, fuel = fu + 1 := ⟨fuel - 1, by omega⟩
    have eJ : J 1 0 0 = nI B := by rw [hR.1.1, eB]
    have e32 : ∀ j, j < 30 → J 32 0 j = A 49 0 j := hR.2.2.2.2.2.2.1.2
    have l1 : nI n ≤ nI b ↔ n ≤ b := nI_leI (by omega) (by omega)
    generalize ec : f_X7_check_p14 (fu + 1) (nI n) sm (nI b) J = rc
    generalize em : f_X8_check_p14 (fu + 1) (nI n) sm (nI b) A = rm
    rw [f_X7_check_p14, eJ, if_neg (by rw [nI_leI (by omega) (by omega)]; omega)] at ec
    rw [f_X8_check_p14, eB, if_neg (by rw [nI_leI (by omega) (by omega)]; omega)] at em
    have no : ∀ X, f_X8_check_p83 X (nI n) sm (nI b) A = rI (1 + nI b) A := fun X => rfl
    by_cases hnb : n ≤ b
    · rw [if_pos (l1.mpr hnb)] at ec
      rw [if_pos (l1.mpr hnb), no] at em
      exact ⟨_, J, ec.symm, em.symm, hR, cch_rf⟩
    · rw [if_neg (fun z => hnb (l1.mp z))] at ec em
      unfold f_X7_mayStand f_X7_mayStand_p56 at ec
      rw [ix_nI (by omega) (by decide), e32 b (by omega), c_isTake, cI_r, bi_ite] at ec
      rw [ix_nI (by omega) (by decide), m_isTake, cI_r, bi_ite] at em
      rcases tk_cases (A 49 0 b) with ⟨t, ht, et⟩ | hx
      · rw [if_pos (by rw [et]; exact tk_ok ht), et, c_fits hR hM ht (by omega), cI_r, bi_ite] at ec
        rw [if_pos (by rw [et]; exact tk_ok ht), ix_nI (by omega) (by decide), et, m_may hM ht (by omega), cI_r, bi_ite] at em
        by_cases hmay : mMay A t b
        · rw [if_pos hmay] at ec em
          have hT := hR.2.1 t ht
          have hw := c_worthAt hM hR.2.2.2.2.2.2.2 ht (show b < 24 by omega) hT hmay.1 hmay.2.2.1
          have wo : ∀ J2, RC J2 A → f_X6_worthAt t (nI b) J2 = rI (mWo A t b) J2 := fun J2 hR2 => c_worthAt hM hR2.2.2.2.2.2.2.2 ht (show b < 24 by omega) (hR2.2.1 t ht) hmay.1 hmay.2.2.1
          have s0 : ∀ x y : Int32, x + y - 0 = x + y := fun x y => by grind
          have hgo : ∀ p, b + 1 = p + 1 → ∃ t, t < 6 ∧ A 49 0 p = nI t ∧ mMay A t p := fun p hp => by
            have : p = b := by omega
            subst this
            exact ⟨t, ht, et, hmay⟩
          by_cases hb0 : b = 0
          · subst hb0
            rw [if_pos (show nI 0 = 0 from rfl), cI_r, if_neg (by decide), ix_nI (by omega) (by decide), e32 0 (by omega), et, ix6 ht, wo J hR, cI_r, if_pos (by decide), nI_1] at ec
            rw [if_pos (show nI 0 = 0 from rfl)] at em
            unfold f_X8_check_p79 f_X8_check_p84 at em
            rw [if_neg (by decide), ix_nI (by omega) (by decide), et, m_worthOf ht (by omega), cI_r, if_pos (by decide), s0, nI_1] at em
            obtain ⟨v, J', q1, q2, q3, q4⟩ := ih 1 fu J (sm + mWo A t 0) (by omega) (by omega) (by omega) hR hgo
            exact ⟨v, J', ec.symm.trans q1, em.symm.trans q2, q3, q4⟩
          · obtain ⟨p, rfl⟩ : ∃ p, b = p + 1 := ⟨b - 1, by omega⟩
            obtain ⟨s, hs, es, hms⟩ := hp p rfl
            have hz : ¬ nI (p + 1) = 0 := by rw [show (0 : Int32) = nI 0 from rfl, nI_eq (by omega) (by omega)]; omega
            have hz2 : ¬ nI (p + 1) ≤ 0 := by rw [show (0 : Int32) = nI 0 from rfl, nI_leI (by omega) (by omega)]; omega
            have eqs : nI t = nI s ↔ t = s := nI_eq (by omega) (by omega)
            have eqs' : nI s = nI t ↔ t = s := (nI_eq (by omega) (by omega)).trans eq_comm
            rw [if_neg hz, mM1 (by omega), Nat.add_sub_cancel, ix_nI (by omega) (by decide), e32 p (by omega), es] at ec
            rw [if_neg hz, mM1 (by omega), Nat.add_sub_cancel, ix_nI (by omega) (by decide), ix_nI (by omega) (by decide), es, et] at em
            unfold f_X8_mayJoin f_X8_mayJoin_p14 at em
            by_cases hts : t = s
            · subst hts
              rw [if_pos rfl, cI_r, if_neg (by decide), ix_nI (by omega) (by decide), e32 (p + 1) (by omega), et, ix6 ht, wo J hR, cI_r, if_neg hz2, ix_nI (by omega) (by decide), ix_nI (by omega) (by decide), e32 (p + 1) (by omega), e32 p (by omega), es, et, if_pos rfl, nI_1] at ec
              rw [if_pos rfl, cI_r, if_neg (by decide)] at em
              unfold f_X8_check_p79 f_X8_check_p84 at em
              rw [if_neg (by decide), ix_nI (by omega) (by decide), et, m_worthOf ht (by omega), cI_r, if_neg hz2, ix_nI (by omega) (by decide), mM1 (by omega), Nat.add_sub_cancel, ix_nI (by omega) (by decide), es, et, if_pos rfl, s0, nI_1] at em
              obtain ⟨v, J', q1, q2, q3, q4⟩ := ih (p + 1 + 1) fu J (sm + mWo A t (p + 1)) (by omega) (by omega) (by omega) hR hgo
              exact ⟨v, J', ec.symm.trans q1, em.symm.trans q2, q3, q4⟩
            · rw [if_neg (fun z => hts (eqs.mp z)), ix_nI (by omega) (by decide), (hR.1.2 (p + 1) (by omega)).2.2.1] at ec
              rw [if_neg (fun z => hts (eqs'.mp z)), ix_nI (by omega) (by decide)] at em
              by_cases hbar : A 36 0 (p + 1) = 0
              · obtain ⟨J2, c1, c2, c3⟩ := c_costAt hR hM hs ht (show p + 1 < 24 by omega) (may_j hms hmay)
                rw [if_pos hbar, cI_r, if_neg (by decide), ix_nI (by omega) (by decide), e32 (p + 1) (by omega), et, ix6 ht, wo J hR, cI_r, if_neg hz2, ix_nI (by omega) (by decide), ix_nI (by omega) (by decide), e32 (p + 1) (by omega), e32 p (by omega), es, et, if_neg (fun z => hts (eqs.mp z)), ix_nI (by omega) (by decide), ix_nI (by omega) (by decide), e32 (p + 1) (by omega), e32 p (by omega), es, et, c1, cI_r, nI_1] at ec
                rw [if_pos hbar, cI_r, if_neg (by decide)] at em
                unfold f_X8_check_p79 f_X8_check_p84 at em
                rw [if_neg (by decide), ix_nI (by omega) (by decide), et, m_worthOf ht (by omega), cI_r, if_neg hz2, ix_nI (by omega) (by decide), mM1 (by omega), Nat.add_sub_cancel, ix_nI (by omega) (by decide), es, et, if_neg (fun z => hts (eqs.mp z)), ix_nI (by omega) (by decide), ix_nI (by omega) (by decide), es, et, m_costOf hM hs ht (by omega), cI_r, nI_1] at em
                obtain ⟨v, J', q1, q2, q3, q4⟩ := ih (p + 1 + 1) fu J2 (sm + mWo A t (p + 1) - (A 33 0 17 + mLoss A s t (p + 1))) (by omega) (by omega) (by omega) c3 hgo
                exact ⟨v, J', ec.symm.trans q1, em.symm.trans q2, q3, cch_tr c2 q4⟩
              · rw [if_neg hbar, cI_r, if_pos rfl] at ec
                rw [if_neg hbar, cI_r, if_pos rfl, no] at em
                exact ⟨_, J, ec.symm, em.symm, hR, cch_rf⟩
        · rw [if_neg hmay, cI_r, if_pos rfl] at ec
          rw [if_neg hmay, no] at em
          exact ⟨_, J, ec.symm, em.symm, hR, cch_rf⟩
      · rw [if_neg hx, cI_r, if_pos rfl] at ec
        rw [if_neg hx, no] at em
        exact ⟨_, J, ec.symm, em.symm, hR, cch_rf⟩
theorem op_check : opA f_X7_check f_X8_check := by
  intro I A hR hM
  obtain ⟨B, ⟨hB1, hB, eB⟩, -⟩ := hM.1
  obtain ⟨n, hn, en⟩ := hM.2
  have eI : I 0 0 8 = nI n := by rw [hR.2.2.2.2.2.2.1.1, en]
  have k33 : ∀ k, k ≠ 22 → mup A 33 0 22 0 33 0 k = A 33 0 k := fun k hk => by rw [mup_0, if_neg hk]
  have hA : agK A (mup A 33 0 22 0) := ⟨fun g h1 h2 => mup_g (by omega), fun k hk => k33 k (by omega)⟩
  have hM' : InvM (mup A 33 0 22 0) := InvM_cong hM hA ⟨0, by omega, by rw [mup_at]; rfl⟩
  have hR' : RC (mup I 0 0 8 0) (mup A 33 0 22 0) := by
    refine RC_cong hR hA (fun g h1 h2 => mup_g (by omega)) ?_ ⟨?_, fun j hj => ?_⟩ ?_
    · unfold rcF
      rw [mup_g (by decide), mup_g (by decide)]
      exact hR.2.2.2.2.2.1
    · rw [mup_at, mup_at]
    · rw [mup_g (by decide), mup_g (by decide)]
      exact hR.2.2.2.2.2.2.1.2 j hj
    · unfold rcX
      rw [mup_g (by decide), mup_g (by decide)]
      exact hR.2.2.2.2.2.2.2
  obtain ⟨v, J', q1, q2, q3, q4⟩ := ck_loop hM' hB1 hB (by rw [k33 0 (by decide)]; exact eB) hn B 0 FU (mup I 0 0 8 0) 0 (by omega) (by rw [FU_v]; omega) (by omega) hR' (fun p hp => by omega)
  refine ⟨v, J', _, ?_, hM', fun g hg => by rw [mup_g (by omega)], ?_, q3, fun g hg => ?_⟩
  · unfold f_X8_check
    rw [en]
    exact q2
  · unfold f_X7_check
    rw [eI]
    exact q1
  · rw [q4 g (by omega), mup_g (by omega)]
