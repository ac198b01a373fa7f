/-- the pictures without the way -/
def rc4 (I A : Mem) : Prop := rcS I A ∧ (∀ t, t < 6 → rcT I A t) ∧ rcJ I A ∧ rcC I A ∧ True
theorem rc4_of {I A : Mem} (h : RC I A) : rc4 I A := ⟨h.1, h.2.1, h.2.2.1, h.2.2.2.1, trivial⟩
theorem c_measure {I A : Mem} {s t b : Nat} (hR : rc4 I A) (hM : InvM A) (hs : s < 6) (ht : t < 6) (hb : b < 24) (hj : jOk A s t b) : ∃ J, f_X1_measure (nI s) (nI t) (nI b) I = rV J ∧ cch I J ∧ rcC J A ∧ J 15 0 ((b * 6 + s) * 6 + t) = mSh A s t b ∧ J 16 0 ((b * 6 + s) * 6 + t) = mLoss A s t b := by
  obtain ⟨w, D, hw, h1w, hD, ew, eD⟩ := far_at hM
  obtain ⟨ns, hns, es⟩ := cnt_at hM hs
  obtain ⟨nt, hnt, et⟩ := cnt_at hM ht
  have e1 : I 12 0 1 = nI w := by rw [hR.2.2.1.1, ew]
  have e1' : I 12 0 2 = nI D := by rw [hR.2.2.1.2.1, eD]
  obtain ⟨J1, l1, p1, -, p3⟩ := c_lis13 (x := 10 * mFr A s b - nI w) (hR.2.1 s hs) es hns (show 2 * w ≤ 40 by omega) (2 * w) 0 FU I (by omega) (by rw [FU_v]; omega) (fun _ _ => rfl)
  have c1 : cch I J1 := fun g hg => p1 g (by omega)
  obtain ⟨J2, l2, q1, -, q3⟩ := c_lis14 (x := 10 * mFr A t b - nI w - nI D) (rcT_cch c1 (hR.2.1 t ht)) et hnt (show 2 * (w + D) ≤ 58 by omega) (2 * (w + D)) 0 FU J1 (by omega) (by rw [FU_v]; omega) (fun _ _ => rfl)
  have e2 : J1 12 0 1 = nI w := by rw [p1 12 (by decide), e1]
  have e2' : J1 12 0 2 = nI D := by rw [p1 12 (by decide), e1']
  have e3 : J2 12 0 1 = nI w := by rw [q1 12 (by decide), e2]
  have e3' : J2 12 0 2 = nI D := by rw [q1 12 (by decide), e2']
  have c2 : cch I J2 := fun g hg => by rw [q1 g (by omega), p1 g (by omega)]
  have hL : ∀ k, k ≤ 2 * D → cLk (fun i => J2 13 0 i) (fun i => J2 14 0 (i + k)) (2 * w) = mLk A s t b (Int32.ofInt ((k : Int) - D)) := fun k hk => by
    unfold mLk
    rw [ew, nI_clamp (by omega), ← c_lk hM hs ht (show 2 * w ≤ 40 by omega), ← ofI_sub (by omega) (by omega)]
    refine cLk_cong (fun i hi => ?_) (fun i hi => ?_)
    · rw [q1 13 (by decide), p3 i (by omega) hi]
    · rw [q3 (i + k) (by omega) (by omega), ← nI_add, alg_k6]
  obtain ⟨y, y1, y2, y3, y4⟩ := c_scan hM hs ht hb hj (rcT_cch c2 (hR.2.1 s hs)) (rcT_cch c2 (hR.2.1 t ht)) hw h1w hD e3 e3' rfl hL (2 * D) 0 FU (-(D : Int)) (by omega) (by rw [FU_v]; omega) (by omega) (by omega) (fun e g1 g2 => by
    have : e = -(D : Int) := by omega
    subst this
    exact Or.inr ⟨rfl, Or.inr ⟨rfl, by omega⟩⟩)
  obtain ⟨z, z1, z2, z3, z4, z5⟩ := shL_best (A := A) (s := s) (t := t) (b := b) D (by omega)
  have hyz : y = z := bet_one (y3 z z1 z2) (z5 y y1 y2)
  have eSh : Int32.ofInt y = mSh A s t b := by
    unfold mSh
    rw [eD, nI_clamp (by omega), z3, hyz]
  have eLs : 1000 - mLk A s t b (Int32.ofInt y) + apt (mLvI A s (mFr A s b)) (mLvI A t (mFr A t b)) = mLoss A s t b := by
    unfold mLoss
    rw [eSh]
  rw [eLs, eSh] at y4
  have em : f_X1_measure (nI s) (nI t) (nI b) I = rV (mup (mup J2 15 0 ((b * 6 + s) * 6 + t) (mSh A s t b)) 16 0 ((b * 6 + s) * 6 + t) (mLoss A s t b)) := by
    unfold f_X1_measure f_X1_listen_13 f_X1_listen_14
    rw [ix6 hs, ix6 hs, c_startOf (hR.2.1 s hs) hj.2.2.1 (by omega) (jOk_s hj), cI_r, e1, mul2, show (0 : Int32) = nI 0 from rfl, l1, cV_r, ix6 ht, ix6 ht, c_startOf (rcT_cch c1 (hR.2.1 t ht)) hj.2.2.2.1 (by omega) (Or.inl hj.2.2.2.2.1), cI_r, e2, e2', nI_add, mul2, l2, cV_r, c_sq13 e3 hw, cI_r, c_sq14 e3 hw, cI_r, c_liken e3 hw (by omega), cI_r, e3', ofI_neg (by omega)]
    have h0 := hL 0 (by omega)
    unfold cLk at h0
    refine Eq.trans ?_ y4
    have : (if sqs (fun i => J2 13 0 i) (2 * w) + sqs (fun i => J2 14 0 i) (2 * w) = 0 then (0 : Int32) else 2000 * dotC (fun i => J2 13 0 i) (fun i => J2 14 0 (i + 0)) (2 * w) / (sqs (fun i => J2 13 0 i) (2 * w) + sqs (fun i => J2 14 0 i) (2 * w))) = mLk A s t b (Int32.ofInt (-(D : Int))) := by
      refine Eq.trans h0 ?_
      rw [show ((0 : Nat) : Int) - D = -(D : Int) by omega]
    exact congrArg (fun v => f_X1_measure_p120 FU (nI s) (nI t) (nI b) (sqs (fun i => J2 13 0 i) (2 * w)) (sqs (fun i => J2 14 0 i) (2 * w)) (Int32.ofInt (-(D : Int))) v 1 J2) this
  refine ⟨_, em, fun g hg => ?_, ?_, ?_, ?_⟩
  · rw [mup_g (by omega), mup_g (by omega)]; exact c2 g hg
  · intro s' t' b' hs' ht' hb'
    by_cases hc : s' = s ∧ t' = t ∧ b' = b
    · obtain ⟨rfl, rfl, rfl⟩ := hc
      right
      intro _
      rw [mup_g (by decide), mup_at, mup_at]
      exact ⟨rfl, rfl⟩
    · have hne : ¬ (b' * 6 + s') * 6 + t' = (b * 6 + s) * 6 + t := by omega
      rw [mup_0, if_neg hne, mup_g (by decide), mup_g (by decide), mup_0, if_neg hne, q1 15 (by decide), q1 16 (by decide), p1 15 (by decide), p1 16 (by decide)]
      exact hR.2.2.2.1 s' t' b' hs' ht' hb'
  · rw [mup_g (by decide), mup_at]
  · rw [mup_at]
theorem c_shiftAt {I A : Mem} {s t b : Nat} (hR : RC I A) (hM : InvM A) (hs : s < 6) (ht : t < 6) (hb : b < 24) (hj : jOk A s t b) : ∃ J, f_X1_shiftAt (nI s) (nI t) (nI b) I = rI (mSh A s t b) J ∧ cch I J ∧ RC J A := by
  unfold f_X1_shiftAt f_X1_cellOf
  rw [cI_r, cell_ix, ix_nI (by omega) (by decide)]
  by_cases h : I 16 0 ((b * 6 + s) * 6 + t) = -1
  · obtain ⟨J, e, c, r, v1, v2⟩ := c_measure (rc4_of hR) hM hs ht hb hj
    refine ⟨J, ?_, c, RC_cch hR c r⟩
    rw [if_pos h, e, cV_r, ix_nI (by omega) (by decide), v1]
  · refine ⟨I, ?_, cch_rf, hR⟩
    rw [if_neg h, ix_nI (by omega) (by decide)]
    rcases hR.2.2.2.1 s t b hs ht hb with z | z
    · exact absurd z h
    · rw [(z hj).1]
theorem c_shift4 {I A : Mem} {s t b : Nat} (hR : rc4 I A) (hM : InvM A) (hs : s < 6) (ht : t < 6) (hb : b < 24) (hj : jOk A s t b) : ∃ J, f_X1_shiftAt (nI s) (nI t) (nI b) I = rI (mSh A s t b) J ∧ cch I J ∧ rcC J A := by
  unfold f_X1_shiftAt f_X1_cellOf
  rw [cI_r, cell_ix, ix_nI (by omega) (by decide)]
  by_cases h : I 16 0 ((b * 6 + s) * 6 + t) = -1
  · obtain ⟨J, e, c, r, v1, v2⟩ := c_measure hR hM hs ht hb hj
    refine ⟨J, ?_, c, r⟩
    rw [if_pos h, e, cV_r, ix_nI (by omega) (by decide), v1]
  · refine ⟨I, ?_, cch_rf, hR.2.2.2.1⟩
    rw [if_neg h, ix_nI (by omega) (by decide)]
    rcases hR.2.2.2.1 s t b hs ht hb with z | z
    · exact absurd z h
    · rw [(z hj).1]
theorem c_costAt {I A : Mem} {s t b : Nat} (hR : RC I A) (hM : InvM A) (hs : s < 6) (ht : t < 6) (hb : b < 24) (hj : jOk A s t b) : ∃ J, f_X1_costAt (nI s) (nI t) (nI b) I = rI (A 33 0 17 + mLoss A s t b) J ∧ cch I J ∧ RC J A := by
  unfold f_X1_costAt f_X1_cellOf f_X1_costAt_p26
  rw [cI_r, cell_ix, ix_nI (by omega) (by decide)]
  by_cases h : I 16 0 ((b * 6 + s) * 6 + t) = -1
  · obtain ⟨J, e, c, r, v1, v2⟩ := c_measure (rc4_of hR) hM hs ht hb hj
    refine ⟨J, ?_, c, RC_cch hR c r⟩
    rw [if_pos h, e, cV_r, ix_nI (by omega) (by decide), v2, c 12 (by decide), hR.2.2.1.2.2.1]
  · refine ⟨I, ?_, cch_rf, hR⟩
    rw [if_neg h, ix_nI (by omega) (by decide)]
    rcases hR.2.2.2.1 s t b hs ht hb with z | z
    · exact absurd z h
    · rw [(z hj).2, hR.2.2.1.2.2.1]
/-- what both say of a pair of takes and a beat -/
theorem two_cases {I A : Mem} (hR : RC I A) (hM : InvM A) (a c x : Int32) : (∃ s t b, s < 6 ∧ t < 6 ∧ b < 24 ∧ a = nI s ∧ c = nI t ∧ x = nI b ∧ jOk A s t b ∧ f_X8_lookTwo a c x A = rI 0 A ∧ f_X7_askJoin a c x I = rI 0 I) ∨ ∃ v, (v = -1000001 ∨ v = -1000002 ∨ v = -1000006) ∧ f_X8_lookTwo a c x A = rI v A ∧ f_X7_askJoin a c x I = rI v I := by
  generalize em : f_X8_lookTwo a c x A = rm
  generalize ec : f_X7_askJoin a c x I = rc
  unfold f_X8_lookTwo at em
  unfold f_X7_askJoin f_X7_askPair at ec
  rcases tk_cases a with ⟨s, hs, rfl⟩ | ha
  · rcases tk_cases c with ⟨t, ht, rfl⟩ | hc
    · have hTs := hR.2.1 s hs
      have hTt := hR.2.1 t ht
      rw [m_isTake, cI_r, bi_ite, if_pos (tk_ok hs), m_isTake, cI_r, bi_ite, if_pos (tk_ok ht), ix6 hs, ix6 ht] at em
      rw [c_isTake, cI_r, bi_ite, if_pos (tk_ok hs), c_isTake, cI_r, bi_ite, if_pos (tk_ok ht), ix6 hs, ix6 ht] at ec
      have neg : ∀ v : Int32, (v < 0 ↔ ¬ 0 ≤ v) := fun v => by rw [lt_i, le_i]; omega
      by_cases ks : 0 ≤ A 38 0 s
      · rw [if_neg (fun z => (neg _).mp z ks)] at em
        rw [if_neg (here_t hTs ks)] at ec
        by_cases kt : 0 ≤ A 38 0 t
        · rw [if_pos kt, ix6 hs] at em
          rw [if_neg (here_t hTt kt), cI_r, if_pos rfl, ix6 hs, hTs.2.2.2.2.2.2.2.2.1] at ec
          rcases laid_01 hM hs with es | es
          · rw [if_pos es] at em ec
            exact Or.inr ⟨_, Or.inr (Or.inr rfl), em.symm, ec.symm⟩
          · have es0 : ¬ A 46 0 s = 0 := by rw [es]; decide
            rw [if_neg es0, ix6 ht] at em
            rw [if_neg es0, ix6 ht, hTt.2.2.2.2.2.2.2.2.1] at ec
            rcases laid_01 hM ht with et | et
            · rw [if_pos et] at em ec
              exact Or.inr ⟨_, Or.inr (Or.inr rfl), em.symm, ec.symm⟩
            · have et0 : ¬ A 46 0 t = 0 := by rw [et]; decide
              rw [if_neg et0, m_has ht, cI_r, bi_ite] at em
              rw [if_neg et0, ix6 ht, c_has hTt kt, cI_r, bi_ite] at ec
              by_cases hx : mHas A t x
              · rw [if_pos hx] at em ec
                obtain ⟨b, hb, -, rfl⟩ := has_num hM ht hx
                obtain ⟨f, l, hfl, hl, -, ef, el⟩ := beg_at hM hs
                obtain ⟨q1, q2, q3⟩ := hTs.2.2.1 ks
                have hb1 := has_iff ef el hl b (by omega) hfl
                rw [m_has hs, cI_r, bi_ite] at em
                rw [ix6 hs] at ec
                unfold f_X6_leadsTo at ec
                rw [q2, q3, ef, el, nI_1] at ec
                have lb : nI b < nI f ↔ b < f := nI_ltI (by omega) (by omega)
                have rb : nI (l + 1) < nI b ↔ l + 1 < b := nI_ltI (by omega) (by omega)
                by_cases g1 : mHas A s (nI b)
                · have := hb1.mp g1
                  rw [if_pos g1] at em
                  rw [if_neg (by rw [lb]; omega), if_neg (by rw [rb]; omega), cI_r, if_neg (by decide)] at ec
                  exact Or.inl ⟨s, t, b, hs, ht, hb, rfl, rfl, rfl, ⟨ks, kt, es, et, hx, Or.inl g1⟩, em.symm, ec.symm⟩
                · rw [if_neg g1, m_has hs, cI_r, bi_ite] at em
                  have g1' : ¬ (f ≤ b ∧ b ≤ l) := fun z => g1 (hb1.mpr z)
                  by_cases h0 : b = 0
                  · subst h0
                    have n1 : ¬ mHas A s (nI 0 - 1) := by
                      rintro ⟨w1, -⟩
                      rw [ef, le_i, nIt (by omega), sub1 (by omega)] at w1
                      omega
                    rw [if_neg n1] at em
                    rw [if_pos (by rw [lb]; omega), cI_r, if_pos rfl] at ec
                    exact Or.inr ⟨_, Or.inl rfl, em.symm, ec.symm⟩
                  · rw [mM1 (by omega)] at em
                    have hb2 := has_iff ef el hl (b - 1) (by omega) hfl
                    by_cases g2 : mHas A s (nI (b - 1))
                    · have := hb2.mp g2
                      rw [if_pos g2] at em
                      rw [if_neg (by rw [lb]; omega), if_neg (by rw [rb]; omega), cI_r, if_neg (by decide)] at ec
                      exact Or.inl ⟨s, t, b, hs, ht, hb, rfl, rfl, rfl, ⟨ks, kt, es, et, hx, Or.inr ⟨by omega, g2⟩⟩, em.symm, ec.symm⟩
                    · have g2' : ¬ (f ≤ b - 1 ∧ b - 1 ≤ l) := fun z => g2 (hb2.mpr z)
                      rw [if_neg g2] at em
                      by_cases g3 : b < f
                      · rw [if_pos (lb.mpr g3), cI_r, if_pos rfl] at ec
                        exact Or.inr ⟨_, Or.inl rfl, em.symm, ec.symm⟩
                      · rw [if_neg (fun z => g3 (lb.mp z)), if_pos (by rw [rb]; omega), cI_r, if_pos rfl] at ec
                        exact Or.inr ⟨_, Or.inl rfl, em.symm, ec.symm⟩
              · rw [if_neg hx] at em ec
                exact Or.inr ⟨_, Or.inl rfl, em.symm, ec.symm⟩
        · rw [if_neg kt] at em
          rw [if_pos (here_f hTt kt), cI_r, if_neg (by decide)] at ec
          exact Or.inr ⟨_, Or.inr (Or.inl rfl), em.symm, ec.symm⟩
      · rw [if_pos ((neg _).mpr ks)] at em
        rw [if_pos (here_f hTs ks), cI_r, if_neg (by decide)] at ec
        exact Or.inr ⟨_, Or.inr (Or.inl rfl), em.symm, ec.symm⟩
    · rw [m_isTake, cI_r, bi_ite, if_pos (tk_ok hs), m_isTake, cI_r, bi_ite, if_neg hc] at em
      rw [c_isTake, cI_r, bi_ite, if_pos (tk_ok hs), c_isTake, cI_r, bi_ite, if_neg hc, cI_r, if_neg (by decide)] at ec
      exact Or.inr ⟨_, Or.inl rfl, em.symm, ec.symm⟩
  · rw [m_isTake, cI_r, bi_ite, if_neg ha] at em
    rw [c_isTake, cI_r, bi_ite, if_neg ha, cI_r, if_neg (by decide)] at ec
    exact Or.inr ⟨_, Or.inl rfl, em.symm, ec.symm⟩
theorem op_like (a c x d : Int32) : opA (f_X7_like a c x d) (f_X8_like a c x d) := by
  intro I A hR hM
  by_cases hd : -20 ≤ d ∧ d ≤ 20
  · have m1 : f_X8_like a c x d A = cI (f_X8_lookTwo a c x A) fun v4 J3 => f_X8_like_p24 a c x d v4 J3 := by
      unfold f_X8_like
      rw [m_in, cI_r, bi_ite, if_pos hd]
    have c1 : f_X7_like a c x d I = cI (f_X7_askJoin a c x I) fun v8 J7 => f_X7_like_p24 a c x d v8 J7 := by
      unfold f_X7_like
      rw [c_within, cI_r, bi_ite, if_pos hd]
    rcases two_cases hR hM a c x with ⟨s, t, b, hs, ht, hb, rfl, rfl, rfl, hj, e1, e2⟩ | ⟨v, hv, e1, e2⟩
    · obtain ⟨J, e3, q, q15, q16⟩ := c_likenessBy hR hM hs ht hb hj d
      refine ⟨mLk A s t b d, J, A, ?_, hM, agr_rf, ?_, RC_cch hR q ?_, keepC_cch q⟩
      · rw [m1, e1, cI_r]
        unfold f_X8_like_p24
        rw [if_pos (by decide), m_likeness hM hs ht (by omega), cI_r]
      · rw [c1, e2, cI_r]
        unfold f_X7_like_p24
        rw [if_pos rfl, e3, cI_r]
      · unfold rcC
        rw [q15, q16]; exact hR.2.2.2.1
    · rw [e1, cI_r] at m1
      rw [e2, cI_r] at c1
      rcases hv with rfl | rfl | rfl
      · exact op_ref (c := -1000001) 0 (by decide) hR hM m1 c1
      · exact op_ref (c := -1000002) 1 (by decide) hR hM m1 c1
      · exact op_ref (c := -1000006) 5 (by decide) hR hM m1 c1
  · refine op_ref (c := -1000001) 0 (by decide) hR hM ?_ ?_
    · unfold f_X8_like
      rw [m_in, cI_r, bi_ite, if_neg hd]; rfl
    · unfold f_X7_like
      rw [c_within, cI_r, bi_ite, if_neg hd]; rfl
theorem op_shift (a c x : Int32) : opA (f_X7_shift a c x) (f_X8_shift a c x) := by
  intro I A hR hM
  rcases two_cases hR hM a c x with ⟨s, t, b, hs, ht, hb, rfl, rfl, rfl, hj, e1, e2⟩ | ⟨v, hv, e1, e2⟩
  · obtain ⟨J, e3, q, q2⟩ := c_shiftAt hR hM hs ht hb hj
    refine ⟨mSh A s t b, J, A, ?_, hM, agr_rf, ?_, q2, keepC_cch q⟩
    · unfold f_X8_shift
      rw [e1, cI_r, if_pos (by decide), m_shiftOf hM hs ht (by omega), cI_r]
    · unfold f_X7_shift
      rw [e2, cI_r, if_pos rfl, e3, cI_r]
  · have m1 : f_X8_shift a c x A = cI (f_X8_answer v A) fun v6 J5 => rI v6 J5 := by
      unfold f_X8_shift
      rw [e1, cI_r, if_neg (by rcases hv with rfl | rfl | rfl <;> decide)]
    have c1 : f_X7_shift a c x I = cI (f_X7_refuse v I) fun v6 J5 => rI v6 J5 := by
      unfold f_X7_shift
      rw [e2, cI_r, if_neg (by rcases hv with rfl | rfl | rfl <;> decide)]
    rcases hv with rfl | rfl | rfl
    · exact op_ref (c := -1000001) 0 (by decide) hR hM m1 c1
    · exact op_ref (c := -1000002) 1 (by decide) hR hM m1 c1
    · exact op_ref (c := -1000006) 5 (by decide) hR hM m1 c1
theorem op_cost (a c x : Int32) : opA (f_X7_cost a c x) (f_X8_cost a c x) := by
  intro I A hR hM
  rcases two_cases hR hM a c x with ⟨s, t, b, hs, ht, hb, rfl, rfl, rfl, hj, e1, e2⟩ | ⟨v, hv, e1, e2⟩
  · obtain ⟨J, e3, q, q2⟩ := c_costAt hR hM hs ht hb hj
    refine ⟨A 33 0 17 + mLoss A s t b, J, A, ?_, hM, agr_rf, ?_, q2, keepC_cch q⟩
    · unfold f_X8_cost
      rw [e1, cI_r, if_pos (by decide), m_costOf hM hs ht (by omega), cI_r]
    · unfold f_X7_cost
      rw [e2, cI_r, if_pos rfl, e3, cI_r]
  · have m1 : f_X8_cost a c x A = cI (f_X8_answer v A) fun v6 J5 => rI v6 J5 := by
      unfold f_X8_cost
      rw [e1, cI_r, if_neg (by rcases hv with rfl | rfl | rfl <;> decide)]
    have c1 : f_X7_cost a c x I = cI (f_X7_refuse v I) fun v6 J5 => rI v6 J5 := by
      unfold f_X7_cost
      rw [e2, cI_r, if_neg (by rcases hv with rfl | rfl | rfl <;> decide)]
    rcases hv with rfl | rfl | rfl
    · exact op_ref (c := -1000001) 0 (by decide) hR hM m1 c1
    · exact op_ref (c := -1000002) 1 (by decide) hR hM m1 c1
    · exact op_ref (c := -1000006) 5 (by decide) hR hM m1 c1
