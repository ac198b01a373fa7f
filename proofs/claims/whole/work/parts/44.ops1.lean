/-! ===== found, tell, way, bar, keep, sample, frame ===== -/
theorem op_found (a : Int32) : opA (f_X7_found a) (f_X8_found a) := by
  intro I A hR hM
  by_cases h : (-1000007 ≤ a ∧ a ≤ -1000001)
  · have h7 : a = -1000001 ∨ a = -1000002 ∨ a = -1000003 ∨ a = -1000004 ∨ a = -1000005 ∨ a = -1000006 ∨ a = -1000007 := by
      rw [le_i, le_i] at h
      simp only [eq_i]
      have e1 : (-1000001 : Int32).toInt = -1000001 := by decide
      have e2 : (-1000002 : Int32).toInt = -1000002 := by decide
      have e3 : (-1000003 : Int32).toInt = -1000003 := by decide
      have e4 : (-1000004 : Int32).toInt = -1000004 := by decide
      have e5 : (-1000005 : Int32).toInt = -1000005 := by decide
      have e6 : (-1000006 : Int32).toInt = -1000006 := by decide
      have e7 : (-1000007 : Int32).toInt = -1000007 := by decide
      omega
    have hf := hR.2.2.2.2.2.1
    rcases h7 with rfl | rfl | rfl | rfl | rfl | rfl | rfl
    · exact op_same hR hM (c := A 50 0 1) rfl (by rw [← hf 0 (by decide)]; rfl)
    · exact op_same hR hM (c := A 50 0 2) rfl (by rw [← hf 1 (by decide)]; rfl)
    · exact op_same hR hM (c := A 50 0 3) rfl (by rw [← hf 2 (by decide)]; rfl)
    · exact op_same hR hM (c := A 50 0 4) rfl (by rw [← hf 3 (by decide)]; rfl)
    · exact op_same hR hM (c := A 50 0 5) rfl (by rw [← hf 4 (by decide)]; rfl)
    · exact op_same hR hM (c := A 50 0 6) rfl (by rw [← hf 5 (by decide)]; rfl)
    · exact op_same hR hM (c := A 50 0 7) rfl (by rw [← hf 6 (by decide)]; rfl)
  · refine op_ref (c := -1000001) 0 (by decide) hR hM ?_ ?_
    · unfold f_X8_found
      rw [m_in, cI_r, bi_ite, if_neg h]; rfl
    · unfold f_X7_found
      rw [c_within, cI_r, bi_ite, if_neg h]; rfl
theorem op_tell (a : Int32) : opA (f_X7_tell a) (f_X8_tell a) := by
  intro I A hR hM
  obtain ⟨n, hn, e⟩ := hM.2
  have e2 : I 0 0 8 = nI n := hR.2.2.2.2.2.2.1.1.trans e
  by_cases h : n = 30
  · subst h
    refine op_ref (c := -1000005) 4 (by decide) hR hM ?_ ?_
    · unfold f_X8_tell
      rw [e, if_pos (by decide)]; rfl
    · unfold f_X7_tell
      rw [e2, if_neg (by decide)]; rfl
  · have hlt : n < 30 := by omega
    have a1 : f_X8_tell a A = rI (nI (n + 1)) (mup (mup A 49 0 n a) 33 0 22 (nI (n + 1))) := by
      unfold f_X8_tell
      rw [e, if_neg (show ¬ nI n = 30 from fun q => h ((nI_eq (by omega) (by decide)).mp q)), ix_nI hlt (by decide)]
      have e3 : (mup A 49 0 n a) 33 0 22 = nI n := by rw [mup_g (by decide)]; exact e
      rw [e3, nI_1, mup_at]
    have a2 : f_X7_tell a I = rI (nI (n + 1)) (mup (mup I 32 0 n a) 0 0 8 (nI (n + 1))) := by
      unfold f_X7_tell
      rw [e2, if_pos (show nI n < 30 from (nI_ltI (by omega) (by decide)).mpr hlt), ix_nI hlt (by decide)]
      have e3 : (mup I 32 0 n a) 0 0 8 = nI n := by rw [mup_g (by decide)]; exact e2
      rw [e3, nI_1, mup_at]
    refine ⟨_, _, _, a1, ?_, agr_up (agr_up agr_rf (by decide)) (by decide), a2, ?_, agr_up (agr_up agr_rf (by decide)) (by decide)⟩
    · refine InvM_cong hM ⟨fun g h1 h2 => by rw [mup_g (by omega), mup_g (by omega)], fun k hk => ?_⟩ ⟨n + 1, by omega, mup_at⟩
      rw [mup_ne (by omega), mup_g (by decide)]
    · refine RC_cong hR ⟨fun g h1 h2 => by rw [mup_g (by omega), mup_g (by omega)], fun k hk => ?_⟩ (fun g h1 h2 => by rw [mup_g (by omega), mup_g (by omega)]) ?_ ?_ ?_
      · rw [mup_ne (by omega), mup_g (by decide)]
      · intro j hj
        rw [mup_g (by decide), mup_g (by decide), mup_g (by decide), mup_g (by decide)]
        exact hR.2.2.2.2.2.1 j hj
      · refine ⟨by rw [mup_at, mup_at], fun j hj => ?_⟩
        rw [mup_g (show (32 : Nat) ≠ 0 by decide), mup_g (show (49 : Nat) ≠ 33 by decide), mup_0, mup_0]
        split
        · rfl
        · exact hR.2.2.2.2.2.2.1.2 j hj
      · have := hR.2.2.2.2.2.2.2
        unfold rcX at this ⊢
        simp only [mup_g (show (101 : Nat) ≠ 0 by decide), mup_g (show (101 : Nat) ≠ 32 by decide), mup_g (show (102 : Nat) ≠ 0 by decide), mup_g (show (102 : Nat) ≠ 32 by decide)]
        exact this
theorem op_way (a : Int32) : opA (f_X7_way a) (f_X8_way a) := by
  intro I A hR hM
  obtain ⟨⟨B, ⟨hB1, hB2, hB3⟩, -, -, -, hw⟩, -⟩ := id hM
  have hp := hR.2.2.2.2.1
  have hb0 : I 1 0 0 = nI B := hR.1.1.trans hB3
  rcases hw with hw | ⟨hw, hwo⟩
  · refine op_ref (c := -1000006) 5 (by decide) hR hM ?_ ?_
    · unfold f_X8_way f_X8_way_p15
      rw [if_pos hw, if_pos hw]; rfl
    · unfold f_X7_way
      rw [if_pos (hp.1.trans hw)]; rfl
  · have hn : ¬ A 33 0 19 = 0 := by rw [hw]; decide
    have hn2 : ¬ I 27 0 2 = 0 := by rw [hp.1]; exact hn
    rcases bt_cases a hB1 (by omega) with ⟨b, hb, rfl⟩ | hb
    · refine op_same hR hM (c := A 48 0 b) ?_ ?_
      · unfold f_X8_way
        rw [if_neg hn, m_isBeat, cI_r, bi_ite, hB3, if_pos (bt_ok hb (by omega)), ix_nI (by omega) (by decide)]
      · unfold f_X7_way
        rw [if_neg hn2, c_holds hb0 hB1 (by omega), cI_r, bi_ite, if_pos (bt_ok hb (by omega)), ix_nI (by omega) (by decide)]
        rw [(hp.2 hw).1 b (by rw [hB3, nI_clamp (by omega)]; exact hb)]
    · refine op_ref (c := -1000001) 0 (by decide) hR hM ?_ ?_
      · unfold f_X8_way f_X8_way_p15
        rw [if_neg hn, m_isBeat, cI_r, bi_ite, hB3, if_neg hb, if_neg hn]; rfl
      · unfold f_X7_way
        rw [if_neg hn2, c_holds hb0 hB1 (by omega), cI_r, bi_ite, if_neg hb]; rfl
/-- the way is gone, a number of a beat is written -/
theorem RC_bt {I A : Mem} {g g' b : Nat} {v : Int32} (hR : RC I A) (hM : InvM A) (hg : (g = 4 ∧ g' = 36) ∨ (g = 5 ∧ g' = 37)) : RC (mup (mup I g 0 b v) 27 0 2 0) (mup (mup A g' 0 b v) 33 0 19 0) := by
  have hag : ∀ u, u < 6 → agT A (mup (mup A g' 0 b v) 33 0 19 0) u := by
    intro u hu
    rcases hg with ⟨rfl, rfl⟩ | ⟨rfl, rfl⟩ <;> exact agT_rf
  have hG : agG A (mup (mup A g' 0 b v) 33 0 19 0) := by rcases hg with ⟨rfl, rfl⟩ | ⟨rfl, rfl⟩ <;> exact agG_rf
  have hS := hR.1
  refine RC_w0 hR hM (fun u hu => (hag u hu).1) hG (fun u hu => rcT_ag hM hu (hag u hu) hG ?_ (hR.2.1 u hu)) ?_ ?_ ?_ ?_ mup_at mup_at ?_ ?_ ?_
  · rcases hg with ⟨rfl, rfl⟩ | ⟨rfl, rfl⟩ <;> exact ⟨rfl, rfl, rfl, rfl, rfl⟩
  · rcases hg with ⟨rfl, rfl⟩ | ⟨rfl, rfl⟩ <;> rfl
  · rcases hg with ⟨rfl, rfl⟩ | ⟨rfl, rfl⟩ <;> rfl
  · rcases hg with ⟨rfl, rfl⟩ | ⟨rfl, rfl⟩
    · refine ⟨hS.1, fun j hj => ⟨(hS.2 j hj).1, (hS.2 j hj).2.1, ?_, (hS.2 j hj).2.2.2⟩⟩
      rw [mup_g (show (4 : Nat) ≠ 27 by decide), mup_g (show (36 : Nat) ≠ 33 by decide), mup_0, mup_0]
      split
      · rfl
      · exact (hS.2 j hj).2.2.1
    · refine ⟨hS.1, fun j hj => ⟨(hS.2 j hj).1, (hS.2 j hj).2.1, (hS.2 j hj).2.2.1, ?_⟩⟩
      rw [mup_g (show (5 : Nat) ≠ 27 by decide), mup_g (show (37 : Nat) ≠ 33 by decide), mup_0, mup_0]
      split
      · rfl
      · exact (hS.2 j hj).2.2.2
  · rcases hg with ⟨rfl, rfl⟩ | ⟨rfl, rfl⟩ <;> exact hR.2.2.1
  · rcases hg with ⟨rfl, rfl⟩ | ⟨rfl, rfl⟩ <;> exact hR.2.2.2.2.2.1
  · rcases hg with ⟨rfl, rfl⟩ | ⟨rfl, rfl⟩ <;> exact hR.2.2.2.2.2.2.1
  · rcases hg with ⟨rfl, rfl⟩ | ⟨rfl, rfl⟩ <;> exact hR.2.2.2.2.2.2.2
theorem InvM_bt {A : Mem} {g' b : Nat} {v : Int32} (hM : InvM A) (hg : (g' = 36 ∧ (v = 0 ∨ v = 1)) ∨ (g' = 37 ∧ rg (-1) 5 v)) : InvM (mup (mup A g' 0 b v) 33 0 19 0) := by
  obtain ⟨⟨B, h1, h2, h3, h4, -⟩, h6⟩ := hM
  rcases hg with ⟨rfl, hv⟩ | ⟨rfl, hv⟩
  · refine ⟨⟨B, h1, fun j hj => ?_, h3, h4, Or.inl mup_at⟩, h6⟩
    obtain ⟨q1, q2, q3, q4⟩ := h2 j hj
    refine ⟨q1, q2, ?_, q4⟩
    rw [mup_g (by decide), mup_0]
    split
    · exact hv
    · exact q3
  · refine ⟨⟨B, h1, fun j hj => ?_, h3, h4, Or.inl mup_at⟩, h6⟩
    obtain ⟨q1, q2, q3, q4⟩ := h2 j hj
    refine ⟨q1, q2, q3, ?_⟩
    rw [mup_g (by decide), mup_0]
    split
    · exact hv
    · exact q4
theorem op_keep (a c : Int32) : opA (f_X7_keep a c) (f_X8_keep a c) := by
  intro I A hR hM
  obtain ⟨⟨B, ⟨hB1, hB2, hB3⟩, -⟩, -⟩ := id hM
  have hb0 : I 1 0 0 = nI B := hR.1.1.trans hB3
  rcases bt_cases a hB1 (by omega) with ⟨b, hb, rfl⟩ | hb
  · by_cases hc : (-1 ≤ c ∧ c ≤ 5)
    · have a1 : f_X8_keep (nI b) c A = rI (A 37 0 b) (mup (mup A 37 0 b c) 33 0 19 0) := by
        unfold f_X8_keep
        rw [m_isBeat, cI_r, bi_ite, hB3, if_pos (bt_ok hb (by omega)), m_in, cI_r, bi_ite, if_pos hc, ix_nI (by omega) (by decide), ix_nI (by omega) (by decide)]
      have a2 : f_X7_keep (nI b) c I = rI (A 37 0 b) (mup (mup I 5 0 b c) 27 0 2 0) := by
        unfold f_X7_keep
        rw [c_holds hb0 hB1 (by omega), cI_r, bi_ite, if_pos (bt_ok hb (by omega)), c_within, cI_r, bi_ite, if_pos hc, ix_nI (by omega) (by decide), ix_nI (by omega) (by decide), (hR.1.2 b (by omega)).2.2.2]
      refine ⟨_, _, _, a1, InvM_bt hM (Or.inr ⟨rfl, ?_⟩), agr_up (agr_up agr_rf (by decide)) (by decide), a2, RC_bt hR hM (Or.inr ⟨rfl, rfl⟩), agr_up (agr_up agr_rf (by decide)) (by decide)⟩
      rw [le_i, le_i] at hc
      exact hc
    · refine op_ref (c := -1000001) 0 (by decide) hR hM ?_ ?_
      · unfold f_X8_keep f_X8_keep_p17
        rw [m_isBeat, cI_r, bi_ite, hB3, if_pos (bt_ok hb (by omega)), m_in, cI_r, bi_ite, if_neg hc]; rfl
      · unfold f_X7_keep f_X7_keep_p20
        rw [c_holds hb0 hB1 (by omega), cI_r, bi_ite, if_pos (bt_ok hb (by omega)), c_within, cI_r, bi_ite, if_neg hc]; rfl
  · refine op_ref (c := -1000001) 0 (by decide) hR hM ?_ ?_
    · unfold f_X8_keep f_X8_keep_p17
      rw [m_isBeat, cI_r, bi_ite, hB3, if_neg hb]; rfl
    · unfold f_X7_keep f_X7_keep_p20
      rw [c_holds hb0 hB1 (by omega), cI_r, bi_ite, if_neg hb]; rfl
theorem znar_b {c : Int32} (h : c = 0 ∨ c = 1) : znar c = c := by rcases h with rfl | rfl <;> decide +kernel
theorem op_bar (a c : Int32) (hc : c = 0 ∨ c = 1) : opA (f_X7_bar a c) (f_X8_bar a c) := by
  intro I A hR hM
  obtain ⟨⟨B, ⟨hB1, hB2, hB3⟩, -⟩, -⟩ := id hM
  have hb0 : I 1 0 0 = nI B := hR.1.1.trans hB3
  have e0 : (0 : Int32).toInt = 0 := by decide
  have e1 : (1 : Int32).toInt = 1 := by decide
  rcases bt_cases a hB1 (by omega) with ⟨b, hb, rfl⟩ | hb
  · by_cases h0 : b = 0
    · subst h0
      refine op_ref (c := -1000001) 0 (by decide) hR hM ?_ ?_
      · unfold f_X8_bar
        rw [m_in, cI_r, bi_ite, if_neg (fun q => absurd q.1 (by decide))]; rfl
      · unfold f_X7_bar f_X7_bar_p15
        rw [if_pos (by decide)]; rfl
    · have hin : (1 ≤ nI b ∧ nI b ≤ nI B - 1) := by
        refine ⟨?_, (bt_ok hb (by omega)).2⟩
        rw [le_i, nIt (by omega)]; omega
      have hne : ¬ nI b = 0 := by
        rw [eq_i, nIt (by omega)]; omega
      have hbr := (hR.1.2 b (by omega)).2.2.1
      have a1 : f_X8_bar (nI b) c A = rI (if A 36 0 b = c then 0 else 1) (mup (mup A 36 0 b c) 33 0 19 0) := by
        unfold f_X8_bar f_X8_bar_p36
        rw [m_in, cI_r, bi_ite, hB3, if_pos hin, ix_nI (by omega) (by decide), ix_nI (by omega) (by decide), ix_nI (by omega) (by decide), znar_b hc]
        split <;> rfl
      have a2 : f_X7_bar (nI b) c I = rI (if A 36 0 b = c then 0 else 1) (mup (mup I 4 0 b c) 27 0 2 0) := by
        unfold f_X7_bar f_X7_bar_p40
        rw [if_neg hne, c_holds hb0 hB1 (by omega), cI_r, bi_ite, if_pos (bt_ok hb (by omega)), ix_nI (by omega) (by decide), ix_nI (by omega) (by decide), ix_nI (by omega) (by decide), znar_b hc, hbr]
        split <;> rfl
      exact ⟨_, _, _, a1, InvM_bt hM (Or.inl ⟨rfl, hc⟩), agr_up (agr_up agr_rf (by decide)) (by decide), a2, RC_bt hR hM (Or.inl ⟨rfl, rfl⟩), agr_up (agr_up agr_rf (by decide)) (by decide)⟩
  · refine op_ref (c := -1000001) 0 (by decide) hR hM ?_ ?_
    · unfold f_X8_bar
      rw [m_in, cI_r, bi_ite, hB3, if_neg (fun q => hb ⟨by have := q.1; rw [le_i] at this ⊢; omega, q.2⟩)]
      rfl
    · unfold f_X7_bar f_X7_bar_p15
      split
      · rfl
      · rw [c_holds hb0 hB1 (by omega), cI_r, bi_ite, if_neg hb]; rfl
