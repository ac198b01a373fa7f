/-! ===== set ===== -/
theorem op_set4 {fc fm : Mem → RT} {I A I' : Mem} {v w d c r : Int32} (hR : RC I A) (hM : InvM A) (hw : rg 1 20 w) (hd : rg 0 9 d) (hc : rg 0 1000 c) (hr : rg 0 9 r)
    (gI : ∀ g, g ≠ 12 → g ≠ 16 → g ≠ 27 → I' g = I g) (i1 : I' 12 0 1 = w) (i2 : I' 12 0 2 = d) (i3 : I' 12 0 3 = c) (i4 : I' 27 0 3 = r) (i5 : I' 27 0 2 = 0)
    (hC : (∀ j, j < 864 → I' 16 0 j = -1) ∨ (I' 16 = I 16 ∧ w = A 33 0 15 ∧ d = A 33 0 16))
    (em : fm A = rI v (mup (mup (mup (mup (mup A 33 0 15 w) 33 0 16 d) 33 0 17 c) 33 0 18 r) 33 0 19 0)) (ec : fc I = rI v I') : ∃ v I1 A1, fm A = rI v A1 ∧ InvM A1 ∧ keepM A A1 ∧ fc I = rI v I1 ∧ RC I1 A1 ∧ keepC I I1 := by
  have zg : ∀ g, g ≠ 33 → (mup (mup (mup (mup (mup A 33 0 15 w) 33 0 16 d) 33 0 17 c) 33 0 18 r) 33 0 19 0) g = A g := fun g h => by simp only [mup_g h]
  have z33 : ∀ x, (mup (mup (mup (mup (mup A 33 0 15 w) 33 0 16 d) 33 0 17 c) 33 0 18 r) 33 0 19 0) 33 0 x = if x = 19 then 0 else if x = 18 then r else if x = 17 then c else if x = 16 then d else if x = 15 then w else A 33 0 x := fun x => by simp only [mup_0]
  generalize (mup (mup (mup (mup (mup A 33 0 15 w) 33 0 16 d) 33 0 17 c) 33 0 18 r) 33 0 19 0) = A' at em zg z33
  have y15 : A' 33 0 15 = w := by rw [z33]; rfl
  have y16 : A' 33 0 16 = d := by rw [z33]; rfl
  have y17 : A' 33 0 17 = c := by rw [z33]; rfl
  have y18 : A' 33 0 18 = r := by rw [z33]; rfl
  have y19 : A' 33 0 19 = 0 := by rw [z33]; rfl
  have y0 : A' 33 0 0 = A 33 0 0 := by rw [z33]; rfl
  have y22 : A' 33 0 22 = A 33 0 22 := by rw [z33]; rfl
  have aT : ∀ u, agT A A' u := fun u => by
    unfold agT agJ
    rw [zg 38 (by decide), zg 39 (by decide), zg 40 (by decide), zg 41 (by decide), zg 42 (by decide), zg 43 (by decide), zg 44 (by decide), zg 45 (by decide), zg 46 (by decide), zg 47 (by decide)]
    exact agT_rf
  have hM' : InvM A' := by
    obtain ⟨⟨B, ⟨b1, b2, eB⟩, hb, htk, hs, -⟩, hn⟩ := hM
    refine ⟨⟨B, ⟨b1, b2, by rw [y0]; exact eB⟩, ?_, fun u hu => tkOk_ag (aT u) y0 (htk u hu), by rw [y15, y16, y17, y18]; exact ⟨hw, hd, hc, hr⟩, Or.inl y19⟩, by rw [y22]; exact hn⟩
    rw [zg 34 (by decide), zg 35 (by decide), zg 36 (by decide), zg 37 (by decide)]
    exact hb
  refine ⟨v, I', A', em, hM', fun g hg => (zg g (by omega)).symm, ec, ?_, fun g hg => (gI g (by omega) (by omega) (by omega)).symm⟩
  obtain ⟨rS, rT, rJ, rC, -, rF, rN, rX⟩ := hR
  refine ⟨?_, fun u hu => ?_, ?_, ?_, ⟨by rw [i5, y19], fun z => absurd (y19.symm.trans z) (by decide)⟩, ?_, ?_, ?_⟩
  · unfold rcS
    rw [gI 1 (by decide) (by decide) (by decide), gI 2 (by decide) (by decide) (by decide), gI 3 (by decide) (by decide) (by decide), gI 4 (by decide) (by decide) (by decide), gI 5 (by decide) (by decide) (by decide), y0, zg 34 (by decide), zg 35 (by decide), zg 36 (by decide), zg 37 (by decide)]
    exact rS
  · have := rT u hu
    unfold rcT mFr mHas mBeg mEnd isP at this ⊢
    rw [gI 7 (by decide) (by decide) (by decide), gI 8 (by decide) (by decide) (by decide), gI 9 (by decide) (by decide) (by decide), gI 10 (by decide) (by decide) (by decide), gI 11 (by decide) (by decide) (by decide), y0, zg 35 (by decide), zg 38 (by decide), zg 39 (by decide), zg 40 (by decide), zg 41 (by decide), zg 42 (by decide), zg 43 (by decide), zg 44 (by decide), zg 45 (by decide), zg 46 (by decide), zg 47 (by decide)]
    exact this
  · unfold rcJ
    rw [i1, i2, i3, i4, y15, y16, y17, y18]
    exact ⟨rfl, rfl, rfl, rfl⟩
  · rcases hC with hC | ⟨h1, h2, h3⟩
    · intro s t b hs ht hb
      exact Or.inl (hC _ (by omega))
    · refine rcC_ag hM ⟨y0, by rw [y15, h2], by rw [y16, h3], fun b _ => by rw [zg 35 (by decide)]⟩ (fun u _ => Or.inl (aT u).1) (gI 15 (by decide) (by decide) (by decide)) h1 rC
  · unfold rcF
    rw [gI 31 (by decide) (by decide) (by decide), zg 50 (by decide)]
    exact rF
  · unfold rcN
    rw [gI 0 (by decide) (by decide) (by decide), gI 32 (by decide) (by decide) (by decide), y22, zg 49 (by decide)]
    exact rN
  · unfold rcX
    rw [gI 101 (by decide) (by decide) (by decide), gI 102 (by decide) (by decide) (by decide)]
    exact rX
theorem mup_same {X : Mem} {g i k : Nat} {v : Int32} (h : X g i k = v) : mup X g i k v = X := by
  funext a b c
  unfold mup
  split
  · rename_i h'; obtain ⟨rfl, rfl, rfl⟩ := h'; exact h.symm
  · rfl
theorem s4_cases (a : Int32) : a = 0 ∨ a = 1 ∨ a = 2 ∨ a = 3 ∨ ¬ (0 ≤ a ∧ a ≤ 3) := by
  by_cases h : 0 ≤ a ∧ a ≤ 3
  · obtain ⟨k, hk, rfl⟩ := rg_nI (n := 3) (le_i.mp h.1) (le_i.mp h.2) (by decide)
    match k, hk with
    | 0, _ => exact Or.inl rfl
    | 1, _ => exact Or.inr (Or.inl rfl)
    | 2, _ => exact Or.inr (Or.inr (Or.inl rfl))
    | 3, _ => exact Or.inr (Or.inr (Or.inr (Or.inl rfl)))
  · exact Or.inr (Or.inr (Or.inr (Or.inr h)))
theorem s4_no {α : Type} {a : Int32} (h : ¬ (0 ≤ a ∧ a ≤ 3)) {y0 y1 y2 y3 d : Option α} : tsw a 0 [y0, y1, y2, y3] d = d := by
  have n0 : ¬ a = nI 0 := by rintro rfl; exact h (by decide)
  have n1 : ¬ a = nI 1 := by rintro rfl; exact h (by decide)
  have n2 : ¬ a = nI 2 := by rintro rfl; exact h (by decide)
  have n3 : ¬ a = nI 3 := by rintro rfl; exact h (by decide)
  simp only [tsw, if_neg n0, if_neg n1, if_neg n2, if_neg n3]
theorem op_set (a c : Int32) : opA (f_X7_set a c) (f_X8_set a c) := by
  intro I A hR hM
  obtain ⟨⟨B, -, -, -, ⟨s1, s2, s3, s4⟩, -⟩, hn⟩ := id hM
  obtain ⟨j1, j2, j3, j4⟩ := hR.2.2.1
  have gg : ∀ (x : Mem) (k : Nat) (v : Int32) (g : Nat), g ≠ 12 → g ≠ 16 → g ≠ 27 → (mup (mup I 12 0 k v) 27 0 2 0) g = I g := fun _ k v g h1 h2 h3 => by rw [mup_g h3, mup_g h1]
  rcases s4_cases a with rfl | rfl | rfl | rfl | ha
  · by_cases h : 1 ≤ c ∧ c ≤ 20
    · refine op_set4 (v := A 33 0 15) (w := c) (d := A 33 0 16) (c := A 33 0 17) (r := A 33 0 18) (I' := mup (fil (mup I 12 0 1 c) 16 0 0 864 (-1)) 27 0 2 0) hR hM ⟨le_i.mp h.1, le_i.mp h.2⟩ s2 s3 s4 (fun g h1 h2 h3 => by rw [mup_g h3, fil_g h2, mup_g h1]) ?_ ?_ ?_ ?_ ?_ (Or.inl fun j hj => ?_) ?_ ?_
      · rw [mup_g (by decide), fil_g (by decide), mup_at]
      · rw [mup_g (by decide), fil_g (by decide), mup_0]; exact j2
      · rw [mup_g (by decide), fil_g (by decide), mup_0]; exact j3
      · rw [mup_0, fil_g (by decide), mup_g (by decide)]; exact j4
      · rw [mup_at]
      · rw [mup_g (by decide), fil_at, if_pos ⟨by omega, hj⟩]
      · unfold f_X8_set
        rw [m_in, cI_r, bi_ite, if_pos (by decide), if_pos rfl, m_in, cI_r, bi_ite, if_pos h]
        rfl
      · unfold f_X7_set f_X7_isSetting f_X7_setting f_X1_forgetAll
        simp only [tsw]
        rw [if_pos (by decide), c_within, cI_r, rZ_bi, cI_r, bi_ite, if_pos h, if_pos (by decide), cI_r, if_pos (by decide), filled_16, cV_r, cV_r, j1]
        rfl
    · refine op_ref (c := -1000001) 0 (by decide) hR hM ?_ ?_
      · unfold f_X8_set
        rw [m_in, cI_r, bi_ite, if_pos (by decide), if_pos rfl, m_in, cI_r, bi_ite, if_neg h]
        rfl
      · unfold f_X7_set f_X7_isSetting
        simp only [tsw]
        rw [if_pos (by decide), c_within, cI_r, rZ_bi, cI_r, bi_ite, if_neg h]
        rfl
  · by_cases h : 0 ≤ c ∧ c ≤ 9
    · refine op_set4 (v := A 33 0 16) (w := A 33 0 15) (d := c) (c := A 33 0 17) (r := A 33 0 18) (I' := mup (fil (mup I 12 0 2 c) 16 0 0 864 (-1)) 27 0 2 0) hR hM s1 ⟨le_i.mp h.1, le_i.mp h.2⟩ s3 s4 (fun g h1 h2 h3 => by rw [mup_g h3, fil_g h2, mup_g h1]) ?_ ?_ ?_ ?_ ?_ (Or.inl fun j hj => ?_) ?_ ?_
      · rw [mup_g (by decide), fil_g (by decide), mup_0]; exact j1
      · rw [mup_g (by decide), fil_g (by decide), mup_at]
      · rw [mup_g (by decide), fil_g (by decide), mup_0]; exact j3
      · rw [mup_0, fil_g (by decide), mup_g (by decide)]; exact j4
      · rw [mup_at]
      · rw [mup_g (by decide), fil_at, if_pos ⟨by omega, hj⟩]
      · unfold f_X8_set f_X8_set_p23
        rw [m_in, cI_r, bi_ite, if_pos (by decide), if_neg (by decide), if_pos rfl, m_in, cI_r, bi_ite, if_pos h]
        rfl
      · unfold f_X7_set f_X7_isSetting f_X7_setting f_X1_forgetAll
        simp only [tsw]
        rw [if_neg (by decide), if_pos (by decide), c_within, cI_r, rZ_bi, cI_r, bi_ite, if_pos h, if_neg (by decide), if_pos (by decide), cI_r, if_neg (by decide), if_pos (by decide), filled_16, cV_r, cV_r, j2]
        rfl
    · refine op_ref (c := -1000001) 0 (by decide) hR hM ?_ ?_
      · unfold f_X8_set f_X8_set_p23
        rw [m_in, cI_r, bi_ite, if_pos (by decide), if_neg (by decide), if_pos rfl, m_in, cI_r, bi_ite, if_neg h]
        rfl
      · unfold f_X7_set f_X7_isSetting
        simp only [tsw]
        rw [if_neg (by decide), if_pos (by decide), c_within, cI_r, rZ_bi, cI_r, bi_ite, if_neg h]
        rfl
  · by_cases h : 0 ≤ c ∧ c ≤ 1000
    · refine op_set4 (v := A 33 0 17) (w := A 33 0 15) (d := A 33 0 16) (c := c) (r := A 33 0 18) (I' := mup (mup I 12 0 3 c) 27 0 2 0) hR hM s1 s2 ⟨le_i.mp h.1, le_i.mp h.2⟩ s4 (gg I 3 c) ?_ ?_ ?_ ?_ ?_ (Or.inr ⟨?_, rfl, rfl⟩) ?_ ?_
      · rw [mup_g (by decide), mup_0]; exact j1
      · rw [mup_g (by decide), mup_0]; exact j2
      · rw [mup_g (by decide), mup_at]
      · rw [mup_0, mup_g (by decide)]; exact j4
      · rw [mup_at]
      · rw [mup_g (by decide), mup_g (by decide)]
      · unfold f_X8_set f_X8_set_p23 f_X8_set_p38
        rw [m_in, cI_r, bi_ite, if_pos (by decide), if_neg (by decide), if_neg (by decide), if_pos rfl, m_in, cI_r, bi_ite, if_pos h]
        rfl
      · unfold f_X7_set f_X7_isSetting f_X7_setting
        simp only [tsw]
        rw [if_neg (by decide), if_neg (by decide), if_pos (by decide), c_within, cI_r, rZ_bi, cI_r, bi_ite, if_pos h, if_neg (by decide), if_neg (by decide), if_pos (by decide), cI_r, if_neg (by decide), if_neg (by decide), if_pos (by decide), j3]
        rfl
    · refine op_ref (c := -1000001) 0 (by decide) hR hM ?_ ?_
      · unfold f_X8_set f_X8_set_p23 f_X8_set_p38
        rw [m_in, cI_r, bi_ite, if_pos (by decide), if_neg (by decide), if_neg (by decide), if_pos rfl, m_in, cI_r, bi_ite, if_neg h]
        rfl
      · unfold f_X7_set f_X7_isSetting
        simp only [tsw]
        rw [if_neg (by decide), if_neg (by decide), if_pos (by decide), c_within, cI_r, rZ_bi, cI_r, bi_ite, if_neg h]
        rfl
  · by_cases h : 0 ≤ c ∧ c ≤ 9
    · refine op_set4 (v := A 33 0 18) (w := A 33 0 15) (d := A 33 0 16) (c := A 33 0 17) (r := c) (I' := mup (mup I 27 0 3 c) 27 0 2 0) hR hM s1 s2 s3 ⟨le_i.mp h.1, le_i.mp h.2⟩ (fun g h1 h2 h3 => by rw [mup_g h3, mup_g h3]) ?_ ?_ ?_ ?_ ?_ (Or.inr ⟨?_, rfl, rfl⟩) ?_ ?_
      · rw [mup_g (by decide), mup_g (by decide)]; exact j1
      · rw [mup_g (by decide), mup_g (by decide)]; exact j2
      · rw [mup_g (by decide), mup_g (by decide)]; exact j3
      · rw [mup_0, if_neg (by decide), mup_at]
      · rw [mup_at]
      · rw [mup_g (by decide), mup_g (by decide)]
      · unfold f_X8_set f_X8_set_p23 f_X8_set_p38 f_X8_set_p54
        rw [m_in, cI_r, bi_ite, if_pos (by decide), if_neg (by decide), if_neg (by decide), if_neg (by decide), if_pos rfl, m_in, cI_r, bi_ite, if_pos h]
        rfl
      · unfold f_X7_set f_X7_isSetting f_X7_setting
        simp only [tsw]
        rw [if_neg (by decide), if_neg (by decide), if_neg (by decide), if_pos (by decide), c_within, cI_r, rZ_bi, cI_r, bi_ite, if_pos h, if_neg (by decide), if_neg (by decide), if_neg (by decide), cI_r, if_neg (by decide), if_neg (by decide), if_neg (by decide), j4]
        rfl
    · refine op_ref (c := -1000001) 0 (by decide) hR hM ?_ ?_
      · unfold f_X8_set f_X8_set_p23 f_X8_set_p38 f_X8_set_p54
        rw [m_in, cI_r, bi_ite, if_pos (by decide), if_neg (by decide), if_neg (by decide), if_neg (by decide), if_pos rfl, m_in, cI_r, bi_ite, if_neg h]
        rfl
      · unfold f_X7_set f_X7_isSetting
        simp only [tsw]
        rw [if_neg (by decide), if_neg (by decide), if_neg (by decide), if_pos (by decide), c_within, cI_r, rZ_bi, cI_r, bi_ite, if_neg h]
        rfl
  · refine op_ref (c := -1000001) 0 (by decide) hR hM ?_ ?_
    · unfold f_X8_set
      rw [m_in, cI_r, bi_ite, if_neg ha]; rfl
    · unfold f_X7_set f_X7_isSetting
      rw [s4_no ha]; rfl
