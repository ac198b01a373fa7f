theorem c_fgI {t b : Nat} (ht : t < 6) (hb : b < 24) (K : Int32 → Int32 → Mem → RT) : ∀ (d u fuel : Nat) (X : Mem), u + d = 6 → d < fuel → ∃ X', f_X1_forgetTake_p10 K fuel (nI t) (nI b) (nI u) X = K (nI t) (nI (b + 1)) X' ∧ (∀ g, g ≠ 16 → X' g = X g) ∧ ∀ s' t' b', s' < 6 → t' < 6 → b' < 24 → X' 16 0 ((b' * 6 + s') * 6 + t') = if b' = b ∧ ((s' = t ∧ u ≤ t') ∨ (t' = t ∧ u ≤ s')) then -1 else X 16 0 ((b' * 6 + s') * 6 + t') := by
  intro d
  induction d with
  | zero =>
    intro u fuel X hu hfu
    obtain ⟨fu, rfl⟩ : ∃ fu, fuel = fu + 1 := ⟨fuel - 1, by omega⟩
    have : u = 6 := by omega
    subst this
    exact ⟨X, by rw [f_X1_forgetTake_p10, if_pos (by decide), nI_1], fun _ _ => rfl, fun s' t' b' h1 h2 h3 => by rw [if_neg (by omega)]⟩
  | succ d ih =>
    intro u fuel X hu hfu
    obtain ⟨fu, rfl⟩ : ∃ fu, fuel = fu + 1 := ⟨fuel - 1, by omega⟩
    obtain ⟨X', e, p1, p2⟩ := ih (u + 1) fu (mup (mup X 16 0 ((b * 6 + t) * 6 + u) (-1)) 16 0 ((b * 6 + u) * 6 + t) (-1)) (by omega) (by omega)
    refine ⟨X', ?_, fun g hg => by rw [p1 g hg, mup_g hg, mup_g hg], fun s' t' b' h1 h2 h3 => ?_⟩
    · rw [f_X1_forgetTake_p10, if_neg (show ¬ (6 : Int32) ≤ nI u from nI_ge (b := 6) (by omega) (by decide))]
      unfold f_X1_cellOf
      rw [cI_r, cell_ix, ix_nI (by omega) (by decide), cI_r, cell_ix, ix_nI (by omega) (by decide), nI_1]
      exact e
    · rw [p2 s' t' b' h1 h2 h3, mup_0, mup_0]
      by_cases c1 : b' = b ∧ ((s' = t ∧ u + 1 ≤ t') ∨ (t' = t ∧ u + 1 ≤ s'))
      · rw [if_pos c1, if_pos (by omega)]
      · rw [if_neg c1]
        by_cases c2 : (b' * 6 + s') * 6 + t' = (b * 6 + u) * 6 + t
        · rw [if_pos c2, if_pos (by omega)]
        · rw [if_neg c2]
          by_cases c3 : (b' * 6 + s') * 6 + t' = (b * 6 + t) * 6 + u
          · rw [if_pos c3, if_pos (by omega)]
          · rw [if_neg c3, if_neg (by omega)]
theorem c_forget {t : Nat} (ht : t < 6) (I : Mem) : ∃ X', f_X1_forgetTake (nI t) I = rV X' ∧ (∀ g, g ≠ 16 → X' g = I g) ∧ ∀ s' t' b', s' < 6 → t' < 6 → b' < 24 → X' 16 0 ((b' * 6 + s') * 6 + t') = if s' = t ∨ t' = t then -1 else I 16 0 ((b' * 6 + s') * 6 + t') := by
  have key : ∀ (d b fuel : Nat) (X : Mem), b + d = 24 → d < fuel → ∃ X', f_X1_forgetTake_p2 fuel (nI t) (nI b) X = rV X' ∧ (∀ g, g ≠ 16 → X' g = X g) ∧ ∀ s' t' b', s' < 6 → t' < 6 → b' < 24 → X' 16 0 ((b' * 6 + s') * 6 + t') = if b ≤ b' ∧ (s' = t ∨ t' = t) then -1 else X 16 0 ((b' * 6 + s') * 6 + t') := by
    intro d
    induction d with
    | zero =>
      intro b fuel X hb hfu
      obtain ⟨fu, rfl⟩ : ∃ fu, fuel = fu + 1 := ⟨fuel - 1, by omega⟩
      have : b = 24 := by omega
      subst this
      exact ⟨X, by rw [f_X1_forgetTake_p2, if_pos (by decide)], fun _ _ => rfl, fun s' t' b' h1 h2 h3 => by rw [if_neg (by omega)]⟩
    | succ d ih =>
      intro b fuel X hb hfu
      obtain ⟨fu, rfl⟩ : ∃ fu, fuel = fu + 1 := ⟨fuel - 1, by omega⟩
      obtain ⟨X1, e1, p1, p2⟩ := c_fgI ht (show b < 24 by omega) (fun a1 a2 I => f_X1_forgetTake_p2 fu a1 a2 I) 6 0 FU X (by omega) (by decide)
      obtain ⟨X', e, q1, q2⟩ := ih (b + 1) fu X1 (by omega) (by omega)
      refine ⟨X', ?_, fun g hg => by rw [q1 g hg, p1 g hg], fun s' t' b' h1 h2 h3 => ?_⟩
      · rw [f_X1_forgetTake_p2, if_neg (show ¬ (24 : Int32) ≤ nI b from nI_ge (b := 24) (by omega) (by decide)), show (0 : Int32) = nI 0 from rfl, e1]
        exact e
      · rw [q2 s' t' b' h1 h2 h3, p2 s' t' b' h1 h2 h3]
        by_cases c1 : b + 1 ≤ b' ∧ (s' = t ∨ t' = t)
        · rw [if_pos c1, if_pos (by omega)]
        · rw [if_neg c1]
          by_cases c2 : b' = b ∧ ((s' = t ∧ 0 ≤ t') ∨ (t' = t ∧ 0 ≤ s'))
          · rw [if_pos c2, if_pos (by omega)]
          · rw [if_neg c2, if_neg (by omega)]
  obtain ⟨X', e, p1, p2⟩ := key 24 0 FU I (by omega) (by decide)
  refine ⟨X', e, p1, fun s' t' b' h1 h2 h3 => ?_⟩
  rw [p2 s' t' b' h1 h2 h3]
  by_cases c : s' = t ∨ t' = t
  · rw [if_pos c, if_pos ⟨by omega, c⟩]
  · rw [if_neg c, if_neg (fun z => c z.2)]
theorem lch_RC {I J A : Mem} (hR : RC I A) (h : lch I J) : RC J A := by
  refine RC_cong hR ⟨fun _ _ _ => rfl, fun _ _ => rfl⟩ ?_ ?_ ?_ ?_
  all_goals sorry
theorem op_lay (a : Int32) : opA (f_X7_lay a) (f_X8_lay a) := by
  intro I A hR hM
  rcases tk_cases a with ⟨t, ht, rfl⟩ | ha
  · have hT := hR.2.1 t ht
    by_cases hk : 0 ≤ A 38 0 t
    · obtain ⟨n, hn, e⟩ := cnt_at hM ht
      obtain ⟨f, l, hfl, hl, -, ef, el⟩ := beg_at hM ht
      have hF : (n + 9) / 10 ≤ 40 := by omega
      obtain ⟨X, rk, xc, x47, xrows⟩ := m_reckon hM ht hF hfl hl ef el e hn
      have mm := m_min (a1 := nI t) hM ht hF (show f + (l - f) < 24 by omega) (by have := xrows f (Nat.le_refl _) hfl; exact this) ((n + 9) / 10) 0 FU (by omega) (by rw [FU_v]; omega)
      have m1 : f_X8_lay (nI t) A = f_X8_lay_p42 FU (nI t) (nI ((n + 9) / 10)) (nI f) 1000000000 0 X := by
        unfold f_X8_lay
        rw [look_t ht hk, cI_r, if_pos (by decide), m_frameMany ht e hn, cI_r, rk, cV_r, m_begins ht, cI_r, mBeg_ch xc, ef]
      have m2 : f_X8_lay_p42 FU (nI t) (nI ((n + 9) / 10)) (nI f) 1000000000 0 X = _ := mm
      rw [m2] at m1
      have c1 : f_X7_lay (nI t) I = cI (f_X2_place t I) fun v5 J4 => if (v5 : Int32) = (-1) then (cI (f_X7_refuse (-1000007) J4) fun v8 J7 => rI v8 J7) else (cV (f_X1_forgetTake (nI t) J4) fun J6 => rI v5 (mup J6 27 0 2 0)) := by
        unfold f_X7_lay
        rw [ask_t ht hT hk, cI_r, if_pos rfl, ix6 ht]
      rcases c_place hM ht hR hk e hn hfl hl ef el with ⟨hE, J, pe, pj⟩ | ⟨hlt, J, pe, pg, pu, pc, p1, pf, pl⟩
      · rw [if_pos hE] at m1
        rw [pe, cI_r, if_pos rfl] at c1
        have xk : agK A X := ⟨fun g h1 h2 => by
          by_cases h : g = 47
          · rw [h, x47]
          · exact xc g (by omega) h, fun k _ => by rw [xc 33 (by decide) (by decide)]⟩
        have hM' : InvM X := InvM_cong hM xk (by rw [xc 33 (by decide) (by decide)]; exact hM.2)
        have hR' : RC J X := by
          sorry
        obtain ⟨v, I1, A1, z1, z2, z3, z4, z5, z6⟩ := op_ref (fc := fun _ => f_X7_lay (nI t) I) (fm := fun _ => f_X8_lay (nI t) A) (c := -1000007) 6 (by decide) hR' hM' m1 c1
        exact ⟨v, I1, A1, z1, z2, agr_tr (fun g hg => (xc g (by omega) (by omega)).symm) z3, z4, z5, agr_tr (fun g hg => (pj g (by omega) (by omega) (by omega)).symm) z6⟩
      · sorry
    · refine op_ref (c := -1000002) 1 (by decide) hR hM ?_ ?_
      · unfold f_X8_lay
        rw [look_f ht hk, cI_r]; rfl
      · unfold f_X7_lay
        rw [ask_f ht hT hk, cI_r]; rfl
  · refine op_ref (c := -1000001) 0 (by decide) hR hM ?_ ?_
    · unfold f_X8_lay
      rw [m_look_no ha, cI_r]; rfl
    · unfold f_X7_lay
      rw [c_askTake_no ha, cI_r]; rfl
