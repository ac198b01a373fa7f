theorem c_row {A I : Mem} {t F f l k b : Nat} (hM : InvM A) (ht : t < 6) (hF : F ≤ 40) (hk0 : 0 ≤ A 38 0 t) (hT : rcT I A t) (hS : rcS I A) (hf : f ≤ b) (hl : l < 24) (hbk : b + k = l) (el : I 7 t 4 = nI l) (K : Nat → Int32 → Int32 → Mem → RT) :
    ∀ (d x fuel : Nat) (J : Mem), F ≤ x + k + d → d < fuel → b - f ≤ x → x ≤ 64 → lch I J → (∀ x, x < F → J 18 0 x = mLv A t x) → (∀ x', b - f ≤ x' → x' < x → x' + k < F → J 19 0 (b * 40 + x') = enc (sp A t F k b x') ∧ (sp A t F k b x' ≠ EE → ∀ k', k = k' + 1 → J 20 0 (b * 40 + x') = nI (nx A t F k' b x'))) → (∀ b', b < b' → b' ≤ l → rowC J A t F f (l - b') b') →
    ∃ J', f_X2_place_p67 K fuel t (nI F - nI (k + 1)) (nI b) (nI x) J = K t (nI F - nI (k + 1) + -1) (nI b + -1) J' ∧ lch I J' ∧ (∀ x, x < F → J' 18 0 x = mLv A t x) ∧ ∀ b', b ≤ b' → b' ≤ l → rowC J' A t F f (l - b') b' := by
  intro d
  induction d with
  | zero =>
    intro x fuel J hd hfu hx hx64 hc h18 hrow hrows
    obtain ⟨fu, rfl⟩ : ∃ fu, fuel = fu + 1 := ⟨fuel - 1, by omega⟩
    refine ⟨J, ?_, hc, h18, fun b' h1 h2 => ?_⟩
    · rw [f_X2_place_p67, if_pos (by rw [lt_i, sub_t (by omega) (by omega), nIt (by omega)]; omega)]
    · by_cases hb : b' = b
      · subst hb
        intro x' g1 g2
        rw [show l - b' = k by omega] at g2 ⊢
        exact hrow x' g1 (by omega) g2
      · exact hrows b' (by omega) h2
  | succ d ih =>
    intro x fuel J hd hfu hx hx64 hc h18 hrow hrows
    by_cases hxk : x + k < F
    · obtain ⟨fu, rfl⟩ : ∃ fu, fuel = fu + 1 := ⟨fuel - 1, by omega⟩
      obtain ⟨J1, e, p1, p2, p3, p4⟩ := c_sumUp hM ht hF hk0 hT hS hc h18 hf hl hbk el hx hxk (fun k' hk' => by
        have := hrows (b + 1) (by omega) (by omega)
        rw [show l - (b + 1) = k' by omega] at this
        exact this)
      have ea : nI F - nI (k + 1) + 1 = nI (F - k) := by
        have : ∀ u v : Int32, u - (v + 1) + 1 = u - v := fun u v => by grind
        rw [← nI_1, this]
        exact pk_sub (by omega)
      obtain ⟨J', e', q1, q2, q3⟩ := ih (x + 1) fu J1 (by omega) (by omega) (by omega) (by omega) (fun g h1 h2 h3 => by rw [p1 g h2 h3, hc g h1 h2 h3]) (fun x hx => by rw [p1 18 (by decide) (by decide)]; exact h18 x hx) (fun x' g1 g2 g3 => by
        by_cases hxx : x' = x
        · subst hxx; exact ⟨p3, p4⟩
        · obtain ⟨u1, u2⟩ := p2 (b * 40 + x') (by omega)
          rw [u1, u2]
          exact hrow x' g1 (by omega) g3) (fun b' g1 g2 x' g3 g4 => by
        obtain ⟨u1, u2⟩ := p2 (b' * 40 + x') (by omega)
        rw [u1, u2]
        exact hrows b' g1 g2 x' g3 g4)
      refine ⟨J', ?_, q1, q2, q3⟩
      rw [f_X2_place_p67, if_neg (by rw [lt_i, sub_t (by omega) (by omega), nIt (by omega)]; omega), ea, e, cV_r, nI_1]
      exact e'
    · obtain ⟨fu, rfl⟩ : ∃ fu, fuel = fu + 1 := ⟨fuel - 1, by omega⟩
      refine ⟨J, ?_, hc, h18, fun b' h1 h2 => ?_⟩
      · rw [f_X2_place_p67, if_pos (by rw [lt_i, sub_t (by omega) (by omega), nIt (by omega)]; omega)]
      · by_cases hb : b' = b
        · subst hb
          intro x' g1 g2
          rw [show l - b' = k by omega] at g2 ⊢
          exact hrow x' g1 (by omega) g2
        · exact hrows b' (by omega) h2
theorem c_tab {A I : Mem} {t F f l : Nat} (hM : InvM A) (ht : t < 6) (hF : F ≤ 40) (hk0 : 0 ≤ A 38 0 t) (hT : rcT I A t) (hS : rcS I A) (hfl : f ≤ l) (hl : l < 24) (ef : I 7 t 3 = nI f) (el : I 7 t 4 = nI l) :
    ∀ (d c fuel : Nat) (J : Mem), c = f + d → d < fuel → c ≤ l + 1 → lch I J → (∀ x, x < F → J 18 0 x = mLv A t x) → (∀ b', c ≤ b' → b' ≤ l → rowC J A t F f (l - b') b') →
    ∃ J', lch I J' ∧ (∀ b', f ≤ b' → b' ≤ l → rowC J' A t F f (l - b') b') ∧ f_X2_place_p49 fuel t (nI F - nI (l + 2 - c)) (nI c - 1) J = (cI (f_X2_leastStart (nI f) (nI F - nI (l + 1 - f)) J') fun v6 J5 => if (0 : Int32) ≤ v6 then (cV (f_X2_write t v6 J5) fun J7 => ix (((J7 7 t 3) * 40) + v6) 960 fun j8 => rI (J7 19 0 j8) J7) else (rI (-1) J5)) := by
  intro d
  induction d with
  | zero =>
    intro c fuel J hcf hfu hcl hc h18 hrows
    obtain ⟨fu, rfl⟩ : ∃ fu, fuel = fu + 1 := ⟨fuel - 1, by omega⟩
    have : c = f := by omega
    subst this
    refine ⟨J, hc, hrows, ?_⟩
    have e1 : nI F - nI (l + 2 - c) + 1 = nI F - nI (l + 1 - c) := by
      have : ∀ u v : Int32, u - (v + 1) + 1 = u - v := fun u v => by grind
      rw [show l + 2 - c = l + 1 - c + 1 by omega, ← nI_1, this]
    rw [f_X2_place_p49, hc 7 (by decide) (by decide) (by decide), ef, if_pos (by rw [lt_i, sub1 (by omega), nIt (by omega)]; omega), e1]
  | succ d ih =>
    intro c fuel J hcf hfu hcl hc h18 hrows
    obtain ⟨fu, rfl⟩ : ∃ fu, fuel = fu + 1 := ⟨fuel - 1, by omega⟩
    obtain ⟨b, rfl⟩ : ∃ b, c = b + 1 := ⟨c - 1, by omega⟩
    obtain ⟨J1, e, p1, p2, p3⟩ := c_row (k := l - b) (b := b) hM ht hF hk0 hT hS (by omega) hl (by omega) el (fun r1 a4 a5 I => f_X2_place_p49 fu r1 a4 a5 I) 40 (b - f) FU J (by omega) (by decide) (Nat.le_refl _) (by omega) hc h18 (fun x' g1 g2 => by omega) (fun b' g1 g2 => hrows b' (by omega) g2)
    obtain ⟨J', q1, q2, q3⟩ := ih b fu J1 (by omega) (by omega) (by omega) p1 p2 p3
    refine ⟨J', q1, q2, ?_⟩
    rw [f_X2_place_p49, hc 7 (by decide) (by decide) (by decide), ef, mM1 (by omega), Nat.add_sub_cancel, if_neg (by rw [nI_ltI (by omega) (by omega)]; omega), show nI b - nI f = nI (b - f) from pk_sub (by omega), show l + 2 - (b + 1) = l - b + 1 by omega, e]
    have e1 : nI F - nI (l - b + 1) + -1 = nI F - nI (l + 2 - b) := by
      have : ∀ u v : Int32, u - v + -1 = u - (v + 1) := fun u v => by grind
      rw [show l + 2 - b = l - b + 1 + 1 by omega, ← nI_1 (l - b + 1), this]
    have e2 : nI b + -1 = nI b - 1 := by
      have : ∀ u : Int32, u + -1 = u - 1 := fun u => by grind
      exact this _
    rw [e1, e2]
    exact q3
/-- the first of the best beginnings -/
theorem c_start {A J : Mem} {t F f k : Nat} (hM : InvM A) (ht : t < 6) (hF : F ≤ 40) (hfk : f + k < 24) (hrow : rowC J A t F f k f) (hkF : k ≤ F) :
    ∀ (d n fuel : Nat), n + d = F - k → d < fuel → f_X2_leastStart_p8 fuel (nI f) (nI F - nI (k + 1)) (if mnN (sp A t F k f) 0 n = EE then -1 else nI (fiN (sp A t F k f) 0 n)) (enc (mnN (sp A t F k f) 0 n)) (nI n) J = rI (if mnN (sp A t F k f) 0 (F - k) = EE then -1 else nI (fiN (sp A t F k f) 0 (F - k))) J := by
  intro d
  induction d with
  | zero =>
    intro n fuel hn hfu
    obtain ⟨fu, rfl⟩ : ∃ fu, fuel = fu + 1 := ⟨fuel - 1, by omega⟩
    have : n = F - k := by omega
    subst this
    rw [f_X2_leastStart_p8, if_pos (by rw [lt_i, sub_t (by omega) (by omega), nIt (by omega)]; omega)]
  | succ d ih =>
    intro n fuel hn hfu
    obtain ⟨fu, rfl⟩ : ∃ fu, fuel = fu + 1 := ⟨fuel - 1, by omega⟩
    have hcell := (hrow n (by omega) (by omega)).1
    have hb1 := sp_bd (F := F) hM ht hF k f n (by omega) (by omega)
    have hmn := mn_bd (sp A t F k f) 0 (12000 * (k + 1)) n (fun y h1 h2 => sp_bd hM ht hF k f y (by omega) (by omega))
    have hle := mn_le (sp A t F k f) 0 n
    rw [f_X2_leastStart_p8, if_neg (by rw [lt_i, sub_t (by omega) (by omega), nIt (by omega)]; omega), mul40, nI_add, ix_nI (by omega) (by decide), hcell]
    have hskip : ¬ sp A t F k f (0 + n) < mnN (sp A t F k f) 0 n → f_X2_leastStart_p8 fu (nI f) (nI F - nI (k + 1)) (if mnN (sp A t F k f) 0 n = EE then -1 else nI (fiN (sp A t F k f) 0 n)) (enc (mnN (sp A t F k f) 0 n)) (nI n + 1) J = rI (if mnN (sp A t F k f) 0 (F - k) = EE then -1 else nI (fiN (sp A t F k f) 0 (F - k))) J := fun hh => by
      have := ih (n + 1) fu (by omega) (by omega)
      rw [mnN, fiN, if_neg hh, if_neg hh] at this
      rw [nI_1]
      exact this
    have htake : sp A t F k f (0 + n) < mnN (sp A t F k f) 0 n → f_X2_leastStart_p47 (fun a1 a2 a3 a4 a5 I => f_X2_leastStart_p8 fu a1 a2 a3 a4 a5 I) (nI f) (nI F - nI (k + 1)) (nI n) (enc (sp A t F k f n)) J = rI (if mnN (sp A t F k f) 0 (F - k) = EE then -1 else nI (fiN (sp A t F k f) 0 (F - k))) J := fun hh => by
      have := ih (n + 1) fu (by omega) (by omega)
      rw [mnN, fiN, if_pos hh, if_pos hh, Nat.zero_add, if_neg (by rw [Nat.zero_add] at hh; omega)] at this
      unfold f_X2_leastStart_p47
      rw [nI_1]
      exact this
    rw [Nat.zero_add] at hskip htake
    by_cases hE : sp A t F k f n = EE
    · rw [if_pos ((enc_m (by omega)).mpr hE)]
      exact hskip (by rw [hE]; omega)
    · rw [if_neg (fun z => hE ((enc_m (by omega)).mp z))]
      by_cases h1 : mnN (sp A t F k f) 0 n = EE
      · rw [if_pos ((enc_m (by omega)).mpr h1)]
        exact htake (by rw [h1]; unfold EE at hE hb1 ⊢; omega)
      · rw [if_neg (fun z => h1 ((enc_m (by omega)).mp z))]
        have cmp : enc (mnN (sp A t F k f) 0 n) ≤ enc (sp A t F k f n) ↔ mnN (sp A t F k f) 0 n ≤ sp A t F k f n := by
          rw [enc_n h1, enc_n hE]
          exact nI_leI (by unfold EE at h1 hmn; omega) (by unfold EE at hE hb1; omega)
        by_cases h2 : mnN (sp A t F k f) 0 n ≤ sp A t F k f n
        · rw [if_pos (cmp.mpr h2)]
          exact hskip (by omega)
        · rw [if_neg (fun z => h2 (cmp.mp z))]
          exact htake (by omega)
theorem c_leastStart {A J : Mem} {t F f k : Nat} (hM : InvM A) (ht : t < 6) (hF : F ≤ 40) (hfk : f + k < 24) (hrow : rowC J A t F f k f) : f_X2_leastStart (nI f) (nI F - nI (k + 1)) J = rI (if mnN (sp A t F k f) 0 F = EE then -1 else nI (fiN (sp A t F k f) 0 F)) J := by
  by_cases hkF : k ≤ F
  · have := c_start hM ht hF hfk hrow hkF (F - k) 0 FU (by omega) (by rw [FU_v]; omega)
    have hext := mn_ext (sp A t F k f) 0 (F - k) k (fun y h1 h2 => sp_far k f y (by omega) (by omega))
    rw [show F - k + k = F by omega] at hext
    rw [hext.1, hext.2]
    exact this
  · have hE : mnN (sp A t F k f) 0 F = EE := mn_EE _ _ _ (fun y h1 h2 => sp_far k f y (by omega) (by omega))
    rw [if_pos hE]
    unfold f_X2_leastStart
    obtain ⟨fv, hfv⟩ : ∃ v, FU = v + 1 := ⟨19999, rfl⟩
    rw [hfv, f_X2_leastStart_p8, if_pos (by rw [lt_i, sub_t (by omega) (by omega)]; have : (0 : Int32).toInt = 0 := by decide
                                            omega)]
