/-! ===== lay in the class ===== -/
def enc (v : Nat) : Int32 := if v = EE then -1 else nI v
theorem nI_ne1 {v : Nat} (h : v < 2 ^ 31) : ¬ nI v = -1 := by
  rw [eq_i, nIt h]
  have : (-1 : Int32).toInt = -1 := by decide
  omega
theorem enc_m {v : Nat} (h : v = EE ∨ v ≤ 1000000) : enc v = -1 ↔ v = EE := by
  unfold enc
  by_cases hv : v = EE
  · rw [if_pos hv]; exact ⟨fun _ => hv, fun _ => rfl⟩
  · rw [if_neg hv]
    exact ⟨fun z => absurd z (nI_ne1 (by rcases h with h | h <;> omega)), fun z => absurd z hv⟩
theorem enc_n {v : Nat} (h : v ≠ EE) : enc v = nI v := if_neg h
theorem mul40 (n : Nat) : nI n * 40 = nI (n * 40) := pk_mul n 40
theorem mul20 (n : Nat) : (20 : Int32) * nI n = nI (20 * n) := pk_mul 20 n
theorem ln_rg {A : Mem} {b : Nat} (hM : InvM A) (hb : b < 24) : rg 1 40 (A 35 0 b) := by
  obtain ⟨B, -, hq, -⟩ := hM.1
  exact (hq b hb).2.1
theorem ld_rg {A : Mem} {b : Nat} (hM : InvM A) (hb : b < 24) : rg 0 10000 (A 34 0 b) := by
  obtain ⟨B, -, hq, -⟩ := hM.1
  exact (hq b hb).1
theorem stx_at {A : Mem} {x y b : Nat} (hM : InvM A) (hb : b < 24) (hx : x < 40) (hy : y < 41) : (20 : Int32) * apt (nI y - nI x) (A 35 0 b) = nI (stx A x y b) := by
  rw [apt_nI ⟨by rw [sub_t (by omega) (by omega)]; omega, by rw [sub_t (by omega) (by omega)]; omega⟩ (rg_w (ln_rg hM hb) (by decide) (by decide)), sub_t (by omega) (by omega), mul20]
  rfl
theorem lvx_at {A : Mem} {t x b : Nat} (hM : InvM A) (ht : t < 6) (hb : b < 24) : apt (mLv A t x) (A 34 0 b) = nI (lvx A t x b) := by
  rw [apt_nI (rg_w (lv_rg hM ht x) (by decide) (by decide)) (rg_w (ld_rg hM hb) (by decide) (by decide))]
  rfl
def rowC (J A : Mem) (t F f k b : Nat) : Prop := ∀ x, b - f ≤ x → x + k < F → J 19 0 (b * 40 + x) = enc (sp A t F k b x) ∧ (sp A t F k b x ≠ EE → ∀ k', k = k' + 1 → J 20 0 (b * 40 + x) = nI (nx A t F k' b x))
theorem c_rest {A J : Mem} {t F f k b x N : Nat} (hM : InvM A) (ht : t < 6) (hF : F ≤ 40) (hb : b + 1 + k < 24) (hfb : f ≤ b) (hx : b - f ≤ x) (hxF : x + N + k + 1 = F) (hrow : rowC J A t F f k (b + 1)) :
    ∀ (d n fuel : Nat) (X : Mem), n + d = N → d < fuel → X 19 = J 19 → (mnN (rs A t F k b x) (x + 1) n < EE → X 20 0 (b * 40 + x) = nI (fiN (rs A t F k b x) (x + 1) n)) →
    ∃ X', f_X2_leastRest_p16 fuel (nI b) (nI x) (A 35 0 b) (nI (x + N)) (enc (mnN (rs A t F k b x) (x + 1) n)) (nI ((b + 1) * 40)) (nI (x + 1 + n)) X = rI (enc (mnN (rs A t F k b x) (x + 1) N)) X' ∧ (∀ g, g ≠ 20 → X' g = X g) ∧ (∀ c, c ≠ b * 40 + x → X' 20 0 c = X 20 0 c) ∧ (mnN (rs A t F k b x) (x + 1) N < EE → X' 20 0 (b * 40 + x) = nI (fiN (rs A t F k b x) (x + 1) N)) := by
  intro d
  induction d with
  | zero =>
    intro n fuel X hn hf h19 h20
    obtain ⟨fu, rfl⟩ : ∃ fu, fuel = fu + 1 := ⟨fuel - 1, by omega⟩
    have : n = N := by omega
    subst this
    exact ⟨X, by rw [f_X2_leastRest_p16, if_pos ((nI_ltI (by omega) (by omega)).mpr (by omega))], fun _ _ => rfl, fun _ _ => rfl, h20⟩
  | succ d ih =>
    intro n fuel X hn hf h19 h20
    obtain ⟨fu, rfl⟩ : ∃ fu, fuel = fu + 1 := ⟨fuel - 1, by omega⟩
    have hcell := (hrow (x + 1 + n) (by omega) (by omega)).1
    have hb1 := sp_bd (F := F) hM ht hF k (b + 1) (x + 1 + n) (by omega) (by omega)
    have hst := stx_le hM (show b < 24 by omega) (show x < 40 by omega) (show x + 1 + n < 40 by omega)
    have hmn := mn_bd (rs A t F k b x) (x + 1) (12000 * (k + 1) + 2000) n (fun y h1 h2 => rs_bd hM ht hF hb (by omega) (by omega))
    have hle := mn_le (rs A t F k b x) (x + 1) n
    rw [f_X2_leastRest_p16, if_neg (by rw [nI_ltI (by omega) (by omega)]; omega), nI_add, ix_nI (by omega) (by decide), h19, show (b + 1) * 40 + (x + 1 + n) = (b + 1) * 40 + (x + 1 + n) from rfl, hcell]
    have hskip : ¬ rs A t F k b x (x + 1 + n) < mnN (rs A t F k b x) (x + 1) n → ∃ X', f_X2_leastRest_p16 fu (nI b) (nI x) (A 35 0 b) (nI (x + N)) (enc (mnN (rs A t F k b x) (x + 1) n)) (nI ((b + 1) * 40)) (nI (x + 1 + n) + 1) X = rI (enc (mnN (rs A t F k b x) (x + 1) N)) X' ∧ (∀ g, g ≠ 20 → X' g = X g) ∧ (∀ c, c ≠ b * 40 + x → X' 20 0 c = X 20 0 c) ∧ (mnN (rs A t F k b x) (x + 1) N < EE → X' 20 0 (b * 40 + x) = nI (fiN (rs A t F k b x) (x + 1) N)) := fun hh => by
      have := ih (n + 1) fu X (by omega) (by omega) h19
      rw [mnN, fiN, if_neg hh, if_neg hh] at this
      rw [nI_1]
      exact this h20
    have htake : rs A t F k b x (x + 1 + n) < mnN (rs A t F k b x) (x + 1) n → ∃ X', f_X2_leastRest_p74 (fun a1 a2 a3 a4 a5 a6 a7 I => f_X2_leastRest_p16 fu a1 a2 a3 a4 a5 a6 a7 I) (nI b) (nI x) (A 35 0 b) (nI (x + N)) (nI ((b + 1) * 40)) (nI (x + 1 + n)) (enc (rs A t F k b x (x + 1 + n))) X = rI (enc (mnN (rs A t F k b x) (x + 1) N)) X' ∧ (∀ g, g ≠ 20 → X' g = X g) ∧ (∀ c, c ≠ b * 40 + x → X' 20 0 c = X 20 0 c) ∧ (mnN (rs A t F k b x) (x + 1) N < EE → X' 20 0 (b * 40 + x) = nI (fiN (rs A t F k b x) (x + 1) N)) := fun hh => by
      have := ih (n + 1) fu (mup X 20 0 (b * 40 + x) (nI (x + 1 + n))) (by omega) (by omega) (by rw [mup_g (by decide)]; exact h19)
      rw [mnN, fiN, if_pos hh, if_pos hh] at this
      obtain ⟨X', e, p1, p2, p3⟩ := this (fun _ => mup_at)
      refine ⟨X', ?_, fun g hg => by rw [p1 g hg, mup_g hg], fun c hc => by rw [p2 c hc, mup_0, if_neg hc], p3⟩
      unfold f_X2_leastRest_p74
      rw [mul40, nI_add, ix_nI (by omega) (by decide), nI_1]
      exact e
    by_cases hE : sp A t F k (b + 1) (x + 1 + n) = EE
    · rw [if_pos ((enc_m (by omega)).mpr hE)]
      refine hskip ?_
      unfold rs
      rw [if_pos hE]
      exact Nat.not_lt.mpr hle
    · have hrs : rs A t F k b x (x + 1 + n) = sp A t F k (b + 1) (x + 1 + n) + stx A x (x + 1 + n) b := by unfold rs; rw [if_neg hE]
      have hlt : sp A t F k (b + 1) (x + 1 + n) + stx A x (x + 1 + n) b ≠ EE := by unfold EE at hE hb1 ⊢; omega
      rw [if_neg (fun z => hE ((enc_m (by omega)).mp z)), abs_t, cI_r, abs_apt ⟨by rw [sub_t (by omega) (by omega)]; omega, by rw [sub_t (by omega) (by omega)]; omega⟩ (rg_w (ln_rg hM (by omega)) (by decide) (by decide)), stx_at hM (by omega) (by omega) (by omega), enc_n hE, nI_add, ← enc_n hlt, ← hrs]
      by_cases h1 : mnN (rs A t F k b x) (x + 1) n = EE
      · rw [if_pos ((enc_m (by omega)).mpr h1)]
        exact htake (by rw [h1, hrs]; unfold EE at hE hb1 ⊢; omega)
      · rw [if_neg (fun z => h1 ((enc_m (by omega)).mp z))]
        have cmp : enc (mnN (rs A t F k b x) (x + 1) n) ≤ enc (rs A t F k b x (x + 1 + n)) ↔ mnN (rs A t F k b x) (x + 1) n ≤ rs A t F k b x (x + 1 + n) := by
          rw [enc_n h1, hrs, enc_n hlt]
          exact nI_leI (by omega) (by unfold EE at hE hb1; omega)
        by_cases h2 : mnN (rs A t F k b x) (x + 1) n ≤ rs A t F k b x (x + 1 + n)
        · rw [if_pos (cmp.mpr h2)]
          exact hskip (by omega)
        · rw [if_neg (fun z => h2 (cmp.mp z))]
          exact htake (by omega)
/-- what lay's scratch leaves as it is -/
def lch (I J : Mem) : Prop := ∀ g, g ≠ 18 → g ≠ 19 → g ≠ 20 → J g = I g
theorem c_sum74 {A J : Mem} {t F f k b x : Nat} {r : Nat} (hM : InvM A) (ht : t < 6) (hF : F ≤ 40) (hb : b < 24) (hx : x < F) (hR : ∀ b, b < 24 → J 2 0 b = A 34 0 b) (h18 : ∀ x, x < F → J 18 0 x = mLv A t x) (hr : r = EE ∨ r ≤ 500000) :
    ∃ J', f_X2_sumUp_p74 (nI b) (nI x) (nI (b * 40 + x)) (enc r) J = rV J' ∧ (∀ g, g ≠ 19 → J' g = J g) ∧ (∀ c, c ≠ b * 40 + x → J' 19 0 c = J 19 0 c) ∧ (J 19 0 (b * 40 + x) = -1 → J' 19 0 (b * 40 + x) = enc (if r = EE then EE else r + lvx A t x b)) := by
  have hl := lvx_le hM ht hb x
  unfold f_X2_sumUp_p74
  by_cases h : r = EE
  · rw [if_pos ((enc_m (by omega)).mpr h), if_pos h]
    exact ⟨J, rfl, fun _ _ => rfl, fun _ _ => rfl, fun z => z⟩
  · rw [if_neg (fun z => h ((enc_m (by omega)).mp z)), if_neg h, ix_nI (by omega) (by decide), ix_nI (by omega) (by decide), h18 x hx, hR b hb, abs_t, cI_r, abs_apt (rg_w (lv_rg hM ht x) (by decide) (by decide)) (rg_w (ld_rg hM hb) (by decide) (by decide)), lvx_at hM ht hb, ix_nI (by omega) (by decide), enc_n h, nI_add]
    refine ⟨_, rfl, fun g hg => mup_g hg, fun c hc => by rw [mup_0, if_neg hc], fun _ => ?_⟩
    rw [mup_at, Nat.add_comm, enc_n (by unfold EE at h hr ⊢; omega)]
theorem c_sumUp {A I J : Mem} {t F f l k b x : Nat} (hM : InvM A) (ht : t < 6) (hF : F ≤ 40) (hk0 : 0 ≤ A 38 0 t) (hT : rcT I A t) (hS : rcS I A) (hc : lch I J) (h18 : ∀ x, x < F → J 18 0 x = mLv A t x) (hf : f ≤ b) (hl : l < 24) (hbk : b + k = l) (el : I 7 t 4 = nI l) (hx : b - f ≤ x) (hxk : x + k < F) (hrow : ∀ k', k = k' + 1 → rowC J A t F f k' (b + 1)) :
    ∃ J', f_X2_sumUp t (nI b) (nI x) (nI (F - k)) J = rV J' ∧ (∀ g, g ≠ 19 → g ≠ 20 → J' g = J g) ∧ (∀ c, c ≠ b * 40 + x → J' 19 0 c = J 19 0 c ∧ J' 20 0 c = J 20 0 c) ∧ J' 19 0 (b * 40 + x) = enc (sp A t F k b x) ∧ (sp A t F k b x ≠ EE → ∀ k', k = k' + 1 → J' 20 0 (b * 40 + x) = nI (nx A t F k' b x)) := by
  have hb : b < 24 := by omega
  have x7 : ∀ g, g ≠ 19 → g ≠ 20 → (mup (mup J 19 0 (b * 40 + x) (-1)) 20 0 (b * 40 + x) (nI x)) g = J g := fun g h1 h2 => by rw [mup_g h2, mup_g h1]
  have x19 : ∀ c, (mup (mup J 19 0 (b * 40 + x) (-1)) 20 0 (b * 40 + x) (nI x)) 19 0 c = if c = b * 40 + x then -1 else J 19 0 c := fun c => by rw [mup_g (by decide), mup_0]
  have x20 : ∀ c, (mup (mup J 19 0 (b * 40 + x) (-1)) 20 0 (b * 40 + x) (nI x)) 20 0 c = if c = b * 40 + x then nI x else J 20 0 c := fun c => by rw [mup_0, mup_g (by decide)]
  have st : f_X2_sumUp t (nI b) (nI x) (nI (F - k)) J = if okx A t b x then f_X2_sumUp_p47 t (nI b) (nI x) (nI (F - k)) (nI (b * 40 + x)) (mup (mup J 19 0 (b * 40 + x) (-1)) 20 0 (b * 40 + x) (nI x)) else rV (mup (mup J 19 0 (b * 40 + x) (-1)) 20 0 (b * 40 + x) (nI x)) := by
    unfold f_X2_sumUp
    rw [mul40, nI_add, ix_nI (by omega) (by decide), ix_nI (by omega) (by decide), ix_nI (by omega) (by decide), ix_nI (by omega) (by decide), x7 9 (by decide) (by decide), hc 9 (by decide) (by decide) (by decide), hT.2.2.2.2.2.2.1 hk0 b hb]
    by_cases h1 : A 45 0 (24 * t + b) < 0
    · rw [if_pos h1, if_pos (Or.inl h1)]
    · rw [if_neg h1]
      by_cases h2 : A 45 0 (24 * t + b) = nI x
      · rw [if_pos h2, if_pos (Or.inr h2)]
      · rw [if_neg h2, if_neg (by rintro (z | z) <;> contradiction)]
  rw [st]
  generalize (mup (mup J 19 0 (b * 40 + x) (-1)) 20 0 (b * 40 + x) (nI x)) = X at x7 x19 x20
  have r34 : ∀ b, b < 24 → X 2 0 b = A 34 0 b := fun b hb => by rw [x7 2 (by decide) (by decide), hc 2 (by decide) (by decide) (by decide)]; exact (hS.2 b hb).1
  have r18 : ∀ x, x < F → X 18 0 x = mLv A t x := fun x hx => by rw [x7 18 (by decide) (by decide)]; exact h18 x hx
  by_cases hok : okx A t b x
  · rw [if_pos hok]
    unfold f_X2_sumUp_p47
    rw [x7 7 (by decide) (by decide), hc 7 (by decide) (by decide) (by decide), el]
    match k, hbk, hxk, hrow with
    | 0, hbk, hxk, _ =>
      have : b = l := by omega
      subst this
      rw [if_pos rfl, show (0 : Int32) = enc 0 from rfl]
      obtain ⟨J', e, p1, p2, p3⟩ := c_sum74 (r := 0) (f := f) (k := 0) hM ht hF hb (show x < F by omega) r34 r18 (Or.inr (by omega))
      refine ⟨J', e, fun g h1 h2 => by rw [p1 g h1, x7 g h1 h2], fun c hc' => ⟨by rw [p2 c hc', x19, if_neg hc'], by rw [p1 20 (by decide), x20, if_neg hc']⟩, ?_, fun _ k' hk' => by omega⟩
      rw [p3 (by rw [x19, if_pos rfl]), if_neg (by decide), sp, if_pos hok, Nat.zero_add]
    | k + 1, hbk, hxk, hrow =>
      have hne : ¬ nI b = nI l := by rw [nI_eq (by omega) (by omega)]; omega
      have hrow' := hrow k rfl
      rw [if_neg hne, ix_nI (by omega) (by decide), x7 3 (by decide) (by decide), hc 3 (by decide) (by decide) (by decide), (hS.2 b hb).2.1]
      obtain ⟨X', e, p1, p2, p3⟩ := c_rest (J := X) (k := k) (N := F - (k + 1) - x) hM ht hF (by omega) hf hx (by omega) (fun y h1 h2 => by
        rw [x19, if_neg (by omega), x20, if_neg (by omega)]
        exact hrow' y h1 h2) (F - (k + 1) - x) 0 FU X (by omega) (by rw [FU_v]; omega) rfl (fun z => absurd z (Nat.lt_irrefl _))
      have e' : f_X2_leastRest (nI b) (nI x) (A 35 0 b) (nI (F - (k + 1))) X = rI (enc (mnN (rs A t F k b x) (x + 1) (F - (k + 1) - x))) X' := by
        unfold f_X2_leastRest
        rw [nI_1, nI_1, mul40]
        rw [show x + (F - (k + 1) - x) = F - (k + 1) by omega] at e
        exact e
      have hext := mn_ext (rs A t F k b x) (x + 1) (F - (k + 1) - x) k (fun y h1 h2 => by
        unfold rs
        rw [if_pos (sp_far k (b + 1) y (by omega) (by omega))])
      rw [show F - (k + 1) - x + k = F - x - 1 by omega] at hext
      rw [e', cI_r, ← hext.1]
      rw [← hext.1, ← hext.2] at p3
      have hbd := mn_bd (rs A t F k b x) (x + 1) (12000 * (k + 1) + 2000) (F - x - 1) (fun y h1 h2 => rs_bd hM ht hF (by omega) (by omega) (by omega))
      obtain ⟨J', e2, q1, q2, q3⟩ := c_sum74 (r := mnN (rs A t F k b x) (x + 1) (F - x - 1)) (J := X') (f := f) (k := 0) hM ht hF hb (show x < F by omega) (fun b hb => by rw [p1 2 (by decide)]; exact r34 b hb) (fun x hx => by rw [p1 18 (by decide)]; exact r18 x hx) (by omega)
      have hsp : sp A t F (k + 1) b x = (if mnN (rs A t F k b x) (x + 1) (F - x - 1) = EE then EE else mnN (rs A t F k b x) (x + 1) (F - x - 1) + lvx A t x b) := by rw [sp_s, if_pos hok]
      refine ⟨J', e2, fun g h1 h2 => by rw [q1 g h1, p1 g h2, x7 g h1 h2], fun c hc' => ⟨by rw [q2 c hc', p1 19 (by decide), x19, if_neg hc'], by rw [q1 20 (by decide), p2 c hc', x20, if_neg hc']⟩, ?_, fun hs k' hk' => ?_⟩
      · rw [q3 (by rw [p1 19 (by decide), x19, if_pos rfl]), hsp]
      · have : k' = k := by omega
        subst this
        rw [q1 20 (by decide), p3 (sp_nx hs).1]
        rfl
  · rw [if_neg hok]
    have hsp : sp A t F k b x = EE := by
      match k with
      | 0 => rw [sp, if_neg hok]
      | k + 1 => rw [sp_s, if_neg hok]
    refine ⟨X, rfl, x7, fun c hc' => ⟨by rw [x19, if_neg hc'], by rw [x20, if_neg hc']⟩, ?_, fun z => absurd hsp z⟩
    rw [x19, if_pos rfl, hsp]; rfl
