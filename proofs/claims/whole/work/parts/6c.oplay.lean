theorem c_fgI {t b : Nat} (ht : t < 6) (hb : b < 24) (K : Int32 → Int32 → Mem → RT) : ∀ (d u fuel : Nat) (X : Mem), u + d = 6 → d < fuel → ∃ X', f_X1_forgetTake_p10 K fuel (nI t) (nI b) (nI u) X = K (nI t) (nI (b + 1)) X' ∧ (∀ g, g ≠ 16 → X' g = X g) ∧ ∀ s' t' b', s' < 6 → t' < 6 → b' < 24 → X' 16 0 ((b' * 6 + s') * 6 + t') = if b' = b ∧ ((s' = t ∧ u ≤ t') ∨ (t' = t ∧ u ≤ s')) then -1 else X 16 0 ((b' * 6 + s') * 6 + t') := by
  intro d
  induction d with
  | zero =>
    intro u fuel X hu hfu
    obtain ⟨fu, rfl⟩ : ∃ fu, fuel = fu + 1 := ⟨fuel - 1, by omega⟩
    have : u = 6 := by omega
    subst this
    exact ⟨X, by rw [f_X1_forgetTake_p10, if_pos (by decide), nI_1], fun _ _ => rfl, fun s' t' b' h1 h2 h3 => by rw [if_neg (by omega)]⟩
  | succ d ih =>
    intro u fuel X hu hfu
    obtain ⟨fu, rfl⟩ : ∃ fu, fuel = fu + 1 := ⟨fuel - 1, by omega⟩
    obtain ⟨X', e, p1, p2⟩ := ih (u + 1) fu (mup (mup X 16 0 ((b * 6 + t) * 6 + u) (-1)) 16 0 ((b * 6 + u) * 6 + t) (-1)) (by omega) (by omega)
    refine ⟨X', ?_, fun g hg => by rw [p1 g hg, mup_g hg, mup_g hg], fun s' t' b' h1 h2 h3 => ?_⟩
    · rw [f_X1_forgetTake_p10, if_neg (show ¬ (6 : Int32) ≤ nI u from nI_ge (b := 6) (by omega) (by decide))]
      unfold f_X1_cellOf
      rw [cI_r, cell_ix, ix_nI (by omega) (by decide), cI_r, cell_ix, ix_nI (by omega) (by decide), nI_1]
      exact e
    · rw [p2 s' t' b' h1 h2 h3, mup_0, mup_0]
      by_cases c1 : b' = b ∧ ((s' = t ∧ u + 1 ≤ t') ∨ (t' = t ∧ u + 1 ≤ s'))
      · rw [if_pos c1, if_pos (by omega)]
      · rw [if_neg c1]
        by_cases c2 : (b' * 6 + s') * 6 + t' = (b * 6 + u) * 6 + t
        · rw [if_pos c2, if_pos (by omega)]
        · rw [if_neg c2]
          by_cases c3 : (b' * 6 + s') * 6 + t' = (b * 6 + t) * 6 + u
          · rw [if_pos c3, if_pos (by omega)]
          · rw [if_neg c3, if_neg (by omega)]
theorem c_forget {t : Nat} (ht : t < 6) (I : Mem) : ∃ X', f_X1_forgetTake (nI t) I = rV X' ∧ (∀ g, g ≠ 16 → X' g = I g) ∧ ∀ s' t' b', s' < 6 → t' < 6 → b' < 24 → X' 16 0 ((b' * 6 + s') * 6 + t') = if s' = t ∨ t' = t then -1 else I 16 0 ((b' * 6 + s') * 6 + t') := by
  have key : ∀ (d b fuel : Nat) (X : Mem), b + d = 24 → d < fuel → ∃ X', f_X1_forgetTake_p2 fuel (nI t) (nI b) X = rV X' ∧ (∀ g, g ≠ 16 → X' g = X g) ∧ ∀ s' t' b', s' < 6 → t' < 6 → b' < 24 → X' 16 0 ((b' * 6 + s') * 6 + t') = if b ≤ b' ∧ (s' = t ∨ t' = t) then -1 else X 16 0 ((b' * 6 + s') * 6 + t') := by
    intro d
    induction d with
    | zero =>
      intro b fuel X hb hfu
      obtain ⟨fu, rfl⟩ : ∃ fu, fuel = fu + 1 := ⟨fuel - 1, by omega⟩
      have : b = 24 := by omega
      subst this
      exact ⟨X, by rw [f_X1_forgetTake_p2, if_pos (by decide)], fun _ _ => rfl, fun s' t' b' h1 h2 h3 => by rw [if_neg (by omega)]⟩
    | succ d ih =>
      intro b fuel X hb hfu
      obtain ⟨fu, rfl⟩ : ∃ fu, fuel = fu + 1 := ⟨fuel - 1, by omega⟩
      obtain ⟨X1, e1, p1, p2⟩ := c_fgI ht (show b < 24 by omega) (fun a1 a2 I => f_X1_forgetTake_p2 fu a1 a2 I) 6 0 FU X (by omega) (by decide)
      obtain ⟨X', e, q1, q2⟩ := ih (b + 1) fu X1 (by omega) (by omega)
      refine ⟨X', ?_, fun g hg => by rw [q1 g hg, p1 g hg], fun s' t' b' h1 h2 h3 => ?_⟩
      · rw [f_X1_forgetTake_p2, if_neg (show ¬ (24 : Int32) ≤ nI b from nI_ge (b := 24) (by omega) (by decide)), show (0 : Int32) = nI 0 from rfl, e1]
        exact e
      · rw [q2 s' t' b' h1 h2 h3, p2 s' t' b' h1 h2 h3]
        by_cases c1 : b + 1 ≤ b' ∧ (s' = t ∨ t' = t)
        · rw [if_pos c1, if_pos (by omega)]
        · rw [if_neg c1]
          by_cases c2 : b' = b ∧ ((s' = t ∧ 0 ≤ t') ∨ (t' = t ∧ 0 ≤ s'))
          · rw [if_pos c2, if_pos (by omega)]
          · rw [if_neg c2, if_neg (by omega)]
  obtain ⟨X', e, p1, p2⟩ := key 24 0 FU I (by omega) (by decide)
  refine ⟨X', e, p1, fun s' t' b' h1 h2 h3 => ?_⟩
  rw [p2 s' t' b' h1 h2 h3]
  by_cases c : s' = t ∨ t' = t
  · rw [if_pos c, if_pos ⟨by omega, c⟩]
  · rw [if_neg c, if_neg (fun z => c z.2)]
theorem RC_scrC {I J A : Mem} (hR : RC I A) (h : ∀ g, (g < 13 ∨ g = 15 ∨ g = 16 ∨ 27 ≤ g) → J g = I g) : RC J A := by
  obtain ⟨rS, rT, rJ, rC, rP, rF, rN, rX⟩ := hR
  refine ⟨?_, fun u hu => ?_, ?_, ?_, ?_, ?_, ?_, ?_⟩
  · unfold rcS
    rw [h 1 (by decide), h 2 (by decide), h 3 (by decide), h 4 (by decide), h 5 (by decide)]; exact rS
  · unfold rcT
    rw [h 7 (by decide), h 8 (by decide), h 9 (by decide), h 10 (by decide), h 11 (by decide)]; exact rT u hu
  · unfold rcJ
    rw [h 12 (by decide), h 27 (by decide)]; exact rJ
  · unfold rcC
    rw [h 15 (by decide), h 16 (by decide)]; exact rC
  · unfold rcP strOk
    rw [h 27 (by decide), h 28 (by decide), h 30 (by decide)]; exact rP
  · unfold rcF
    rw [h 31 (by decide)]; exact rF
  · unfold rcN
    rw [h 0 (by decide), h 32 (by decide)]; exact rN
  · unfold rcX
    rw [h 101 (by decide), h 102 (by decide)]; exact rX
theorem RC_scrM {I A X : Mem} (hR : RC I A) (hA : agK A X) (h50 : X 50 = A 50) (h49 : X 49 = A 49) (h22 : X 33 0 22 = A 33 0 22) : RC I X :=
  RC_cong hR hA (fun _ _ _ => rfl) (by unfold rcF; rw [h50]; exact hR.2.2.2.2.2.1) (by unfold rcN; rw [h49, h22]; exact hR.2.2.2.2.2.2.1) hR.2.2.2.2.2.2.2
/-- both sides after a laying -/
theorem RC_laid {I I' A A' : Mem} {t f l : Nat} (ht : t < 6) (hR : RC I A) (hM : InvM A) (hk : 0 ≤ A 38 0 t) (hfl : f ≤ l) (hl : l < 24) (ef : mBeg A t = nI f) (el : mEnd A t = nI l) (fr : Nat → Nat) (hfr : ∀ j, j ≤ l - f → fr j < 40)
    (gA : ∀ g, g ≠ 33 → g ≠ 46 → g ≠ 47 → g ≠ 51 → A' g = A g) (a33 : ∀ c, c ≠ 19 → A' 33 0 c = A 33 0 c) (a19 : A' 33 0 19 = 0) (a46 : ∀ u, A' 46 0 u = if u = t then 1 else A 46 0 u) (a47 : ∀ j, j ≤ l - f → A' 47 0 (24 * t + (f + j)) = nI (fr j)) (a47' : ∀ c, ¬ (24 * t + f ≤ c ∧ c < 24 * t + l + 1) → A' 47 0 c = A 47 0 c)
    (gI : ∀ g, g ≠ 7 → g ≠ 10 → g ≠ 16 → g ≠ 18 → g ≠ 19 → g ≠ 20 → g ≠ 27 → I' g = I g) (iu : ∀ u, u ≠ t → I' 7 u = I 7 u ∧ I' 10 u = I 10 u) (i7 : ∀ c, c ≠ 1 → I' 7 t c = I 7 t c) (i71 : I' 7 t 1 = 1) (i10 : ∀ j, j ≤ l - f → I' 10 t (f + j) = nI (fr j)) (i10l : I' 10 t (l + 1) = nI (fr (l - f)) + A 35 0 l)
    (i16 : ∀ s' t' b', s' < 6 → t' < 6 → b' < 24 → I' 16 0 ((b' * 6 + s') * 6 + t') = if s' = t ∨ t' = t then -1 else I 16 0 ((b' * 6 + s') * 6 + t')) (i27 : I' 27 0 2 = 0) (i27' : ∀ c, c ≠ 2 → I' 27 0 c = I 27 0 c) : RC I' A' ∧ InvM A' := by
  have aT : ∀ u, u < 6 → u ≠ t → agT A A' u := fun u hu hut => by
    refine ⟨⟨by rw [gA 38 (by decide) (by decide) (by decide) (by decide)], by rw [gA 39 (by decide) (by decide) (by decide) (by decide)], by rw [gA 40 (by decide) (by decide) (by decide) (by decide)], by rw [gA 42 (by decide) (by decide) (by decide) (by decide)], by rw [a46, if_neg hut], fun i _ => by rw [gA 43 (by decide) (by decide) (by decide) (by decide)], fun b hb => a47' _ (by omega)⟩, by rw [gA 41 (by decide) (by decide) (by decide) (by decide)], fun b _ m _ => by rw [gA 44 (by decide) (by decide) (by decide) (by decide)], fun b _ => by rw [gA 45 (by decide) (by decide) (by decide) (by decide)]⟩
  have aG : agG A A' := ⟨a33 0 (by decide), a33 15 (by decide), a33 16 (by decide), fun b _ => by rw [gA 35 (by decide) (by decide) (by decide) (by decide)]⟩
  have eB : mBeg A' t = mBeg A t := by
    unfold mBeg isP
    rw [gA 38 (by decide) (by decide) (by decide) (by decide), gA 39 (by decide) (by decide) (by decide) (by decide)]
  have eE : mEnd A' t = mEnd A t := by
    unfold mEnd isP
    rw [gA 38 (by decide) (by decide) (by decide) (by decide), gA 40 (by decide) (by decide) (by decide) (by decide), a33 0 (by decide)]
  have hH : ∀ b, b < 2 ^ 31 → (mHas A' t (nI b) ↔ f ≤ b ∧ b ≤ l) := fun b hb => has_iff (eB.trans ef) (eE.trans el) hl b hb hfl
  have hM' : InvM A' := by
    refine InvM_take hM ht aT a33 a19 (gA 34 (by decide) (by decide) (by decide) (by decide)) (gA 35 (by decide) (by decide) (by decide) (by decide)) (gA 36 (by decide) (by decide) (by decide) (by decide)) (gA 37 (by decide) (by decide) (by decide) (by decide)) (fun B h1 h2 h3 hk0 => ?_)
    obtain ⟨k1, k2, k3, k4, k5, k6, k7, k8, k9, k10⟩ := hk0
    refine ⟨?_, ?_, ?_, ?_, ?_, ?_, ?_, Or.inr (by rw [a46, if_pos rfl]), fun _ => ?_, fun _ b hb hh => ?_⟩
    · rw [gA 38 (by decide) (by decide) (by decide) (by decide)]; exact k1
    · unfold isP
      rw [gA 38 (by decide) (by decide) (by decide) (by decide), gA 39 (by decide) (by decide) (by decide) (by decide), gA 40 (by decide) (by decide) (by decide) (by decide)]; exact k2
    · rw [gA 41 (by decide) (by decide) (by decide) (by decide)]; exact k3
    · rw [gA 42 (by decide) (by decide) (by decide) (by decide)]; exact k4
    · rw [gA 43 (by decide) (by decide) (by decide) (by decide)]; exact k5
    · rw [gA 44 (by decide) (by decide) (by decide) (by decide), gA 38 (by decide) (by decide) (by decide) (by decide)]; exact k6
    · rw [gA 45 (by decide) (by decide) (by decide) (by decide)]; exact k7
    · rw [gA 38 (by decide) (by decide) (by decide) (by decide)]; exact hk
    · have hb' := (hH b (by omega)).mp hh
      have := a47 (b - f) (by omega)
      rw [show f + (b - f) = b by omega] at this
      have hlt := hfr (b - f) (by omega)
      rw [this]
      unfold rg
      rw [nIt (by omega)]
      omega
  refine ⟨?_, hM'⟩
  obtain ⟨rS, rT, rJ, rC, -, rF, rN, rX⟩ := hR
  refine ⟨?_, fun u hu => ?_, ?_, ?_, ⟨by rw [i27, a19], fun z => absurd (a19.symm.trans z) (by decide)⟩, ?_, ?_, ?_⟩
  · unfold rcS
    rw [gI 1 (by decide) (by decide) (by decide) (by decide) (by decide) (by decide) (by decide), gI 2 (by decide) (by decide) (by decide) (by decide) (by decide) (by decide) (by decide), gI 3 (by decide) (by decide) (by decide) (by decide) (by decide) (by decide) (by decide), gI 4 (by decide) (by decide) (by decide) (by decide) (by decide) (by decide) (by decide), gI 5 (by decide) (by decide) (by decide) (by decide) (by decide) (by decide) (by decide), a33 0 (by decide), gA 34 (by decide) (by decide) (by decide) (by decide), gA 35 (by decide) (by decide) (by decide) (by decide), gA 36 (by decide) (by decide) (by decide) (by decide), gA 37 (by decide) (by decide) (by decide) (by decide)]
    exact rS
  · by_cases hut : u = t
    · subst hut
      obtain ⟨t1, t2, t3, t4, t5, t6, t7, t8, t9, t10⟩ := rT u hu
      refine ⟨?_, ?_, ?_, ?_, ?_, ?_, ?_, ?_, ?_, fun _ b hb hh => ?_⟩
      · rw [i7 0 (by decide), gA 38 (by decide) (by decide) (by decide) (by decide)]; exact t1
      · rw [i7 2 (by decide)]; exact t2
      · rw [i7 2 (by decide), i7 3 (by decide), i7 4 (by decide), eB, eE, gA 38 (by decide) (by decide) (by decide) (by decide)]; exact t3
      · rw [i7 5 (by decide), gA 41 (by decide) (by decide) (by decide) (by decide)]; exact t4
      · rw [i7 6 (by decide), gA 42 (by decide) (by decide) (by decide) (by decide)]; exact t5
      · rw [gI 8 (by decide) (by decide) (by decide) (by decide) (by decide) (by decide) (by decide), gA 43 (by decide) (by decide) (by decide) (by decide)]; exact t6
      · rw [gI 9 (by decide) (by decide) (by decide) (by decide) (by decide) (by decide) (by decide), gA 45 (by decide) (by decide) (by decide) (by decide), gA 38 (by decide) (by decide) (by decide) (by decide)]; exact t7
      · rw [gI 11 (by decide) (by decide) (by decide) (by decide) (by decide) (by decide) (by decide), gA 44 (by decide) (by decide) (by decide) (by decide)]; exact t8
      · rw [i71, a46, if_pos rfl]
      · rw [hH b (by omega), hH (b - 1) (by omega)] at hh
        unfold mFr
        rw [eE, el, gA 35 (by decide) (by decide) (by decide) (by decide)]
        by_cases hbl : b ≤ l
        · rw [if_neg (by rw [nI_ltI (by omega) (by omega)]; omega)]
          have q1 := a47 (b - f) (by omega)
          have q2 := i10 (b - f) (by omega)
          rw [show f + (b - f) = b by omega] at q1 q2
          rw [q1, q2]
        · have : b = l + 1 := by omega
          subst this
          rw [if_pos ((nI_ltI (by omega) (by omega)).mpr (by omega)), i10l]
          have q1 := a47 (l - f) (by omega)
          rw [show 24 * u + (f + (l - f)) = 24 * u + (l + 1) - 1 by omega] at q1
          rw [q1, Nat.add_sub_cancel]
    · exact rcT_ag hM hu (aT u hu hut) aG ⟨(iu u hut).1, by rw [gI 8 (by decide) (by decide) (by decide) (by decide) (by decide) (by decide) (by decide)], by rw [gI 9 (by decide) (by decide) (by decide) (by decide) (by decide) (by decide) (by decide)], (iu u hut).2, by rw [gI 11 (by decide) (by decide) (by decide) (by decide) (by decide) (by decide) (by decide)]⟩ (rT u hu)
  · unfold rcJ
    rw [gI 12 (by decide) (by decide) (by decide) (by decide) (by decide) (by decide) (by decide), i27' 3 (by decide), a33 15 (by decide), a33 16 (by decide), a33 17 (by decide), a33 18 (by decide)]
    exact rJ
  · intro s' t' b' h1 h2 h3
    rw [i16 s' t' b' h1 h2 h3, gI 15 (by decide) (by decide) (by decide) (by decide) (by decide) (by decide) (by decide)]
    by_cases hc : s' = t ∨ t' = t
    · rw [if_pos hc]; exact Or.inl rfl
    · rw [if_neg hc]
      have hs := (aT s' h1 (fun z => hc (Or.inl z))).1
      have ht' := (aT t' h2 (fun z => hc (Or.inr z))).1
      rcases rC s' t' b' h1 h2 h3 with z | z
      · exact Or.inl z
      · right
        intro hj
        have hj' := (jOk_ag hs ht' aG).mp hj
        obtain ⟨w1, w2, -⟩ := sh_ag hM h1 h2 h3 hs ht' aG hj'
        rw [w1, w2]
        exact z hj'
  · unfold rcF
    rw [gI 31 (by decide) (by decide) (by decide) (by decide) (by decide) (by decide) (by decide), gA 50 (by decide) (by decide) (by decide) (by decide)]
    exact rF
  · unfold rcN
    rw [gI 0 (by decide) (by decide) (by decide) (by decide) (by decide) (by decide) (by decide), gI 32 (by decide) (by decide) (by decide) (by decide) (by decide) (by decide) (by decide), gA 49 (by decide) (by decide) (by decide) (by decide), a33 22 (by decide)]
    exact rN
  · unfold rcX
    rw [gI 101 (by decide) (by decide) (by decide) (by decide) (by decide) (by decide) (by decide), gI 102 (by decide) (by decide) (by decide) (by decide) (by decide) (by decide) (by decide)]
    exact rX
theorem op_lay (a : Int32) : opA (f_X7_lay a) (f_X8_lay a) := by
  intro I A hR hM
  rcases tk_cases a with ⟨t, ht, rfl⟩ | ha
  · have hT := hR.2.1 t ht
    by_cases hk : 0 ≤ A 38 0 t
    · obtain ⟨n, hn, e⟩ := cnt_at hM ht
      obtain ⟨f, l, hfl, hl, -, ef, el⟩ := beg_at hM ht
      have hF : (n + 9) / 10 ≤ 40 := by omega
      obtain ⟨X, rk, xc, x47, xrows⟩ := m_reckon hM ht hF hfl hl ef el e hn
      have mm := m_min (a1 := nI t) hM ht hF (show f + (l - f) < 24 by omega) (by have := xrows f (Nat.le_refl _) hfl; exact this) ((n + 9) / 10) 0 FU (by omega) (by rw [FU_v]; omega)
      have m1 : f_X8_lay (nI t) A = f_X8_lay_p42 FU (nI t) (nI ((n + 9) / 10)) (nI f) 1000000000 0 X := by
        unfold f_X8_lay
        rw [look_t ht hk, cI_r, if_pos (by decide), m_frameMany ht e hn, cI_r, rk, cV_r, m_begins ht, cI_r, mBeg_ch xc, ef]
      have m2 : f_X8_lay_p42 FU (nI t) (nI ((n + 9) / 10)) (nI f) 1000000000 0 X = _ := mm
      rw [m2] at m1
      have c1 : f_X7_lay (nI t) I = cI (f_X2_place t I) fun v5 J4 => if (v5 : Int32) = (-1) then (cI (f_X7_refuse (-1000007) J4) fun v8 J7 => rI v8 J7) else (cV (f_X1_forgetTake (nI t) J4) fun J6 => rI v5 (mup J6 27 0 2 0)) := by
        unfold f_X7_lay
        rw [ask_t ht hT hk, cI_r, if_pos rfl, ix6 ht]
      rcases c_place hM ht hR hk e hn hfl hl ef el with ⟨hE, J, pe, pj⟩ | ⟨hlt, J, pe, pg, pu, pc, p1, pf, pl⟩
      · rw [if_pos hE] at m1
        rw [pe, cI_r, if_pos rfl] at c1
        have xk : agK A X := ⟨fun g h1 h2 => by
          by_cases h : g = 47
          · rw [h, x47]
          · exact xc g (by omega) h, fun k _ => by rw [xc 33 (by decide) (by decide)]⟩
        have hM' : InvM X := InvM_cong hM xk (by rw [xc 33 (by decide) (by decide)]; exact hM.2)
        have hR' : RC J X := RC_scrC (RC_scrM hR xk (xc 50 (by decide) (by decide)) (xc 49 (by decide) (by decide)) (by rw [xc 33 (by decide) (by decide)])) (fun g hg => pj g (by omega) (by omega) (by omega))
        obtain ⟨v, I1, A1, z1, z2, z3, z4, z5, z6⟩ := op_ref (fc := fun _ => f_X7_lay (nI t) I) (fm := fun _ => f_X8_lay (nI t) A) (c := -1000007) 6 (by decide) hR' hM' m1 c1
        exact ⟨v, I1, A1, z1, z2, agr_tr (fun g hg => (xc g (by omega) (by omega)).symm) z3, z4, z5, agr_tr (fun g hg => (pj g (by omega) (by omega) (by omega)).symm) z6⟩
      · have hbd := mn_bd (sp A t ((n + 9) / 10) (l - f) f) 0 (12000 * (l - f + 1)) ((n + 9) / 10) (fun y h1 h2 => sp_bd hM ht hF (l - f) f y (by omega) (by omega))
        have hne : ¬ mnN (sp A t ((n + 9) / 10) (l - f) f) 0 ((n + 9) / 10) = EE := by omega
        rw [if_neg hne] at m1
        obtain ⟨J6, fe, fg, f16⟩ := c_forget ht J
        rw [pe, cI_r, if_neg (nI_ne1 (by omega)), fe, cV_r] at c1
        obtain ⟨Y, ye, yw⟩ := m_frames (a5 := nI (mnN (sp A t ((n + 9) / 10) (l - f) f) 0 ((n + 9) / 10))) hM ht hF (show f + (l - f) < 24 by omega) xc (by rw [show f + (l - f) = l by omega]; exact el) e hn hlt (fun b' h1 h2 => by rw [show f + (l - f) - b' = l - b' by omega]; exact xrows b' h1 (by omega)) (l - f + 1) 0 FU X (nI (mnN (sp A t ((n + 9) / 10) (l - f) f) 0 ((n + 9) / 10))) (-1) (by omega) (by rw [FU_v]; omega) ⟨fun _ _ => rfl, fun j hj => by omega, fun c _ => by rw [x47]⟩ (fun _ => by rw [if_pos rfl]) (fun _ => by rw [if_pos rfl])
        replace m1 := m1.trans ye
        have yg : ∀ g, g ≠ 47 → g ≠ 51 → Y g = A g := fun g h1 h2 => by rw [yw.1 g h1, xc g h2 h1]
        obtain ⟨rr, mi⟩ := RC_laid (I' := mup J6 27 0 2 0) (A' := mup (mup Y 46 0 t 1) 33 0 19 0) ht hR hM hk hfl hl ef el (frP A t ((n + 9) / 10) (l - f) f) (fun j hj => by have := (frP_ok hlt j hj).1; omega)
          (fun g h1 h2 h3 h4 => by rw [mup_g h1, mup_g h2, yg g h3 h4]) (fun c hc => by rw [mup_0, if_neg hc, mup_g (by decide), yg 33 (by decide) (by decide)]) (by rw [mup_at]) (fun u => by rw [mup_g (by decide), mup_0, yg 46 (by decide) (by decide)]) (fun j hj => by rw [mup_g (by decide), mup_g (by decide)]; exact yw.2.1 j (by omega)) (fun c hc => by rw [mup_g (by decide), mup_g (by decide)]; exact yw.2.2 c (by omega))
          (fun g h1 h2 h3 h4 h5 h6 h7 => by rw [mup_g h7, fg g h3, pg g h1 h2 h4 h5 h6]) (fun u hu => by rw [mup_g (by decide), mup_g (by decide), fg 7 (by decide), fg 10 (by decide)]; exact pu u hu) (fun c hc => by rw [mup_g (by decide), fg 7 (by decide)]; exact pc c hc) (by rw [mup_g (by decide), fg 7 (by decide)]; exact p1) (fun j hj => by rw [mup_g (by decide), fg 10 (by decide)]; exact pf j hj) (by rw [mup_g (by decide), fg 10 (by decide)]; exact pl)
          (fun s' t' b' h1 h2 h3 => by rw [mup_g (by decide), f16 s' t' b' h1 h2 h3, pg 16 (by decide) (by decide) (by decide) (by decide) (by decide)]) (by rw [mup_at]) (fun c hc => by rw [mup_0, if_neg hc, fg 27 (by decide), pg 27 (by decide) (by decide) (by decide) (by decide) (by decide)])
        exact ⟨_, _, _, m1, mi, fun g hg => by rw [mup_g (by omega), mup_g (by omega), yg g (by omega) (by omega)], c1, rr, fun g hg => by rw [mup_g (by omega), fg g (by omega), pg g (by omega) (by omega) (by omega) (by omega) (by omega)]⟩
    · refine op_ref (c := -1000002) 1 (by decide) hR hM ?_ ?_
      · unfold f_X8_lay
        rw [look_f ht hk, cI_r]; rfl
      · unfold f_X7_lay
        rw [ask_f ht hT hk, cI_r]; rfl
  · refine op_ref (c := -1000001) 0 (by decide) hR hM ?_ ?_
    · unfold f_X8_lay
      rw [m_look_no ha, cI_r]; rfl
    · unfold f_X7_lay
      rw [c_askTake_no ha, cI_r]; rfl
