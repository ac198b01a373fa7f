/-! ===== lay in the model ===== -/
def mch (A X : Mem) : Prop := ∀ g, g ≠ 51 → g ≠ 47 → X g = A g
theorem mEnd_ch {A X : Mem} {t : Nat} (h : mch A X) : mEnd X t = mEnd A t := by
  unfold mEnd isP
  rw [h 38 (by decide) (by decide), h 40 (by decide) (by decide), h 33 (by decide) (by decide)]
theorem mBeg_ch {A X : Mem} {t : Nat} (h : mch A X) : mBeg X t = mBeg A t := by
  unfold mBeg isP
  rw [h 38 (by decide) (by decide), h 39 (by decide) (by decide)]
theorem m_levX {A X : Mem} {t n x : Nat} (h : mch A X) (ht : t < 6) (e : A 42 0 t = nI n) (hn : n ≤ 400) (hx : x < 2 ^ 31) : f_X8_levelOf (nI t) (nI x) X = rI (mLv A t x) X := by
  rw [m_levelOf ht (by rw [h 42 (by decide) (by decide)]; exact e) hn]
  unfold mLvI
  rw [if_neg (nI_nneg hx), nI_clamp hx]
  unfold mLv frN
  rw [h 42 (by decide) (by decide), h 43 (by decide) (by decide)]
theorem mul40' (n x : Nat) : (40 : Int32) * nI n + nI x = nI (40 * n + x) := by
  rw [show (40 : Int32) * nI n = nI (40 * n) from pk_mul 40 n, nI_add]
def rowM (X A : Mem) (t F k b : Nat) : Prop := ∀ x, x < F → X 51 0 (40 * b + x) = nI (sp A t F k b x)
theorem m_beh {A X : Mem} {t F k b x : Nat} (hM : InvM A) (ht : t < 6) (hF : F ≤ 40) (hb : b + 1 + k < 24) (hx : x < F) (hc : mch A X) (hrow : rowM X A t F k (b + 1)) :
    ∀ (d n fuel : Nat), n + d = F - x - 1 → d < fuel → f_X8_behind_p20 fuel (nI b) (nI x) (nI F) (nI (mnN (rs A t F k b x) (x + 1) n)) (nI (x + 1 + n)) X = rI (nI (mnN (rs A t F k b x) (x + 1) (F - x - 1))) X := by
  intro d
  induction d with
  | zero =>
    intro n fuel hn hfu
    obtain ⟨fu, rfl⟩ : ∃ fu, fuel = fu + 1 := ⟨fuel - 1, by omega⟩
    have : n = F - x - 1 := by omega
    subst this
    rw [f_X8_behind_p20, if_pos ((nI_leI (by omega) (by omega)).mpr (by omega))]
  | succ d ih =>
    intro n fuel hn hfu
    obtain ⟨fu, rfl⟩ : ∃ fu, fuel = fu + 1 := ⟨fuel - 1, by omega⟩
    have hb1 := sp_bd (F := F) hM ht hF k (b + 1) (x + 1 + n) (by omega) (by omega)
    have hst := stx_le hM (show b < 24 by omega) (show x < 40 by omega) (show x + 1 + n < 40 by omega)
    have hle := mn_le (rs A t F k b x) (x + 1) n
    have hEE : EE = 1000000000 := rfl
    have := ih (n + 1) fu (by omega) (by omega)
    rw [mnN] at this
    rw [f_X8_behind_p20, if_neg (by rw [nI_leI (by omega) (by omega)]; omega), nI_1, mul40', ix_nI (by omega) (by decide), hrow (x + 1 + n) (by omega), nI_1]
    by_cases hE : sp A t F k (b + 1) (x + 1 + n) = EE
    · rw [if_pos (show (1000000000 : Int32) ≤ nI (sp A t F k (b + 1) (x + 1 + n)) from (nI_leI (a := 1000000000) (by omega) (by omega)).mpr (by omega))]
      have hrs : rs A t F k b x (x + 1 + n) = EE := by unfold rs; rw [if_pos hE]
      rw [if_neg (by rw [hrs]; omega)] at this
      exact this
    · have hrs : rs A t F k b x (x + 1 + n) = sp A t F k (b + 1) (x + 1 + n) + stx A x (x + 1 + n) b := by unfold rs; rw [if_neg hE]
      rw [if_neg (show ¬ (1000000000 : Int32) ≤ nI (sp A t F k (b + 1) (x + 1 + n)) from fun z => by have := (nI_leI (a := 1000000000) (by omega) (by omega)).mp z; omega), ix_nI (by omega) (by decide), hc 35 (by decide) (by decide), m_apart, cI_r, stx_at hM (by omega) (by omega) (by omega), nI_add, ← hrs]
      unfold f_J9_min_7cf53
      have cmp : nI (rs A t F k b x (x + 1 + n)) < nI (mnN (rs A t F k b x) (x + 1) n) ↔ rs A t F k b x (x + 1 + n) < mnN (rs A t F k b x) (x + 1) n := nI_ltI (by omega) (by omega)
      by_cases h2 : rs A t F k b x (x + 1 + n) < mnN (rs A t F k b x) (x + 1) n
      · rw [if_pos h2] at this
        rw [if_pos (cmp.mpr h2), cI_r]
        exact this
      · rw [if_neg h2] at this
        rw [if_neg (fun z => h2 (cmp.mp z)), cI_r]
        exact this
theorem m_cell63 {A X : Mem} {t F b x n r : Nat} {a4 : Int32} (hM : InvM A) (ht : t < 6) (hF : F ≤ 40) (hb : b < 24) (hx : x < F) (hc : mch A X) (e : A 42 0 t = nI n) (hn : n ≤ 400) (hr : r = EE ∨ r ≤ 500000) (K : Int32 → Int32 → Int32 → Int32 → Int32 → Mem → RT) :
    f_X8_reckon_p63 K (nI t) (nI F) (nI b) a4 (nI x) (nI r) X = K (nI t) (nI F) (nI b) a4 (nI (x + 1)) (mup X 51 0 (40 * b + x) (nI (if r = EE then EE else r + lvx A t x b))) := by
  have hl := lvx_le hM ht hb x
  have hEE : EE = 1000000000 := rfl
  unfold f_X8_reckon_p63
  by_cases h : r = EE
  · rw [if_pos (show (1000000000 : Int32) ≤ nI r from (nI_leI (a := 1000000000) (by omega) (by omega)).mpr (by omega)), if_pos h, mul40', ix_nI (by omega) (by decide), nI_1]
    rfl
  · rw [if_neg (show ¬ (1000000000 : Int32) ≤ nI r from fun z => by have := (nI_leI (a := 1000000000) (by omega) (by omega)).mp z; omega), if_neg h, m_levX hc ht e hn (by omega), cI_r, ix_nI (by omega) (by decide), hc 34 (by decide) (by decide), m_apart, cI_r, lvx_at hM ht hb, mul40', ix_nI (by omega) (by decide), nI_add, nI_1]
theorem m_rkI {A : Mem} {t F k b l n : Nat} (hM : InvM A) (ht : t < 6) (hF : F ≤ 40) (hl : l < 24) (hbk : b + k = l) (el : mEnd A t = nI l) (e : A 42 0 t = nI n) (hn : n ≤ 400) (K : Int32 → Int32 → Int32 → Mem → RT) :
    ∀ (d x fuel : Nat) (X : Mem), x + d = F → d < fuel → mch A X → X 47 = A 47 → (∀ x', x' < x → X 51 0 (40 * b + x') = nI (sp A t F k b x')) → (∀ b', b < b' → b' ≤ l → rowM X A t F (l - b') b') →
    ∃ X', f_X8_reckon_p31 K fuel (nI t) (nI F) (nI b) (A 45 0 (24 * t + b)) (nI x) X = K (nI t) (nI F) (nI b + -1) X' ∧ mch A X' ∧ X' 47 = A 47 ∧ ∀ b', b ≤ b' → b' ≤ l → rowM X' A t F (l - b') b' := by
  intro d
  induction d with
  | zero =>
    intro x fuel X hx hfu hc h47 hrow hrows
    obtain ⟨fu, rfl⟩ : ∃ fu, fuel = fu + 1 := ⟨fuel - 1, by omega⟩
    have : x = F := by omega
    subst this
    refine ⟨X, by rw [f_X8_reckon_p31, if_pos ((nI_leI (by omega) (by omega)).mpr (Nat.le_refl _))], hc, h47, fun b' h1 h2 => ?_⟩
    by_cases hb : b' = b
    · subst hb
      rw [show l - b' = k by omega]
      exact hrow
    · exact hrows b' (by omega) h2
  | succ d ih =>
    intro x fuel X hx hfu hc h47 hrow hrows
    obtain ⟨fu, rfl⟩ : ∃ fu, fuel = fu + 1 := ⟨fuel - 1, by omega⟩
    have st : f_X8_reckon_p31 K (fu + 1) (nI t) (nI F) (nI b) (A 45 0 (24 * t + b)) (nI x) X = f_X8_reckon_p31 K fu (nI t) (nI F) (nI b) (A 45 0 (24 * t + b)) (nI (x + 1)) (mup X 51 0 (40 * b + x) (nI (sp A t F k b x))) := by
      have beh : okx A t b x → f_X8_reckon_p49 (fun a1 a2 a3 a4 a5 I => f_X8_reckon_p31 K fu a1 a2 a3 a4 a5 I) (nI t) (nI F) (nI b) (A 45 0 (24 * t + b)) (nI x) X = f_X8_reckon_p31 K fu (nI t) (nI F) (nI b) (A 45 0 (24 * t + b)) (nI (x + 1)) (mup X 51 0 (40 * b + x) (nI (sp A t F k b x))) := fun hok => by
        unfold f_X8_reckon_p49 f_X8_behind
        rw [m_ends ht, cI_r, mEnd_ch hc, el]
        match k, hbk, hrow with
        | 0, hbk, hrow =>
          have : b = l := by omega
          subst this
          rw [if_pos rfl, cI_r, show (0 : Int32) = nI 0 from rfl, m_cell63 hM ht hF hl (by omega) hc e hn (Or.inr (by omega)), if_neg (by decide), sp, if_pos hok, Nat.zero_add]
        | k + 1, hbk, hrow =>
          have hne : ¬ nI b = nI l := by rw [nI_eq (by omega) (by omega)]; omega
          have hrow' := hrows (b + 1) (by omega) (by omega)
          rw [show l - (b + 1) = k by omega] at hrow'
          have hbd := mn_bd (rs A t F k b x) (x + 1) (12000 * (k + 1) + 2000) (F - x - 1) (fun y h1 h2 => rs_bd hM ht hF (by omega) (by omega) (by omega))
          have hb2 := m_beh hM ht hF (show b + 1 + k < 24 by omega) (show x < F by omega) hc hrow' (F - x - 1) 0 FU (by omega) (by rw [FU_v]; omega)
          have hb3 : f_X8_behind_p20 FU (nI b) (nI x) (nI F) 1000000000 (nI x + 1) X = rI (nI (mnN (rs A t F k b x) (x + 1) (F - x - 1))) X := by
            rw [nI_1]
            exact hb2
          rw [if_neg hne, hb3, cI_r, m_cell63 hM ht hF (by omega) (by omega) hc e hn (by omega), sp_s, if_pos hok]
      rw [f_X8_reckon_p31, if_neg (by rw [nI_leI (by omega) (by omega)]; omega)]
      by_cases h1 : A 45 0 (24 * t + b) < 0
      · rw [if_pos h1]
        exact beh (Or.inl h1)
      · rw [if_neg h1]
        by_cases h2 : A 45 0 (24 * t + b) = nI x
        · rw [if_pos h2]
          exact beh (Or.inr h2)
        · have hok : ¬ okx A t b x := by rintro (z | z) <;> contradiction
          have hsp : sp A t F k b x = EE := by
            match k with
            | 0 => rw [sp, if_neg hok]
            | k + 1 => rw [sp_s, if_neg hok]
          rw [if_neg h2, show (1000000000 : Int32) = nI EE from rfl, m_cell63 hM ht hF (by omega) (by omega) hc e hn (Or.inl rfl), if_pos rfl, hsp]
    obtain ⟨X', e', q1, q2, q3⟩ := ih (x + 1) fu (mup X 51 0 (40 * b + x) (nI (sp A t F k b x))) (by omega) (by omega) (fun g h1 h2 => by rw [mup_g h1]; exact hc g h1 h2) (by rw [mup_g (by decide)]; exact h47) (fun x' hx' => by
      rw [mup_0]
      by_cases hxx : x' = x
      · subst hxx; rw [if_pos rfl]
      · rw [if_neg (by omega)]; exact hrow x' (by omega)) (fun b' g1 g2 x' g3 => by
      rw [mup_0, if_neg (by omega)]
      exact hrows b' g1 g2 x' g3)
    exact ⟨X', st.trans e', q1, q2, q3⟩
theorem m_reckon {A : Mem} {t F f l n : Nat} (hM : InvM A) (ht : t < 6) (hF : F ≤ 40) (hfl : f ≤ l) (hl : l < 24) (ef : mBeg A t = nI f) (el : mEnd A t = nI l) (e : A 42 0 t = nI n) (hn : n ≤ 400) :
    ∃ X, f_X8_reckon (nI t) (nI F) A = rV X ∧ mch A X ∧ X 47 = A 47 ∧ ∀ b', f ≤ b' → b' ≤ l → rowM X A t F (l - b') b' := by
  have key : ∀ (d c fuel : Nat) (X : Mem), c = f + d → d < fuel → c ≤ l + 1 → mch A X → X 47 = A 47 → (∀ b', c ≤ b' → b' ≤ l → rowM X A t F (l - b') b') → ∃ X', f_X8_reckon_p6 fuel (nI t) (nI F) (nI c - 1) X = rV X' ∧ mch A X' ∧ X' 47 = A 47 ∧ ∀ b', f ≤ b' → b' ≤ l → rowM X' A t F (l - b') b' := by
    intro d
    induction d with
    | zero =>
      intro c fuel X hcf hfu hcl hc h47 hrows
      obtain ⟨fu, rfl⟩ : ∃ fu, fuel = fu + 1 := ⟨fuel - 1, by omega⟩
      have : c = f := by omega
      subst this
      exact ⟨X, by rw [f_X8_reckon_p6, m_begins ht, cI_r, mBeg_ch hc, ef, if_pos (by rw [lt_i, sub1 (by omega), nIt (by omega)]; omega)], hc, h47, hrows⟩
    | succ d ih =>
      intro c fuel X hcf hfu hcl hc h47 hrows
      obtain ⟨fu, rfl⟩ : ∃ fu, fuel = fu + 1 := ⟨fuel - 1, by omega⟩
      obtain ⟨b, rfl⟩ : ∃ b, c = b + 1 := ⟨c - 1, by omega⟩
      obtain ⟨X1, e1, p1, p2, p3⟩ := m_rkI (k := l - b) (b := b) hM ht hF hl (by omega) el e hn (fun a1 a2 a3 I => f_X8_reckon_p6 fu a1 a2 a3 I) F 0 FU X (by omega) (by rw [FU_v]; omega) hc h47 (fun x' hx' => by omega) (fun b' g1 g2 => hrows b' (by omega) g2)
      obtain ⟨X', e2, q⟩ := ih b fu X1 (by omega) (by omega) (by omega) p1 p2 p3
      refine ⟨X', ?_, q⟩
      have e3 : nI b + -1 = nI b - 1 := by
        have : ∀ u : Int32, u + -1 = u - 1 := fun u => by grind
        exact this _
      rw [f_X8_reckon_p6, m_begins ht, cI_r, mBeg_ch hc, ef, mM1 (by omega), Nat.add_sub_cancel, if_neg (by rw [nI_ltI (by omega) (by omega)]; omega), mul24, ix_nI (by omega) (by decide), hc 45 (by decide) (by decide), show (0 : Int32) = nI 0 from rfl, e1, e3]
      exact e2
  obtain ⟨X, e1, q⟩ := key (l + 1 - f) (l + 1) FU A (by omega) (by rw [FU_v]; omega) (Nat.le_refl _) (fun _ _ _ => rfl) rfl (fun b' h1 h2 => by omega)
  refine ⟨X, ?_, q⟩
  unfold f_X8_reckon
  rw [m_ends ht, cI_r, el]
  rw [mM1 (by omega), Nat.add_sub_cancel] at e1
  exact e1
