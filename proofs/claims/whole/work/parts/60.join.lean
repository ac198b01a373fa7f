/-! ===== joins: likeness, shift, cost ===== -/
theorem FU_v : FU = 20000 := rfl
theorem mFr_le {A : Mem} {t b : Nat} (h : ¬ mEnd A t < nI b) : mFr A t b = A 47 0 (24 * t + b) := if_neg h
theorem m_frameOf {A : Mem} {t b : Nat} (hM : InvM A) (ht : t < 6) (hb : b < 25) : f_X8_frameOf (nI t) (nI b) A = rI (mFr A t b) A := by
  obtain ⟨l, hl, el⟩ := end_at hM ht
  unfold f_X8_frameOf mFr
  rw [m_ends ht, cI_r, el, mul24]
  have l1 : (nI b ≤ nI l) ↔ b ≤ l := nI_leI (by omega) (by omega)
  have l2 : (nI l < nI b) ↔ l < b := nI_ltI (by omega) (by omega)
  by_cases h : b ≤ l
  · rw [if_pos (l1.mpr h), if_neg (fun z => by have := l2.mp z; omega), ix_nI (by omega) (by decide)]
  · rw [if_neg (fun z => h (l1.mp z)), if_pos (l2.mpr (by omega)), mM1 (by omega), mM1 (by omega), ix_nI (by omega) (by decide), ix_nI (by omega) (by decide)]
theorem m_sampleOf {A : Mem} {t n : Nat} (ht : t < 6) (e : A 42 0 t = nI n) (hn : n ≤ 400) (x : Int32) : f_X8_sampleOf (nI t) x A = rI (mSam A t x) A := by
  unfold f_X8_sampleOf mSam
  rw [ix6 ht, m_in, cI_r, bi_ite, e]
  rcases nb_cases x (n := n) (by omega) with ⟨i, hi, rfl⟩ | hx
  · rw [if_pos (nb_ok hi (by omega)), if_pos (nb_ok hi (by omega)), mul400, ix_nI (by omega) (by decide), nI_clamp (by omega)]
  · rw [if_neg hx, if_neg hx]
theorem sub_t {a b : Nat} (ha : a < 2 ^ 30) (hb : b < 2 ^ 30) : (nI a - nI b).toInt = (a : Int) - b := pk_sub_toInt ha hb
theorem alg_k1 (x w n : Int32) : x + (n - w) = x - w + n := by grind
theorem alg_k2 (n w : Int32) : n - w + 1 = n + 1 - w := by grind
theorem alg_k3 (w : Int32) : -w = 0 - w := by grind
theorem m_lkl {A : Mem} {s t w ns nt : Nat} (hs : s < 6) (ht : t < 6) (es : A 42 0 s = nI ns) (hns : ns ≤ 400) (et : A 42 0 t = nI nt) (hnt : nt ≤ 400) (ew : A 33 0 15 = nI w) (hw : w ≤ 20) (x y : Int32) : ∀ (d k fuel : Nat), k + d = 2 * w → d < fuel →
    f_X8_likeness_p38 fuel (nI s) (nI t) x y (lkP A s t (x - nI w) (y - nI w) k) (lkQ A s t (x - nI w) (y - nI w) k) (nI k - nI w) A = rI (if lkQ A s t (x - nI w) (y - nI w) (2 * w) = 0 then 0 else (2000 * lkP A s t (x - nI w) (y - nI w) (2 * w) / lkQ A s t (x - nI w) (y - nI w) (2 * w)).toInt32) A := by
  intro d
  induction d with
  | zero =>
    intro k fuel hk hf
    obtain ⟨fu, rfl⟩ : ∃ fu, fuel = fu + 1 := ⟨fuel - 1, by omega⟩
    have : k = 2 * w := by omega
    subst this
    rw [f_X8_likeness_p38, if_pos (by rw [ew, le_i, sub_t (by omega) (by omega), nIt (by omega)]; omega)]
    by_cases h : lkQ A s t (x - nI w) (y - nI w) (2 * w) = 0
    · rw [if_pos ((lg_cmp_eq _ _).mpr h), if_pos h]
    · rw [if_neg (fun z => h ((lg_cmp_eq _ _).mp z)), if_neg h, if_neg h]
      rfl
  | succ d ih =>
    intro k fuel hk hf
    obtain ⟨fu, rfl⟩ : ∃ fu, fuel = fu + 1 := ⟨fuel - 1, by omega⟩
    rw [f_X8_likeness_p38, if_neg (by rw [ew, le_i, sub_t (by omega) (by omega), nIt (by omega)]; omega), m_sampleOf hs es hns, cI_r, m_sampleOf ht et hnt, cI_r, alg_k1 x, alg_k1 y, alg_k2, nI_1]
    exact ih (k + 1) fu (by omega) (by omega)
theorem m_likeness {A : Mem} {s t b : Nat} (hM : InvM A) (hs : s < 6) (ht : t < 6) (hb : b < 25) (d : Int32) : f_X8_likeness (nI s) (nI t) (nI b) d A = rI (mLk A s t b d) A := by
  obtain ⟨ns, hns, es⟩ := cnt_at hM hs
  obtain ⟨nt, hnt, et⟩ := cnt_at hM ht
  obtain ⟨B, -, -, -, ⟨⟨w1, w2⟩, -⟩, -⟩ := hM.1
  obtain ⟨w, hw, ew⟩ := rg_nI (n := 20) (show (0 : Int) ≤ _ by omega) w2 (by decide)
  have := m_lkl hs ht es hns et hnt ew hw (10 * mFr A s b) (10 * mFr A t b + d) (2 * w) 0 FU (by omega) (by rw [FU_v]; omega)
  unfold f_X8_likeness mLk
  rw [m_frameOf hM hs hb, cI_r, m_frameOf hM ht hb, cI_r, ew, nI_clamp (by omega), alg_k3]
  exact this
/-- the shifts that are tried, by their distance -/
theorem m_shl {A : Mem} {s t b : Nat} (hM : InvM A) (hs : s < 6) (ht : t < 6) (hb : b < 25) {D : Nat} (eD : A 33 0 16 = nI D) (hD : D ≤ 9) : ∀ (d k fuel : Nat), k + d = D → d < fuel → f_X8_shiftOf_p16 fuel (nI s) (nI t) (nI b) (mShL A s t b k).1 (mShL A s t b k).2 (nI (k + 1)) A = rI (mShL A s t b D).1 A := by
  intro d
  induction d with
  | zero =>
    intro k fuel hk hf
    obtain ⟨fu, rfl⟩ : ∃ fu, fuel = fu + 1 := ⟨fuel - 1, by omega⟩
    have : k = D := by omega
    subst this
    rw [f_X8_shiftOf_p16, if_pos (by rw [eD]; exact (nI_ltI (by omega) (by omega)).mpr (by omega))]
  | succ d ih =>
    intro k fuel hk hf
    obtain ⟨fu, rfl⟩ : ∃ fu, fuel = fu + 1 := ⟨fuel - 1, by omega⟩
    rw [f_X8_shiftOf_p16, if_neg (by rw [eD, nI_ltI (by omega) (by omega)]; omega)]
    have stp : ∀ (p : Int32 × Int32) (v : Int32), (if p.2 < mLk A s t b v then (v, mLk A s t b v) else p) = if mLk A s t b v ≤ p.2 then p else (v, mLk A s t b v) := fun p v => by
      by_cases h : p.2 < mLk A s t b v
      · rw [if_pos h, if_neg (by rw [le_i]; rw [lt_i] at h; omega)]
      · rw [if_neg h, if_pos (by rw [le_i]; rw [lt_i] at h; omega)]
    have e1 : ∀ x : Int32, (-1 : Int32) * x = -x := fun x => by grind
    have e2 : ∀ x : Int32, ((-1 : Int32) + 2) * x = x := fun x => by
      rw [show (-1 : Int32) + 2 = 1 by decide]; grind
    obtain ⟨fv, hfv⟩ : ∃ f, FU = f + 1 + 1 + 1 := ⟨19997, rfl⟩
    rw [hfv, f_X8_shiftOf_p28, if_neg (by decide), e1, m_likeness hM hs ht hb, cI_r]
    have nx : ∀ p : Int32 × Int32, f_X8_shiftOf_p28 (fun a1 a2 a3 a4 a5 a6 I => f_X8_shiftOf_p16 fu a1 a2 a3 a4 a5 a6 I) (fv + 1 + 1) (nI s) (nI t) (nI b) p.1 p.2 (nI (k + 1)) (-1 + 2) A =
        f_X8_shiftOf_p16 fu (nI s) (nI t) (nI b) (if p.2 < mLk A s t b (nI (k + 1)) then (nI (k + 1), mLk A s t b (nI (k + 1))) else p).1 (if p.2 < mLk A s t b (nI (k + 1)) then (nI (k + 1), mLk A s t b (nI (k + 1))) else p).2 (nI (k + 1 + 1)) A := fun p => by
      rw [f_X8_shiftOf_p28, if_neg (by decide), e2, m_likeness hM hs ht hb, cI_r, stp]
      split
      · rw [f_X8_shiftOf_p28, if_pos (by decide), nI_1]
      · rw [f_X8_shiftOf_p28, if_pos (by decide), nI_1]
    have := ih (k + 1) fu (by omega) (by omega)
    rw [mShL] at this
    rw [stp (mShL A s t b k) (-nI (k + 1))] at this
    split
    · rename_i h
      rw [if_pos h] at this
      exact (nx (mShL A s t b k)).trans this
    · rename_i h
      rw [if_neg h] at this
      exact (nx (-nI (k + 1), mLk A s t b (-nI (k + 1)))).trans this
theorem far_at {A : Mem} (hM : InvM A) : ∃ w D, w ≤ 20 ∧ 1 ≤ w ∧ D ≤ 9 ∧ A 33 0 15 = nI w ∧ A 33 0 16 = nI D := by
  obtain ⟨B, -, -, -, ⟨⟨w1, w2⟩, ⟨d1, d2⟩, -⟩, -⟩ := hM.1
  obtain ⟨w, hw, ew⟩ := rg_nI (n := 20) (show (0 : Int) ≤ _ by omega) w2 (by decide)
  obtain ⟨D, hD, eD⟩ := rg_nI (n := 9) d1 d2 (by decide)
  rw [ew, nIt (by omega)] at w1
  exact ⟨w, D, hw, by omega, hD, ew, eD⟩
theorem m_shiftOf {A : Mem} {s t b : Nat} (hM : InvM A) (hs : s < 6) (ht : t < 6) (hb : b < 25) : f_X8_shiftOf (nI s) (nI t) (nI b) A = rI (mSh A s t b) A := by
  obtain ⟨w, D, -, -, hD, -, eD⟩ := far_at hM
  have := m_shl hM hs ht hb eD hD D 0 FU (by omega) (by rw [FU_v]; omega)
  unfold f_X8_shiftOf mSh
  rw [m_likeness hM hs ht hb, cI_r, eD, nI_clamp (by omega)]
  exact this
theorem m_apart (a b : Int32) (A : Mem) : f_X8_apart a b A = rI (apt a b) A := by
  unfold f_X8_apart apt
  split
  · rename_i h
    first | rw [if_pos h] | rw [if_neg (by rw [le_i] at h; rw [lt_i]; omega)]
  · rename_i h
    first | rw [if_neg h] | rw [if_pos (by rw [le_i] at h; rw [lt_i]; omega)]
theorem alg_k4 (c l a : Int32) : c + 1000 - l + a = c + (1000 - l + a) := by grind
theorem m_costOf {A : Mem} {s t b : Nat} (hM : InvM A) (hs : s < 6) (ht : t < 6) (hb : b < 25) : f_X8_costOf (nI s) (nI t) (nI b) A = rI (A 33 0 17 + mLoss A s t b) A := by
  obtain ⟨ns, hns, es⟩ := cnt_at hM hs
  obtain ⟨nt, hnt, et⟩ := cnt_at hM ht
  unfold f_X8_costOf mLoss
  rw [m_shiftOf hM hs ht hb, cI_r, m_likeness hM hs ht hb, cI_r, m_frameOf hM hs hb, cI_r, m_levelOf hs es hns, cI_r, m_frameOf hM ht hb, cI_r, m_levelOf ht et hnt, cI_r, m_apart, cI_r, alg_k4]
