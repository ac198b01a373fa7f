theorem fr_rg {A : Mem} {t b : Nat} (hM : InvM A) (ht : t < 6) (hl : A 46 0 t = 1) (hb : b < 25) (hh : mHas A t (nI b) ∨ (0 < b ∧ mHas A t (nI (b - 1)))) : rg 0 79 (mFr A t b) := by
  obtain ⟨f, l, hfl, hl24, -, ef, el⟩ := beg_at hM ht
  have i1 := has_iff ef el hl24 b (by omega) hfl
  have i2 := has_iff ef el hl24 (b - 1) (by omega) hfl
  rw [i1, i2] at hh
  obtain ⟨B, -, hq, hk, -⟩ := hM.1
  obtain ⟨-, -, -, -, -, -, -, -, -, k10⟩ := hk t ht
  unfold mFr
  rw [el]
  by_cases h : b ≤ l
  · rw [if_neg (by rw [nI_ltI (by omega) (by omega)]; omega)]
    have := k10 hl b (by omega) (i1.mpr ⟨by omega, h⟩)
    exact rg_w this (by decide) (by decide)
  · have hb1 : b - 1 < 24 := by omega
    rw [if_pos ((nI_ltI (by omega) (by omega)).mpr (by omega))]
    have q := k10 hl (b - 1) hb1 (i2.mpr (by omega))
    rw [show 24 * t + (b - 1) = 24 * t + b - 1 by omega] at q
    obtain ⟨q1, q2⟩ := q
    obtain ⟨r1, r2⟩ := (hq (b - 1) hb1).2.1
    unfold rg
    rw [Int32.toInt_add, bm32 (by omega) (by omega)]
    omega
theorem sh_rg {A : Mem} {s t b : Nat} (hM : InvM A) : rg (-9) 9 (mSh A s t b) := by
  obtain ⟨w, D, -, -, hD, -, eD⟩ := far_at hM
  obtain ⟨z, z1, z2, z3, -, -⟩ := shL_best (A := A) (s := s) (t := t) (b := b) D (by omega)
  unfold mSh rg
  rw [eD, nI_clamp (by omega), z3, ofI_t (by omega) (by omega)]
  omega
theorem ten_t {x : Int32} (h : rg 0 79 x) : (10 * x).toInt = 10 * x.toInt := by
  have h1 : (10 : Int32).toInt = 10 := by decide
  obtain ⟨a, b⟩ := h
  rw [Int32.toInt_mul, h1, bm32 (by omega) (by omega)]
theorem way_at {A : Mem} {B n r : Nat} {p : Nat → Nat} (hw : wayOk A B) (hr : rowsOk A B n p) (h : r < n) : ∀ b, p r ≤ b → b < p (r + 1) → A 48 0 b = nI (rwT A p r) ∧ rwT A p r < 6 ∧ mMay A (rwT A p r) b := by
  intro b h1 h2
  have hB : b < B := by
    have := p_mono hr.2.2.1 (n - (r + 1)) (r + 1) (by omega)
    rw [show r + 1 + (n - (r + 1)) = n by omega, hr.2.1] at this
    omega
  obtain ⟨t, ht, et, hm⟩ := hw b hB
  have e := hr.2.2.2.1 r h b h1 h2
  have : rwT A p r = t := by
    unfold rwT
    rw [← e, et, nI_clamp (by omega)]
  rw [this]
  exact ⟨et, ht, hm⟩
