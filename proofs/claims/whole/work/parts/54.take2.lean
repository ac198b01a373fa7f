/-! ===== take ===== -/
def tkM (A : Mem) (t : Nat) (k f l m : Int32) : Mem := fil (fil (mup (mup (mup (mup (mup A 38 0 t k) 39 0 t f) 40 0 t l) 41 0 t m) 42 0 t 0) 45 0 (24 * t) (24 * t + 24) (-1)) 44 0 (96 * t) (96 * t + 96) 0
theorem m_tkI {X : Mem} {t b : Nat} (ht : t < 6) (hb : b < 24) (K : Int32 → Int32 → Mem → RT) : ∀ (d m fuel : Nat), m + d = 4 → d < fuel → f_X8_take_p157 K fuel (nI t) (nI b) (nI m) (fil X 44 0 (96 * t) (96 * t + 4 * b + m) 0) = K (nI t) (nI (b + 1)) (fil X 44 0 (96 * t) (96 * t + 4 * (b + 1)) 0) := by
  intro d
  induction d with
  | zero =>
    intro m fuel hk hf
    obtain ⟨fu, rfl⟩ : ∃ fu, fuel = fu + 1 := ⟨fuel - 1, by omega⟩
    have : m = 4 := by omega
    subst this
    rw [f_X8_take_p157, if_pos (by decide), nI_1, show 96 * t + 4 * b + 4 = 96 * t + 4 * (b + 1) by omega]
  | succ d ih =>
    intro m fuel hk hf
    obtain ⟨fu, rfl⟩ : ∃ fu, fuel = fu + 1 := ⟨fuel - 1, by omega⟩
    rw [f_X8_take_p157, if_neg (show ¬ (4 : Int32) ≤ nI m from nI_ge (b := 4) (by omega) (by decide)), mul24, mul4, nI_add, ix_nI (by omega) (by decide), show 4 * (24 * t + b) + m = 96 * t + 4 * b + m by omega, fil_s (by omega), nI_1]
    exact ih (m + 1) fu (by omega) (by omega)
theorem m_tkO {X : Mem} {t : Nat} (ht : t < 6) : ∀ (d b fuel : Nat), b + d = 24 → d < fuel → f_X8_take_p134 fuel (nI t) (nI b) (fil (fil X 45 0 (24 * t) (24 * t + b) (-1)) 44 0 (96 * t) (96 * t + 4 * b) 0) = rI 1 (mChg (fil (fil X 45 0 (24 * t) (24 * t + 24) (-1)) 44 0 (96 * t) (96 * t + 96) 0) t) := by
  intro d
  induction d with
  | zero =>
    intro b fuel hk hf
    obtain ⟨fu, rfl⟩ : ∃ fu, fuel = fu + 1 := ⟨fuel - 1, by omega⟩
    have : b = 24 := by omega
    subst this
    rw [f_X8_take_p134, if_pos (by decide), m_changed ht, cV_r]
  | succ d ih =>
    intro b fuel hk hf
    obtain ⟨fu, rfl⟩ : ∃ fu, fuel = fu + 1 := ⟨fuel - 1, by omega⟩
    rw [f_X8_take_p134, if_neg (show ¬ (24 : Int32) ≤ nI b from nI_ge (b := 24) (by omega) (by decide)), mul24, ix_nI (by omega) (by decide), fil_mup (by decide), fil_s (by omega)]
    have := m_tkI (X := fil X 45 0 (24 * t) (24 * t + b + 1) (-1)) ht (show b < 24 by omega) (fun a1 a7 I => f_X8_take_p134 fu a1 a7 I) 4 0 FU (by omega) (by decide)
    rw [Nat.add_zero] at this
    refine (show _ = _ from this).trans ?_
    exact ih (b + 1) fu (by omega) (by omega)
theorem m_take85 {A : Mem} {t : Nat} (ht : t < 6) (k f l m : Int32) : f_X8_take_p85 (nI t) k f l m A = rI 1 (mChg (tkM A t k f l (if k = 2 then m else 0)) t) := by
  unfold f_X8_take_p85 f_X8_take_p123 tkM
  rw [ix6 ht, ix6 ht, ix6 ht]
  split
  · rw [ix6 ht, ix6 ht]
    have := m_tkO (X := mup (mup (mup (mup (mup A 38 0 t k) 39 0 t f) 40 0 t l) 41 0 t m) 42 0 t 0) ht 24 0 FU (by omega) (by decide)
    rw [Nat.add_zero, Nat.mul_zero, Nat.add_zero, fil_0, fil_0] at this
    exact this
  · rw [ix6 ht, ix6 ht]
    have := m_tkO (X := mup (mup (mup (mup (mup A 38 0 t k) 39 0 t f) 40 0 t l) 41 0 t 0) 42 0 t 0) ht 24 0 FU (by omega) (by decide)
    rw [Nat.add_zero, Nat.mul_zero, Nat.add_zero, fil_0, fil_0] at this
    exact this
def tkC (I : Mem) (t : Nat) (k f l m : Int32) : Mem := clrC (mup (mup (mup (mup (mup (mup I 7 t 0 1) 7 t 2 k) 7 t 3 f) 7 t 4 l) 7 t 5 m) 7 t 6 0) t
theorem c_take105 {I : Mem} {t : Nat} (ht : t < 6) (k f l m x y : Int32) : f_X7_take_p105 (nI t) k f l m x y I = rI 1 (cChg (tkC I t k (if x = 0 then 0 else f) (if x = 0 then I 1 0 0 - 1 else l) (if y = 0 then 0 else m)) t) := by
  unfold f_X7_take_p105 f_X7_take_p122 f_X7_take_p141 f_X7_take_p152 f_X6_begin tkC
  rw [ix6 ht]
  by_cases hx : x = 0
  · by_cases hy : y = 0
    · simp only [if_pos hx, if_pos hy, c_clear, cV_r, c_changeTake ht]
    · simp only [if_pos hx, if_neg hy, c_clear, cV_r, c_changeTake ht]
  · by_cases hy : y = 0
    · simp only [if_neg hx, if_pos hy, c_clear, cV_r, c_changeTake ht]
    · simp only [if_neg hx, if_neg hy, c_clear, cV_r, c_changeTake ht]
/-- both sides after a take that is begun -/
theorem op_begin {fc fm : Mem → RT} {I A : Mem} {t k : Nat} {f l m f' l' : Int32} (ht : t < 6) (hk : k < 5) (hR : RC I A) (hM : InvM A) (hm : rg 0 1000 m) (hp : (k = 1 ∨ k = 2) → f' = f ∧ l' = l ∧ ∃ x y, x ≤ y ∧ nI y ≤ A 33 0 0 - 1 ∧ y < 24 ∧ f = nI x ∧ l = nI y) (hq : ¬ (k = 1 ∨ k = 2) → f' = 0 ∧ l' = A 33 0 0 - 1) (em : fm A = rI 1 (mChg (tkM A t (nI k) f l m) t)) (ec : fc I = rI 1 (cChg (tkC I t (nI k) f' l' m) t)) : ∃ v I1 A1, fm A = rI v A1 ∧ InvM A1 ∧ keepM A A1 ∧ fc I = rI v I1 ∧ RC I1 A1 ∧ keepC I I1 := by
  have z38 : ∀ u, tkM A t (nI k) f l m 38 0 u = if u = t then nI k else A 38 0 u := fun u => by
    show mup A 38 0 t (nI k) 38 0 u = _
    rw [mup_0]
  have z39 : ∀ u, tkM A t (nI k) f l m 39 0 u = if u = t then f else A 39 0 u := fun u => by
    show mup (mup A 38 0 t (nI k)) 39 0 t f 39 0 u = _
    rw [mup_0]; rfl
  have z40 : ∀ u, tkM A t (nI k) f l m 40 0 u = if u = t then l else A 40 0 u := fun u => by
    show mup (mup (mup A 38 0 t (nI k)) 39 0 t f) 40 0 t l 40 0 u = _
    rw [mup_0]; rfl
  have z41 : ∀ u, tkM A t (nI k) f l m 41 0 u = if u = t then m else A 41 0 u := fun u => by
    show mup (mup (mup (mup A 38 0 t (nI k)) 39 0 t f) 40 0 t l) 41 0 t m 41 0 u = _
    rw [mup_0]; rfl
  have z42 : ∀ u, tkM A t (nI k) f l m 42 0 u = if u = t then 0 else A 42 0 u := fun u => by
    show mup (mup (mup (mup (mup A 38 0 t (nI k)) 39 0 t f) 40 0 t l) 41 0 t m) 42 0 t 0 42 0 u = _
    rw [mup_0]; rfl
  have z45 : ∀ c, tkM A t (nI k) f l m 45 0 c = if 24 * t ≤ c ∧ c < 24 * t + 24 then -1 else A 45 0 c := fun c => by
    unfold tkM
    rw [fil_g (by decide), fil_at]; rfl
  have z44 : ∀ c, tkM A t (nI k) f l m 44 0 c = if 96 * t ≤ c ∧ c < 96 * t + 96 then 0 else A 44 0 c := fun c => by
    unfold tkM
    rw [fil_at]; rfl
  have zg : ∀ g, g ≠ 38 → g ≠ 39 → g ≠ 40 → g ≠ 41 → g ≠ 42 → g ≠ 44 → g ≠ 45 → tkM A t (nI k) f l m g = A g := fun g h1 h2 h3 h4 h5 h6 h7 => by
    unfold tkM
    rw [fil_g h6, fil_g h7, mup_g h5, mup_g h4, mup_g h3, mup_g h2, mup_g h1]
  have isp : isP (tkM A t (nI k) f l m) t ↔ (k = 1 ∨ k = 2) := by
    unfold isP
    rw [z38, if_pos rfl]
    have a1 : nI k = 1 ↔ k = 1 := nI_eq (by omega) (by decide)
    have a2 : nI k = 2 ↔ k = 2 := nI_eq (by omega) (by decide)
    rw [a1, a2]
  have y7 : ∀ c, tkC I t (nI k) f' l' m 7 t c = if c = 1 then 0 else if c = 6 then 0 else if c = 5 then m else if c = 4 then l' else if c = 3 then f' else if c = 2 then nI k else if c = 0 then 1 else I 7 t c := fun c => by
    unfold tkC clrC
    rw [fil_g (by decide), fil_g (by decide)]
    simp only [mup_t, true_and]
  have y7u : ∀ u, u ≠ t → tkC I t (nI k) f' l' m 7 u = I 7 u := fun u hu => by
    unfold tkC clrC
    rw [fil_g (by decide), fil_g (by decide)]
    simp only [mup_i hu]
  have y9 : ∀ u, u ≠ t → tkC I t (nI k) f' l' m 9 u = I 9 u := fun u hu => by
    unfold tkC clrC
    rw [fil_g (by decide), fil_i hu]; rfl
  have y11 : ∀ u, u ≠ t → tkC I t (nI k) f' l' m 11 u = I 11 u := fun u hu => by
    unfold tkC clrC
    rw [fil_i hu]; rfl
  have y9t : ∀ c, c < 24 → tkC I t (nI k) f' l' m 9 t c = -1 := fun c hc => by
    unfold tkC clrC
    rw [fil_g (by decide), fil_at, if_pos ⟨Nat.zero_le _, hc⟩]
  have y11t : ∀ c, c < 96 → tkC I t (nI k) f' l' m 11 t c = 0 := fun c hc => by
    unfold tkC clrC
    rw [fil_at, if_pos ⟨Nat.zero_le _, hc⟩]
  have yg : ∀ g, g ≠ 7 → g ≠ 9 → g ≠ 11 → tkC I t (nI k) f' l' m g = I g := fun g h1 h2 h3 => by
    unfold tkC clrC
    rw [fil_g h3, fil_g h2]
    simp only [mup_g h1]
  have k0 : 0 ≤ nI k := nI_pos' (by omega)
  refine op_tk ht hR hM (fun g hg => zg g (by omega) (by omega) (by omega) (by omega) (by omega) (by omega) (by omega)) (fun u hu e => ?_) (fun g hg => yg g (by omega) (by omega) (by omega)) (fun u hu e => ?_) (fun B h1 h2 h3 => ?_) ?_ em ec
  · refine ⟨⟨by rw [z38, if_neg e], by rw [z39, if_neg e], by rw [z40, if_neg e], by rw [z42, if_neg e], by rw [zg 46 (by decide) (by decide) (by decide) (by decide) (by decide) (by decide) (by decide)], fun i _ => by rw [zg 43 (by decide) (by decide) (by decide) (by decide) (by decide) (by decide) (by decide)], fun b _ => by rw [zg 47 (by decide) (by decide) (by decide) (by decide) (by decide) (by decide) (by decide)]⟩, by rw [z41, if_neg e], fun b hb j hj => by rw [z44, if_neg (by omega)], fun b hb => by rw [z45, if_neg (by omega)]⟩
  · exact ⟨y7u u e, by rw [yg 8 (by decide) (by decide) (by decide)], y9 u e, by rw [yg 10 (by decide) (by decide) (by decide)], y11 u e⟩
  · obtain ⟨⟨B', ⟨b1, b2, b3⟩, -, h5, -⟩, -⟩ := hM
    have : B' = B := (nI_eq (by omega) (by omega)).mp (b3.symm.trans h3)
    subst this
    obtain ⟨k1, k2, k3, k4, k5, k6, k7⟩ := tkOk_U (h5 t ht)
    refine ⟨?_, fun q => ?_, by rw [z41, if_pos rfl]; exact hm, ⟨0, by omega, by rw [z42, if_pos rfl]; rfl⟩, fun i hi => ?_, fun b hb j hj => ?_, fun b hb => ?_⟩
    · rw [z38, if_pos rfl]
      unfold rg
      rw [nIt (by omega)]
      omega
    · obtain ⟨-, -, x, y, w1, w2, w3, w4, w5⟩ := hp (isp.mp q)
      rw [h3, mM1 h1] at w2
      have := (nI_leI (by omega) (by omega)).mp w2
      exact ⟨x, y, w1, by omega, by rw [z39, if_pos rfl]; exact w4, by rw [z40, if_pos rfl]; exact w5⟩
    · rw [zg 43 (by decide) (by decide) (by decide) (by decide) (by decide) (by decide) (by decide)]
      exact k5 i hi
    · rw [z44, if_pos (by omega)]
      exact ⟨⟨by decide, by decide⟩, fun _ => rfl⟩
    · rw [z45, if_pos (by omega)]
      exact ⟨by decide, by decide⟩
  · have hT := hR.2.1 t ht
    refine ⟨?_, ?_, fun _ => ⟨?_, ?_, ?_⟩, ?_, ?_, fun i hi => ?_, fun _ b hb => ?_, fun b hb j hj => ?_⟩
    · rw [z38, if_pos (rfl : t = t), bi_t k0, y7]; rfl
    · rw [y7]
      show rg 0 4 (nI k)
      unfold rg
      rw [nIt (by omega)]
      omega
    · rw [z38, if_pos (rfl : t = t), y7]; rfl
    · rw [y7]
      show f' = _
      unfold mBeg
      by_cases q : k = 1 ∨ k = 2
      · rw [if_pos (isp.mpr q), z39, if_pos rfl]; exact (hp q).1
      · rw [if_neg (fun z => q (isp.mp z))]; exact (hq q).1
    · rw [y7]
      show l' = _
      unfold mEnd
      by_cases q : k = 1 ∨ k = 2
      · rw [if_pos (isp.mpr q), z40, if_pos rfl]; exact (hp q).2.1
      · rw [if_neg (fun z => q (isp.mp z)), zg 33 (by decide) (by decide) (by decide) (by decide) (by decide) (by decide) (by decide)]; exact (hq q).2
    · rw [z41, if_pos (rfl : t = t), y7]; rfl
    · rw [z42, if_pos (rfl : t = t), y7]; rfl
    · rw [yg 8 (by decide) (by decide) (by decide), zg 43 (by decide) (by decide) (by decide) (by decide) (by decide) (by decide) (by decide)]
      exact hT.2.2.2.2.2.1 i hi
    · rw [y9t b hb, z45, if_pos (by omega)]
    · rw [y11t _ (by omega), z44, if_pos (by omega)]
