/-! ===== which part reads what ===== -/
/-- two models alike in what joins read of a take -/
def agJ (A A' : Mem) (u : Nat) : Prop := A' 38 0 u = A 38 0 u ∧ A' 39 0 u = A 39 0 u ∧ A' 40 0 u = A 40 0 u ∧ A' 42 0 u = A 42 0 u ∧ A' 46 0 u = A 46 0 u ∧ (∀ i, i < 400 → A' 43 0 (400 * u + i) = A 43 0 (400 * u + i)) ∧ ∀ b, b < 24 → A' 47 0 (24 * u + b) = A 47 0 (24 * u + b)
/-- alike in a take -/
def agT (A A' : Mem) (u : Nat) : Prop := agJ A A' u ∧ A' 41 0 u = A 41 0 u ∧ (∀ b, b < 24 → ∀ m, m < 4 → A' 44 0 (4 * (24 * u + b) + m) = A 44 0 (4 * (24 * u + b) + m)) ∧ ∀ b, b < 24 → A' 45 0 (24 * u + b) = A 45 0 (24 * u + b)
/-- alike in what joins read beside takes -/
def agG (A A' : Mem) : Prop := A' 33 0 0 = A 33 0 0 ∧ A' 33 0 15 = A 33 0 15 ∧ A' 33 0 16 = A 33 0 16 ∧ ∀ b, b < 24 → A' 35 0 b = A 35 0 b
theorem agJ_rf {A : Mem} {u : Nat} : agJ A A u := ⟨rfl, rfl, rfl, rfl, rfl, fun _ _ => rfl, fun _ _ => rfl⟩
theorem agT_rf {A : Mem} {u : Nat} : agT A A u := ⟨agJ_rf, rfl, fun _ _ _ _ => rfl, fun _ _ => rfl⟩
theorem agG_rf {A : Mem} : agG A A := ⟨rfl, rfl, rfl, fun _ _ => rfl⟩
section CONG
variable {A A' I I' : Mem} {s t u b B : Nat}
theorem mBeg_ag (h : agJ A A' u) : mBeg A' u = mBeg A u := by
  unfold mBeg isP; rw [h.1, h.2.1]
theorem mEnd_ag (h : agJ A A' u) (h0 : A' 33 0 0 = A 33 0 0) : mEnd A' u = mEnd A u := by
  unfold mEnd isP; rw [h.1, h.2.2.1, h0]
theorem mHas_ag (h : agJ A A' u) (h0 : A' 33 0 0 = A 33 0 0) (x : Int32) : mHas A' u x ↔ mHas A u x := by
  unfold mHas; rw [mBeg_ag h, mEnd_ag h h0]
theorem mSam_ag (h : agJ A A' u) (hn : ∃ n, n ≤ 400 ∧ A 42 0 u = nI n) (x : Int32) : mSam A' u x = mSam A u x := by
  unfold mSam
  obtain ⟨-, -, -, h5, -, h7, -⟩ := h
  rw [h5]
  split
  · next q =>
    obtain ⟨n, hn, e⟩ := hn
    rw [e] at q
    have h1 : x.toNatClampNeg < 400 := by
      rcases idx_cases x 400 (by decide) with ⟨j, hj, rfl⟩ | hx
      · rw [nI_clamp (by omega)]; exact hj
      · exfalso
        rw [le_i, le_i] at q
        rw [lt_i, le_i] at hx
        have e0 : (0 : Int32).toInt = 0 := by decide
        have e4 : (nI 400).toInt = 400 := by decide
        have e5 : (nI n - 1).toInt = (n : Int) - 1 := by
          have := pk_sub_toInt (a := n) (b := 1) (by omega) (by omega)
          exact this
        omega
    exact h7 _ h1
  · rfl
theorem mLv_ag (h : agJ A A' u) (hn : ∃ n, n ≤ 400 ∧ A 42 0 u = nI n) (f : Nat) : mLv A' u f = mLv A u f := by
  obtain ⟨-, -, -, h5, -, h7, -⟩ := h
  obtain ⟨n, hn, e⟩ := hn
  unfold mLv frN
  rw [h5, e, nI_clamp (by omega)]
  split
  · next q =>
    have : ∀ k, k ≤ min 10 (n - 10 * f) → sqs (fun i => A' 43 0 (400 * u + 10 * f + i)) k = sqs (fun i => A 43 0 (400 * u + 10 * f + i)) k := by
      intro k
      induction k with
      | zero => intro _; rfl
      | succ k ih =>
        intro hk
        simp only [sqs]
        have e2 : A' 43 0 (400 * u + 10 * f + k) = A 43 0 (400 * u + 10 * f + k) := by
          have := h7 (10 * f + k) (by omega)
          rw [← Nat.add_assoc] at this
          exact this
        rw [ih (by omega), e2]
    rw [this _ (Nat.le_refl _)]
  · rfl
theorem mFr_ag (h : agJ A A' u) (h0 : agG A A') (hb : b < 25) (hh : mHas A u (nI b) ∨ (0 < b ∧ mHas A u (nI (b - 1)))) (hE : ∃ l, l < 24 ∧ mEnd A u = nI l) : mFr A' u b = mFr A u b := by
  obtain ⟨l, hl, e⟩ := hE
  unfold mFr
  rw [mEnd_ag h h0.1, e]
  by_cases q : nI l < nI b
  · rw [if_pos q, if_pos q]
    rw [nI_ltI (by omega) (by omega)] at q
    have h1 := h.2.2.2.2.2.2 (b - 1) (by omega)
    have h2 := h0.2.2.2 (b - 1) (by omega)
    rw [show 24 * u + b - 1 = 24 * u + (b - 1) by omega, h1, h2]
  · rw [if_neg q, if_neg q]
    rw [nI_ltI (by omega) (by omega)] at q
    exact h.2.2.2.2.2.2 b (by omega)
theorem lkP_ag (hs : agJ A A' s) (ht : agJ A A' t) (ns : ∃ n, n ≤ 400 ∧ A 42 0 s = nI n) (nt : ∃ n, n ≤ 400 ∧ A 42 0 t = nI n) (x y : Int32) (n : Nat) : lkP A' s t x y n = lkP A s t x y n ∧ lkQ A' s t x y n = lkQ A s t x y n := by
  induction n with
  | zero => exact ⟨rfl, rfl⟩
  | succ n ih =>
    simp only [lkP, lkQ, mSam_ag hs ns, mSam_ag ht nt, ih.1, ih.2]
    exact ⟨trivial, trivial⟩
theorem jOk_ag (hs : agJ A A' s) (ht : agJ A A' t) (h0 : agG A A') : jOk A' s t b ↔ jOk A s t b := by
  unfold jOk
  rw [hs.1, ht.1, hs.2.2.2.2.1, ht.2.2.2.2.1, mHas_ag ht h0.1, mHas_ag hs h0.1, mHas_ag hs h0.1]
/-- the end of a take that is there -/
theorem end_at (h : InvM A) (hu : u < 6) : ∃ l, l < 24 ∧ mEnd A u = nI l := by
  obtain ⟨⟨B, ⟨h1, h2, h3⟩, -, h5, -⟩, -⟩ := h
  unfold mEnd
  split
  · next q =>
    obtain ⟨f, l, -, w2, -, w4⟩ := (h5 u hu).2.1 q
    exact ⟨l, by omega, w4⟩
  · refine ⟨B - 1, by omega, ?_⟩
    rw [h3]
    have := pk_sub (a := B) (b := 1) h1
    exact this
theorem cnt_at (h : InvM A) (hu : u < 6) : ∃ n, n ≤ 400 ∧ A 42 0 u = nI n := by
  obtain ⟨⟨B, -, -, h5, -⟩, -⟩ := h
  exact (h5 u hu).2.2.2.1
theorem sh_ag (hI : InvM A) (hs6 : s < 6) (ht6 : t < 6) (hb : b < 24) (hs : agJ A A' s) (ht : agJ A A' t) (h0 : agG A A') (hj : jOk A s t b) : mSh A' s t b = mSh A s t b ∧ mLoss A' s t b = mLoss A s t b ∧ ∀ d, mLk A' s t b d = mLk A s t b d := by
  have ns := cnt_at hI hs6
  have nt := cnt_at hI ht6
  have f1 := mFr_ag hs h0 (b := b) (by omega) hj.2.2.2.2.2 (end_at hI hs6)
  have f2 := mFr_ag ht h0 (b := b) (by omega) (Or.inl hj.2.2.2.2.1) (end_at hI ht6)
  have l1 : ∀ d, mLk A' s t b d = mLk A s t b d := by
    intro d
    unfold mLk
    rw [f1, f2, h0.2.1]
    simp only [(lkP_ag hs ht ns nt _ _ _).1, (lkP_ag hs ht ns nt _ _ _).2]
  have l2 : ∀ n, mShL A' s t b n = mShL A s t b n := by
    intro n
    induction n with
    | zero => simp only [mShL, l1]
    | succ n ih => simp only [mShL, l1, ih]
  have l3 : mSh A' s t b = mSh A s t b := by
    unfold mSh
    rw [l2, h0.2.2.1]
  refine ⟨l3, ?_, l1⟩
  unfold mLoss mLvI
  rw [l3, l1, f1, f2]
  simp only [mLv_ag hs ns, mLv_ag ht nt]
theorem tkOk_ag (h : agT A A' u) (h0 : A' 33 0 0 = A 33 0 0) (hk : tkOk A B u) : tkOk A' B u := by
  obtain ⟨k1, k2, k3, k4, k5, k6, k7, k8, k9, k10⟩ := hk
  obtain ⟨hh, g4, g8, g9⟩ := h
  have hj := hh
  obtain ⟨g1, g2, g3, g5, g6, g7, g10⟩ := hj
  refine ⟨by rw [g1]; exact k1, fun q => ?_, by rw [g4]; exact k3, by rw [g5]; exact k4, fun i hi => by rw [g7 i hi]; exact k5 i hi, fun b hb m hm => by rw [g8 b hb m hm, g1]; exact k6 b hb m hm, fun b hb => by rw [g9 b hb]; exact k7 b hb, by rw [g6]; exact k8, by rw [g6, g1]; exact k9, fun q b hb hm => by rw [g10 b hb]; exact k10 (by rw [← g6]; exact q) b hb ((mHas_ag hh h0 _).mp hm)⟩
  rw [g2, g3]
  exact k2 (by unfold isP at q ⊢; rw [← g1]; exact q)
/-- the class's cells of a take are as they were -/
def clT (I I' : Mem) (u : Nat) : Prop := I' 7 u = I 7 u ∧ I' 8 u = I 8 u ∧ I' 9 u = I 9 u ∧ I' 10 u = I 10 u ∧ I' 11 u = I 11 u
theorem rcT_ag (hI : InvM A) (hu : u < 6) (h : agT A A' u) (h0 : agG A A') (hc : clT I I' u) (hr : rcT I A u) : rcT I' A' u := by
  obtain ⟨r1, r2, r3, r4, r5, r6, r7, r8, r9, r10⟩ := hr
  obtain ⟨hh, g4, g8, g9⟩ := h
  have hj := hh
  obtain ⟨g1, g2, g3, g5, g6, g7, g10⟩ := hj
  obtain ⟨c1, c2, c3, c4, c5⟩ := hc
  refine ⟨?_, by rw [c1]; exact r2, ?_, by rw [c1, g4]; exact r4, by rw [c1, g5]; exact r5, fun i hi => by rw [c2, g7 i hi]; exact r6 i hi, fun q b hb => by rw [c3, g9 b hb]; exact r7 (by rw [← g1]; exact q) b hb, fun b hb m hm => by rw [c5, g8 b hb m hm]; exact r8 b hb m hm, by rw [c1, g6]; exact r9, fun q b hb hm => ?_⟩
  · rw [c1, r1]; exact bi_eq (by rw [g1])
  · rw [c1, g1, mBeg_ag hh, mEnd_ag hh h0.1]; exact r3
  · rw [mHas_ag hh h0.1, mHas_ag hh h0.1] at hm
    rw [c4, mFr_ag hh h0 hb hm (end_at hI hu)]
    exact r10 (by rw [← g6]; exact q) b hb hm
/-- the class's cache stands while takes that stay laid are as they were -/
theorem rcC_ag (hI : InvM A) (h0 : agG A A') (hT : ∀ u, u < 6 → agJ A A' u ∨ A' 46 0 u = 0) (h15 : I' 15 = I 15) (h16 : I' 16 = I 16) (h : rcC I A) : rcC I' A' := by
  intro s t b hs ht hb
  rw [h15, h16]
  rcases h s t b hs ht hb with q | q
  · exact Or.inl q
  · refine Or.inr fun hj => ?_
    have n01 : ¬ (0 : Int32) = 1 := by decide
    rcases hT s hs with a1 | a1
    · rcases hT t ht with a2 | a2
      · have hj2 := (jOk_ag a1 a2 h0).mp hj
        obtain ⟨e1, e2, -⟩ := sh_ag hI hs ht hb a1 a2 h0 hj2
        rw [e1, e2]
        exact q hj2
      · exact absurd (a2.symm.trans hj.2.2.2.1) n01
    · exact absurd (a1.symm.trans hj.2.2.1) n01
theorem rcC_no (h : ∀ u, u < 6 → A' 46 0 u = 0) : rcC I' A' := by
  intro s t b hs ht hb
  refine Or.inr fun hj => ?_
  have n01 : ¬ (0 : Int32) = 1 := by decide
  exact absurd ((h s hs).symm.trans hj.2.2.1) n01
end CONG
