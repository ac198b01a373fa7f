/-! ===== a way is followed: the stretches ===== -/
def fch (I J : Mem) : Prop := (∀ g, ¬ (13 ≤ g ∧ g ≤ 16) → g ≠ 27 → g ≠ 28 → g ≠ 30 → J g = I g) ∧ ∀ k, k ≠ 2 → k ≠ 6 → k ≠ 7 → J 27 0 k = I 27 0 k
theorem fch_rf {I : Mem} : fch I I := ⟨fun _ _ _ _ _ => rfl, fun _ _ _ _ => rfl⟩
theorem fch_tr {I J K : Mem} (h : fch I J) (h2 : fch J K) : fch I K := ⟨fun g a b c d => (h2.1 g a b c d).trans (h.1 g a b c d), fun k a b c => (h2.2 k a b c).trans (h.2 k a b c)⟩
theorem fch_cch {I J : Mem} (h : cch I J) : fch I J := ⟨fun g a _ _ _ => h g a, fun k _ _ _ => by rw [h 27 (by decide)]⟩
theorem rcT_gr {I J A : Mem} {u : Nat} (h : ∀ g, 7 ≤ g → g ≤ 11 → J g = I g) (hT : rcT I A u) : rcT J A u := by
  unfold rcT
  rw [h 7 (by decide) (by decide), h 8 (by decide) (by decide), h 9 (by decide) (by decide), h 10 (by decide) (by decide), h 11 (by decide) (by decide)]
  exact hT
theorem rc4_fch {I J A : Mem} (h : rc4 I A) (hf : fch I J) (hC : rcC J A) : rc4 J A := by
  obtain ⟨r1, r2, r3, -⟩ := h
  refine ⟨?_, fun t ht => rcT_gr (fun g h1 h2 => hf.1 g (by omega) (by omega) (by omega) (by omega)) (r2 t ht), ?_, hC, trivial⟩
  · unfold rcS
    rw [hf.1 1 (by decide) (by decide) (by decide) (by decide), hf.1 2 (by decide) (by decide) (by decide) (by decide), hf.1 3 (by decide) (by decide) (by decide) (by decide), hf.1 4 (by decide) (by decide) (by decide) (by decide), hf.1 5 (by decide) (by decide) (by decide) (by decide)]
    exact r1
  · unfold rcJ
    rw [hf.1 12 (by decide) (by decide) (by decide) (by decide), hf.2 3 (by decide) (by decide) (by decide)]
    exact r3
theorem rcC_gr {I J A : Mem} (h : rcC I A) (h15 : J 15 = I 15) (h16 : J 16 = I 16) : rcC J A := by
  unfold rcC
  rw [h15, h16]; exact h
theorem jmax_t (a b : Int32) (I : Mem) : f_J9_max_7cf53 a b I = rI (imax a b) I := by
  unfold f_J9_max_7cf53 imax
  split <;> rfl
theorem jmin_t (a b : Int32) (I : Mem) : f_J9_min_7cf53 a b I = rI (imin a b) I := by
  unfold f_J9_min_7cf53 imin
  split <;> rfl
theorem c_add3 {K : Mem} {T r : Nat} (E : Int32) (e6 : K 27 0 6 = nI r) : ∃ J', f_X3_addStretch_p146 r T E K = rV J' ∧ (∀ g, g ≠ 27 → g ≠ 30 → J' g = K g) ∧ (∀ k, k ≠ 6 → k ≠ 7 → J' 27 0 k = K 27 0 k) ∧ J' 27 0 6 = nI (r + 1) ∧ J' 27 0 7 = K 27 0 7 + (imax (imax 0 (K 30 r 4)) (imin E (K 7 T 6)) - imax 0 (K 30 r 4)) ∧ (∀ q, q ≠ r → J' 30 q = K 30 q) ∧ (∀ k, k < 5 → J' 30 r k = K 30 r k) ∧ J' 30 r 5 = imax 0 (K 30 r 4) ∧ J' 30 r 6 = imax (imax 0 (K 30 r 4)) (imin E (K 7 T 6)) ∧ J' 30 r 7 = K 27 0 7 := by
  unfold f_X3_addStretch_p146 f_X5_size
  rw [jmax_t, cI_r, jmin_t, cI_r, jmax_t, cI_r, cI_r]
  refine ⟨_, rfl, fun g h1 h2 => ?_, fun k h1 h2 => ?_, ?_, ?_, fun q hq => ?_, fun k hk => ?_, ?_, ?_, ?_⟩
  · rw [mup_g h1, mup_g h1, mup_g h2, mup_g h2, mup_g h2]
  · simp [mup, h1, h2]
  · simp [mup, e6, nI_1]
  · simp [mup]
  · funext k
    simp [mup, hq]
  · have h5 : k ≠ 5 := by omega
    have h6 : k ≠ 6 := by omega
    have h7 : k ≠ 7 := by omega
    simp [mup, h5, h6, h7]
  · simp [mup]
  · simp [mup]
  · simp [mup]
theorem c_add2 {K A : Mem} {T c r : Nat} {E a3 : Int32} (h4 : rc4 K A) (hT : T < 6) (lT : A 46 0 T = 1) (hE : (a3 = 0 ∧ E = 10 * mFr A T c ∧ c < 25 ∧ (mHas A T (nI c) ∨ (0 < c ∧ mHas A T (nI (c - 1))))) ∨ (a3 = 1 ∧ E = A 42 0 T)) : f_X3_addStretch_p128 (nI c) a3 r T K = f_X3_addStretch_p146 r T E K := by
  unfold f_X3_addStretch_p128
  rcases hE with ⟨e1, e2, e3, e4⟩ | ⟨e1, e2⟩
  · rw [if_pos e1, c_startOf (h4.2.1 T hT) lT e3 e4, cI_r, e2]
  · rw [if_neg (by rw [e1]; decide), (h4.2.1 T hT).2.2.2.2.1, e2]
theorem c_add {J A : Mem} {f c r T H : Nat} {E a3 : Int32} (hM : InvM A) (h4 : rc4 J A) (hr : r < 24) (hf : f < 24) (hT : T < 6) (mT : mMay A T f) (e28 : J 28 0 f = nI T) (e6 : J 27 0 6 = nI r) (hH : 0 < f → H < 6 ∧ mMay A H (f - 1) ∧ J 28 0 (f - 1) = nI H) (hE : (a3 = 0 ∧ E = 10 * mFr A T c ∧ c < 25 ∧ (mHas A T (nI c) ∨ (0 < c ∧ mHas A T (nI (c - 1))))) ∨ (a3 = 1 ∧ E = A 42 0 T)) :
    ∃ J' S, f_X3_addStretch (nI f) (nI c) a3 J = rV J' ∧ S = 10 * mFr A T f + (if f = 0 then 0 else mSh A H T f) ∧ fch J J' ∧ rcC J' A ∧ J' 28 = J 28 ∧ J' 27 0 2 = J 27 0 2 ∧ J' 27 0 6 = nI (r + 1) ∧ J' 27 0 7 = J 27 0 7 + (imax (imax 0 S) (imin E (A 42 0 T)) - imax 0 S) ∧ (∀ q, q ≠ r → J' 30 q = J 30 q) ∧ J' 30 r 0 = nI T ∧ J' 30 r 1 = nI f ∧ J' 30 r 2 = (if f = 0 then -1 else nI H) ∧ (0 < f → J' 30 r 3 = 10 * mFr A H f) ∧ J' 30 r 4 = S ∧ J' 30 r 5 = imax 0 S ∧ J' 30 r 6 = imax (imax 0 S) (imin E (A 42 0 T)) ∧ J' 30 r 7 = J 27 0 7 := by
  have fin : ∀ (K : Mem) (S : Int32), fch J K → rcC K A → K 28 = J 28 → K 27 = J 27 → (∀ q, q ≠ r → K 30 q = J 30 q) → K 30 r 0 = nI T → K 30 r 1 = nI f → K 30 r 2 = (if f = 0 then -1 else nI H) → (0 < f → K 30 r 3 = 10 * mFr A H f) → K 30 r 4 = S → f_X3_addStretch (nI f) (nI c) a3 J = f_X3_addStretch_p128 (nI c) a3 r T K → S = 10 * mFr A T f + (if f = 0 then 0 else mSh A H T f) →
      ∃ J' S, f_X3_addStretch (nI f) (nI c) a3 J = rV J' ∧ S = 10 * mFr A T f + (if f = 0 then 0 else mSh A H T f) ∧ fch J J' ∧ rcC J' A ∧ J' 28 = J 28 ∧ J' 27 0 2 = J 27 0 2 ∧ J' 27 0 6 = nI (r + 1) ∧ J' 27 0 7 = J 27 0 7 + (imax (imax 0 S) (imin E (A 42 0 T)) - imax 0 S) ∧ (∀ q, q ≠ r → J' 30 q = J 30 q) ∧ J' 30 r 0 = nI T ∧ J' 30 r 1 = nI f ∧ J' 30 r 2 = (if f = 0 then -1 else nI H) ∧ (0 < f → J' 30 r 3 = 10 * mFr A H f) ∧ J' 30 r 4 = S ∧ J' 30 r 5 = imax 0 S ∧ J' 30 r 6 = imax (imax 0 S) (imin E (A 42 0 T)) ∧ J' 30 r 7 = J 27 0 7 := by
    intro K S c1 c2 c3 c4 c5 k0 k1 k2 k3 k4 e eS
    have h4K := rc4_fch h4 c1 c2
    obtain ⟨J', e', q1, q2, q3, q4, q5, q6, q7, q8, q9⟩ := c_add3 (K := K) (T := T) (r := r) E (by rw [c4]; exact e6)
    rw [k4, (h4K.2.1 T hT).2.2.2.2.1] at q4 q8
    rw [k4] at q7
    rw [c4] at q4 q9
    refine ⟨J', S, by rw [e, c_add2 h4K hT mT.2.1 hE, e'], eS, fch_tr c1 ⟨fun g a1 a2 a3 a4 => q1 g a2 a4, fun k a1 a2 a3 => q2 k a2 a3⟩, rcC_gr c2 (q1 15 (by decide) (by decide)) (q1 16 (by decide) (by decide)), (q1 28 (by decide) (by decide)).trans c3, by rw [q2 2 (by decide) (by decide), c4], q3, q4, fun q hq => (q5 q hq).trans (c5 q hq), by rw [q6 0 (by decide), k0], by rw [q6 1 (by decide), k1], by rw [q6 2 (by decide), k2], fun h => by rw [q6 3 (by decide), k3 h], by rw [q6 4 (by decide), k4], q7, q8, q9⟩
  have hst : ∀ (K : Mem) (u b : Nat), fch J K → u < 6 → A 46 0 u = 1 → b < 25 → (mHas A u (nI b) ∨ (0 < b ∧ mHas A u (nI (b - 1)))) → f_X6_startOf u (nI b) K = rI (10 * mFr A u b) K := fun K u b hk hu lu hb hh => c_startOf (rcT_gr (fun g h1 h2 => hk.1 g (by omega) (by omega) (by omega) (by omega)) (h4.2.1 u hu)) lu hb hh
  have up30 : ∀ (K : Mem) (k : Nat) (v : Int32), fch J K → fch J (mup K 30 r k v) := fun K k v h => ⟨fun g a1 a2 a3 a4 => by rw [mup_g a4]; exact h.1 g a1 a2 a3 a4, fun k' a1 a2 a3 => by rw [mup_g (by decide)]; exact h.2 k' a1 a2 a3⟩
  have f4 : fch J (mup (mup (mup (mup J 30 r 0 (nI T)) 30 r 1 (nI f)) 30 r 2 (-1)) 30 r 3 0) := up30 _ _ _ (up30 _ _ _ (up30 _ _ _ (up30 _ _ _ fch_rf)))
  have hhT : mHas A T (nI f) := mT.2.2.1
  by_cases h0 : f = 0
  · refine fin (mup (mup (mup (mup (mup J 30 r 0 (nI T)) 30 r 1 (nI f)) 30 r 2 (-1)) 30 r 3 0) 30 r 4 (10 * mFr A T f)) (10 * mFr A T f) (up30 _ _ _ f4) ?_ ?_ ?_ ?_ ?_ ?_ ?_ ?_ ?_ ?_ ?_
    · exact rcC_gr h4.2.2.2.1 (by simp only [mup_g (show (15 : Nat) ≠ 30 by decide)]) (by simp only [mup_g (show (16 : Nat) ≠ 30 by decide)])
    · simp only [mup_g (show (28 : Nat) ≠ 30 by decide)]
    · simp only [mup_g (show (27 : Nat) ≠ 30 by decide)]
    · intro q hq; funext k; simp [mup, hq]
    · simp [mup]
    · simp [mup]
    · rw [if_pos h0]; simp [mup]
    · intro z; omega
    · simp [mup]
    · unfold f_X3_addStretch
      rw [e6, ix_nI hr (by decide), ix_nI hf (by decide), e28, ix6 hT, ix_nI hf (by decide), e28, hst _ T f f4 hT mT.2.1 (by omega) (Or.inl hhT), cI_r, if_pos (by rw [h0]; decide)]
    · rw [if_pos h0, Int32.add_zero]
  · obtain ⟨hH6, mH, e28'⟩ := hH (by omega)
    have f6 : fch J (mup (mup (mup (mup (mup (mup J 30 r 0 (nI T)) 30 r 1 (nI f)) 30 r 2 (-1)) 30 r 3 0) 30 r 4 (10 * mFr A T f)) 30 r 2 (nI H)) := up30 _ _ _ (up30 _ _ _ f4)
    have hj : jOk A H T f := by
      have := may_j (s := H) (t := T) (b := f - 1) mH (by rw [show f - 1 + 1 = f by omega]; exact mT)
      rw [show f - 1 + 1 = f by omega] at this
      exact this
    have f7 := up30 _ 3 (10 * mFr A H f) f6
    obtain ⟨J2, e2, g1, g2⟩ := c_shift4 (rc4_fch h4 f7 (rcC_gr h4.2.2.2.1 (by simp only [mup_g (show (15 : Nat) ≠ 30 by decide)]) (by simp only [mup_g (show (16 : Nat) ≠ 30 by decide)]))) hM hH6 hT hf hj
    have g30 := g1 30 (by decide)
    refine fin (mup J2 30 r 4 (10 * mFr A T f + mSh A H T f)) (10 * mFr A T f + mSh A H T f) (up30 _ _ _ (fch_tr f7 (fch_cch g1))) (rcC_gr g2 (mup_g (by decide)) (mup_g (by decide))) ?_ ?_ ?_ ?_ ?_ ?_ ?_ ?_ ?_ ?_
    · rw [mup_g (by decide), g1 28 (by decide)]; simp only [mup_g (show (28 : Nat) ≠ 30 by decide)]
    · rw [mup_g (by decide), g1 27 (by decide)]; simp only [mup_g (show (27 : Nat) ≠ 30 by decide)]
    · intro q hq; rw [mup_i hq, g30]; funext k; simp [mup, hq]
    · rw [mup_ne (by omega), g30]; simp [mup]
    · rw [mup_ne (by omega), g30]; simp [mup]
    · rw [mup_ne (by omega), g30, if_neg h0]; simp [mup]
    · intro _; rw [mup_ne (by omega), g30]; simp [mup]
    · rw [mup_at]
    · unfold f_X3_addStretch
      rw [e6, ix_nI hr (by decide), ix_nI hf (by decide), e28, ix6 hT, ix_nI hf (by decide), e28, hst _ T f f4 hT mT.2.1 (by omega) (Or.inl hhT), cI_r, if_neg (by rw [le_i, nIt (by omega)]; have : (0 : Int32).toInt = 0 := rfl; omega), mM1 (by omega), ix_nI (by omega) (by decide)]
      simp only [mup_g (show (28 : Nat) ≠ 30 by decide)]
      rw [e28', mup_at, ix6 hH6, hst _ H f f6 hH6 mH.2.1 (by omega) (Or.inr ⟨by omega, mH.2.2.1⟩), cI_r, mup_ne (by omega), mup_at, mup_ne (by omega), mup_ne (by omega), mup_ne (by omega), mup_ne (by omega), mup_ne (by omega), mup_ne (by omega), mup_at, e2, cI_r, mup_ne (by omega), mup_ne (by omega), mup_at]
    · rw [if_neg h0]
