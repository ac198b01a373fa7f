/-! ===== one call on both sides ===== -/
/-- the class's function and the model's answer alike, and stay alike -/
def opA (fc fm : Mem → RT) : Prop := ∀ I A, RC I A → InvM A → ∃ v I1 A1, fm A = rI v A1 ∧ InvM A1 ∧ keepM A A1 ∧ fc I = rI v I1 ∧ RC I1 A1 ∧ keepC I I1
/-- what joins, takes and ways read of the model -/
def oM (A : Mem) : Mem := fun g i k => if 34 ≤ g ∧ g < 49 then A g i k else if g = 33 ∧ (k = 0 ∨ (15 ≤ k ∧ k < 20)) then A 33 0 k else 0
def oC (I : Mem) : Mem := fun g => if 1 ≤ g ∧ g < 31 then I g else fun _ _ => 0
section OM
variable {A I : Mem} {s t b : Nat}
theorem oM_mSam (x : Int32) : mSam (oM A) t x = mSam A t x := rfl
theorem oM_mFr : mFr (oM A) t b = mFr A t b := rfl
theorem oM_mLv (f : Nat) : mLv (oM A) t f = mLv A t f := rfl
theorem oM_lk (x y : Int32) (n : Nat) : lkP (oM A) s t x y n = lkP A s t x y n ∧ lkQ (oM A) s t x y n = lkQ A s t x y n := by
  induction n with
  | zero => exact ⟨rfl, rfl⟩
  | succ n ih =>
    simp only [lkP, lkQ, ih.1, ih.2, oM_mSam]
    exact ⟨trivial, trivial⟩
theorem oM_mLk (d : Int32) : mLk (oM A) s t b d = mLk A s t b d := by
  unfold mLk
  simp only [(oM_lk _ _ _).1, (oM_lk _ _ _).2, oM_mFr]
  rfl
theorem oM_mShL (n : Nat) : mShL (oM A) s t b n = mShL A s t b n := by
  induction n with
  | zero => simp only [mShL, oM_mLk]
  | succ n ih => simp only [mShL, oM_mLk, ih]
theorem oM_mSh : mSh (oM A) s t b = mSh A s t b := by
  unfold mSh
  rw [oM_mShL]
  rfl
theorem oM_mLoss : mLoss (oM A) s t b = mLoss A s t b := by
  unfold mLoss
  rw [oM_mSh, oM_mLk]
  rfl
theorem oM_rwS (p : Nat → Nat) (r : Nat) : rwS (oM A) p r = rwS A p r := by
  unfold rwS
  rw [oM_mSh]
  rfl
theorem oM_rwL (p : Nat → Nat) (r : Nat) : rwL (oM A) p r = rwL A p r := by
  unfold rwL
  rw [oM_rwS]
theorem oM_rwU (n : Nat) (p : Nat → Nat) (r : Nat) : rwU (oM A) n p r = rwU A n p r := by
  unfold rwU
  rw [oM_rwL]
  rfl
theorem oM_rwM (n : Nat) (p : Nat → Nat) (r : Nat) : rwM (oM A) n p r = rwM A n p r := by
  induction r with
  | zero => rfl
  | succ r ih => simp only [rwM, ih, oM_rwL, oM_rwU]
theorem oM_rcC : rcC I (oM A) ↔ rcC I A := by
  unfold rcC
  simp only [oM_mSh, oM_mLoss]
  exact Iff.rfl
theorem oM_strOk (B : Nat) : strOk I (oM A) B ↔ strOk I A B := by
  unfold strOk
  simp only [oM_rwS, oM_rwL, oM_rwU, oM_rwM]
  exact Iff.rfl
theorem oM_rcP : rcP I (oM A) ↔ rcP I A := by
  unfold rcP
  simp only [oM_strOk]
  exact Iff.rfl
theorem oM_rcT : rcT I (oM A) t ↔ rcT I A t := Iff.rfl
theorem oM_InvK : InvK (oM A) ↔ InvK A := Iff.rfl
theorem oC_rcC : rcC (oC I) A ↔ rcC I A := Iff.rfl
theorem oC_rcP : rcP (oC I) A ↔ rcP I A := Iff.rfl
theorem oC_rcT : rcT (oC I) A t ↔ rcT I A t := Iff.rfl
theorem oC_rcS : rcS (oC I) A ↔ rcS I A := Iff.rfl
theorem oC_rcJ : rcJ (oC I) A ↔ rcJ I A := Iff.rfl
theorem oM_rcS : rcS I (oM A) ↔ rcS I A := Iff.rfl
theorem oM_rcJ : rcJ I (oM A) ↔ rcJ I A := Iff.rfl
end OM
/-- the model is alike in what takes, joins and ways read -/
def agK (A A' : Mem) : Prop := (∀ g, 34 ≤ g → g < 49 → A' g = A g) ∧ ∀ k, (k = 0 ∨ (15 ≤ k ∧ k < 20)) → A' 33 0 k = A 33 0 k
theorem agK_oM {A A' : Mem} (h : agK A A') : oM A' = oM A := by
  funext g i k
  unfold oM
  by_cases q : 34 ≤ g ∧ g < 49
  · rw [if_pos q, if_pos q, h.1 g q.1 q.2]
  · rw [if_neg q, if_neg q]
    by_cases q2 : g = 33 ∧ (k = 0 ∨ (15 ≤ k ∧ k < 20))
    · rw [if_pos q2, if_pos q2]
      exact h.2 k q2.2
    · rw [if_neg q2, if_neg q2]
theorem agC_oC {I I' : Mem} (h : ∀ g, 1 ≤ g → g < 31 → I' g = I g) : oC I' = oC I := by
  funext g
  unfold oC
  split
  · next q => exact h g q.1 q.2
  · rfl
/-- a pair stays alike, if what changed is read by findings and numbers alone -/
theorem RC_cong {I I' A A' : Mem} (h : RC I A) (hA : agK A A') (hI : ∀ g, 1 ≤ g → g < 31 → I' g = I g) (hF : rcF I' A') (hN : rcN I' A') (hX : rcX I') : RC I' A' := by
  obtain ⟨h1, h2, h3, h4, h5, -⟩ := h
  have e1 := agK_oM hA
  have e2 := agC_oC hI
  refine ⟨?_, fun t ht => ?_, ?_, ?_, ?_, hF, hN, hX⟩
  · rw [← oM_rcS, ← oC_rcS, e1, e2, oC_rcS, oM_rcS]; exact h1
  · rw [← oM_rcT, ← oC_rcT, e1, e2, oC_rcT, oM_rcT]; exact h2 t ht
  · rw [← oM_rcJ, ← oC_rcJ, e1, e2, oC_rcJ, oM_rcJ]; exact h3
  · rw [← oM_rcC, ← oC_rcC, e1, e2, oC_rcC, oM_rcC]; exact h4
  · rw [← oM_rcP, ← oC_rcP, e1, e2, oC_rcP, oM_rcP]; exact h5
theorem InvM_cong {A A' : Mem} (h : InvM A) (hA : agK A A') (hn : ∃ n, n ≤ 30 ∧ A' 33 0 22 = nI n) : InvM A' := by
  refine ⟨?_, hn⟩
  rw [← oM_InvK, agK_oM hA, oM_InvK]
  exact h.1
theorem agK_of {A A' : Mem} (h : ∀ g, 33 ≤ g → g < 68 → A' g = A g) : agK A A' := ⟨fun g h1 h2 => h g (by omega) (by omega), fun k _ => by rw [h 33 (by omega) (by omega)]⟩
/-- a call of the class, then of the model, on one memory -/
theorem law_step {fc fm : Mem → RT} (h : opA fc fm) {I : Mem} (hR : RC I I) (hM : InvM I) : ∃ v I1 I2, fc I = rI v I1 ∧ fm I1 = rI v I2 ∧ RC I2 I2 ∧ InvM I2 ∧ (∀ g, 68 ≤ g → I1 g = I g ∧ I2 g = I g) := by
  obtain ⟨v, I1, A1, -, -, -, h4, -, h6⟩ := h I I hR hM
  have hA : ∀ g, 33 ≤ g → g < 68 → I1 g = I g := fun g hg _ => (h6 g hg).symm
  have hR1 : RC I I1 := RC_cong hR (agK_of hA) (fun _ _ _ => rfl) (fun j hj => by rw [hA 50 (by omega) (by omega)]; exact hR.2.2.2.2.2.1 j hj) (by
    have := hR.2.2.2.2.2.2.1
    unfold rcN at this ⊢
    rw [hA 33 (by omega) (by omega), hA 49 (by omega) (by omega)]
    exact this) hR.2.2.2.2.2.2.2
  obtain ⟨v2, I2, A2, q1, q2, q3, q4, q5, q6⟩ := h I I1 hR1 (InvM_cong hM (agK_of hA) (by rw [hA 33 (by omega) (by omega)]; exact hM.2))
  obtain ⟨rfl, rfl⟩ := rI_inj (h4.symm.trans q4)
  have hB : ∀ g, (g < 33 ∨ 68 ≤ g) → A2 g = I1 g := fun g hg => (q3 g hg).symm
  refine ⟨v, I1, A2, h4, q1, RC_cong q5 ⟨fun _ _ _ => rfl, fun _ _ => rfl⟩ (fun g _ h2 => hB g (Or.inl (by omega))) (fun j hj => by rw [hB 31 (by omega)]; exact q5.2.2.2.2.2.1 j hj) (by
    have := q5.2.2.2.2.2.2.1
    unfold rcN at this ⊢
    rw [hB 0 (by omega), hB 32 (by omega)]
    exact this) (by
    have := q5.2.2.2.2.2.2.2
    unfold rcX at this ⊢
    rw [hB 101 (by omega), hB 102 (by omega)]
    exact this), q2, fun g hg => ⟨(h6 g (by show 33 ≤ g; omega)).symm, ?_⟩⟩
  rw [hB g (Or.inr hg)]
  exact (h6 g (by show 33 ≤ g; omega)).symm
/-! refusals -/
theorem RC_ans {I A : Mem} {k : Nat} (hk : k < 7) (h : RC I A) : RC (cAns I k) (mAns A (k + 1)) := by
  refine RC_cong h ⟨fun g h1 h2 => mup_g (by omega), fun k _ => by unfold mAns; rw [mup_g (by omega)]⟩ (fun g h1 h2 => mup_g (by omega)) ?_ h.2.2.2.2.2.2.1 h.2.2.2.2.2.2.2
  intro j hj
  have := h.2.2.2.2.2.1 j hj
  simp only [cAns, mAns, mup_0]
  by_cases e : j = k
  · subst e; rw [if_pos rfl, if_pos rfl, this]
  · rw [if_neg e, if_neg (by omega), this]
theorem InvM_ans {A : Mem} {k : Nat} (h : InvM A) : InvM (mAns A k) := InvM_cong h ⟨fun g h1 h2 => mup_g (by omega), fun k _ => by unfold mAns; rw [mup_g (by omega)]⟩ h.2
theorem keepM_ans {A : Mem} {k : Nat} : keepM A (mAns A k) := agr_up agr_rf (by omega)
theorem keepC_ans {I : Mem} {k : Nat} : keepC I (cAns I k) := agr_up agr_rf (by omega)
/-- both refuse -/
theorem op_ref {fc fm : Mem → RT} {I A : Mem} {c : Int32} (k : Nat) (hk : k < 7) (hR : RC I A) (hM : InvM A) (e1 : fm A = rI c (mAns A (k + 1))) (e2 : fc I = rI c (cAns I k)) : ∃ v I1 A1, fm A = rI v A1 ∧ InvM A1 ∧ keepM A A1 ∧ fc I = rI v I1 ∧ RC I1 A1 ∧ keepC I I1 := ⟨c, _, _, e1, InvM_ans hM, keepM_ans, e2, RC_ans hk hR, keepC_ans⟩
/-- both answer and change nothing -/
theorem op_same {fc fm : Mem → RT} {I A : Mem} {c : Int32} (hR : RC I A) (hM : InvM A) (e1 : fm A = rI c A) (e2 : fc I = rI c I) : ∃ v I1 A1, fm A = rI v A1 ∧ InvM A1 ∧ keepM A A1 ∧ fc I = rI v I1 ∧ RC I1 A1 ∧ keepC I I1 := ⟨c, _, _, e1, hM, agr_rf, e2, hR, agr_rf⟩
/-- takes, lengths and settings stay; the way is gone -/
theorem RC_w0 {I I' A A' : Mem} (h : RC I A) (hM : InvM A) (hT : ∀ u, u < 6 → agJ A A' u) (hG : agG A A') (hcT : ∀ u, u < 6 → rcT I' A' u) (h15 : I' 15 = I 15) (h16 : I' 16 = I 16) (hS : rcS I' A') (hJ : rcJ I' A') (hw : A' 33 0 19 = 0) (hw2 : I' 27 0 2 = 0) (hF : rcF I' A') (hN : rcN I' A') (hX : rcX I') : RC I' A' :=
  ⟨hS, hcT, hJ, rcC_ag hM hG (fun u hu => Or.inl (hT u hu)) h15 h16 h.2.2.2.1, ⟨by rw [hw, hw2], fun q => absurd (hw.symm.trans q) (by decide)⟩, hF, hN, hX⟩
theorem mM1 {n : Nat} (h : 1 ≤ n) : nI n - 1 = nI (n - 1) := pk_sub (a := n) (b := 1) h
theorem bt_cases (a : Int32) {B : Nat} (h1 : 1 ≤ B) (h2 : B < 2 ^ 30) : (∃ b, b < B ∧ a = nI b) ∨ ¬ (0 ≤ a ∧ a ≤ nI B - 1) := by
  rcases idx_cases a B (by omega) with h | h
  · exact Or.inl h
  · refine Or.inr fun q => ?_
    rw [mM1 h1, le_i, le_i, nIt (by omega)] at q
    rw [lt_i, le_i, nIt (by omega)] at h
    have e0 : (0 : Int32).toInt = 0 := by decide
    omega
theorem bt_ok {b B : Nat} (h : b < B) (h2 : B < 2 ^ 30) : 0 ≤ nI b ∧ nI b ≤ nI B - 1 := by
  rw [mM1 (by omega), le_i, le_i, nIt (by omega), nIt (by omega)]
  have e0 : (0 : Int32).toInt = 0 := by decide
  omega
theorem c_holds {b : Int32} {I : Mem} {B : Nat} (h : I 1 0 0 = nI B) (h1 : 1 ≤ B) (h2 : B < 2 ^ 30) : f_X4_holds b I = rI (bi (0 ≤ b ∧ b ≤ nI B - 1)) I := by
  unfold f_X4_holds
  rw [h]
  have e0 : (0 : Int32).toInt = 0 := by decide
  by_cases q1 : b < 0
  · rw [if_pos q1, bi_f (fun q => Int32.not_le.mpr q1 q.1)]
  · rw [if_neg q1]
    by_cases q2 : nI B ≤ b
    · rw [if_pos q2, bi_f]
      intro q
      rw [mM1 h1, le_i, le_i, nIt (by omega)] at q
      rw [le_i, nIt (by omega)] at q2
      omega
    · rw [if_neg q2, bi_t]
      rw [mM1 h1, le_i, le_i, nIt (by omega)]
      rw [lt_i] at q1
      rw [le_i, nIt (by omega)] at q2
      omega
