/-! ===== a way is laid on both sides ===== -/
def oN (A : Mem) : Mem := fun g i k => if 34 ≤ g ∧ g < 48 then A g i k else if g = 33 ∧ (k = 0 ∨ (15 ≤ k ∧ k < 19)) then A 33 0 k else 0
section ON
variable {A I : Mem} {s t b : Nat}
theorem oN_mSam (x : Int32) : mSam (oN A) t x = mSam A t x := rfl
theorem oN_mFr : mFr (oN A) t b = mFr A t b := rfl
theorem oN_mLv (f : Nat) : mLv (oN A) t f = mLv A t f := rfl
theorem oN_lk (x y : Int32) (n : Nat) : lkP (oN A) s t x y n = lkP A s t x y n ∧ lkQ (oN A) s t x y n = lkQ A s t x y n := by
  induction n with
  | zero => exact ⟨rfl, rfl⟩
  | succ n ih =>
    simp only [lkP, lkQ, ih.1, ih.2, oN_mSam]
    exact ⟨trivial, trivial⟩
theorem oN_mLk (d : Int32) : mLk (oN A) s t b d = mLk A s t b d := by
  unfold mLk
  simp only [(oN_lk _ _ _).1, (oN_lk _ _ _).2, oN_mFr]
  rfl
theorem oN_mShL (n : Nat) : mShL (oN A) s t b n = mShL A s t b n := by
  induction n with
  | zero => simp only [mShL, oN_mLk]
  | succ n ih => simp only [mShL, oN_mLk, ih]
theorem oN_mSh : mSh (oN A) s t b = mSh A s t b := by
  unfold mSh
  rw [oN_mShL]
  rfl
theorem oN_mLoss : mLoss (oN A) s t b = mLoss A s t b := by
  unfold mLoss
  rw [oN_mSh, oN_mLk]
  rfl
theorem oN_rcC : rcC I (oN A) ↔ rcC I A := by
  unfold rcC
  simp only [oN_mSh, oN_mLoss]
  exact Iff.rfl
theorem oN_rcT : rcT I (oN A) t ↔ rcT I A t := Iff.rfl
theorem oN_rcS : rcS I (oN A) ↔ rcS I A := Iff.rfl
theorem oN_rcJ : rcJ I (oN A) ↔ rcJ I A := Iff.rfl
theorem oN_tk (B : Nat) : tkOk (oN A) B t ↔ tkOk A B t := Iff.rfl
theorem oN_may : mMay (oN A) t b ↔ mMay A t b := Iff.rfl
theorem oN_wo : mWo (oN A) t b = mWo A t b := rfl
theorem oN_co : mCo (oN A) s t b = mCo A s t b := by
  unfold mCo
  rw [oN_mLoss]
  rfl
end ON
/-- the model is alike but for the way -/
def agN (A A' : Mem) : Prop := (∀ g, 34 ≤ g → g < 48 → A' g = A g) ∧ ∀ k, (k = 0 ∨ (15 ≤ k ∧ k < 19)) → A' 33 0 k = A 33 0 k
theorem agN_oN {A A' : Mem} (h : agN A A') : oN A' = oN A := by
  funext g i k
  unfold oN
  by_cases q : 34 ≤ g ∧ g < 48
  · rw [if_pos q, if_pos q, h.1 g q.1 q.2]
  · rw [if_neg q, if_neg q]
    by_cases q2 : g = 33 ∧ (k = 0 ∨ (15 ≤ k ∧ k < 19))
    · rw [if_pos q2, if_pos q2]
      exact h.2 k q2.2
    · rw [if_neg q2, if_neg q2]
theorem agN_may {A A' : Mem} (h : agN A A') {t b : Nat} : mMay A' t b ↔ mMay A t b := by rw [← oN_may, agN_oN h, oN_may]
theorem agN_wo {A A' : Mem} (h : agN A A') {t b : Nat} : mWo A' t b = mWo A t b := by rw [← oN_wo, agN_oN h, oN_wo]
theorem agN_co {A A' : Mem} (h : agN A A') {s t b : Nat} : mCo A' s t b = mCo A s t b := by rw [← oN_co, agN_oN h, oN_co]
theorem rc4_agN {I A A' : Mem} (h : rc4 I A) (hA : agN A A') : rc4 I A' := by
  have e := agN_oN hA
  refine ⟨?_, fun t ht => ?_, ?_, ?_, trivial⟩
  · rw [← oN_rcS, e, oN_rcS]; exact h.1
  · rw [← oN_rcT, e, oN_rcT]; exact h.2.1 t ht
  · rw [← oN_rcJ, e, oN_rcJ]; exact h.2.2.1
  · rw [← oN_rcC, e, oN_rcC]; exact h.2.2.2.1
theorem InvM_way {A A' : Mem} {B : Nat} (h : InvM A) (hA : agN A A') (h22 : A' 33 0 22 = A 33 0 22) (eB : A 33 0 0 = nI B) (hB : B ≤ 24) (h19 : A' 33 0 19 = 1) (hw : wayOk A' B) : InvM A' := by
  obtain ⟨⟨B', ⟨c1, c2, c3⟩, c4, c5, c6, -⟩, n, hn, en⟩ := h
  have : B' = B := by
    have := congrArg Int32.toNatClampNeg (c3.symm.trans eB)
    rw [nI_clamp (by omega), nI_clamp (by omega)] at this
    exact this
  subst this
  have e := agN_oN hA
  refine ⟨⟨B', ⟨c1, c2, by rw [hA.2 0 (by omega)]; exact c3⟩, fun b hb => ?_, fun t ht => ?_, ?_, Or.inr ⟨h19, hw⟩⟩, n, hn, h22.trans en⟩
  · rw [hA.1 34 (by decide) (by decide), hA.1 35 (by decide) (by decide), hA.1 36 (by decide) (by decide), hA.1 37 (by decide) (by decide)]
    exact c4 b hb
  · rw [← oN_tk, e, oN_tk]; exact c5 t ht
  · rw [hA.2 15 (by decide), hA.2 16 (by decide), hA.2 17 (by decide), hA.2 18 (by decide)]
    exact c6
theorem way_both {I A A' : Mem} {B : Nat} (hR : RC I A) (hM : InvM A) (hA : agN A A') (h50 : A' 50 = A 50) (h49 : A' 49 = A 49) (h22 : A' 33 0 22 = A 33 0 22) (eB : A 33 0 0 = nI B) (hB1 : 1 ≤ B) (hB : B ≤ 24) (h19 : A' 33 0 19 = 1) (hw : wayOk A' B) (h26 : ∀ b, b < B → I 26 0 b = A' 48 0 b) :
    InvM A' ∧ ∃ J, f_X3_follow (nI B) I = rV J ∧ RC J A' ∧ keepC I J := by
  have hM' := InvM_way hM hA h22 eB hB h19 hw
  refine ⟨hM', ?_⟩
  obtain ⟨J, e, f, rc, j2, j28, st⟩ := c_follow hM' hB1 hB hw (rc4_agN (rc4_of hR) hA) h26
  obtain ⟨r1, r2, r3, -⟩ := rc4_fch (rc4_agN (rc4_of hR) hA) f rc
  obtain ⟨-, -, -, -, -, rF, rN, rX⟩ := hR
  refine ⟨J, e, ⟨r1, r2, r3, rc, ⟨by rw [j2, h19], fun _ => ?_⟩, ?_, ?_, ?_⟩, fun g hg => (f.1 g (by omega) (by omega) (by omega) (by omega)).symm⟩
  · rw [hA.2 0 (by omega), eB, nI_clamp (by omega)]
    exact ⟨j28, st⟩
  · intro j hj
    rw [f.1 31 (by decide) (by decide) (by decide) (by decide), h50]
    exact rF j hj
  · unfold rcN at rN ⊢
    rw [f.1 0 (by decide) (by decide) (by decide) (by decide), f.1 32 (by decide) (by decide) (by decide) (by decide), h49, h22]
    exact rN
  · unfold rcX at rX ⊢
    rw [f.1 101 (by decide) (by decide) (by decide) (by decide), f.1 102 (by decide) (by decide) (by decide) (by decide)]
    exact rX
theorem xor_64 (x : Int32) : 0 ≤ x ^^^ 64 ↔ 0 ≤ x.toInt := by
  rw [le_i]
  have h1 : (x ^^^ 64).toBitVec.msb = x.toBitVec.msb := by
    rw [Int32.toBitVec_xor, BitVec.msb_xor]
    have : (64 : Int32).toBitVec.msb = false := by decide
    rw [this, Bool.xor_false]
  rw [BitVec.msb_eq_toInt, BitVec.msb_eq_toInt] at h1
  have h2 : (0 : Int32).toInt = 0 := rfl
  have h3 : ((x ^^^ 64).toBitVec.toInt < 0) ↔ (x.toBitVec.toInt < 0) := by
    constructor
    · intro z; exact of_decide_eq_true (h1 ▸ decide_eq_true z)
    · intro z; exact of_decide_eq_true (h1.symm ▸ decide_eq_true z)
  have h4 : (x ^^^ 64).toInt = (x ^^^ 64).toBitVec.toInt := rfl
  have h5 : x.toInt = x.toBitVec.toInt := rfl
  omega
theorem fdv_64 {x : Int32} {v m : Int} (h : x.toInt = 64 * v + m) (h1 : 0 ≤ m) (h2 : m < 64) : (fdv x 64).toInt = v := by
  have k : (64 : Int32).toInt = 64 := by decide
  have k1 : (1 : Int32).toInt = 1 := by decide
  have r1 := Int32.le_toInt x
  have r2 := Int32.toInt_lt x
  have hd : (x / 64).toInt = x.toInt.tdiv 64 := by
    rw [Int32.toInt_div, k]
    have : (x.toInt.tdiv 64).natAbs ≤ x.toInt.natAbs := by
      rw [Int.natAbs_tdiv]; exact Nat.div_le_self _ _
    have : (x.toInt.tdiv 64).natAbs = x.toInt.natAbs / 64 := by rw [Int.natAbs_tdiv]; rfl
    exact bm32 (by omega) (by omega)
  unfold fdv
  by_cases h0 : 0 ≤ x.toInt
  · rw [if_pos ((xor_64 x).mpr h0), hd, Int.tdiv_eq_ediv_of_nonneg h0]
    omega
  · rw [if_neg (fun z => h0 ((xor_64 x).mp z))]
    have hq : x.toInt.tdiv 64 = -((-x.toInt) / 64) := by
      have := Int.neg_tdiv (-x.toInt) 64
      rw [Int.neg_neg] at this
      rw [this, Int.tdiv_eq_ediv_of_nonneg (a := -x.toInt) (by omega)]
    rw [hq] at hd
    have hm : (x / 64 * 64).toInt = (x / 64).toInt * 64 := by rw [mul_r (by rw [k]; omega) (by rw [k]; omega), k]
    by_cases hz : x / 64 * 64 = x
    · rw [if_pos hz]
      rw [eq_i, hm] at hz
      omega
    · rw [if_neg hz]
      rw [eq_i, hm] at hz
      rw [sub_r (by omega) (by omega), k1]
      omega
/-- the value out of a key -/
theorem val_key {v : Int} {jn : Nat} (h1 : -20000000 ≤ v) (h2 : v ≤ 20000000) (hj : jn < 64) (I : Mem) : f_X7_valueOf (Int32.ofInt (64 * v - jn)) I = rI (Int32.ofInt v) I := by
  unfold f_X7_valueOf
  have k : (64 : Int32).toInt = 64 := by decide
  have k1 : (1 : Int32).toInt = 1 := by decide
  have e1 : (Int32.ofInt (64 * v - jn)).toInt = 64 * v - jn := oI (by omega) (by omega)
  have e2 : (Int32.ofInt (64 * v - jn) + 64).toInt = 64 * v - jn + 64 := by rw [add_r (by omega) (by omega), e1, k]
  have e3 : (Int32.ofInt (64 * v - jn) + 64 - 1).toInt = 64 * v + (63 - jn) := by rw [sub_r (by omega) (by omega), e2, k1]; omega
  rw [fdv_t (by decide), cI_r, oI_of (fdv_64 e3 (by omega) (by omega))]
