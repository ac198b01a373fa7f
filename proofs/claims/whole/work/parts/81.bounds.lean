theorem add_r {a b : Int32} (h1 : -2147483648 ≤ a.toInt + b.toInt) (h2 : a.toInt + b.toInt < 2147483648) : (a + b).toInt = a.toInt + b.toInt := by rw [Int32.toInt_add, bm32 h1 h2]
theorem sub_r {a b : Int32} (h1 : -2147483648 ≤ a.toInt - b.toInt) (h2 : a.toInt - b.toInt < 2147483648) : (a - b).toInt = a.toInt - b.toInt := by rw [Int32.toInt_sub, bm32 h1 h2]
theorem mul_r {a b : Int32} (h1 : -2147483648 ≤ a.toInt * b.toInt) (h2 : a.toInt * b.toInt < 2147483648) : (a * b).toInt = a.toInt * b.toInt := by rw [Int32.toInt_mul, bm32 h1 h2]
theorem oI {z : Int} (h1 : -2147483648 ≤ z) (h2 : z < 2147483648) : (Int32.ofInt z).toInt = z := by rw [Int32.toInt_ofInt, bm32 h1 h2]
theorem oI_of {x : Int32} {z : Int} (h : x.toInt = z) : x = Int32.ofInt z := by rw [← h, Int32.ofInt_toInt]
theorem two_ab (a b : Int) : 2 * (a * b) ≤ a * a + b * b ∧ -(2 * (a * b)) ≤ a * a + b * b := by
  have h1 := sq_nn (a - b)
  have h2 := sq_nn (a + b)
  have e1 : (a - b) * (a - b) = a * a + b * b - 2 * (a * b) := by grind
  have e2 : (a + b) * (a + b) = a * a + b * b + 2 * (a * b) := by grind
  omega
theorem dot_2 (x y : Nat → Int32) : ∀ n, 2 * dotI x y n ≤ dotI x x n + dotI y y n ∧ -(2 * dotI x y n) ≤ dotI x x n + dotI y y n := by
  intro n
  induction n with
  | zero => exact ⟨Int.le_refl _, Int.le_refl _⟩
  | succ n ih =>
    rw [dotI, dotI, dotI]
    have := two_ab (x n).toInt (y n).toInt
    omega
theorem lk_rg {A : Mem} {s t : Nat} (hM : InvM A) (hs : s < 6) (ht : t < 6) (b : Nat) (d : Int32) : rg (-1000) 1000 (mLk A s t b d) := by
  obtain ⟨w, D, hw, -, -, ew, -⟩ := far_at hM
  unfold mLk
  rw [ew, nI_clamp (by omega)]
  generalize 10 * mFr A s b - nI w = X
  generalize 10 * mFr A t b + d - nI w = Y
  obtain ⟨e1, e2⟩ := lk64 hM hs ht X Y (2 * w) (by omega)
  have rs := fun i (_ : i < 2 * w) => sam_rg hM hs (X + nI i)
  have rt := fun i (_ : i < 2 * w) => sam_rg hM ht (Y + nI i)
  have b1 := dot_rg (x := fun i => mSam A s (X + nI i)) (y := fun i => mSam A t (Y + nI i)) (2 * w) rs rt
  have b2 := dot_rg (x := fun i => mSam A s (X + nI i)) (y := fun i => mSam A s (X + nI i)) (2 * w) rs rs
  have b3 := dot_rg (x := fun i => mSam A t (Y + nI i)) (y := fun i => mSam A t (Y + nI i)) (2 * w) rt rt
  have b4 := dot_2 (fun i => mSam A s (X + nI i)) (fun i => mSam A t (Y + nI i)) (2 * w)
  by_cases h : lkQ A s t X Y (2 * w) = 0
  · rw [if_pos h]; exact ⟨by decide, by decide⟩
  · rw [if_neg h]
    have h' : (lkQ A s t X Y (2 * w)).toInt ≠ 0 := fun z => h (Int64.toInt_inj.mp (by rw [z]; rfl))
    rw [e2] at h'
    generalize dotI (fun i => mSam A s (X + nI i)) (fun i => mSam A t (Y + nI i)) (2 * w) = P at *
    have k2 : (2000 : Int64).toInt = 2000 := by decide
    have key : (2000 * lkP A s t X Y (2 * w) / lkQ A s t X Y (2 * w)).toInt = ((2000 * P).tdiv (lkQ A s t X Y (2 * w)).toInt).bmod (2 ^ 64) := by
      rw [Int64.toInt_div, Int64.toInt_mul, e1, k2, bm64 (a := 2000 * P) (by omega) (by omega)]
    rw [e2] at key
    generalize dotI (fun i => mSam A s (X + nI i)) (fun i => mSam A s (X + nI i)) (2 * w) + dotI (fun i => mSam A t (Y + nI i)) (fun i => mSam A t (Y + nI i)) (2 * w) = Q at *
    have hn : ((2000 * P).tdiv Q).natAbs ≤ 1000 := by
      rw [Int.natAbs_tdiv]
      exact Nat.div_le_of_le_mul (by omega)
    rw [bm64 (by omega) (by omega)] at key
    unfold rg
    rw [Int64.toInt_toInt32, key, bm32 (by omega) (by omega)]
    omega
theorem loss_rg {A : Mem} {s t : Nat} (hM : InvM A) (hs : s < 6) (ht : t < 6) (b : Nat) : rg 0 12000 (mLoss A s t b) := by
  unfold mLoss
  have l1 := lk_rg hM hs ht b (mSh A s t b)
  have l2 := lvI_rg hM hs (mFr A s b)
  have l3 := lvI_rg hM ht (mFr A t b)
  generalize mLk A s t b (mSh A s t b) = x at l1
  generalize mLvI A s (mFr A s b) = y at l2
  generalize mLvI A t (mFr A t b) = z at l3
  unfold rg at l1 l2 l3
  have k : (1000 : Int32).toInt = 1000 := by decide
  have ha : rg 0 10000 (apt y z) := by
    unfold apt rg
    by_cases h : y < z
    · rw [if_pos h]
      rw [lt_i] at h
      rw [sub_r (by omega) (by omega)]
      omega
    · rw [if_neg h]
      rw [lt_i] at h
      rw [sub_r (by omega) (by omega)]
      omega
  unfold rg at ha
  have e1 : (1000 - x).toInt = 1000 - x.toInt := by rw [sub_r (by omega) (by omega), k]
  unfold rg
  rw [add_r (by omega) (by omega), e1]
  omega
/-- what a join costs, what a beat is worth -/
def mCo (A : Mem) (s t b : Nat) : Int := (A 33 0 17 + mLoss A s t b).toInt
theorem co_rg {A : Mem} {s t : Nat} (hM : InvM A) (hs : s < 6) (ht : t < 6) (b : Nat) : 0 ≤ mCo A s t b ∧ mCo A s t b ≤ 13000 := by
  have l := loss_rg hM hs ht b
  obtain ⟨B, -, -, -, ⟨-, -, c1, -⟩, -⟩ := hM.1
  unfold rg at l c1
  unfold mCo
  rw [add_r (by omega) (by omega)]
  omega
theorem wo_rg {A : Mem} {t b : Nat} (hM : InvM A) (ht : t < 6) (hb : b < 24) : -8000 ≤ (mWo A t b).toInt ∧ (mWo A t b).toInt ≤ 8000 := by
  obtain ⟨B, -, -, hk, -⟩ := hM.1
  have k3 := (hk t ht).2.2.1
  have k6 := (hk t ht).2.2.2.2.2.1 b hb
  have m0 := (k6 0 (by decide)).1
  have m1 := (k6 1 (by decide)).1
  have m2 := (k6 2 (by decide)).1
  have m3 := (k6 3 (by decide)).1
  unfold mWo
  rw [Nat.add_zero] at m0
  generalize A 44 0 (4 * (24 * t + b)) = x0 at m0
  generalize A 44 0 (4 * (24 * t + b) + 1) = x1 at m1
  generalize A 44 0 (4 * (24 * t + b) + 2) = x2 at m2
  generalize A 44 0 (4 * (24 * t + b) + 3) = x3 at m3
  generalize A 41 0 t = l at k3
  unfold rg at *
  have c1 : (-300 : Int32).toInt = -300 := by decide
  have c2 : (100 : Int32).toInt = 100 := by decide
  have c3 : (50 : Int32).toInt = 50 := by decide
  have c4 : (200 : Int32).toInt = 200 := by decide
  have c5 : (1000 : Int32).toInt = 1000 := by decide
  have c6 : (2 : Int32).toInt = 2 := by decide
  have e0 : (-300 * x0).toInt = -300 * x0.toInt := by rw [mul_r (by rw [c1]; omega) (by rw [c1]; omega), c1]
  have e1 : (100 * x1).toInt = 100 * x1.toInt := by rw [mul_r (by rw [c2]; omega) (by rw [c2]; omega), c2]
  have e2 : (50 * x2).toInt = 50 * x2.toInt := by rw [mul_r (by rw [c3]; omega) (by rw [c3]; omega), c3]
  have e3 : (200 * x3).toInt = 200 * x3.toInt := by rw [mul_r (by rw [c4]; omega) (by rw [c4]; omega), c4]
  have f1 : (-300 * x0 - 100 * x1).toInt = -300 * x0.toInt - 100 * x1.toInt := by rw [sub_r (by omega) (by omega), e0, e1]
  have f2 : (-300 * x0 - 100 * x1 - 50 * x2).toInt = -300 * x0.toInt - 100 * x1.toInt - 50 * x2.toInt := by rw [sub_r (by omega) (by omega), f1, e2]
  have g : ∀ y : Int32, -8100 ≤ y.toInt → y.toInt ≤ 0 → (1000 + y + 200 * x3 + l).toInt = 1000 + y.toInt + 200 * x3.toInt + l.toInt := by
    intro y h1 h2
    have g1 : (1000 + y).toInt = 1000 + y.toInt := by rw [add_r (by omega) (by omega), c5]
    have g2 : (1000 + y + 200 * x3).toInt = 1000 + y.toInt + 200 * x3.toInt := by rw [add_r (by omega) (by omega), g1, e3]
    rw [add_r (by omega) (by omega), g2]
  by_cases h : A 38 0 t = 3
  · rw [if_pos h]
    have f3 : (2 * (-300 * x0 - 100 * x1 - 50 * x2)).toInt = 2 * (-300 * x0.toInt - 100 * x1.toInt - 50 * x2.toInt) := by rw [mul_r (by rw [c6]; omega) (by rw [c6]; omega), c6, f2]
    rw [g _ (by omega) (by omega)]
    omega
  · rw [if_neg h, g _ (by omega) (by omega)]
    omega
