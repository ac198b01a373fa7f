/-! ===== likeness in the class ===== -/
def dotC (x y : Nat → Int32) : Nat → Int32
  | 0 => 0
  | n + 1 => dotC x y n + x n * y n
def dotI (x y : Nat → Int32) : Nat → Int
  | 0 => 0
  | n + 1 => dotI x y n + (x n).toInt * (y n).toInt
theorem sqs_dot (x : Nat → Int32) (n : Nat) : sqs x n = dotC x x n := by
  induction n with
  | zero => rfl
  | succ n ih => rw [sqs, dotC, ih]
theorem bm32 {a : Int} (h1 : -2147483648 ≤ a) (h2 : a < 2147483648) : a.bmod (2 ^ 32) = a := Int.bmod_eq_of_le (by omega) (by omega)
theorem bm64 {a : Int} (h1 : -9223372036854775808 ≤ a) (h2 : a < 9223372036854775808) : a.bmod (2 ^ 64) = a := Int.bmod_eq_of_le (by omega) (by omega)
theorem mul_rg {a b : Int} (h1 : -100 ≤ a ∧ a ≤ 100) (h2 : -100 ≤ b ∧ b ≤ 100) : -10000 ≤ a * b ∧ a * b ≤ 10000 := by
  have h : (a * b).natAbs ≤ 100 * 100 := by
    rw [Int.natAbs_mul]
    exact Nat.mul_le_mul (by omega) (by omega)
  omega
theorem dot_rg {x y : Nat → Int32} : ∀ n, (∀ i, i < n → rg (-100) 100 (x i)) → (∀ i, i < n → rg (-100) 100 (y i)) → -(10000 * (n : Int)) ≤ dotI x y n ∧ dotI x y n ≤ 10000 * n := by
  intro n
  induction n with
  | zero => intro _ _; exact ⟨by simp [dotI], by simp [dotI]⟩
  | succ n ih =>
    intro hx hy
    have := ih (fun i hi => hx i (by omega)) (fun i hi => hy i (by omega))
    have := mul_rg (hx n (by omega)) (hy n (by omega))
    rw [dotI]
    omega
theorem dot_t {x y : Nat → Int32} : ∀ n, n ≤ 100 → (∀ i, i < n → rg (-100) 100 (x i)) → (∀ i, i < n → rg (-100) 100 (y i)) → (dotC x y n).toInt = dotI x y n := by
  intro n
  induction n with
  | zero => intro _ _ _; rfl
  | succ n ih =>
    intro hn hx hy
    have e := ih (by omega) (fun i hi => hx i (by omega)) (fun i hi => hy i (by omega))
    have b := dot_rg n (fun i hi => hx i (by omega)) (fun i hi => hy i (by omega))
    have m := mul_rg (hx n (by omega)) (hy n (by omega))
    rw [dotC, dotI, Int32.toInt_add, Int32.toInt_mul, e, bm32 (a := (x n).toInt * (y n).toInt) (by omega) (by omega), bm32 (by omega) (by omega)]
theorem sam_rg {A : Mem} {t : Nat} (hM : InvM A) (ht : t < 6) (x : Int32) : rg (-100) 100 (mSam A t x) := by
  obtain ⟨n, hn, e⟩ := cnt_at hM ht
  obtain ⟨B, -, -, hk, -⟩ := hM.1
  unfold mSam
  rw [e]
  rcases nb_cases x (n := n) (by omega) with ⟨i, hi, rfl⟩ | hx
  · rw [if_pos (nb_ok hi (by omega)), nI_clamp (by omega)]
    exact (hk t ht).2.2.2.2.1 i (by omega)
  · rw [if_neg hx]
    exact ⟨by decide, by decide⟩
theorem lk64 {A : Mem} {s t : Nat} (hM : InvM A) (hs : s < 6) (ht : t < 6) (X Y : Int32) : ∀ n, n ≤ 100 → (lkP A s t X Y n).toInt = dotI (fun i => mSam A s (X + nI i)) (fun i => mSam A t (Y + nI i)) n ∧ (lkQ A s t X Y n).toInt = dotI (fun i => mSam A s (X + nI i)) (fun i => mSam A s (X + nI i)) n + dotI (fun i => mSam A t (Y + nI i)) (fun i => mSam A t (Y + nI i)) n := by
  intro n
  induction n with
  | zero => intro _; exact ⟨rfl, rfl⟩
  | succ n ih =>
    intro hn
    obtain ⟨e1, e2⟩ := ih (by omega)
    have rs := fun i (_ : i < n + 1) => sam_rg hM hs (X + nI i)
    have rt := fun i (_ : i < n + 1) => sam_rg hM ht (Y + nI i)
    have b1 := dot_rg (x := fun i => mSam A s (X + nI i)) (y := fun i => mSam A t (Y + nI i)) n (fun i hi => rs i (by omega)) (fun i hi => rt i (by omega))
    have b2 := dot_rg (x := fun i => mSam A s (X + nI i)) (y := fun i => mSam A s (X + nI i)) n (fun i hi => rs i (by omega)) (fun i hi => rs i (by omega))
    have b3 := dot_rg (x := fun i => mSam A t (Y + nI i)) (y := fun i => mSam A t (Y + nI i)) n (fun i hi => rt i (by omega)) (fun i hi => rt i (by omega))
    have m1 := mul_rg (rs n (by omega)) (rt n (by omega))
    have m2 := mul_rg (rs n (by omega)) (rs n (by omega))
    have m3 := mul_rg (rt n (by omega)) (rt n (by omega))
    constructor
    · rw [lkP, dotI, Int64.toInt_add, Int64.toInt_mul, Int32.toInt_toInt64, Int32.toInt_toInt64, e1, bm64 (a := (mSam A s (X + nI n)).toInt * (mSam A t (Y + nI n)).toInt) (by omega) (by omega), bm64 (by omega) (by omega)]
    · rw [lkQ, dotI, dotI, Int64.toInt_add, Int64.toInt_add, Int64.toInt_mul, Int64.toInt_mul, Int32.toInt_toInt64, Int32.toInt_toInt64, e2, bm64 (a := (mSam A s (X + nI n)).toInt * (mSam A s (X + nI n)).toInt) (by omega) (by omega), bm64 (a := (mSam A t (Y + nI n)).toInt * (mSam A t (Y + nI n)).toInt) (by omega) (by omega), bm64 (a := (mSam A s (X + nI n)).toInt * (mSam A s (X + nI n)).toInt + (mSam A t (Y + nI n)).toInt * (mSam A t (Y + nI n)).toInt) (by omega) (by omega), bm64 (by omega) (by omega)]
      omega
def cLk (x y : Nat → Int32) (n : Nat) : Int32 := if sqs x n + sqs y n = 0 then 0 else 2000 * dotC x y n / (sqs x n + sqs y n)
theorem c_lk {A : Mem} {s t n : Nat} (hM : InvM A) (hs : s < 6) (ht : t < 6) (hn : n ≤ 40) (X Y : Int32) : cLk (fun i => mSam A s (X + nI i)) (fun i => mSam A t (Y + nI i)) n = if lkQ A s t X Y n = 0 then 0 else (2000 * lkP A s t X Y n / lkQ A s t X Y n).toInt32 := by
  obtain ⟨e1, e2⟩ := lk64 hM hs ht X Y n (by omega)
  have rs := fun i (_ : i < n) => sam_rg hM hs (X + nI i)
  have rt := fun i (_ : i < n) => sam_rg hM ht (Y + nI i)
  have b1 := dot_rg (x := fun i => mSam A s (X + nI i)) (y := fun i => mSam A t (Y + nI i)) n rs rt
  have b2 := dot_rg (x := fun i => mSam A s (X + nI i)) (y := fun i => mSam A s (X + nI i)) n rs rs
  have b3 := dot_rg (x := fun i => mSam A t (Y + nI i)) (y := fun i => mSam A t (Y + nI i)) n rt rt
  have d1 := dot_t (x := fun i => mSam A s (X + nI i)) (y := fun i => mSam A t (Y + nI i)) n (by omega) rs rt
  have d2 := dot_t (x := fun i => mSam A s (X + nI i)) (y := fun i => mSam A s (X + nI i)) n (by omega) rs rs
  have d3 := dot_t (x := fun i => mSam A t (Y + nI i)) (y := fun i => mSam A t (Y + nI i)) n (by omega) rt rt
  unfold cLk
  rw [sqs_dot, sqs_dot]
  have q : (dotC (fun i => mSam A s (X + nI i)) (fun i => mSam A s (X + nI i)) n + dotC (fun i => mSam A t (Y + nI i)) (fun i => mSam A t (Y + nI i)) n).toInt = (lkQ A s t X Y n).toInt := by
    rw [Int32.toInt_add, d2, d3, e2, bm32 (by omega) (by omega)]
  have q0 : dotC (fun i => mSam A s (X + nI i)) (fun i => mSam A s (X + nI i)) n + dotC (fun i => mSam A t (Y + nI i)) (fun i => mSam A t (Y + nI i)) n = 0 ↔ lkQ A s t X Y n = 0 := by
    rw [eq_i, q, ← Int64.toInt_inj]; rfl
  by_cases h : lkQ A s t X Y n = 0
  · rw [if_pos h, if_pos (q0.mpr h)]
  · rw [if_neg h, if_neg (fun z => h (q0.mp z))]
    apply Int32.toInt_inj.mp
    have k1 : (2000 : Int32).toInt = 2000 := by decide
    have k2 : (2000 : Int64).toInt = 2000 := by decide
    rw [Int32.toInt_div, Int64.toInt_toInt32, Int64.toInt_div, q, Int32.toInt_mul, Int64.toInt_mul, d1, e1, k1, k2, bm32 (a := 2000 * dotI (fun i => mSam A s (X + nI i)) (fun i => mSam A t (Y + nI i)) n) (by omega) (by omega), bm64 (a := 2000 * dotI (fun i => mSam A s (X + nI i)) (fun i => mSam A t (Y + nI i)) n) (by omega) (by omega), Int.bmod_bmod_of_dvd (by decide)]
