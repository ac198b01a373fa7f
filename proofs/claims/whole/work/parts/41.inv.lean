/-! ===== what the model's memory keeps to; how the class's memory pictures it ===== -/
def rg (lo hi : Int) (x : Int32) : Prop := lo ≤ x.toInt ∧ x.toInt ≤ hi
/-- a beat that follows the last one begins where that one ends -/
def mFr (A : Mem) (t b : Nat) : Int32 := if mEnd A t < nI b then A 47 0 (24 * t + b - 1) + A 35 0 (b - 1) else A 47 0 (24 * t + b)
/-- a take's sample, 0 where there is none -/
def mSam (A : Mem) (t : Nat) (i : Int32) : Int32 := if 0 ≤ i ∧ i ≤ A 42 0 t - 1 then A 43 0 (400 * t + i.toNatClampNeg) else 0
def sqs (g : Nat → Int32) : Nat → Int32
  | 0 => 0
  | n + 1 => sqs g n + g n * g n
/-- samples of a frame that are there -/
def frN (A : Mem) (t f : Nat) : Nat := min 10 ((A 42 0 t).toNatClampNeg - 10 * f)
def mLv (A : Mem) (t f : Nat) : Int32 := if 10 * f < (A 42 0 t).toNatClampNeg then sqs (fun i => A 43 0 (400 * t + 10 * f + i)) (frN A t f) / nI (frN A t f) else 0
/-- the level at a frame that may not be there -/
def mLvI (A : Mem) (t : Nat) (f : Int32) : Int32 := if f < 0 then 0 else mLv A t f.toNatClampNeg
def apt (a b : Int32) : Int32 := if a < b then b - a else a - b
/-- sums over the window: products, squares -/
def lkP (A : Mem) (s t : Nat) (x y : Int32) : Nat → Int64
  | 0 => 0
  | n + 1 => lkP A s t x y n + (mSam A s (x + nI n)).toInt64 * (mSam A t (y + nI n)).toInt64
def lkQ (A : Mem) (s t : Nat) (x y : Int32) : Nat → Int64
  | 0 => 0
  | n + 1 => lkQ A s t x y n + ((mSam A s (x + nI n)).toInt64 * (mSam A s (x + nI n)).toInt64 + (mSam A t (y + nI n)).toInt64 * (mSam A t (y + nI n)).toInt64)
/-- likeness by a shift -/
def mLk (A : Mem) (s t b : Nat) (d : Int32) : Int32 :=
  if lkQ A s t (10 * mFr A s b - A 33 0 15) (10 * mFr A t b + d - A 33 0 15) (2 * (A 33 0 15).toNatClampNeg) = 0 then 0
  else (2000 * lkP A s t (10 * mFr A s b - A 33 0 15) (10 * mFr A t b + d - A 33 0 15) (2 * (A 33 0 15).toNatClampNeg) / lkQ A s t (10 * mFr A s b - A 33 0 15) (10 * mFr A t b + d - A 33 0 15) (2 * (A 33 0 15).toNatClampNeg)).toInt32
/-- the best shift of those up to n to both sides, with its likeness -/
def mShL (A : Mem) (s t b : Nat) : Nat → Int32 × Int32
  | 0 => (0, mLk A s t b 0)
  | n + 1 =>
    let p := mShL A s t b n
    let q := if p.2 < mLk A s t b (-nI (n + 1)) then (-nI (n + 1), mLk A s t b (-nI (n + 1))) else p
    if q.2 < mLk A s t b (nI (n + 1)) then (nI (n + 1), mLk A s t b (nI (n + 1))) else q
def mSh (A : Mem) (s t b : Nat) : Int32 := (mShL A s t b (A 33 0 16).toNatClampNeg).1
def mLoss (A : Mem) (s t b : Nat) : Int32 := 1000 - mLk A s t b (mSh A s t b) + apt (mLvI A s (mFr A s b)) (mLvI A t (mFr A t b))
/-- a join may be asked for -/
def jOk (A : Mem) (s t b : Nat) : Prop := 0 ≤ A 38 0 s ∧ 0 ≤ A 38 0 t ∧ A 46 0 s = 1 ∧ A 46 0 t = 1 ∧ mHas A t (nI b) ∧ (mHas A s (nI b) ∨ (0 < b ∧ mHas A s (nI (b - 1))))
abbrev mMay (A : Mem) (t b : Nat) : Prop := 0 ≤ A 38 0 t ∧ A 46 0 t = 1 ∧ mHas A t (nI b) ∧ (A 37 0 b < 0 ∨ A 37 0 b = nI t)
/-- a take of the model -/
def tkOk (A : Mem) (B t : Nat) : Prop := rg (-1) 4 (A 38 0 t) ∧ (isP A t → ∃ f l, f ≤ l ∧ l < B ∧ A 39 0 t = nI f ∧ A 40 0 t = nI l) ∧ rg 0 1000 (A 41 0 t) ∧
  (∃ n, n ≤ 400 ∧ A 42 0 t = nI n) ∧ (∀ i, i < 400 → rg (-100) 100 (A 43 0 (400 * t + i))) ∧ (∀ b, b < 24 → ∀ m, m < 4 → rg 0 9 (A 44 0 (4 * (24 * t + b) + m)) ∧ (A 38 0 t = 4 → A 44 0 (4 * (24 * t + b) + m) = 0)) ∧
  (∀ b, b < 24 → rg (-1) 39 (A 45 0 (24 * t + b))) ∧ (A 46 0 t = 0 ∨ A 46 0 t = 1) ∧ (A 46 0 t = 1 → 0 ≤ A 38 0 t) ∧ (A 46 0 t = 1 → ∀ b, b < 24 → mHas A t (nI b) → rg 0 39 (A 47 0 (24 * t + b)))
def wayOk (A : Mem) (B : Nat) : Prop := ∀ b, b < B → ∃ t, t < 6 ∧ A 48 0 b = nI t ∧ mMay A t b
def InvK (A : Mem) : Prop := ∃ B, (1 ≤ B ∧ B ≤ 24 ∧ A 33 0 0 = nI B) ∧
  (∀ b, b < 24 → rg 0 10000 (A 34 0 b) ∧ rg 1 40 (A 35 0 b) ∧ (A 36 0 b = 0 ∨ A 36 0 b = 1) ∧ rg (-1) 5 (A 37 0 b)) ∧ (∀ t, t < 6 → tkOk A B t) ∧
  (rg 1 20 (A 33 0 15) ∧ rg 0 9 (A 33 0 16) ∧ rg 0 1000 (A 33 0 17) ∧ rg 0 9 (A 33 0 18)) ∧ (A 33 0 19 = 0 ∨ (A 33 0 19 = 1 ∧ wayOk A B))
def InvM (A : Mem) : Prop := InvK A ∧ ∃ n, n ≤ 30 ∧ A 33 0 22 = nI n
/-- the rows that a way makes: where they begin -/
def rowsOk (A : Mem) (B n : Nat) (p : Nat → Nat) : Prop := p 0 = 0 ∧ p n = B ∧ (∀ r, r < n → p r < p (r + 1)) ∧ (∀ r, r < n → ∀ b, p r ≤ b → b < p (r + 1) → A 48 0 b = A 48 0 (p r)) ∧ ∀ r, 0 < r → r < n → A 48 0 (p r) ≠ A 48 0 (p r - 1)
def rwT (A : Mem) (p : Nat → Nat) (r : Nat) : Nat := (A 48 0 (p r)).toNatClampNeg
def rwH (A : Mem) (p : Nat → Nat) (r : Nat) : Nat := (A 48 0 (p r - 1)).toNatClampNeg
def rwS (A : Mem) (p : Nat → Nat) (r : Nat) : Int32 := 10 * mFr A (rwT A p r) (p r) + if r = 0 then 0 else mSh A (rwH A p r) (rwT A p r) (p r)
def rwE (A : Mem) (n : Nat) (p : Nat → Nat) (r : Nat) : Int32 := if r + 1 = n then A 42 0 (rwT A p r) else 10 * mFr A (rwT A p r) (p (r + 1))
def imax (a b : Int32) : Int32 := if a < b then b else a
def imin (a b : Int32) : Int32 := if b < a then b else a
def rwL (A : Mem) (p : Nat → Nat) (r : Nat) : Int32 := imax 0 (rwS A p r)
def rwU (A : Mem) (n : Nat) (p : Nat → Nat) (r : Nat) : Int32 := imax (rwL A p r) (imin (rwE A n p r) (A 42 0 (rwT A p r)))
def rwM (A : Mem) (n : Nat) (p : Nat → Nat) : Nat → Int32
  | 0 => 0
  | r + 1 => rwM A n p r + (rwU A n p r - rwL A p r)
def strOk (I A : Mem) (B : Nat) : Prop := ∃ n p, 1 ≤ n ∧ n ≤ 24 ∧ rowsOk A B n p ∧ I 27 0 6 = nI n ∧ I 27 0 7 = rwM A n p n ∧ ∀ r, r < n →
  I 30 r 0 = A 48 0 (p r) ∧ I 30 r 1 = nI (p r) ∧ I 30 r 2 = (if r = 0 then -1 else A 48 0 (p r - 1)) ∧ (0 < r → I 30 r 3 = 10 * mFr A (rwH A p r) (p r)) ∧ I 30 r 4 = rwS A p r ∧ I 30 r 5 = rwL A p r ∧ I 30 r 6 = rwU A n p r ∧ I 30 r 7 = rwM A n p r
/-- the class's pictures -/
def rcS (I A : Mem) : Prop := I 1 0 0 = A 33 0 0 ∧ ∀ b, b < 24 → I 2 0 b = A 34 0 b ∧ I 3 0 b = A 35 0 b ∧ I 4 0 b = A 36 0 b ∧ I 5 0 b = A 37 0 b
def rcT (I A : Mem) (t : Nat) : Prop := I 7 t 0 = bi (0 ≤ A 38 0 t) ∧ rg 0 4 (I 7 t 2) ∧ (0 ≤ A 38 0 t → I 7 t 2 = A 38 0 t ∧ I 7 t 3 = mBeg A t ∧ I 7 t 4 = mEnd A t) ∧ I 7 t 5 = A 41 0 t ∧ I 7 t 6 = A 42 0 t ∧
  (∀ i, i < 400 → I 8 t i = A 43 0 (400 * t + i)) ∧ (0 ≤ A 38 0 t → ∀ b, b < 24 → I 9 t b = A 45 0 (24 * t + b)) ∧ (∀ b, b < 24 → ∀ m, m < 4 → I 11 t (4 * b + m) = A 44 0 (4 * (24 * t + b) + m)) ∧ I 7 t 1 = A 46 0 t ∧
  (A 46 0 t = 1 → ∀ b, b < 25 → (mHas A t (nI b) ∨ (0 < b ∧ mHas A t (nI (b - 1)))) → I 10 t b = mFr A t b)
def rcJ (I A : Mem) : Prop := I 12 0 1 = A 33 0 15 ∧ I 12 0 2 = A 33 0 16 ∧ I 12 0 3 = A 33 0 17 ∧ I 27 0 3 = A 33 0 18
def rcC (I A : Mem) : Prop := ∀ s t b, s < 6 → t < 6 → b < 24 → I 16 0 ((b * 6 + s) * 6 + t) = -1 ∨ (jOk A s t b → I 15 0 ((b * 6 + s) * 6 + t) = mSh A s t b ∧ I 16 0 ((b * 6 + s) * 6 + t) = mLoss A s t b)
def rcP (I A : Mem) : Prop := I 27 0 2 = A 33 0 19 ∧ (A 33 0 19 = 1 → (∀ b, b < (A 33 0 0).toNatClampNeg → I 28 0 b = A 48 0 b) ∧ strOk I A (A 33 0 0).toNatClampNeg)
def rcF (I A : Mem) : Prop := ∀ j, j < 7 → I 31 0 j = A 50 0 (j + 1)
def rcN (I A : Mem) : Prop := I 0 0 8 = A 33 0 22 ∧ ∀ j, j < 30 → I 32 0 j = A 49 0 j
def rcX (I : Mem) : Prop := (∀ j, I 101 0 j = xsa101.getD j 0) ∧ ∀ j, I 102 0 j = xsa102.getD j 0
def RC (I A : Mem) : Prop := rcS I A ∧ (∀ t, t < 6 → rcT I A t) ∧ rcJ I A ∧ rcC I A ∧ rcP I A ∧ rcF I A ∧ rcN I A ∧ rcX I
/-- memories that agree on groups -/
def agr (p : Nat → Prop) (I J : Mem) : Prop := ∀ g, p g → I g = J g
/-- what the model leaves as it is; what the class leaves as it is -/
abbrev keepM (A A' : Mem) : Prop := agr (fun g => g < 33 ∨ 68 ≤ g) A A'
abbrev keepC (I I' : Mem) : Prop := agr (fun g => 33 ≤ g) I I'
theorem agr_rf {p : Nat → Prop} {I : Mem} : agr p I I := fun _ _ => rfl
theorem agr_tr {p : Nat → Prop} {I J K : Mem} (h : agr p I J) (h2 : agr p J K) : agr p I K := fun g hg => (h g hg).trans (h2 g hg)
theorem agr_up {p : Nat → Prop} {I J : Mem} {g i k : Nat} {v : Int32} (h : agr p I J) (hg : ¬ p g) : agr p I (mup J g i k v) := fun a ha => by
  have hne : a ≠ g := fun q => hg (by rw [← q]; exact ha)
  rw [mup_g hne]; exact h a ha
