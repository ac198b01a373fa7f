/-! ===== what a way makes: the model's arrays ===== -/
def fdv (a b : Int32) : Int32 := if 0 ≤ a ^^^ b then a / b else if a / b * b = a then a / b else a / b - 1
theorem fdv_t {a b : Int32} (h : b ≠ 0) (I : Mem) : f_J9_floorDiv_7cf53 a b I = rI (fdv a b) I := by
  unfold f_J9_floorDiv_7cf53 fdv
  rw [if_neg h]
  split
  · rfl
  · split <;> rfl
def kM (A X : Mem) : Prop := (∀ g, ¬ (63 ≤ g ∧ g ≤ 67) → g ≠ 33 → X g = A g) ∧ ∀ k, k ≠ 41 → X 33 0 k = A 33 0 k
theorem kM_rf {A : Mem} : kM A A := ⟨fun _ _ _ => rfl, fun _ _ => rfl⟩
theorem kM_K {A X : Mem} (h : kM A X) : agK A X := ⟨fun g h1 h2 => h.1 g (by omega) (by omega), fun k hk => h.2 k (by omega)⟩
theorem kM_M {A X : Mem} (h : kM A X) (hM : InvM A) : InvM X := InvM_cong hM (kM_K h) (by rw [h.2 22 (by decide)]; exact hM.2)
theorem kM_fr {A X : Mem} (h : kM A X) (t b : Nat) : mFr X t b = mFr A t b := by
  rw [← oM_mFr (A := X), agK_oM (kM_K h), oM_mFr]
theorem kM_sh {A X : Mem} (h : kM A X) (s t b : Nat) : mSh X s t b = mSh A s t b := by
  rw [← oM_mSh (A := X), agK_oM (kM_K h), oM_mSh]
theorem kM_sam {A X : Mem} (h : kM A X) (t : Nat) (x : Int32) : mSam X t x = mSam A t x := by
  rw [← oM_mSam (A := X), agK_oM (kM_K h), oM_mSam]
/-- what is made at a sample of a row: of take `T` from beat `b`, head `H` (-1 none), that begins at `S` -/
def mkF (A : Mem) (H S x : Int32) : Prop := 0 ≤ H ∧ x - S < A 33 0 18
theorem mkF_d (A : Mem) (H S x : Int32) : (H < 0 ∨ A 33 0 18 ≤ x - S) ↔ ¬ mkF A H S x := by
  unfold mkF
  rw [lt_i, le_i, le_i, lt_i]
  have : (0 : Int32).toInt = 0 := by decide
  omega
abbrev mkR (A : Mem) (H S x : Int32) : Prop := 0 ≤ H ∧ x - S < A 33 0 18
def mkV (A : Mem) (T b : Nat) (H S x : Int32) : Int32 := if mkR A H S x then fdv ((x - S + 1) * mSam A T x + (A 33 0 18 - (x - S)) * mSam A H.toNatClampNeg (10 * mFr A H.toNatClampNeg b + (x - S))) (A 33 0 18 + 1) else mSam A T x
