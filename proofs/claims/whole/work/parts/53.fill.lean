/-! ===== rows that are filled ===== -/
def fil (I : Mem) (g i lo hi : Nat) (v : Int32) : Mem := fun a b c => if a = g ∧ b = i ∧ lo ≤ c ∧ c < hi then v else I a b c
theorem fil_0 {I : Mem} {g i lo : Nat} {v : Int32} : fil I g i lo lo v = I := by
  funext a b c
  unfold fil
  rw [if_neg (by omega)]
theorem fil_s {I : Mem} {g i lo k : Nat} {v : Int32} (h : lo ≤ k) : mup (fil I g i lo k v) g i k v = fil I g i lo (k + 1) v := by
  funext a b c
  unfold mup fil
  by_cases q : a = g ∧ b = i ∧ c = k
  · rw [if_pos q, if_pos (by omega)]
  · rw [if_neg q]
    by_cases q2 : a = g ∧ b = i ∧ lo ≤ c ∧ c < k
    · rw [if_pos q2, if_pos (by omega)]
    · rw [if_neg q2, if_neg (by omega)]
theorem fil_g {I : Mem} {g i lo hi a : Nat} {v : Int32} (h : a ≠ g) : fil I g i lo hi v a = I a := by
  funext b c
  unfold fil
  rw [if_neg (fun q => h q.1)]
theorem fil_i {I : Mem} {g i lo hi u : Nat} {v : Int32} (h : u ≠ i) : fil I g i lo hi v g u = I g u := by
  funext c
  unfold fil
  rw [if_neg (fun q => h q.2.1)]
theorem fil_at {I : Mem} {g i lo hi c : Nat} {v : Int32} : fil I g i lo hi v g i c = if lo ≤ c ∧ c < hi then v else I g i c := by
  unfold fil
  by_cases q : lo ≤ c ∧ c < hi
  · rw [if_pos q, if_pos ⟨rfl, rfl, q.1, q.2⟩]
  · rw [if_neg q, if_neg (fun z => q z.2.2)]
theorem fil_mup {I : Mem} {g i lo hi g' i' k : Nat} {v w : Int32} (h : g ≠ g') : mup (fil I g i lo hi v) g' i' k w = fil (mup I g' i' k w) g i lo hi v := by
  funext a b c
  simp only [mup, fil]
  by_cases q : a = g' ∧ b = i' ∧ c = k
  · rw [if_pos q, if_neg (by omega), if_pos q]
  · rw [if_neg q]
    by_cases q2 : a = g ∧ b = i ∧ lo ≤ c ∧ c < hi
    · rw [if_pos q2, if_pos q2]
    · rw [if_neg q2, if_neg q2, if_neg q]
theorem fill_9 (I : Mem) (r : Nat) (v : Int32) : ∀ (d k fuel : Nat), k + d = 24 → d < fuel → f_J7_fill_53178_9_p5 fuel r v (nI k) (nI 24) (fil I 9 r 0 k v) = rV (fil I 9 r 0 24 v) := by
  intro d
  induction d with
  | zero =>
    intro k fuel hk hf
    obtain ⟨fu, rfl⟩ : ∃ fu, fuel = fu + 1 := ⟨fuel - 1, by omega⟩
    have : k = 24 := by omega
    subst this
    rw [f_J7_fill_53178_9_p5, if_pos (nI_le (Nat.le_refl _) (by decide))]
  | succ d ih =>
    intro k fuel hk hf
    obtain ⟨fu, rfl⟩ : ∃ fu, fuel = fu + 1 := ⟨fuel - 1, by omega⟩
    rw [f_J7_fill_53178_9_p5, if_neg (nI_ge (by omega) (by decide)), ix_nI (by omega) (by decide), fil_s (Nat.zero_le _), nI_1]
    exact ih (k + 1) fu (by omega) (by omega)
theorem filled_9 (I : Mem) (r : Nat) (v : Int32) : f_J7_fill_53178_9 r v I = rV (fil I 9 r 0 24 v) := by
  have := fill_9 I r v 24 0 FU (by omega) (by decide)
  rw [fil_0] at this
  exact this
theorem fill_11 (I : Mem) (r : Nat) (v : Int32) : ∀ (d k fuel : Nat), k + d = 96 → d < fuel → f_J7_fill_53178_11_p5 fuel r v (nI k) (nI 96) (fil I 11 r 0 k v) = rV (fil I 11 r 0 96 v) := by
  intro d
  induction d with
  | zero =>
    intro k fuel hk hf
    obtain ⟨fu, rfl⟩ : ∃ fu, fuel = fu + 1 := ⟨fuel - 1, by omega⟩
    have : k = 96 := by omega
    subst this
    rw [f_J7_fill_53178_11_p5, if_pos (nI_le (Nat.le_refl _) (by decide))]
  | succ d ih =>
    intro k fuel hk hf
    obtain ⟨fu, rfl⟩ : ∃ fu, fuel = fu + 1 := ⟨fuel - 1, by omega⟩
    rw [f_J7_fill_53178_11_p5, if_neg (nI_ge (by omega) (by decide)), ix_nI (by omega) (by decide), fil_s (Nat.zero_le _), nI_1]
    exact ih (k + 1) fu (by omega) (by omega)
theorem filled_11 (I : Mem) (r : Nat) (v : Int32) : f_J7_fill_53178_11 r v I = rV (fil I 11 r 0 96 v) := by
  have := fill_11 I r v 96 0 FU (by omega) (by decide)
  rw [fil_0] at this
  exact this
theorem fill_16 (I : Mem) (v : Int32) : ∀ (d k fuel : Nat), k + d = 864 → d < fuel → f_J7_fill_53178_16_p5 fuel v (nI k) (nI 864) (fil I 16 0 0 k v) = rV (fil I 16 0 0 864 v) := by
  intro d
  induction d with
  | zero =>
    intro k fuel hk hf
    obtain ⟨fu, rfl⟩ : ∃ fu, fuel = fu + 1 := ⟨fuel - 1, by omega⟩
    have : k = 864 := by omega
    subst this
    rw [f_J7_fill_53178_16_p5, if_pos (nI_le (Nat.le_refl _) (by decide))]
  | succ d ih =>
    intro k fuel hk hf
    obtain ⟨fu, rfl⟩ : ∃ fu, fuel = fu + 1 := ⟨fuel - 1, by omega⟩
    rw [f_J7_fill_53178_16_p5, if_neg (nI_ge (by omega) (by decide)), ix_nI (by omega) (by decide), fil_s (Nat.zero_le _), nI_1]
    exact ih (k + 1) fu (by omega) (by omega)
theorem filled_16 (I : Mem) (v : Int32) : f_J7_fill_53178_16 v I = rV (fil I 16 0 0 864 v) := by
  have := fill_16 I v 864 0 FU (by omega) (by decide)
  rw [fil_0] at this
  exact this
theorem fill_24 (I : Mem) (v : Int32) : ∀ (d k fuel : Nat), k + d = 6 → d < fuel → f_J7_fill_53178_24_p5 fuel v (nI k) (nI 6) (fil I 24 0 0 k v) = rV (fil I 24 0 0 6 v) := by
  intro d
  induction d with
  | zero =>
    intro k fuel hk hf
    obtain ⟨fu, rfl⟩ : ∃ fu, fuel = fu + 1 := ⟨fuel - 1, by omega⟩
    have : k = 6 := by omega
    subst this
    rw [f_J7_fill_53178_24_p5, if_pos (nI_le (Nat.le_refl _) (by decide))]
  | succ d ih =>
    intro k fuel hk hf
    obtain ⟨fu, rfl⟩ : ∃ fu, fuel = fu + 1 := ⟨fuel - 1, by omega⟩
    rw [f_J7_fill_53178_24_p5, if_neg (nI_ge (by omega) (by decide)), ix_nI (by omega) (by decide), fil_s (Nat.zero_le _), nI_1]
    exact ih (k + 1) fu (by omega) (by omega)
theorem filled_24 (I : Mem) (v : Int32) : f_J7_fill_53178_24 v I = rV (fil I 24 0 0 6 v) := by
  have := fill_24 I v 6 0 FU (by omega) (by decide)
  rw [fil_0] at this
  exact this
theorem fill_25 (I : Mem) (v : Int32) : ∀ (d k fuel : Nat), k + d = 6 → d < fuel → f_J7_fill_53178_25_p5 fuel v (nI k) (nI 6) (fil I 25 0 0 k v) = rV (fil I 25 0 0 6 v) := by
  intro d
  induction d with
  | zero =>
    intro k fuel hk hf
    obtain ⟨fu, rfl⟩ : ∃ fu, fuel = fu + 1 := ⟨fuel - 1, by omega⟩
    have : k = 6 := by omega
    subst this
    rw [f_J7_fill_53178_25_p5, if_pos (nI_le (Nat.le_refl _) (by decide))]
  | succ d ih =>
    intro k fuel hk hf
    obtain ⟨fu, rfl⟩ : ∃ fu, fuel = fu + 1 := ⟨fuel - 1, by omega⟩
    rw [f_J7_fill_53178_25_p5, if_neg (nI_ge (by omega) (by decide)), ix_nI (by omega) (by decide), fil_s (Nat.zero_le _), nI_1]
    exact ih (k + 1) fu (by omega) (by omega)
theorem filled_25 (I : Mem) (v : Int32) : f_J7_fill_53178_25 v I = rV (fil I 25 0 0 6 v) := by
  have := fill_25 I v 6 0 FU (by omega) (by decide)
  rw [fil_0] at this
  exact this
def clrC (I : Mem) (r : Nat) : Mem := fil (fil (mup I 7 r 1 0) 9 r 0 24 (-1)) 11 r 0 96 0
theorem c_clear (r : Nat) (I : Mem) : f_X6_clearBeats r I = rV (clrC I r) := by
  unfold f_X6_clearBeats clrC
  rw [filled_9, cV_r, filled_11, cV_r]
