/-! ===== lay: what both reckon ===== -/
def EE : Nat := 1000000000
def mnN (p : Nat → Nat) (lo : Nat) : Nat → Nat
  | 0 => EE
  | n + 1 => if p (lo + n) < mnN p lo n then p (lo + n) else mnN p lo n
def fiN (p : Nat → Nat) (lo : Nat) : Nat → Nat
  | 0 => lo
  | n + 1 => if p (lo + n) < mnN p lo n then lo + n else fiN p lo n
theorem mn_le (p : Nat → Nat) (lo : Nat) : ∀ n, mnN p lo n ≤ EE := by
  intro n
  induction n with
  | zero => exact Nat.le_refl _
  | succ n ih =>
    rw [mnN]
    split
    · omega
    · exact ih
theorem mn_lb (p : Nat → Nat) (lo : Nat) : ∀ n z, lo ≤ z → z < lo + n → mnN p lo n ≤ p z := by
  intro n
  induction n with
  | zero => intro z h1 h2; omega
  | succ n ih =>
    intro z h1 h2
    rw [mnN]
    by_cases hz : z = lo + n
    · subst hz
      split <;> omega
    · have := ih z h1 (by omega)
      split <;> omega
theorem fi_ok (p : Nat → Nat) (lo : Nat) : ∀ n, mnN p lo n < EE → lo ≤ fiN p lo n ∧ fiN p lo n < lo + n ∧ p (fiN p lo n) = mnN p lo n ∧ ∀ z, lo ≤ z → z < fiN p lo n → mnN p lo n < p z := by
  intro n
  induction n with
  | zero => intro h; exact absurd h (Nat.lt_irrefl _)
  | succ n ih =>
    intro h
    rw [mnN] at h ⊢
    rw [fiN]
    by_cases hp : p (lo + n) < mnN p lo n
    · rw [if_pos hp, if_pos hp]
      exact ⟨by omega, by omega, rfl, fun z h1 h2 => Nat.lt_of_lt_of_le hp (mn_lb p lo n z h1 h2)⟩
    · rw [if_neg hp] at h
      rw [if_neg hp, if_neg hp]
      obtain ⟨a, b, c, d⟩ := ih h
      exact ⟨a, by omega, c, d⟩
theorem mn_ext (p : Nat → Nat) (lo n : Nat) : ∀ m, (∀ y, lo + n ≤ y → y < lo + n + m → p y = EE) → mnN p lo (n + m) = mnN p lo n ∧ fiN p lo (n + m) = fiN p lo n := by
  intro m
  induction m with
  | zero => intro _; exact ⟨rfl, rfl⟩
  | succ m ih =>
    intro h
    obtain ⟨e1, e2⟩ := ih (fun y h1 h2 => h y h1 (by omega))
    have hE := h (lo + (n + m)) (by omega) (by omega)
    have hl := mn_le p lo (n + m)
    have hn : ¬ p (lo + (n + m)) < mnN p lo (n + m) := by omega
    rw [← Nat.add_assoc, mnN, fiN, if_neg hn, if_neg hn]
    exact ⟨e1, e2⟩
theorem mn_bd (p : Nat → Nat) (lo M : Nat) : ∀ n, (∀ y, lo ≤ y → y < lo + n → p y = EE ∨ p y ≤ M) → mnN p lo n = EE ∨ mnN p lo n ≤ M := by
  intro n
  induction n with
  | zero => intro _; exact Or.inl rfl
  | succ n ih =>
    intro h
    rw [mnN]
    split
    · exact h (lo + n) (by omega) (by omega)
    · exact ih (fun y h1 h2 => h y h1 (by omega))
theorem mn_EE (p : Nat → Nat) (lo : Nat) : ∀ n, (∀ y, lo ≤ y → y < lo + n → p y = EE) → mnN p lo n = EE := by
  intro n
  induction n with
  | zero => intro _; rfl
  | succ n ih =>
    intro h
    rw [mnN, ih (fun y h1 h2 => h y h1 (by omega)), if_neg (by rw [h (lo + n) (by omega) (by omega)]; omega)]
abbrev okx (A : Mem) (t b x : Nat) : Prop := A 45 0 (24 * t + b) < 0 ∨ A 45 0 (24 * t + b) = nI x
def lvx (A : Mem) (t x b : Nat) : Nat := ((mLv A t x).toInt - (A 34 0 b).toInt).natAbs
def stx (A : Mem) (x y b : Nat) : Nat := 20 * ((y : Int) - x - (A 35 0 b).toInt).natAbs
def sp (A : Mem) (t F : Nat) : Nat → Nat → Nat → Nat
  | 0, b, x => if okx A t b x then lvx A t x b else EE
  | k + 1, b, x => if okx A t b x then (if mnN (fun y => if sp A t F k (b + 1) y = EE then EE else sp A t F k (b + 1) y + stx A x y b) (x + 1) (F - x - 1) = EE then EE else mnN (fun y => if sp A t F k (b + 1) y = EE then EE else sp A t F k (b + 1) y + stx A x y b) (x + 1) (F - x - 1) + lvx A t x b) else EE
/-- with the step to the next beat's frame -/
def rs (A : Mem) (t F k b x y : Nat) : Nat := if sp A t F k (b + 1) y = EE then EE else sp A t F k (b + 1) y + stx A x y b
theorem sp_s (A : Mem) (t F k b x : Nat) : sp A t F (k + 1) b x = if okx A t b x then (if mnN (rs A t F k b x) (x + 1) (F - x - 1) = EE then EE else mnN (rs A t F k b x) (x + 1) (F - x - 1) + lvx A t x b) else EE := by
  rw [sp]; rfl
theorem lvx_le {A : Mem} {t b : Nat} (hM : InvM A) (ht : t < 6) (hb : b < 24) (x : Nat) : lvx A t x b ≤ 10000 := by
  obtain ⟨h1, h2⟩ := lv_rg hM ht x
  obtain ⟨B, -, hq, -⟩ := hM.1
  obtain ⟨g1, g2⟩ := (hq b hb).1
  unfold lvx
  omega
theorem stx_le {A : Mem} {x y b : Nat} (hM : InvM A) (hb : b < 24) (hx : x < 40) (hy : y < 40) : stx A x y b ≤ 2000 := by
  obtain ⟨B, -, hq, -⟩ := hM.1
  obtain ⟨g1, g2⟩ := (hq b hb).2.1
  unfold stx
  omega
theorem sp_bd {A : Mem} {t F : Nat} (hM : InvM A) (ht : t < 6) (hF : F ≤ 40) : ∀ k b x, b + k < 24 → x < F → sp A t F k b x = EE ∨ sp A t F k b x ≤ 12000 * (k + 1) := by
  intro k
  induction k with
  | zero =>
    intro b x hb hx
    rw [sp]
    split
    · have := lvx_le hM ht (show b < 24 by omega) x
      omega
    · exact Or.inl rfl
  | succ k ih =>
    intro b x hb hx
    rw [sp_s]
    split
    · have l := lvx_le hM ht (show b < 24 by omega) x
      rcases mn_bd (rs A t F k b x) (x + 1) (12000 * (k + 1) + 2000) (F - x - 1) (fun y h1 h2 => by
        unfold rs
        have s := stx_le hM (show b < 24 by omega) (show x < 40 by omega) (show y < 40 by omega)
        rcases ih (b + 1) y (by omega) (by omega) with h | h
        · rw [if_pos h]; exact Or.inl rfl
        · right
          rw [if_neg (by unfold EE; omega)]
          omega) with h | h
      · rw [if_pos h]; exact Or.inl rfl
      · rw [if_neg (by unfold EE; omega)]
        right
        omega
    · exact Or.inl rfl
theorem sp_far {A : Mem} {t F : Nat} : ∀ k b x, x < F → F ≤ x + k → sp A t F k b x = EE := by
  intro k
  induction k with
  | zero => intro b x h1 h2; omega
  | succ k ih =>
    intro b x h1 h2
    rw [sp_s, mn_EE (rs A t F k b x) (x + 1) (F - x - 1) (fun y g1 g2 => by
      unfold rs
      rw [if_pos (ih (b + 1) y (by omega) (by omega))])]
    split
    · rfl
    · rfl
theorem rs_bd {A : Mem} {t F k b x y : Nat} (hM : InvM A) (ht : t < 6) (hF : F ≤ 40) (hb : b + 1 + k < 24) (hx : x < F) (hy : y < F) : rs A t F k b x y = EE ∨ rs A t F k b x y ≤ 12000 * (k + 1) + 2000 := by
  unfold rs
  have s := stx_le hM (show b < 24 by omega) (show x < 40 by omega) (show y < 40 by omega)
  rcases sp_bd hM ht hF k (b + 1) y (by omega) hy with h | h
  · rw [if_pos h]; exact Or.inl rfl
  · right
    rw [if_neg (by unfold EE; omega)]
    omega
/-- the next beat's frame; the frames of a laying -/
def nx (A : Mem) (t F k b x : Nat) : Nat := fiN (rs A t F k b x) (x + 1) (F - x - 1)
/-- `k` beats follow the first -/
def frP (A : Mem) (t F k f : Nat) : Nat → Nat
  | 0 => fiN (sp A t F k f) 0 F
  | i + 1 => nx A t F (k - i - 1) (f + i) (frP A t F k f i)
theorem sp_nx {A : Mem} {t F k b x : Nat} (h : sp A t F (k + 1) b x ≠ EE) : mnN (rs A t F k b x) (x + 1) (F - x - 1) < EE ∧ sp A t F (k + 1) b x = mnN (rs A t F k b x) (x + 1) (F - x - 1) + lvx A t x b ∧ okx A t b x := by
  rw [sp_s] at h ⊢
  by_cases h1 : okx A t b x
  · rw [if_pos h1] at h ⊢
    by_cases h2 : mnN (rs A t F k b x) (x + 1) (F - x - 1) = EE
    · rw [if_pos h2] at h; exact absurd rfl h
    · rw [if_neg h2]
      have := mn_le (rs A t F k b x) (x + 1) (F - x - 1)
      exact ⟨by omega, rfl, h1⟩
  · rw [if_neg h1] at h; exact absurd rfl h
theorem nx_ok {A : Mem} {t F k b x : Nat} (h : sp A t F (k + 1) b x ≠ EE) : x < nx A t F k b x ∧ nx A t F k b x < F ∧ rs A t F k b x (nx A t F k b x) = mnN (rs A t F k b x) (x + 1) (F - x - 1) ∧ sp A t F k (b + 1) (nx A t F k b x) ≠ EE ∧ ∀ z, x + 1 ≤ z → z < nx A t F k b x → mnN (rs A t F k b x) (x + 1) (F - x - 1) < rs A t F k b x z := by
  obtain ⟨h1, -, -⟩ := sp_nx h
  obtain ⟨a, b', c, d⟩ := fi_ok _ _ _ h1
  unfold nx
  refine ⟨by omega, by omega, c, fun z => ?_, d⟩
  rw [← c] at h1
  unfold rs at h1 z
  rw [if_pos z] at h1
  exact Nat.lt_irrefl _ h1
theorem frP_ok {A : Mem} {t F k f : Nat} (h : mnN (sp A t F k f) 0 F < EE) : ∀ i, i ≤ k → frP A t F k f i < F ∧ sp A t F (k - i) (f + i) (frP A t F k f i) ≠ EE := by
  intro i
  induction i with
  | zero =>
    intro _
    obtain ⟨a, b, c, d⟩ := fi_ok _ _ _ h
    rw [frP]
    refine ⟨by omega, fun z => ?_⟩
    rw [← c] at h
    rw [Nat.sub_zero, Nat.add_zero] at z
    omega
  | succ i ih =>
    intro hi
    obtain ⟨h1, h2⟩ := ih (by omega)
    rw [show k - i = (k - i - 1) + 1 by omega] at h2
    obtain ⟨n1, n2, n3, n4, n5⟩ := nx_ok h2
    rw [frP]
    refine ⟨n2, ?_⟩
    rw [show k - (i + 1) = k - i - 1 by omega]
    exact n4
theorem apt_nI {a b : Int32} (ha : rg (-1000000) 1000000 a) (hb : rg (-1000000) 1000000 b) : apt a b = nI (a.toInt - b.toInt).natAbs := by
  have a1 : -1000000 ≤ a.toInt := ha.1
  have a2 : a.toInt ≤ 1000000 := ha.2
  have b1 : -1000000 ≤ b.toInt := hb.1
  have b2 : b.toInt ≤ 1000000 := hb.2
  apply Int32.toInt_inj.mp
  rw [nIt (by omega)]
  unfold apt
  by_cases h : a < b
  · rw [if_pos h, Int32.toInt_sub, bm32 (by omega) (by omega)]
    rw [lt_i] at h; omega
  · rw [if_neg h, Int32.toInt_sub, bm32 (by omega) (by omega)]
    rw [lt_i] at h; omega
