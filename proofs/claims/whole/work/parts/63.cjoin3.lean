theorem alg_k5 (f w d : Int32) : f - w + d = f + d - w := by grind
theorem alg_k6 (f w d k n : Int32) : f - w - d + (n + k) = f + (k - d) - w + n := by grind
theorem jOk_s {A : Mem} {s t b : Nat} (h : jOk A s t b) : mHas A s (nI b) ∨ (0 < b ∧ mHas A s (nI (b - 1))) := h.2.2.2.2.2
theorem c_likenessBy {I A : Mem} {s t b : Nat} (hR : RC I A) (hM : InvM A) (hs : s < 6) (ht : t < 6) (hb : b < 24) (hj : jOk A s t b) (d : Int32) : ∃ J, f_X1_likenessBy (nI s) (nI t) (nI b) d I = rI (mLk A s t b d) J ∧ cch I J ∧ J 15 = I 15 ∧ J 16 = I 16 := by
  obtain ⟨w, D, hw, -, hD, ew, eD⟩ := far_at hM
  obtain ⟨ns, hns, es⟩ := cnt_at hM hs
  obtain ⟨nt, hnt, et⟩ := cnt_at hM ht
  have e1 : I 12 0 1 = nI w := by rw [hR.2.2.1.1, ew]
  obtain ⟨J1, l1, p1, -, p3⟩ := c_lis13 (x := 10 * mFr A s b - nI w) (hR.2.1 s hs) es hns (show 2 * w ≤ 40 by omega) (2 * w) 0 FU I (by omega) (by rw [FU_v]; omega) (fun _ _ => rfl)
  have c1 : cch I J1 := fun g hg => p1 g (by omega)
  obtain ⟨J2, l2, q1, -, q3⟩ := c_lis14 (x := 10 * mFr A t b - nI w + d) (rcT_cch c1 (hR.2.1 t ht)) et hnt (show 2 * w ≤ 58 by omega) (2 * w) 0 FU J1 (by omega) (by rw [FU_v]; omega) (fun _ _ => rfl)
  have e2 : J1 12 0 1 = nI w := by rw [p1 12 (by decide), e1]
  have e3 : J2 12 0 1 = nI w := by rw [q1 12 (by decide), e2]
  refine ⟨J2, ?_, fun g hg => by rw [q1 g (by omega), p1 g (by omega)], by rw [q1 15 (by decide), p1 15 (by decide)], by rw [q1 16 (by decide), p1 16 (by decide)]⟩
  unfold f_X1_likenessBy f_X1_listen_13 f_X1_listen_14
  rw [ix6 hs, ix6 hs, c_startOf (hR.2.1 s hs) hj.2.2.1 (by omega) (jOk_s hj), cI_r, e1, mul2, show (0 : Int32) = nI 0 from rfl, l1, cV_r, ix6 ht, ix6 ht, c_startOf (rcT_cch c1 (hR.2.1 t ht)) hj.2.2.2.1 (by omega) (Or.inl hj.2.2.2.2.1), cI_r, e2, mul2, l2, cV_r, c_sq13 e3 hw, cI_r, c_sq14 e3 hw, cI_r, c_liken e3 hw (by omega), cI_r]
  have : cLk (fun i => J2 13 0 i) (fun i => J2 14 0 i) (2 * w) = mLk A s t b d := by
    unfold mLk
    rw [ew, nI_clamp (by omega), ← c_lk hM hs ht (show 2 * w ≤ 40 by omega)]
    refine cLk_cong (fun i hi => ?_) (fun i hi => ?_)
    · rw [q1 13 (by decide), p3 i (by omega) hi]
    · rw [q3 i (by omega) hi, alg_k5]
  exact congrArg (fun v => rI v J2) this
/-- the better of two shifts -/
def bet (L : Int → Int32) (z e : Int) : Prop := (L e).toInt < (L z).toInt ∨ ((L e).toInt = (L z).toInt ∧ (z.natAbs < e.natAbs ∨ (z.natAbs = e.natAbs ∧ z ≤ e)))
theorem bet_one {L : Int → Int32} {z e : Int} (h1 : bet L z e) (h2 : bet L e z) : z = e := by
  unfold bet at h1 h2
  omega
theorem ofI_t {z : Int} (h1 : -1000 ≤ z) (h2 : z ≤ 1000) : (Int32.ofInt z).toInt = z := by
  rw [Int32.toInt_ofInt]
  exact bm32 (by omega) (by omega)
theorem ofI_neg {n : Nat} (h : n ≤ 1000) : -nI n = Int32.ofInt (-(n : Int)) := by
  apply Int32.toInt_inj.mp
  rw [Int32.toInt_neg, nIt (by omega), ofI_t (by omega) (by omega)]
  exact bm32 (by omega) (by omega)
theorem ofI_nat {n : Nat} (h : n ≤ 1000) : nI n = Int32.ofInt (n : Int) := by
  apply Int32.toInt_inj.mp
  rw [nIt (by omega), ofI_t (by omega) (by omega)]
theorem ofI_sub {n d : Nat} (h : n ≤ 1000) (h2 : d ≤ 1000) : nI n - nI d = Int32.ofInt ((n : Int) - d) := by
  apply Int32.toInt_inj.mp
  rw [sub_t (by omega) (by omega), ofI_t (by omega) (by omega)]
theorem shL_best {A : Mem} {s t b : Nat} : ∀ n : Nat, n ≤ 1000 → ∃ z : Int, -(n : Int) ≤ z ∧ z ≤ n ∧ (mShL A s t b n).1 = Int32.ofInt z ∧ (mShL A s t b n).2 = mLk A s t b (Int32.ofInt z) ∧ ∀ e : Int, -(n : Int) ≤ e → e ≤ n → bet (fun z => mLk A s t b (Int32.ofInt z)) z e := by
  intro n
  induction n with
  | zero =>
    intro _
    refine ⟨0, by omega, by omega, rfl, rfl, fun e h1 h2 => ?_⟩
    have : e = 0 := by omega
    subst this
    exact Or.inr ⟨rfl, Or.inr ⟨rfl, by omega⟩⟩
  | succ n ih =>
    intro hn
    obtain ⟨z, z1, z2, z3, z4, z5⟩ := ih (by omega)
    rw [mShL, ofI_neg (by omega), ofI_nat (by omega)]
    simp only [z4]
    have q : ∃ y : Int, -((n + 1 : Nat) : Int) ≤ y ∧ y ≤ n ∧ (if mLk A s t b (Int32.ofInt z) < mLk A s t b (Int32.ofInt (-((n + 1 : Nat) : Int))) then (Int32.ofInt (-((n + 1 : Nat) : Int)), mLk A s t b (Int32.ofInt (-((n + 1 : Nat) : Int)))) else mShL A s t b n) = (Int32.ofInt y, mLk A s t b (Int32.ofInt y)) ∧ ∀ e : Int, -((n + 1 : Nat) : Int) ≤ e → e ≤ n → bet (fun z => mLk A s t b (Int32.ofInt z)) y e := by
      by_cases h : mLk A s t b (Int32.ofInt z) < mLk A s t b (Int32.ofInt (-((n + 1 : Nat) : Int)))
      · refine ⟨-((n + 1 : Nat) : Int), by omega, by omega, if_pos h, fun e h1 h2 => ?_⟩
        by_cases he : e = -((n + 1 : Nat) : Int)
        · subst he
          exact Or.inr ⟨rfl, Or.inr ⟨rfl, by omega⟩⟩
        · have := z5 e (by omega) h2
          rw [lt_i] at h
          unfold bet at this ⊢
          simp only at this ⊢
          omega
      · refine ⟨z, by omega, by omega, by rw [if_neg h, ← z4, ← z3], fun e h1 h2 => ?_⟩
        by_cases he : e = -((n + 1 : Nat) : Int)
        · subst he
          rw [lt_i] at h
          unfold bet
          simp only
          omega
        · exact z5 e (by omega) h2
    obtain ⟨y, y1, y2, y3, y4⟩ := q
    rw [y3]
    simp only
    by_cases h : mLk A s t b (Int32.ofInt y) < mLk A s t b (Int32.ofInt ((n + 1 : Nat) : Int))
    · rw [if_pos h]
      refine ⟨((n + 1 : Nat) : Int), by omega, by omega, rfl, rfl, fun e h1 h2 => ?_⟩
      by_cases he : e = ((n + 1 : Nat) : Int)
      · subst he
        exact Or.inr ⟨rfl, Or.inr ⟨rfl, by omega⟩⟩
      · have := y4 e h1 (by omega)
        rw [lt_i] at h
        unfold bet at this ⊢
        simp only at this ⊢
        omega
    · rw [if_neg h]
      refine ⟨y, y1, by omega, rfl, rfl, fun e h1 h2 => ?_⟩
      by_cases he : e = ((n + 1 : Nat) : Int)
      · subst he
        rw [lt_i] at h
        unfold bet
        simp only
        omega
      · exact y4 e h1 (by omega)
theorem alg_sq (a b c : Int32) : a + (b - c) = a + b - c := by grind
theorem sqs_slide (y : Nat → Int32) (k : Nat) : ∀ n, sqs (fun i => y (i + (k + 1))) n = sqs (fun i => y (i + k)) n + (y (k + n) * y (k + n) - y k * y k) := by
  intro n
  induction n with
  | zero =>
    have : ∀ a : Int32, (0 : Int32) = 0 + (a - a) := fun a => by grind
    exact this _
  | succ n ih =>
    rw [sqs, sqs, ih, show n + (k + 1) = k + (n + 1) by omega, show n + k = k + n by omega]
    have : ∀ a b c d : Int32, a + (b - c) + d = a + b + (d - c) := fun a b c d => by grind
    exact this _ _ _ _
theorem sqs_cong {x y : Nat → Int32} {n : Nat} (h : ∀ i, i < n → x i = y i) : sqs x n = sqs y n := by
  rw [sqs_dot, sqs_dot, dotC_cong n h h]
theorem abs_t (a : Int32) (I : Mem) : f_J9_abs_0f7a4 a I = rI (if 0 ≤ a then a else -a) I := by
  unfold f_J9_abs_0f7a4
  split <;> rfl
theorem abs_n {a : Int32} (h : rg (-1000000) 1000000 a) : (if 0 ≤ a then a else -a).toInt = a.toInt.natAbs := by
  have h1 : -1000000 ≤ a.toInt := h.1
  have h2 : a.toInt ≤ 1000000 := h.2
  have z : (0 : Int32).toInt = 0 := by decide
  by_cases h0 : 0 ≤ a
  · rw [if_pos h0]
    rw [le_i] at h0
    omega
  · rw [if_neg h0, Int32.toInt_neg, bm32 (by omega) (by omega)]
    rw [le_i] at h0
    omega
/-- levels -/
theorem abs_apt {a b : Int32} (ha : rg (-1000000) 1000000 a) (hb : rg (-1000000) 1000000 b) : (if 0 ≤ a - b then a - b else -(a - b)) = apt a b := by
  have a1 : -1000000 ≤ a.toInt := ha.1
  have a2 : a.toInt ≤ 1000000 := ha.2
  have b1 : -1000000 ≤ b.toInt := hb.1
  have b2 : b.toInt ≤ 1000000 := hb.2
  have z : (0 : Int32).toInt = 0 := by decide
  have s : (a - b).toInt = a.toInt - b.toInt := by rw [Int32.toInt_sub, bm32 (by omega) (by omega)]
  unfold apt
  by_cases h : a < b
  · rw [if_pos h, if_neg (by rw [le_i, s]; rw [lt_i] at h; omega)]
    have : ∀ x y : Int32, -(x - y) = y - x := fun x y => by grind
    exact this a b
  · rw [if_neg h, if_pos (by rw [le_i, s]; rw [lt_i] at h; omega)]
