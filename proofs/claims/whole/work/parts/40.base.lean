/-! ===== the pure proof: words and small rows ===== -/
def bi (p : Prop) [Decidable p] : Int32 := if p then 1 else 0
theorem bi_t {p : Prop} [Decidable p] (h : p) : bi p = 1 := if_pos h
theorem bi_f {p : Prop} [Decidable p] (h : ¬ p) : bi p = 0 := if_neg h
theorem bi_0 {p : Prop} [Decidable p] : bi p = 0 ↔ ¬ p := by
  by_cases h : p
  · rw [bi_t h]; simp [h]
  · rw [bi_f h]; simp [h]
theorem bi_ite {p : Prop} [Decidable p] {α : Type} (X Y : α) : (if bi p = 0 then X else Y) = if p then Y else X := by
  by_cases h : p
  · rw [bi_t h, if_neg (by decide), if_pos h]
  · rw [bi_f h, if_pos rfl, if_neg h]
theorem bi_eq {p q : Prop} [Decidable p] [Decidable q] (h : p ↔ q) : bi p = bi q := by
  by_cases hp : p
  · rw [bi_t hp, bi_t (h.mp hp)]
  · rw [bi_f hp, bi_f (fun x => hp (h.mpr x))]
theorem rZ_bi {p : Prop} [Decidable p] (I : Mem) : rZ (bi p) I = rI (bi p) I := by
  by_cases h : p
  · rw [bi_t h]; rfl
  · rw [bi_f h]; rfl
theorem cI_r (v : Int32) (J : Mem) (K : Int32 → Mem → RT) : cI (rI v J) K = K v J := rfl
theorem cV_r (J : Mem) (K : Mem → RT) : cV (rV J) K = K J := rfl
theorem cA_r (h i : Nat) (J : Mem) (K : Nat → Mem → RT) : cA h (rA h i J) K = K i J := by
  show (if h = h then K i J else none) = K i J
  rw [if_pos rfl]
theorem rI_id (Y : RT) (h : ∀ q, Y = some q → ∃ v J, q = (some (vI v), J)) : cI Y (fun v J => rI v J) = Y := by
  rcases Y with _ | q
  · rfl
  · obtain ⟨v, J, rfl⟩ := h q rfl
    rfl
theorem mup_g {I : Mem} {g i k a : Nat} {v : Int32} (h : a ≠ g) : mup I g i k v a = I a := by
  funext b c
  simp [mup, h]
theorem mup_at {I : Mem} {g i k : Nat} {v : Int32} : mup I g i k v g i k = v := by simp [mup]
theorem mup_ne {I : Mem} {g i k b c : Nat} {v : Int32} (h : ¬ (b = i ∧ c = k)) : mup I g i k v g b c = I g b c := by
  simp only [mup]
  rw [if_neg (fun q => h q.2)]
theorem mup_0 {I : Mem} {g k c : Nat} {v : Int32} : mup I g 0 k v g 0 c = if c = k then v else I g 0 c := by simp [mup]
theorem mup_t {I : Mem} {g i k b c : Nat} {v : Int32} : mup I g i k v g b c = if b = i ∧ c = k then v else I g b c := by simp [mup]
/-- numbers -/
theorem le_i {x y : Int32} : x ≤ y ↔ x.toInt ≤ y.toInt := Int32.le_iff_toInt_le
theorem lt_i {x y : Int32} : x < y ↔ x.toInt < y.toInt := Int32.lt_iff_toInt_lt
theorem eq_i {x y : Int32} : x = y ↔ x.toInt = y.toInt := ⟨fun h => h ▸ rfl, Int32.toInt_inj.mp⟩
theorem nIt {n : Nat} (h : n < 2 ^ 31) : (nI n).toInt = (n : Int) := nI_toInt h
theorem idx_cases (a : Int32) (n : Nat) (hn : n < 2 ^ 31) : (∃ t, t < n ∧ a = nI t) ∨ (a < 0 ∨ nI n ≤ a) := by
  rcases pk_ix a hn with h | h | h
  · exact Or.inr (Or.inl h)
  · exact Or.inr (Or.inr h)
  · exact Or.inl h
/-- a take's number, or none -/
theorem tk_cases (a : Int32) : (∃ t, t < 6 ∧ a = nI t) ∨ ¬ (0 ≤ a ∧ a ≤ 5) := by
  rcases idx_cases a 6 (by decide) with h | h
  · exact Or.inl h
  · refine Or.inr fun q => ?_
    rw [le_i, le_i] at q
    rw [lt_i, le_i] at h
    have e0 : (0 : Int32).toInt = 0 := by decide
    have e5 : (5 : Int32).toInt = 5 := by decide
    have e6 : (nI 6).toInt = 6 := by decide
    omega
theorem tk_ok {t : Nat} (h : t < 6) : 0 ≤ nI t ∧ nI t ≤ 5 := by
  rw [le_i, le_i, nIt (by omega)]
  have e0 : (0 : Int32).toInt = 0 := by decide
  have e5 : (5 : Int32).toInt = 5 := by decide
  omega
theorem ix6 {α : Type} {t : Nat} {k : Nat → Option α} (h : t < 6) : ix (nI t) 6 k = k t := ix_nI h (by decide)
theorem rI_inj {v w : Int32} {I J : Mem} (h : rI v I = rI w J) : v = w ∧ I = J := by
  simp only [Option.some.injEq, Prod.mk.injEq, Sum.inl.injEq] at h
  exact h
/-! the model's small functions -/
theorem m_in (a lo hi : Int32) (I : Mem) : f_X8_in a lo hi I = rI (bi (lo ≤ a ∧ a ≤ hi)) I := by
  unfold f_X8_in
  by_cases h1 : a < lo
  · rw [if_pos h1, bi_f (fun q => Int32.not_le.mpr h1 q.1)]
  · rw [if_neg h1]
    by_cases h2 : hi < a
    · rw [if_pos h2, bi_f (fun q => Int32.not_le.mpr h2 q.2)]
    · rw [if_neg h2, bi_t ⟨Int32.not_lt.mp h1, Int32.not_lt.mp h2⟩]
theorem m_isTake (a : Int32) (I : Mem) : f_X8_isTake a I = rI (bi (0 ≤ a ∧ a ≤ 5)) I := by
  unfold f_X8_isTake
  rw [m_in, cI_r, rZ_bi]
theorem m_isBeat (b : Int32) (I : Mem) : f_X8_isBeat b I = rI (bi (0 ≤ b ∧ b ≤ I 33 0 0 - 1)) I := by
  unfold f_X8_isBeat
  rw [m_in, cI_r, rZ_bi]
abbrev isP (I : Mem) (t : Nat) : Prop := I 38 0 t = 1 ∨ I 38 0 t = 2
theorem m_isPart {t : Nat} (h : t < 6) (I : Mem) : f_X8_isPart (nI t) I = rI (bi (isP I t)) I := by
  unfold f_X8_isPart f_X8_isPart_p20
  rw [ix6 h]
  by_cases h1 : I 38 0 t = 1
  · rw [if_pos h1, bi_t (Or.inl h1)]
  · rw [if_neg h1, ix6 h]
    by_cases h2 : I 38 0 t = 2
    · rw [if_pos h2, bi_t (Or.inr h2)]
    · rw [if_neg h2, bi_f (fun q => q.elim h1 h2)]
def mBeg (I : Mem) (t : Nat) : Int32 := if isP I t then I 39 0 t else 0
def mEnd (I : Mem) (t : Nat) : Int32 := if isP I t then I 40 0 t else I 33 0 0 - 1
theorem m_begins {t : Nat} (h : t < 6) (I : Mem) : f_X8_begins (nI t) I = rI (mBeg I t) I := by
  unfold f_X8_begins mBeg
  rw [m_isPart h, cI_r, bi_ite]
  split
  · rw [ix6 h]
  · rfl
theorem m_ends {t : Nat} (h : t < 6) (I : Mem) : f_X8_ends (nI t) I = rI (mEnd I t) I := by
  unfold f_X8_ends mEnd
  rw [m_isPart h, cI_r, bi_ite]
  split
  · rw [ix6 h]
  · rfl
abbrev mHas (I : Mem) (t : Nat) (b : Int32) : Prop := mBeg I t ≤ b ∧ b ≤ mEnd I t
theorem m_has {t : Nat} (h : t < 6) (b : Int32) (I : Mem) : f_X8_has (nI t) b I = rI (bi (mHas I t b)) I := by
  unfold f_X8_has
  rw [m_begins h, cI_r, m_ends h, cI_r, m_in, cI_r, rZ_bi]
theorem m_look {t : Nat} (h : t < 6) (I : Mem) : f_X8_look (nI t) I = rI (if 0 ≤ I 38 0 t then 0 else -1000002) I := by
  unfold f_X8_look
  rw [m_isTake, cI_r, bi_ite, if_pos (tk_ok h), ix6 h]
  split <;> rfl
theorem m_look_no {a : Int32} (h : ¬ (0 ≤ a ∧ a ≤ 5)) (I : Mem) : f_X8_look a I = rI (-1000001) I := by
  unfold f_X8_look
  rw [m_isTake, cI_r, bi_ite, if_neg h]
/-- the model counts a finding -/
def mAns (I : Mem) (k : Nat) : Mem := mup I 50 0 k (I 50 0 k + 1)
theorem m_ans1 (I : Mem) : f_X8_answer (-1000001) I = rI (-1000001) (mAns I 1) := rfl
theorem m_ans2 (I : Mem) : f_X8_answer (-1000002) I = rI (-1000002) (mAns I 2) := rfl
theorem m_ans3 (I : Mem) : f_X8_answer (-1000003) I = rI (-1000003) (mAns I 3) := rfl
theorem m_ans4 (I : Mem) : f_X8_answer (-1000004) I = rI (-1000004) (mAns I 4) := rfl
theorem m_ans5 (I : Mem) : f_X8_answer (-1000005) I = rI (-1000005) (mAns I 5) := rfl
theorem m_ans6 (I : Mem) : f_X8_answer (-1000006) I = rI (-1000006) (mAns I 6) := rfl
theorem m_ans7 (I : Mem) : f_X8_answer (-1000007) I = rI (-1000007) (mAns I 7) := rfl
def mChg (I : Mem) (t : Nat) : Mem := mup (mup I 46 0 t 0) 33 0 19 0
theorem m_changed {t : Nat} (h : t < 6) (I : Mem) : f_X8_changed (nI t) I = rV (mChg I t) := by
  unfold f_X8_changed mChg
  rw [ix6 h, znar_0]
/-! the class's small functions -/
theorem c_within (a lo hi : Int32) (I : Mem) : f_X7_isWithin a lo hi I = rI (bi (lo ≤ a ∧ a ≤ hi)) I := by
  unfold f_X7_isWithin
  by_cases h1 : a < lo
  · rw [if_pos h1, bi_f (fun q => Int32.not_le.mpr h1 q.1)]
  · rw [if_neg h1]
    by_cases h2 : hi < a
    · rw [if_pos h2, bi_f (fun q => Int32.not_le.mpr h2 q.2)]
    · rw [if_neg h2, bi_t ⟨Int32.not_lt.mp h1, Int32.not_lt.mp h2⟩]
theorem c_isTake (a : Int32) (I : Mem) : f_X7_isTake a I = rI (bi (0 ≤ a ∧ a ≤ 5)) I := by
  unfold f_X7_isTake
  rw [c_within, cI_r, rZ_bi]
theorem c_isKind (a : Int32) (I : Mem) : f_X7_isKind a I = rI (bi (0 ≤ a ∧ a ≤ 4)) I := by
  unfold f_X7_isKind
  rw [c_within, cI_r, rZ_bi]
def cAns (I : Mem) (k : Nat) : Mem := mup I 31 0 k (I 31 0 k + 1)
theorem c_ref1 (I : Mem) : f_X7_refuse (-1000001) I = rI (-1000001) (cAns I 0) := rfl
theorem c_ref2 (I : Mem) : f_X7_refuse (-1000002) I = rI (-1000002) (cAns I 1) := rfl
theorem c_ref3 (I : Mem) : f_X7_refuse (-1000003) I = rI (-1000003) (cAns I 2) := rfl
theorem c_ref4 (I : Mem) : f_X7_refuse (-1000004) I = rI (-1000004) (cAns I 3) := rfl
theorem c_ref5 (I : Mem) : f_X7_refuse (-1000005) I = rI (-1000005) (cAns I 4) := rfl
theorem c_ref6 (I : Mem) : f_X7_refuse (-1000006) I = rI (-1000006) (cAns I 5) := rfl
theorem c_ref7 (I : Mem) : f_X7_refuse (-1000007) I = rI (-1000007) (cAns I 6) := rfl
theorem c_askTake {t : Nat} (h : t < 6) (I : Mem) : f_X7_askTake (nI t) I = rI (if I 7 t 0 = 0 then -1000002 else 0) I := by
  unfold f_X7_askTake
  rw [c_isTake, cI_r, bi_ite, if_pos (tk_ok h), ix6 h]
  split <;> rfl
theorem c_askTake_no {a : Int32} (h : ¬ (0 ≤ a ∧ a ≤ 5)) (I : Mem) : f_X7_askTake a I = rI (-1000001) I := by
  unfold f_X7_askTake
  rw [c_isTake, cI_r, bi_ite, if_neg h]
def cChg (I : Mem) (t : Nat) : Mem := mup (mup I 7 t 1 0) 27 0 2 0
theorem c_changeTake {t : Nat} (h : t < 6) (I : Mem) : f_X7_changeTake (nI t) I = rV (cChg I t) := by
  unfold f_X7_changeTake cChg
  rw [ix6 h]
