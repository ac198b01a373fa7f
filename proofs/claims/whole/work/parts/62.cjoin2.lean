theorem mul2 (n : Nat) : (2 : Int32) * nI n = nI (2 * n) := pk_mul 2 n
theorem nI_nneg {n : Nat} (h : n < 2 ^ 31) : ¬ nI n < 0 := by
  rw [lt_i, nIt h]
  have : (0 : Int32).toInt = 0 := by decide
  omega
/-- only the cache and the ears of the joiner change -/
def cch (I J : Mem) : Prop := ∀ g, ¬ (13 ≤ g ∧ g ≤ 16) → J g = I g
theorem cch_rf {I : Mem} : cch I I := fun _ _ => rfl
theorem cch_tr {I J K : Mem} (h : cch I J) (h2 : cch J K) : cch I K := fun g hg => (h2 g hg).trans (h g hg)
theorem RC_cch {I J A : Mem} (hR : RC I A) (h : cch I J) (hC : rcC J A) : RC J A := by
  obtain ⟨rS, rT, rJ, -, rP, rF, rN, rX⟩ := hR
  refine ⟨?_, fun u hu => ?_, ?_, hC, ?_, ?_, ?_, ?_⟩
  · unfold rcS
    rw [h 1 (by decide), h 2 (by decide), h 3 (by decide), h 4 (by decide), h 5 (by decide)]; exact rS
  · unfold rcT
    rw [h 7 (by decide), h 8 (by decide), h 9 (by decide), h 10 (by decide), h 11 (by decide)]; exact rT u hu
  · unfold rcJ
    rw [h 12 (by decide), h 27 (by decide)]; exact rJ
  · unfold rcP strOk
    rw [h 27 (by decide), h 28 (by decide), h 30 (by decide)]; exact rP
  · unfold rcF
    rw [h 31 (by decide)]; exact rF
  · unfold rcN
    rw [h 0 (by decide), h 32 (by decide)]; exact rN
  · unfold rcX
    rw [h 101 (by decide), h 102 (by decide)]; exact rX
theorem rcT_cch {I J A : Mem} {u : Nat} (h : cch I J) (hT : rcT I A u) : rcT J A u := by
  unfold rcT
  rw [h 7 (by decide), h 8 (by decide), h 9 (by decide), h 10 (by decide), h 11 (by decide)]; exact hT
theorem keepC_cch {I J : Mem} (h : cch I J) : keepC I J := fun g hg => (h g (by omega)).symm
/-- what a take sounds, as the joiner reads it -/
theorem sam_in {A : Mem} {t n i : Nat} {x : Int32} (e : A 42 0 t = nI n) (hn : n ≤ 400) (ex : x = nI i) (hi : i < n) : mSam A t x = A 43 0 (400 * t + i) := by
  subst ex
  unfold mSam
  rw [e, if_pos (nb_ok hi (by omega)), nI_clamp (by omega)]
theorem sam_out {A : Mem} {t n : Nat} {x : Int32} (e : A 42 0 t = nI n) (hn : n ≤ 400) (h : x < 0 ∨ nI n ≤ x) : mSam A t x = 0 := by
  unfold mSam
  rw [e, if_neg ?_]
  rintro ⟨h1, h2⟩
  rw [le_i, sub1 (by omega)] at h2
  have z : (0 : Int32).toInt = 0 := by decide
  rcases h with h | h
  · rw [lt_i] at h; rw [le_i] at h1; omega
  · rw [le_i, nIt (by omega)] at h; omega
theorem c_lis13 {I A : Mem} {t n m : Nat} {x : Int32} (hT : rcT I A t) (e : A 42 0 t = nI n) (hn : n ≤ 400) (hm : m ≤ 40) : ∀ (d k fuel : Nat) (J : Mem), k + d = m → d < fuel → (∀ g, g ≠ 13 → J g = I g) → ∃ J', f_X1_listen_13_p3 fuel (nI m) t x (nI k) J = rV J' ∧ (∀ g, g ≠ 13 → J' g = I g) ∧ (∀ j, j < k → J' 13 0 j = J 13 0 j) ∧ ∀ j, k ≤ j → j < m → J' 13 0 j = mSam A t (x + nI j) := by
  intro d
  induction d with
  | zero =>
    intro k fuel J hk hf hg
    obtain ⟨fu, rfl⟩ : ∃ fu, fuel = fu + 1 := ⟨fuel - 1, by omega⟩
    have : k = m := by omega
    subst this
    exact ⟨J, by rw [f_X1_listen_13_p3, if_pos ((nI_leI (by omega) (by omega)).mpr (Nat.le_refl _))], hg, fun _ _ => rfl, fun j h1 h2 => by omega⟩
  | succ d ih =>
    intro k fuel J hk hf hg
    obtain ⟨fu, rfl⟩ : ∃ fu, fuel = fu + 1 := ⟨fuel - 1, by omega⟩
    have st : f_X1_listen_13_p3 (fu + 1) (nI m) t x (nI k) J = f_X1_listen_13_p3 fu (nI m) t x (nI (k + 1)) (mup J 13 0 k (mSam A t (x + nI k))) := by
      rw [f_X1_listen_13_p3, if_neg (by rw [nI_leI (by omega) (by omega)]; omega), if_neg (by rw [nI_leI (by omega) (by omega)]; omega), hg 7 (by decide), hg 8 (by decide), hT.2.2.2.2.1, e, nI_1]
      by_cases h1 : x + nI k < 0
      · rw [if_pos h1, ix_nI (by omega) (by decide), sam_out e hn (Or.inl h1)]
      · rw [if_neg h1]
        by_cases h2 : nI n ≤ x + nI k
        · rw [if_pos h2, ix_nI (by omega) (by decide), sam_out e hn (Or.inr h2)]
        · rw [if_neg h2]
          rcases idx_cases (x + nI k) n (by omega) with ⟨i, hi, ei⟩ | h | h
          · rw [sam_in e hn ei hi, ei, ix_nI (by omega) (by decide), ix_nI (by omega) (by decide), hT.2.2.2.2.2.1 i (by omega)]
          · exact absurd h h1
          · exact absurd h h2
    obtain ⟨J', e', p1, p2, p3⟩ := ih (k + 1) fu (mup J 13 0 k (mSam A t (x + nI k))) (by omega) (by omega) (fun g h => by rw [mup_g h]; exact hg g h)
    refine ⟨J', st.trans e', p1, fun j hj => ?_, fun j h1 h2 => ?_⟩
    · rw [p2 j (by omega), mup_0, if_neg (by omega)]
    · by_cases hjk : j = k
      · rw [p2 j (by omega), mup_0, if_pos hjk, hjk]
      · exact p3 j (by omega) h2
theorem c_lis14 {I A : Mem} {t n m : Nat} {x : Int32} (hT : rcT I A t) (e : A 42 0 t = nI n) (hn : n ≤ 400) (hm : m ≤ 58) : ∀ (d k fuel : Nat) (J : Mem), k + d = m → d < fuel → (∀ g, g ≠ 14 → J g = I g) → ∃ J', f_X1_listen_14_p3 fuel (nI m) t x (nI k) J = rV J' ∧ (∀ g, g ≠ 14 → J' g = I g) ∧ (∀ j, j < k → J' 14 0 j = J 14 0 j) ∧ ∀ j, k ≤ j → j < m → J' 14 0 j = mSam A t (x + nI j) := by
  intro d
  induction d with
  | zero =>
    intro k fuel J hk hf hg
    obtain ⟨fu, rfl⟩ : ∃ fu, fuel = fu + 1 := ⟨fuel - 1, by omega⟩
    have : k = m := by omega
    subst this
    exact ⟨J, by rw [f_X1_listen_14_p3, if_pos ((nI_leI (by omega) (by omega)).mpr (Nat.le_refl _))], hg, fun _ _ => rfl, fun j h1 h2 => by omega⟩
  | succ d ih =>
    intro k fuel J hk hf hg
    obtain ⟨fu, rfl⟩ : ∃ fu, fuel = fu + 1 := ⟨fuel - 1, by omega⟩
    have st : f_X1_listen_14_p3 (fu + 1) (nI m) t x (nI k) J = f_X1_listen_14_p3 fu (nI m) t x (nI (k + 1)) (mup J 14 0 k (mSam A t (x + nI k))) := by
      rw [f_X1_listen_14_p3, if_neg (by rw [nI_leI (by omega) (by omega)]; omega), if_neg (by rw [nI_leI (by omega) (by omega)]; omega), hg 7 (by decide), hg 8 (by decide), hT.2.2.2.2.1, e, nI_1]
      by_cases h1 : x + nI k < 0
      · rw [if_pos h1, ix_nI (by omega) (by decide), sam_out e hn (Or.inl h1)]
      · rw [if_neg h1]
        by_cases h2 : nI n ≤ x + nI k
        · rw [if_pos h2, ix_nI (by omega) (by decide), sam_out e hn (Or.inr h2)]
        · rw [if_neg h2]
          rcases idx_cases (x + nI k) n (by omega) with ⟨i, hi, ei⟩ | h | h
          · rw [sam_in e hn ei hi, ei, ix_nI (by omega) (by decide), ix_nI (by omega) (by decide), hT.2.2.2.2.2.1 i (by omega)]
          · exact absurd h h1
          · exact absurd h h2
    obtain ⟨J', e', p1, p2, p3⟩ := ih (k + 1) fu (mup J 14 0 k (mSam A t (x + nI k))) (by omega) (by omega) (fun g h => by rw [mup_g h]; exact hg g h)
    refine ⟨J', st.trans e', p1, fun j hj => ?_, fun j h1 h2 => ?_⟩
    · rw [p2 j (by omega), mup_0, if_neg (by omega)]
    · by_cases hjk : j = k
      · rw [p2 j (by omega), mup_0, if_pos hjk, hjk]
      · exact p3 j (by omega) h2
theorem c_sq13 {J : Mem} {w : Nat} (ew : J 12 0 1 = nI w) (hw : w ≤ 20) : f_X1_squaresOf_13 J = rI (sqs (fun i => J 13 0 i) (2 * w)) J := by
  have key : ∀ (d k fuel : Nat), k + d = 2 * w → d < fuel → f_X1_squaresOf_13_p4 fuel (sqs (fun i => J 13 0 i) k) (nI k) J = rI (sqs (fun i => J 13 0 i) (2 * w)) J := by
    intro d
    induction d with
    | zero =>
      intro k fuel hk hf
      obtain ⟨fu, rfl⟩ : ∃ fu, fuel = fu + 1 := ⟨fuel - 1, by omega⟩
      have : k = 2 * w := by omega
      subst this
      rw [f_X1_squaresOf_13_p4, ew, mul2 w, if_pos ((nI_leI (by omega) (by omega)).mpr (Nat.le_refl _))]
    | succ d ih =>
      intro k fuel hk hf
      obtain ⟨fu, rfl⟩ : ∃ fu, fuel = fu + 1 := ⟨fuel - 1, by omega⟩
      rw [f_X1_squaresOf_13_p4, ew, mul2 w, if_neg (by rw [nI_leI (by omega) (by omega)]; omega), ix_nI (by omega) (by decide), ix_nI (by omega) (by decide), nI_1]
      exact ih (k + 1) fu (by omega) (by omega)
  exact key (2 * w) 0 FU (by omega) (by rw [FU_v]; omega)
theorem c_sq14 {J : Mem} {w : Nat} (ew : J 12 0 1 = nI w) (hw : w ≤ 20) : f_X1_squaresOf_14 J = rI (sqs (fun i => J 14 0 i) (2 * w)) J := by
  have key : ∀ (d k fuel : Nat), k + d = 2 * w → d < fuel → f_X1_squaresOf_14_p4 fuel (sqs (fun i => J 14 0 i) k) (nI k) J = rI (sqs (fun i => J 14 0 i) (2 * w)) J := by
    intro d
    induction d with
    | zero =>
      intro k fuel hk hf
      obtain ⟨fu, rfl⟩ : ∃ fu, fuel = fu + 1 := ⟨fuel - 1, by omega⟩
      have : k = 2 * w := by omega
      subst this
      rw [f_X1_squaresOf_14_p4, ew, mul2 w, if_pos ((nI_leI (by omega) (by omega)).mpr (Nat.le_refl _))]
    | succ d ih =>
      intro k fuel hk hf
      obtain ⟨fu, rfl⟩ : ∃ fu, fuel = fu + 1 := ⟨fuel - 1, by omega⟩
      rw [f_X1_squaresOf_14_p4, ew, mul2 w, if_neg (by rw [nI_leI (by omega) (by omega)]; omega), ix_nI (by omega) (by decide), ix_nI (by omega) (by decide), nI_1]
      exact ih (k + 1) fu (by omega) (by omega)
  exact key (2 * w) 0 FU (by omega) (by rw [FU_v]; omega)
theorem c_liken {J : Mem} {w h : Nat} (ew : J 12 0 1 = nI w) (hw : w ≤ 20) (hh : h ≤ 18) (q : Int32) : f_X1_liken (nI h) q J = rI (if q = 0 then 0 else 2000 * dotC (fun i => J 13 0 i) (fun i => J 14 0 (i + h)) (2 * w) / q) J := by
  have key : ∀ (d k fuel : Nat), k + d = 2 * w → d < fuel → f_X1_liken_p5 fuel (nI h) q (dotC (fun i => J 13 0 i) (fun i => J 14 0 (i + h)) k) (nI k) J = rI (if q = 0 then 0 else 2000 * dotC (fun i => J 13 0 i) (fun i => J 14 0 (i + h)) (2 * w) / q) J := by
    intro d
    induction d with
    | zero =>
      intro k fuel hk hf
      obtain ⟨fu, rfl⟩ : ∃ fu, fuel = fu + 1 := ⟨fuel - 1, by omega⟩
      have : k = 2 * w := by omega
      subst this
      rw [f_X1_liken_p5, ew, mul2 w, if_pos ((nI_leI (by omega) (by omega)).mpr (Nat.le_refl _))]
      by_cases h0 : q = 0
      · rw [if_pos h0, if_pos h0]
      · rw [if_neg h0, if_neg h0, if_neg h0]
    | succ d ih =>
      intro k fuel hk hf
      obtain ⟨fu, rfl⟩ : ∃ fu, fuel = fu + 1 := ⟨fuel - 1, by omega⟩
      rw [f_X1_liken_p5, ew, mul2 w, if_neg (by rw [nI_leI (by omega) (by omega)]; omega), ix_nI (by omega) (by decide), nI_add, ix_nI (by omega) (by decide), nI_1]
      exact ih (k + 1) fu (by omega) (by omega)
  exact key (2 * w) 0 FU (by omega) (by rw [FU_v]; omega)
theorem dotC_cong {x y x' y' : Nat → Int32} : ∀ n, (∀ i, i < n → x i = x' i) → (∀ i, i < n → y i = y' i) → dotC x y n = dotC x' y' n := by
  intro n
  induction n with
  | zero => intro _ _; rfl
  | succ n ih =>
    intro h1 h2
    rw [dotC, dotC, ih (fun i hi => h1 i (by omega)) (fun i hi => h2 i (by omega)), h1 n (by omega), h2 n (by omega)]
theorem cLk_cong {x y x' y' : Nat → Int32} {n : Nat} (h1 : ∀ i, i < n → x i = x' i) (h2 : ∀ i, i < n → y i = y' i) : cLk x y n = cLk x' y' n := by
  unfold cLk
  rw [sqs_dot, sqs_dot, sqs_dot, sqs_dot, dotC_cong n h1 h1, dotC_cong n h2 h2, dotC_cong n h1 h2]
/-- the take's frame, as the class keeps it -/
theorem c_startOf {I A : Mem} {t b : Nat} (hT : rcT I A t) (hl : A 46 0 t = 1) (hb : b < 25) (hh : mHas A t (nI b) ∨ (0 < b ∧ mHas A t (nI (b - 1)))) : f_X6_startOf t (nI b) I = rI (10 * mFr A t b) I := by
  unfold f_X6_startOf
  rw [if_neg (nI_nneg (by omega)), if_neg (show ¬ (24 : Int32) < nI b from fun z => by have := (nI_ltI (a := 24) (by omega) (by omega)).mp z; omega), ix_nI (by omega) (by decide), hT.2.2.2.2.2.2.2.2.2 hl b hb hh]
theorem c_frameAt {I A : Mem} {t b : Nat} (hT : rcT I A t) (hl : A 46 0 t = 1) (hb : b < 25) (hh : mHas A t (nI b) ∨ (0 < b ∧ mHas A t (nI (b - 1)))) : f_X6_frameAt t (nI b) I = rI (mFr A t b) I := by
  unfold f_X6_frameAt
  rw [if_neg (nI_nneg (by omega)), if_neg (show ¬ (24 : Int32) < nI b from fun z => by have := (nI_ltI (a := 24) (by omega) (by omega)).mp z; omega), ix_nI (by omega) (by decide), hT.2.2.2.2.2.2.2.2.2 hl b hb hh]
