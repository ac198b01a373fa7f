/-! ===== the model: the table of costs ===== -/
def sK (A X : Mem) : Prop := ∀ g, ¬ (52 ≤ g ∧ g ≤ 62) → X g = A g
theorem sK_K {A X : Mem} (h : sK A X) : agK A X := ⟨fun g h1 h2 => h g (by omega), fun k _ => by rw [h 33 (by decide)]⟩
theorem sK_N {A X : Mem} (h : sK A X) : agN A X := ⟨fun g h1 h2 => h g (by omega), fun k _ => by rw [h 33 (by decide)]⟩
theorem sK_M {A X : Mem} (h : sK A X) (hM : InvM A) : InvM X := InvM_cong hM (sK_K h) (by rw [h 33 (by decide)]; exact hM.2)
theorem sK_may {A X : Mem} (h : sK A X) (hM : InvM A) {t b : Nat} (ht : t < 6) (hb : b < 24) : f_X8_may (nI t) (nI b) X = rI (bi (mMay A t b)) X := by
  rw [m_may (sK_M h hM) ht hb]
  congr 1
  by_cases q : mMay A t b
  · rw [bi_t q, bi_t ((agN_may (sK_N h)).mpr q)]
  · rw [bi_f q, bi_f (fun z => q ((agN_may (sK_N h)).mp z))]
theorem sK_cost {A X : Mem} (h : sK A X) (hM : InvM A) {s t b : Nat} (hs : s < 6) (ht : t < 6) (hb : b < 24) : f_X8_costOf (nI s) (nI t) (nI b) X = rI (Int32.ofInt (mCo A s t b)) X := by
  rw [m_costOf (sK_M h hM) hs ht (by omega), ← agN_co (sK_N h)]
  unfold mCo
  rw [Int32.ofInt_toInt]
theorem sK_worth {A X : Mem} (h : sK A X) {t b : Nat} (ht : t < 6) (hb : b < 24) : f_X8_worthOf (nI t) (nI b) X = rI (Int32.ofInt (mWo A t b).toInt) X := by
  rw [m_worthOf ht hb, agN_wo (sK_N h), Int32.ofInt_toInt]
def ct (b s t : Nat) : Nat := 6 * (6 * b + s) + t
theorem ct_ix (b s t : Nat) : 6 * (6 * nI b + nI s) + nI t = nI (ct b s t) := by
  have m6 : ∀ n : Nat, 6 * nI n = nI (6 * n) := fun n => pk_mul 6 n
  rw [m6, nI_add, m6, nI_add]
  rfl
def ctOk (X A : Mem) (b s t : Nat) : Prop := s ≠ t → mMay A s (b - 1) → mMay A t b → X 57 0 (ct b s t) = Int32.ofInt (mCo A s t b)
theorem m_fc3 {A : Mem} {b s : Nat} {K12 : Int32 → Int32 → Mem → RT} (hM : InvM A) (hb1 : 1 ≤ b) (hb : b < 24) (hs : s < 6) :
    ∀ (d t fuel : Nat) (X : Mem), t + d = 6 → d < fuel → sK A X → ∃ X', f_X8_findCosts_p20 K12 fuel (nI b) (nI s) (nI t) X = K12 (nI b) (nI (s + 1)) X' ∧ (∀ g, g ≠ 57 → X' g = X g) ∧ (∀ c, ¬ (ct b s t ≤ c ∧ c < ct b s 6) → X' 57 0 c = X 57 0 c) ∧ ∀ x, t ≤ x → x < 6 → ctOk X' A b s x := by
  intro d
  induction d with
  | zero =>
    intro t fuel X hd hf hk
    obtain ⟨fu, rfl⟩ : ∃ fu, fuel = fu + 1 := ⟨fuel - 1, by omega⟩
    have : t = 6 := by omega
    subst this
    exact ⟨X, by rw [f_X8_findCosts_p20, if_pos (by decide), nI_1], fun _ _ => rfl, fun _ _ => rfl, fun x h1 h2 => by omega⟩
  | succ d ih =>
    intro t fuel X hd hf hk
    obtain ⟨fu, rfl⟩ : ∃ fu, fuel = fu + 1 := ⟨fuel - 1, by omega⟩
    have ht : t < 6 := by omega
    have hct : ct b s t < 864 := by unfold ct; omega
    have go : ∀ v : Int32, (s ≠ t → mMay A s (b - 1) → mMay A t b → v = Int32.ofInt (mCo A s t b)) → ∃ X', f_X8_findCosts_p20 K12 fu (nI b) (nI s) (nI (t + 1)) (mup X 57 0 (ct b s t) v) = K12 (nI b) (nI (s + 1)) X' ∧ (∀ g, g ≠ 57 → X' g = X g) ∧ (∀ c, ¬ (ct b s t ≤ c ∧ c < ct b s 6) → X' 57 0 c = X 57 0 c) ∧ ∀ x, t ≤ x → x < 6 → ctOk X' A b s x := by
      intro v hv
      obtain ⟨X', e, g1, g2, g3⟩ := ih (t + 1) fu (mup X 57 0 (ct b s t) v) (by omega) (by omega) (fun g hg => by rw [mup_g (by omega)]; exact hk g hg)
      refine ⟨X', e, fun g hg => by rw [g1 g hg, mup_g hg], fun c hc => ?_, fun x h1 h2 => ?_⟩
      · rw [g2 c (by unfold ct at *; omega), mup_0, if_neg (by unfold ct at *; omega)]
      · by_cases z : x = t
        · subst z
          intro q1 q2 q3
          rw [g2 _ (by unfold ct; omega), mup_at]
          exact hv q1 q2 q3
        · exact g3 x (by omega) h2
    have p55 : (¬ (s ≠ t ∧ mMay A s (b - 1) ∧ mMay A t b)) → ∃ X', f_X8_findCosts_p55 (fun a1 a2 a3 I => f_X8_findCosts_p20 K12 fu a1 a2 a3 I) (nI b) (nI s) (nI t) X = K12 (nI b) (nI (s + 1)) X' ∧ (∀ g, g ≠ 57 → X' g = X g) ∧ (∀ c, ¬ (ct b s t ≤ c ∧ c < ct b s 6) → X' 57 0 c = X 57 0 c) ∧ ∀ x, t ≤ x → x < 6 → ctOk X' A b s x := by
      intro hn
      unfold f_X8_findCosts_p55 f_X8_findCosts_p56
      rw [if_pos rfl, ct_ix, ix_nI hct (by decide), nI_1]
      exact go 0 (fun q1 q2 q3 => absurd ⟨q1, q2, q3⟩ hn)
    rw [f_X8_findCosts_p20, if_neg (show ¬ (6 : Int32) ≤ nI t from nI_ge ht (by decide))]
    by_cases h1 : s = t
    · rw [if_pos (by rw [h1])]
      exact p55 (fun z => z.1 h1)
    · rw [if_neg (show ¬ nI s = nI t from fun z => h1 ((nI_inj (by omega) (by omega)).mp z)), mM1 hb1, sK_may hk hM hs (by omega), cI_r]
      by_cases h2 : mMay A s (b - 1)
      · rw [bi_t h2, if_neg (by decide), sK_may hk hM ht hb, cI_r]
        by_cases h3 : mMay A t b
        · rw [bi_t h3, if_neg (by decide)]
          unfold f_X8_findCosts_p56
          rw [if_neg (by decide), sK_cost hk hM hs ht hb, cI_r, ct_ix, ix_nI hct (by decide), nI_1]
          exact go _ (fun _ _ _ => rfl)
        · rw [bi_f h3, if_pos rfl]
          exact p55 (fun z => h3 z.2.2)
      · rw [bi_f h2, if_pos rfl]
        exact p55 (fun z => h2 z.2.1)
theorem ctOk_fr {X X' A : Mem} {b s t : Nat} (h : ctOk X A b s t) (e : X' 57 0 (ct b s t) = X 57 0 (ct b s t)) : ctOk X' A b s t := fun q1 q2 q3 => by rw [e]; exact h q1 q2 q3
theorem m_fc2 {A : Mem} {b : Nat} {K2 : Int32 → Mem → RT} (hM : InvM A) (hb1 : 1 ≤ b) (hb : b < 24) :
    ∀ (d s fuel : Nat) (X : Mem), s + d = 6 → d < fuel → sK A X → ∃ X', f_X8_findCosts_p12 K2 fuel (nI b) (nI s) X = K2 (nI (b + 1)) X' ∧ (∀ g, g ≠ 57 → X' g = X g) ∧ (∀ c, ¬ (ct b s 0 ≤ c ∧ c < ct b 6 0) → X' 57 0 c = X 57 0 c) ∧ ∀ y, s ≤ y → y < 6 → ∀ x, x < 6 → ctOk X' A b y x := by
  intro d
  induction d with
  | zero =>
    intro s fuel X hd hf hk
    obtain ⟨fu, rfl⟩ : ∃ fu, fuel = fu + 1 := ⟨fuel - 1, by omega⟩
    have : s = 6 := by omega
    subst this
    exact ⟨X, by rw [f_X8_findCosts_p12, if_pos (by decide), nI_1], fun _ _ => rfl, fun _ _ => rfl, fun x h1 h2 => by omega⟩
  | succ d ih =>
    intro s fuel X hd hf hk
    obtain ⟨fu, rfl⟩ : ∃ fu, fuel = fu + 1 := ⟨fuel - 1, by omega⟩
    obtain ⟨X1, e1, g1, c1, o1⟩ := m_fc3 (K12 := fun a1 a2 I => f_X8_findCosts_p12 K2 fu a1 a2 I) hM hb1 hb (show s < 6 by omega) 6 0 FU X (by omega) (by rw [FU_v]; omega) hk
    obtain ⟨X2, e2, g2, c2, o2⟩ := ih (s + 1) fu X1 (by omega) (by omega) (fun g hg => by rw [g1 g (by omega)]; exact hk g hg)
    refine ⟨X2, ?_, fun g hg => (g2 g hg).trans (g1 g hg), fun c hc => ?_, fun y h1 h2 x hx => ?_⟩
    · rw [f_X8_findCosts_p12, if_neg (show ¬ (6 : Int32) ≤ nI s from nI_ge (show s < 6 by omega) (by decide))]
      exact Eq.trans e1 e2
    · rw [c2 c (by unfold ct at *; omega), c1 c (by unfold ct at *; omega)]
    · by_cases z : y = s
      · subst z
        exact ctOk_fr (o1 x (by omega) hx) (c2 _ (by unfold ct; omega))
      · exact o2 y (by omega) h2 x hx
theorem m_fc1 {A : Mem} {B : Nat} (hM : InvM A) (hB : B ≤ 24) (eB : A 33 0 0 = nI B) :
    ∀ (d b fuel : Nat) (X : Mem), b + d = B → d < fuel → 1 ≤ b → sK A X → ∃ X', f_X8_findCosts_p2 fuel (nI b) X = rV X' ∧ (∀ g, g ≠ 57 → X' g = X g) ∧ (∀ c, c < ct b 0 0 → X' 57 0 c = X 57 0 c) ∧ ∀ b', b ≤ b' → b' < B → ∀ y, y < 6 → ∀ x, x < 6 → ctOk X' A b' y x := by
  intro d
  induction d with
  | zero =>
    intro b fuel X hd hf hb1 hk
    obtain ⟨fu, rfl⟩ : ∃ fu, fuel = fu + 1 := ⟨fuel - 1, by omega⟩
    have : b = B := by omega
    subst this
    exact ⟨X, by rw [f_X8_findCosts_p2, hk 33 (by decide), eB, if_pos ((nI_leI (by omega) (by omega)).mpr (Nat.le_refl _))], fun _ _ => rfl, fun _ _ => rfl, fun x h1 h2 => by omega⟩
  | succ d ih =>
    intro b fuel X hd hf hb1 hk
    obtain ⟨fu, rfl⟩ : ∃ fu, fuel = fu + 1 := ⟨fuel - 1, by omega⟩
    obtain ⟨X1, e1, g1, c1, o1⟩ := m_fc2 (K2 := fun a1 I => f_X8_findCosts_p2 fu a1 I) hM hb1 (show b < 24 by omega) 6 0 FU X (by omega) (by rw [FU_v]; omega) hk
    obtain ⟨X2, e2, g2, c2, o2⟩ := ih (b + 1) fu X1 (by omega) (by omega) (by omega) (fun g hg => by rw [g1 g (by omega)]; exact hk g hg)
    refine ⟨X2, ?_, fun g hg => (g2 g hg).trans (g1 g hg), fun c hc => ?_, fun b' h1 h2 y hy x hx => ?_⟩
    · rw [f_X8_findCosts_p2, hk 33 (by decide), eB, if_neg (by rw [nI_leI (by omega) (by omega)]; omega)]
      exact Eq.trans e1 e2
    · rw [c2 c (by unfold ct at *; omega), c1 c (by unfold ct at *; omega)]
    · by_cases z : b' = b
      · subst z
        exact ctOk_fr (o1 y (by omega) hy x hx) (c2 _ (by unfold ct; omega))
      · exact o2 b' (by omega) h2 y hy x hx
theorem m_costs {A : Mem} {B : Nat} (hM : InvM A) (hB1 : 1 ≤ B) (hB : B ≤ 24) (eB : A 33 0 0 = nI B) : ∃ X, f_X8_findCosts A = rV X ∧ (∀ g, g ≠ 57 → X g = A g) ∧ ∀ b, 1 ≤ b → b < B → ∀ s, s < 6 → ∀ t, t < 6 → ctOk X A b s t := by
  obtain ⟨X, e, g, -, o⟩ := m_fc1 hM hB eB (B - 1) 1 FU A (by omega) (by rw [FU_v]; omega) (by omega) (fun _ _ => rfl)
  exact ⟨X, e, g, o⟩
