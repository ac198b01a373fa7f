/-! ===== the class: steps, gains, the table ===== -/
def wS (A : Mem) (b t x : Nat) : Int32 := if x = t then 0 else if A 36 0 (b + 1) = 0 ∧ mMay A x (b + 1) then Int32.ofInt (64 * mCo A t x (b + 1) + 1) else -1
theorem c_wst {A : Mem} {b t : Nat} (hM : InvM A) (hb : b + 1 < 24) (ht : t < 6) (hm : mMay A t b) :
    ∀ (d u fuel : Nat) (J : Mem), u + d = 6 → d < fuel → RC J A → ∃ J', f_X0_weighSteps_p2 fuel (nI b) (nI t) (nI u) J = rV J' ∧ RC J' A ∧ (∀ g, ¬ (13 ≤ g ∧ g ≤ 16) → g ≠ 24 → J' g = J g) ∧ (∀ x, x < u → J' 24 0 x = J 24 0 x) ∧ ∀ x, u ≤ x → x < 6 → J' 24 0 x = wS A b t x := by
  intro d
  induction d with
  | zero =>
    intro u fuel J hd hf hR
    obtain ⟨fu, rfl⟩ : ∃ fu, fuel = fu + 1 := ⟨fuel - 1, by omega⟩
    have : u = 6 := by omega
    subst this
    exact ⟨J, by rw [f_X0_weighSteps_p2, if_pos (by decide)], hR, fun _ _ _ => rfl, fun _ _ => rfl, fun x h1 h2 => by omega⟩
  | succ d ih =>
    intro u fuel J hd hf hR
    obtain ⟨fu, rfl⟩ : ∃ fu, fuel = fu + 1 := ⟨fuel - 1, by omega⟩
    have hu : u < 6 := by omega
    have go : ∀ (K : Mem), RC K A → (∀ g, ¬ (13 ≤ g ∧ g ≤ 16) → g ≠ 24 → K g = J g) → (∀ x, x < u → K 24 0 x = J 24 0 x) → K 24 0 u = wS A b t u → ∃ J', f_X0_weighSteps_p2 fu (nI b) (nI t) (nI (u + 1)) K = rV J' ∧ RC J' A ∧ (∀ g, ¬ (13 ≤ g ∧ g ≤ 16) → g ≠ 24 → J' g = J g) ∧ (∀ x, x < u → J' 24 0 x = J 24 0 x) ∧ ∀ x, u ≤ x → x < 6 → J' 24 0 x = wS A b t x := by
      intro K k1 k2 k3 k4
      obtain ⟨J', e, f1, f2, f3, f4⟩ := ih (u + 1) fu K (by omega) (by omega) k1
      refine ⟨J', e, f1, fun g h1 h2 => (f2 g h1 h2).trans (k2 g h1 h2), fun x hx => (f3 x (by omega)).trans (k3 x hx), fun x h1 h2 => ?_⟩
      by_cases z : x = u
      · rw [z, f3 u (by omega), k4]
      · exact f4 x (by omega) h2
    have up : ∀ (K : Mem) (v : Int32), RC K A → (∀ g, ¬ (13 ≤ g ∧ g ≤ 16) → g ≠ 24 → K g = J g) → (∀ x, x < u → K 24 0 x = J 24 0 x) → v = wS A b t u → ∃ J', f_X0_weighSteps_p2 fu (nI b) (nI t) (nI (u + 1)) (mup K 24 0 u v) = rV J' ∧ RC J' A ∧ (∀ g, ¬ (13 ≤ g ∧ g ≤ 16) → g ≠ 24 → J' g = J g) ∧ (∀ x, x < u → J' 24 0 x = J 24 0 x) ∧ ∀ x, u ≤ x → x < 6 → J' 24 0 x = wS A b t x := by
      intro K v k1 k2 k3 k4
      refine go _ (RC_scrC k1 (fun g hg => mup_g (by omega))) (fun g h1 h2 => by rw [mup_g h2]; exact k2 g h1 h2) (fun x hx => by rw [mup_0, if_neg (by omega)]; exact k3 x hx) (by rw [mup_at, k4])
    rw [f_X0_weighSteps_p2, if_neg (show ¬ (6 : Int32) ≤ nI u from nI_ge hu (by decide))]
    by_cases h1 : u = t
    · subst h1
      rw [if_pos rfl, ix6 hu, nI_1]
      exact up J 0 hR (fun _ _ _ => rfl) (fun _ _ => rfl) (by unfold wS; rw [if_pos rfl])
    · have hne : ¬ nI u = nI t := fun z => h1 (by
        have := congrArg Int32.toNatClampNeg z
        rw [nI_clamp (by omega), nI_clamp (by omega)] at this
        exact this)
      rw [if_neg hne, nI_1, ix_nI hb (by decide), (hR.1.2 (b + 1) hb).2.2.1]
      by_cases h2 : A 36 0 (b + 1) = 0
      · rw [if_pos h2, c_fits hR hM hu hb, cI_r]
        by_cases h3 : mMay A u (b + 1)
        · obtain ⟨J2, e2, c2, r2⟩ := c_costAt hR hM ht hu hb (may_j hm h3)
          rw [bi_t h3, if_neg (by decide), e2, cI_r, ix6 hu, nI_1]
          refine up J2 _ r2 (fun g h1 h2 => c2 g h1) (fun x hx => by rw [c2 24 (by decide)]) ?_
          unfold wS mCo
          rw [if_neg h1, if_pos ⟨h2, h3⟩, Int32.ofInt_add, Int32.ofInt_mul, Int32.ofInt_toInt]
          rfl
        · rw [bi_f h3, if_pos rfl]
          unfold f_X0_weighSteps_p48
          rw [ix6 hu, nI_1]
          exact up J (-1) hR (fun _ _ _ => rfl) (fun _ _ => rfl) (by unfold wS; rw [if_neg h1, if_neg (fun z => h3 z.2)])
      · rw [if_neg h2]
        unfold f_X0_weighSteps_p48
        rw [ix6 hu, nI_1]
        exact up J (-1) hR (fun _ _ _ => rfl) (fun _ _ => rfl) (by unfold wS; rw [if_neg h1, if_neg (fun z => h2 z.1)])
theorem c_gain {I A : Mem} {t b : Nat} (hM : InvM A) (hR : RC I A) (ht : t < 6) (hb : b < 24) (hm : mMay A t b) : f_X0_gainOf (nI t) (nI b) I = rI (Int32.ofInt (64 * (mWo A t b).toInt)) I := by
  unfold f_X0_gainOf
  rw [ix6 ht, c_worthAt hM hR.2.2.2.2.2.2.2 ht hb (hR.2.1 t ht) hm.1 hm.2.2.1, cI_r, Int32.ofInt_mul, Int32.ofInt_toInt]
  rfl
theorem c_fil22 (I : Mem) (c n : Nat) (v : Int32) (hc : c + n ≤ 3480) (hn : n ≤ 24) : f_X0_fillCells (nI c) (nI n) v I = rV (fil I 22 0 c (c + n) v) := by
  have lp : ∀ (d k fuel : Nat), k + d = n → d < fuel → f_X0_fillCells_p3 fuel (nI c) (nI n) v (nI k) (fil I 22 0 c (c + k) v) = rV (fil I 22 0 c (c + n) v) := by
    intro d
    induction d with
    | zero =>
      intro k fuel hk hf
      obtain ⟨fu, rfl⟩ : ∃ fu, fuel = fu + 1 := ⟨fuel - 1, by omega⟩
      have : k = n := by omega
      subst this
      rw [f_X0_fillCells_p3, if_pos ((nI_leI (by omega) (by omega)).mpr (Nat.le_refl _))]
    | succ d ih =>
      intro k fuel hk hf
      obtain ⟨fu, rfl⟩ : ∃ fu, fuel = fu + 1 := ⟨fuel - 1, by omega⟩
      rw [f_X0_fillCells_p3, if_neg (by rw [nI_leI (by omega) (by omega)]; omega), nI_add, ix_nI (by omega) (by decide), fil_s (by omega), nI_1]
      exact ih (k + 1) fu (by omega) (by omega)
  have := lp n 0 FU (by omega) (by rw [FU_v]; omega)
  rw [Nat.add_zero, fil_0] at this
  exact this
def cOk (J A : Mem) (B a b t : Nat) : Prop := ∀ j : Nat, j ≤ a → (∀ e : WE, (LL A B b t)[j]? = some e → J 22 0 (ce b t j) = Int32.ofInt e.key ∧ (b + 1 < B → J 23 0 (ce b t j) = nI (ce (b + 1) e.u e.j))) ∧ ((LL A B b t)[j]? = none → J 22 0 (ce b t j) = -2000000000)
theorem LL_key {A : Mem} {B b t j : Nat} {e : WE} (hM : InvM A) (hB : B ≤ 24) (ht : t < 6) (hb : b < B) (h : (LL A B b t)[j]? = some e) : -32300000 ≤ e.key ∧ e.key ≤ 32300000 ∧ e.jn < 24 ∧ -504000 ≤ e.v ∧ e.v ≤ 504000 := by
  have := LL_rg hM hB (B - 1 - b) b t ht (by omega) j e h
  unfold WE.key
  omega
theorem c_src {J A : Mem} {B a b t u : Nat} (hM : InvM A) (hB : B ≤ 24) (hb : b + 1 < B) (ht : t < 6) (hu : u < 6) (h24 : J 24 0 u = wS A b t u) (hc : cOk J A B a (b + 1) u) : srcOk J a (b + 1) (64 * (mWo A t b).toInt) (nxF A b t (LL A B (b + 1))) u := by
  have hco := co_rg hM ht hu (b + 1)
  have main : ∀ st : Int, J 24 0 u = Int32.ofInt st → 0 ≤ st → st ≤ 900000 → alw A b t u → st = 64 * sC A b t u + sJ t u → srcOk J a (b + 1) (64 * (mWo A t b).toInt) (nxF A b t (LL A B (b + 1))) u := by
    intro st e1 e2 e3 e4 e5
    refine Or.inr ⟨st, e1, e2, e3, fun j hj => ⟨fun e he => ?_, fun he => ?_⟩⟩
    · obtain ⟨-, x, hx, rfl⟩ := nxF_get he
      rw [((hc j hj).1 x hx).1]
      congr 1
      unfold WE.key mkW4 WE.v WE.jn
      dsimp only
      omega
    · refine (hc j hj).2 ?_
      unfold nxF at he
      rw [if_pos e4, List.getElem?_mapIdx] at he
      cases hx : (LL A B (b + 1) u)[j]? with
      | none => rfl
      | some x => rw [hx] at he; simp at he
  unfold wS at h24
  by_cases h1 : u = t
  · rw [if_pos h1] at h24
    exact main 0 h24 (by omega) (by omega) (Or.inl h1) (by unfold sC sJ; rw [if_pos h1, if_pos h1]; rfl)
  · rw [if_neg h1] at h24
    by_cases h2 : A 36 0 (b + 1) = 0 ∧ mMay A u (b + 1)
    · rw [if_pos h2] at h24
      exact main _ h24 (by omega) (by omega) (Or.inr h2.1) (by unfold sC sJ; rw [if_neg h1, if_neg h1]; rfl)
    · rw [if_neg h2] at h24
      refine Or.inl ⟨h24, ?_⟩
      unfold nxF
      split
      · next q =>
        have hb0 : A 36 0 (b + 1) = 0 := by
          rcases q with z | z
          · exact absurd z h1
          · exact z
        have : LL A B (b + 1) u = [] := by
          cases hl : LL A B (b + 1) u with
          | nil => rfl
          | cons x X => exact absurd ⟨hb0, LL_may (j := 0) (e := x) hb (by rw [hl]; rfl)⟩ h2
        rw [this]; rfl
      · rfl
