theorem LL_none {A : Mem} {B b t : Nat} (hb : b < B) (h : ¬ mMay A t b) : LL A B b t = [] := by
  cases hl : LL A B b t with
  | nil => rfl
  | cons x X => exact absurd (LL_may (j := 0) (e := x) hb (by rw [hl]; rfl)) h
theorem ce_0 (b t j : Nat) : ce b t j = ce b t 0 + j := rfl
theorem c_fr1 {A J : Mem} {B a b t fu : Nat} {K10 : Int32 → Int32 → Mem → RT} (hM : InvM A) (hB : B ≤ 24) (eB : A 33 0 0 = nI B) (ha : a < 20) (hb : b < B) (ht : t < 6) (hR : RC J A) (hc : b + 1 < B → ∀ u, u < 6 → cOk J A B a (b + 1) u) :
    ∃ J', f_X0_findRanked_p16 K10 (fu + 1) (nI a) (nI b) (nI t) J = f_X0_findRanked_p16 K10 fu (nI a) (nI b) (nI (t + 1)) J' ∧ RC J' A ∧ (∀ g, ¬ (13 ≤ g ∧ g ≤ 16) → ¬ (22 ≤ g ∧ g ≤ 25) → J' g = J g) ∧ (∀ c, ¬ (ce b t 0 ≤ c ∧ c ≤ ce b t 0 + a) → J' 22 0 c = J 22 0 c ∧ J' 23 0 c = J 23 0 c) ∧ cOk J' A B a b t := by
  have hce : ce b t 0 + (a + 1) ≤ 3480 := by unfold ce; omega
  have hf : ∀ g, g ≠ 22 → fil J 22 0 (ce b t 0) (ce b t 0 + (a + 1)) (-2000000000) g = J g := fun g hg => fil_g hg
  have hRf : RC (fil J 22 0 (ce b t 0) (ce b t 0 + (a + 1)) (-2000000000)) A := RC_scrC hR (fun g hg => hf g (by omega))
  have f22 : ∀ c, fil J 22 0 (ce b t 0) (ce b t 0 + (a + 1)) (-2000000000) 22 0 c = if ce b t 0 ≤ c ∧ c < ce b t 0 + (a + 1) then -2000000000 else J 22 0 c := fun c => fil_at
  generalize hJ1 : fil J 22 0 (ce b t 0) (ce b t 0 + (a + 1)) (-2000000000) = J1 at hf hRf f22
  have start : f_X0_findRanked_p16 K10 (fu + 1) (nI a) (nI b) (nI t) J = if bi (mMay A t b) = 0 then f_X0_findRanked_p79 (fun a1 a2 a3 I => f_X0_findRanked_p16 K10 fu a1 a2 a3 I) (nI a) (nI b) (nI t) (nI (ce b t 0)) J1 else if nI b = nI (B - 1) then (cI (f_X0_gainOf (nI t) (nI b) J1) fun v18 J17 => ix (nI (ce b t 0)) 3480 fun j19 => f_X0_findRanked_p16 K10 fu (nI a) (nI b) (nI t + 1) (mup J17 22 0 j19 v18)) else f_X0_findRanked_p79 (fun a1 a2 a3 I => f_X0_findRanked_p16 K10 fu a1 a2 a3 I) (nI a) (nI b) (nI t) (nI (ce b t 0)) J1 := by
    rw [f_X0_findRanked_p16, if_neg (show ¬ (6 : Int32) ≤ nI t from nI_ge ht (by decide)), show f_X0_cellOf (nI b) (nI t) 0 J = rI (nI (ce b t 0)) J from cellOf_t b t 0 J, cI_r, nI_1, c_fil22 _ _ _ _ hce (by omega), cV_r, hJ1, c_fits hRf hM ht (by omega), cI_r, hRf.1.1, eB, mM1 (by omega)]
  rw [start]
  by_cases hm : mMay A t b
  · rw [bi_t hm, if_neg (by decide)]
    by_cases hl : b + 1 < B
    · rw [if_neg (by intro z; have := congrArg Int32.toNatClampNeg z; rw [nI_clamp (by omega), nI_clamp (by omega)] at this; omega)]
      obtain ⟨J2, e2, r2, g2, -, s2⟩ := c_wst hM (b := b) (by omega) ht hm 6 0 FU J1 (by omega) (by rw [FU_v]; omega) hRf
      have e2' : f_X0_weighSteps (nI b) (nI t) J1 = rV J2 := e2
      have hw := wo_rg hM ht (b := b) (by omega)
      obtain ⟨J3, e3, g3, q3, m3⟩ := c_merge (I := J2) (a := a) (b' := b + 1) (tb := ce b t 0) (gk := 64 * (mWo A t b).toInt) (G := nxF A b t (LL A B (b + 1))) (by omega) (by omega) (by omega) (fun u j i hu hj hi => by unfold ce; omega) ⟨by omega, by omega, fun u j e hu he => by
        obtain ⟨y1, y2⟩ := nxF_uj u j e he
        obtain ⟨-, x, hx, rfl⟩ := nxF_get he
        have kx := LL_key hM hB hu hl hx
        have hco := co_rg hM ht hu (b + 1)
        refine ⟨y1, y2, ?_⟩
        have c : 0 ≤ sC A b t u ∧ sC A b t u ≤ 13000 := by
          unfold sC
          split
          · omega
          · exact hco
        have c2 : sJ t u ≤ 1 := by
          unfold sJ
          split <;> omega
        unfold WE.key mkW4 WE.v WE.jn at *
        dsimp only
        omega⟩ (fun u hu => c_src hM hB hl ht hu (s2 u (by omega) hu) (fun j hj => by
        rw [g2 22 (by decide) (by decide), g2 23 (by decide) (by decide), hf 23 (by decide), f22, if_neg (by unfold ce; omega)]
        exact hc hl u hu j hj))
      refine ⟨J3, ?_, RC_scrC r2 (fun g hg => g3 g (by omega) (by omega) (by omega)), fun g h1 h2 => by rw [g3 g (by omega) (by omega) (by omega), g2 g h1 (by omega), hf g (by omega)], fun c hcc => ?_, fun j hj => ?_⟩
      · unfold f_X0_findRanked_p79
        rw [c_fits hRf hM ht (by omega), cI_r, bi_t hm, if_neg (by decide), e2', cV_r, c_gain hM r2 ht (by omega) hm, cI_r, nI_1, e3, cV_r, nI_1]
      · obtain ⟨y1, y2⟩ := q3 c hcc
        rw [y1, y2, g2 22 (by decide) (by decide), g2 23 (by decide) (by decide), hf 23 (by decide), f22, if_neg (by omega)]
        exact ⟨rfl, rfl⟩
      · have := m3 j hj
        rw [LL_step hl, if_pos hm, ce_0 b t j]
        refine ⟨fun e he => ⟨(this.1 e he).1, fun _ => (this.1 e he).2⟩, fun he => ?_⟩
        rw [this.2 he, g2 22 (by decide) (by decide), f22, if_pos (by omega)]
    · have hbB : b = B - 1 := by omega
      rw [if_pos (by rw [hbB]), c_gain hM hRf ht (by omega) hm, cI_r, ix_nI (by omega) (by decide), nI_1]
      refine ⟨_, rfl, RC_scrC hRf (fun g hg => mup_g (by omega)), fun g h1 h2 => by rw [mup_g (by omega), hf g (by omega)], fun c hcc => ?_, fun j hj => ?_⟩
      · rw [mup_0, if_neg (by omega), mup_g (by decide), f22, if_neg (by omega), hf 23 (by decide)]
        exact ⟨rfl, rfl⟩
      · have hLL : LL A B b t = [mkW4 (mWo A t b).toInt 0 0 0] := by
          rw [hbB, LL_last, if_pos (by rw [← hbB]; exact hm)]
        rw [hLL, ce_0 b t j, mup_0]
        cases j with
        | zero =>
          rw [List.getElem?_cons_zero, if_pos (by omega)]
          refine ⟨fun e he => ⟨?_, fun z => absurd z hl⟩, fun he => by simp at he⟩
          simp only [Option.some.injEq] at he
          subst he
          congr 1
          unfold WE.key mkW4 WE.v WE.jn
          dsimp only
          omega
        | succ j =>
          rw [if_neg (by omega), f22, if_pos (by omega)]
          exact ⟨fun e he => by simp at he, fun _ => rfl⟩
  · rw [bi_f hm, if_pos rfl]
    refine ⟨J1, ?_, hRf, fun g h1 h2 => hf g (by omega), fun c hcc => ?_, fun j hj => ?_⟩
    · unfold f_X0_findRanked_p79
      rw [c_fits hRf hM ht (by omega), cI_r, bi_f hm, if_pos rfl, nI_1]
    · rw [f22, if_neg (by omega), hf 23 (by decide)]
      exact ⟨rfl, rfl⟩
    · rw [LL_none hb hm, ce_0 b t j, f22, if_pos (by omega)]
      exact ⟨fun e he => by simp at he, fun _ => rfl⟩
theorem cOk_fr {J J' A : Mem} {B a b t : Nat} (h : cOk J A B a b t) (h' : ∀ j, j ≤ a → J' 22 0 (ce b t j) = J 22 0 (ce b t j) ∧ J' 23 0 (ce b t j) = J 23 0 (ce b t j)) : cOk J' A B a b t := by
  intro j hj
  rw [(h' j hj).1, (h' j hj).2]
  exact h j hj
theorem c_fr6 {A : Mem} {B a b : Nat} {K10 : Int32 → Int32 → Mem → RT} (hM : InvM A) (hB : B ≤ 24) (eB : A 33 0 0 = nI B) (ha : a < 20) (hb : b < B) :
    ∀ (d t fuel : Nat) (J : Mem), t + d = 6 → d < fuel → RC J A → (b + 1 < B → ∀ u, u < 6 → cOk J A B a (b + 1) u) → (∀ u, u < t → cOk J A B a b u) →
    ∃ J', f_X0_findRanked_p16 K10 fuel (nI a) (nI b) (nI t) J = K10 (nI a) (nI b + (-1)) J' ∧ RC J' A ∧ (∀ g, ¬ (13 ≤ g ∧ g ≤ 16) → ¬ (22 ≤ g ∧ g ≤ 25) → J' g = J g) ∧ (∀ c, ¬ (ce b 0 0 ≤ c ∧ c < ce b 0 0 + 144) → J' 22 0 c = J 22 0 c ∧ J' 23 0 c = J 23 0 c) ∧ ∀ u, u < 6 → cOk J' A B a b u := by
  intro d
  induction d with
  | zero =>
    intro t fuel J hd hf hR hc ho
    obtain ⟨fu, rfl⟩ : ∃ fu, fuel = fu + 1 := ⟨fuel - 1, by omega⟩
    have : t = 6 := by omega
    subst this
    exact ⟨J, by rw [f_X0_findRanked_p16, if_pos (by decide)], hR, fun _ _ _ => rfl, fun _ _ => ⟨rfl, rfl⟩, ho⟩
  | succ d ih =>
    intro t fuel J hd hf hR hc ho
    obtain ⟨fu, rfl⟩ : ∃ fu, fuel = fu + 1 := ⟨fuel - 1, by omega⟩
    obtain ⟨J1, e1, r1, g1, q1, o1⟩ := c_fr1 (K10 := K10) (fu := fu) hM hB eB ha hb (show t < 6 by omega) hR hc
    obtain ⟨J2, e2, r2, g2, q2, o2⟩ := ih (t + 1) fu J1 (by omega) (by omega) r1 (fun hl u hu => cOk_fr (hc hl u hu) (fun j hj => q1 _ (by unfold ce; omega))) (fun u hu => by
      by_cases z : u = t
      · rw [z]; exact o1
      · exact cOk_fr (ho u (by omega)) (fun j hj => q1 _ (by unfold ce; omega)))
    refine ⟨J2, by rw [e1, e2], r2, fun g h1 h2 => (g2 g h1 h2).trans (g1 g h1 h2), fun c hcc => ?_, o2⟩
    obtain ⟨y1, y2⟩ := q2 c hcc
    obtain ⟨z1, z2⟩ := q1 c (by unfold ce at hcc ⊢; omega)
    exact ⟨y1.trans z1, y2.trans z2⟩
theorem c_frB {A : Mem} {B a : Nat} (hM : InvM A) (hB : B ≤ 24) (eB : A 33 0 0 = nI B) (ha : a < 20) :
    ∀ (b fuel : Nat) (J : Mem), b < B → b + 1 < fuel → RC J A → (∀ b', b < b' → b' < B → ∀ u, u < 6 → cOk J A B a b' u) →
    ∃ J' fu, f_X0_findRanked_p10 fuel (nI a) (nI b) J = f_X0_findRanked_p10 (fu + 1) (nI a) (-1) J' ∧ RC J' A ∧ (∀ g, ¬ (13 ≤ g ∧ g ≤ 16) → ¬ (22 ≤ g ∧ g ≤ 25) → J' g = J g) ∧ ∀ b', b' < B → ∀ u, u < 6 → cOk J' A B a b' u := by
  intro b
  induction b with
  | zero =>
    intro fuel J hb hf hR hc
    obtain ⟨fu, rfl⟩ : ∃ fu, fuel = fu + 2 := ⟨fuel - 2, by omega⟩
    obtain ⟨J1, e1, r1, g1, q1, o1⟩ := c_fr6 (K10 := fun a1 a2 I => f_X0_findRanked_p10 (fu + 1) a1 a2 I) hM hB eB ha hb 6 0 FU J (by omega) (by rw [FU_v]; omega) hR (fun hl u hu => hc 1 (by omega) hl u hu) (fun u hu => by omega)
    refine ⟨J1, fu, ?_, r1, g1, fun b' hb' u hu => ?_⟩
    · rw [f_X0_findRanked_p10, if_neg (nI_nneg (by omega))]
      exact e1
    · by_cases z : b' = 0
      · rw [z]; exact o1 u hu
      · exact cOk_fr (hc b' (by omega) hb' u hu) (fun j hj => q1 _ (by unfold ce; omega))
  | succ b ih =>
    intro fuel J hb hf hR hc
    obtain ⟨fu, rfl⟩ : ∃ fu, fuel = fu + 1 := ⟨fuel - 1, by omega⟩
    obtain ⟨J1, e1, r1, g1, q1, o1⟩ := c_fr6 (K10 := fun a1 a2 I => f_X0_findRanked_p10 fu a1 a2 I) hM hB eB ha hb 6 0 FU J (by omega) (by rw [FU_v]; omega) hR (fun hl u hu => hc (b + 2) (by omega) hl u hu) (fun u hu => by omega)
    obtain ⟨J2, fu2, e2, r2, g2, o2⟩ := ih fu J1 (by omega) (by omega) r1 (fun b' h1 h2 u hu => by
      by_cases z : b' = b + 1
      · rw [z]; exact o1 u hu
      · exact cOk_fr (hc b' (by omega) h2 u hu) (fun j hj => q1 _ (by unfold ce; omega)))
    refine ⟨J2, fu2, ?_, r2, fun g h1 h2 => (g2 g h1 h2).trans (g1 g h1 h2), o2⟩
    rw [f_X0_findRanked_p10, if_neg (nI_nneg (by omega))]
    refine Eq.trans e1 ?_
    show f_X0_findRanked_p10 fu (nI a) (nI (b + 1) + (-1)) J1 = _
    rw [show nI (b + 1) + (-1) = nI b from by rw [← nI_1]; grind]
    exact e2
