theorem gOk_fr {J J' A : Mem} {B a b t : Nat} (h : gOk J A B a b t) (h' : ∀ j, j ≤ a → J' 22 0 (ce b t j) = J 22 0 (ce b t j) ∧ J' 23 0 (ce b t j) = J 23 0 (ce b t j)) : gOk J' A B a b t := by
  intro j hj
  rw [(h' j hj).1, (h' j hj).2]
  exact h j hj
theorem c_fi1 {A J : Mem} {B a b t fu : Nat} {K10 : Int32 → Int32 → Mem → RT} (hM : InvM A) (hB : B ≤ 24) (eB : A 33 0 0 = nI B) (ha : a < 24) (hb : b < B) (ht : t < 6) (hR : RC J A) (hc : b + 1 < B → ∀ u, u < 6 → gOk J A B a (b + 1) u) :
    ∃ J', f_X0_findWithin_p16 K10 (fu + 1) (nI a) (nI b) (nI t) J = f_X0_findWithin_p16 K10 fu (nI a) (nI b) (nI (t + 1)) J' ∧ RC J' A ∧ (∀ g, ¬ (13 ≤ g ∧ g ≤ 16) → ¬ (22 ≤ g ∧ g ≤ 25) → J' g = J g) ∧ (∀ c, ¬ (ce b t 0 ≤ c ∧ c ≤ ce b t 0 + a) → J' 22 0 c = J 22 0 c ∧ J' 23 0 c = J 23 0 c) ∧ gOk J' A B a b t := by
  have hce : ce b t 0 + (a + 1) ≤ 3480 := by unfold ce; omega
  have hf : ∀ (v : Int32) (g : Nat), g ≠ 22 → fil J 22 0 (ce b t 0) (ce b t 0 + (a + 1)) v g = J g := fun v g hg => fil_g hg
  have hRf : ∀ v : Int32, RC (fil J 22 0 (ce b t 0) (ce b t 0 + (a + 1)) v) A := fun v => RC_scrC hR (fun g hg => hf v g (by omega))
  have f22 : ∀ (v : Int32) (c : Nat), fil J 22 0 (ce b t 0) (ce b t 0 + (a + 1)) v 22 0 c = if ce b t 0 ≤ c ∧ c < ce b t 0 + (a + 1) then v else J 22 0 c := fun v c => fil_at
  have start : f_X0_findWithin_p16 K10 (fu + 1) (nI a) (nI b) (nI t) J = if nI b = nI (B - 1) then (if bi (mMay A t b) = 0 then f_X0_findWithin_p56 (fun a1 a2 a3 I => f_X0_findWithin_p16 K10 fu a1 a2 a3 I) (nI a) (nI b) (nI t) (nI (ce b t 0)) J else f_X0_findWithin_p57 (fun a1 a2 a3 I => f_X0_findWithin_p16 K10 fu a1 a2 a3 I) (nI a) (nI b) (nI t) (nI (ce b t 0)) 1 J) else f_X0_findWithin_p56 (fun a1 a2 a3 I => f_X0_findWithin_p16 K10 fu a1 a2 a3 I) (nI a) (nI b) (nI t) (nI (ce b t 0)) J := by
    rw [f_X0_findWithin_p16, if_neg (show ¬ (6 : Int32) ≤ nI t from nI_ge ht (by decide)), show f_X0_cellOf (nI b) (nI t) 0 J = rI (nI (ce b t 0)) J from cellOf_t b t 0 J, cI_r, hR.1.1, eB, mM1 (by omega), c_fits hR hM ht (by omega), cI_r]
  have p56 : f_X0_findWithin_p56 (fun a1 a2 a3 I => f_X0_findWithin_p16 K10 fu a1 a2 a3 I) (nI a) (nI b) (nI t) (nI (ce b t 0)) J = if bi (mMay A t b) = 0 then f_X0_findWithin_p16 K10 fu (nI a) (nI b) (nI (t + 1)) (fil J 22 0 (ce b t 0) (ce b t 0 + (a + 1)) (-2000000000)) else (cV (f_X0_weighSteps (nI b) (nI t) (fil J 22 0 (ce b t 0) (ce b t 0 + (a + 1)) (-2000000000))) fun J12 => cV (f_X0_offerSteps (nI b) (nI t) (nI a) J12) fun J13 => f_X0_findWithin_p16 K10 fu (nI a) (nI b) (nI (t + 1)) J13) := by
    unfold f_X0_findWithin_p56 f_X0_findWithin_p57 f_X0_findWithin_p81
    rw [if_pos rfl, nI_1, c_fil22 _ _ _ _ hce (by omega), cV_r, if_pos rfl, c_fits (hRf _) hM ht (by omega), cI_r, nI_1]
  rw [start]
  by_cases hm : mMay A t b
  · by_cases hl : b + 1 < B
    · rw [if_neg (fun z => by have := (nI_inj (by omega) (by omega)).mp z; omega), p56, bi_t hm, if_neg (by decide)]
      obtain ⟨J2, e2, r2, g2, -, s2⟩ := c_wst hM (b := b) (by omega) ht hm 6 0 FU _ (by omega) (by rw [FU_v]; omega) (hRf (-2000000000))
      have e2' : f_X0_weighSteps (nI b) (nI t) (fil J 22 0 (ce b t 0) (ce b t 0 + (a + 1)) (-2000000000)) = rV J2 := e2
      obtain ⟨J3, e3, g3, q3, a3⟩ := c_osL (a := a) hM hB hl ht ha (a + 1) 0 FU J2 (by omega) (by rw [FU_v]; omega) (fun x hx => s2 x (by omega) hx) (fun u hu => gOk_fr (hc hl u hu) (fun j hj => by
        rw [g2 22 (by decide) (by decide), g2 23 (by decide) (by decide), hf _ 23 (by decide), f22, if_neg (by unfold ce; omega)]
        exact ⟨rfl, rfl⟩)) (fun l' h1 h2 => by rw [g2 22 (by decide) (by decide), f22, if_pos (by unfold ce; omega)])
      have e3' : f_X0_offerSteps (nI b) (nI t) (nI a) J2 = rV J3 := by
        unfold f_X0_offerSteps
        rw [c_gain hM r2 ht (by omega) hm, cI_r]
        exact e3
      refine ⟨J3, by rw [e2', cV_r, e3', cV_r], RC_scrC r2 (fun g hg => g3 g (by omega) (by omega)), fun g h1 h2 => by rw [g3 g (by omega) (by omega), g2 g h1 (by omega), hf _ g (by omega)], fun c hcc => ?_, fun j hj => ?_⟩
      · obtain ⟨y1, y2⟩ := q3 c (by unfold ce at *; omega)
        rw [y1, y2, g2 22 (by decide) (by decide), g2 23 (by decide) (by decide), hf _ 23 (by decide), f22, if_neg (by omega)]
        exact ⟨rfl, rfl⟩
      · have := a3 j (by omega) hj
        rw [GG_step hl, if_pos hm]
        exact ⟨fun e he => ⟨(this.1 e he).1, fun _ => (this.1 e he).2⟩, this.2⟩
    · have hbB : b = B - 1 := by omega
      rw [if_pos (by rw [hbB]), bi_t hm, if_neg (by decide)]
      refine ⟨fil J 22 0 (ce b t 0) (ce b t 0 + (a + 1)) (Int32.ofInt (64 * (mWo A t b).toInt)), ?_, hRf _, fun g h1 h2 => hf _ g (by omega), fun c hcc => ?_, fun j hj => ?_⟩
      · unfold f_X0_findWithin_p57 f_X0_findWithin_p81
        rw [if_neg (by decide), c_gain hM hR ht (by omega) hm, cI_r, nI_1, c_fil22 _ _ _ _ hce (by omega), cV_r, if_neg (by decide), nI_1]
      · rw [f22, if_neg (by omega), hf _ 23 (by decide)]
        exact ⟨rfl, rfl⟩
      · have hGG : GG A B b t j = some (mkW4 (mWo A t b).toInt 0 0 0) := by
          rw [hbB, GG_last, if_pos (by rw [← hbB]; exact hm)]
        rw [hGG, ce_0 b t j, f22, if_pos (by omega)]
        refine ⟨fun e he => ⟨?_, fun z => absurd z hl⟩, fun he => by simp at he⟩
        simp only [Option.some.injEq] at he
        subst he
        congr 1
        unfold WE.key mkW4 WE.v WE.jn
        dsimp only
        omega
  · rw [p56, bi_f hm, if_pos rfl, if_pos rfl]
    have : (if nI b = nI (B - 1) then f_X0_findWithin_p16 K10 fu (nI a) (nI b) (nI (t + 1)) (fil J 22 0 (ce b t 0) (ce b t 0 + (a + 1)) (-2000000000)) else f_X0_findWithin_p16 K10 fu (nI a) (nI b) (nI (t + 1)) (fil J 22 0 (ce b t 0) (ce b t 0 + (a + 1)) (-2000000000))) = f_X0_findWithin_p16 K10 fu (nI a) (nI b) (nI (t + 1)) (fil J 22 0 (ce b t 0) (ce b t 0 + (a + 1)) (-2000000000)) := by split <;> rfl
    refine ⟨fil J 22 0 (ce b t 0) (ce b t 0 + (a + 1)) (-2000000000), this, hRf _, fun g h1 h2 => hf _ g (by omega), fun c hcc => ?_, fun j hj => ?_⟩
    · rw [f22, if_neg (by omega), hf _ 23 (by decide)]
      exact ⟨rfl, rfl⟩
    · rw [GG_none hb hm, ce_0 b t j, f22, if_pos (by omega)]
      exact ⟨fun e he => by simp at he, fun _ => rfl⟩
theorem c_fi6 {A : Mem} {B a b : Nat} {K10 : Int32 → Int32 → Mem → RT} (hM : InvM A) (hB : B ≤ 24) (eB : A 33 0 0 = nI B) (ha : a < 24) (hb : b < B) :
    ∀ (d t fuel : Nat) (J : Mem), t + d = 6 → d < fuel → RC J A → (b + 1 < B → ∀ u, u < 6 → gOk J A B a (b + 1) u) → (∀ u, u < t → gOk J A B a b u) →
    ∃ J', f_X0_findWithin_p16 K10 fuel (nI a) (nI b) (nI t) J = K10 (nI a) (nI b + (-1)) J' ∧ RC J' A ∧ (∀ g, ¬ (13 ≤ g ∧ g ≤ 16) → ¬ (22 ≤ g ∧ g ≤ 25) → J' g = J g) ∧ (∀ c, ¬ (ce b 0 0 ≤ c ∧ c < ce b 0 0 + 144) → J' 22 0 c = J 22 0 c ∧ J' 23 0 c = J 23 0 c) ∧ ∀ u, u < 6 → gOk J' A B a b u := by
  intro d
  induction d with
  | zero =>
    intro t fuel J hd hf hR hc ho
    obtain ⟨fu, rfl⟩ : ∃ fu, fuel = fu + 1 := ⟨fuel - 1, by omega⟩
    have : t = 6 := by omega
    subst this
    exact ⟨J, by rw [f_X0_findWithin_p16, if_pos (by decide)], hR, fun _ _ _ => rfl, fun _ _ => ⟨rfl, rfl⟩, ho⟩
  | succ d ih =>
    intro t fuel J hd hf hR hc ho
    obtain ⟨fu, rfl⟩ : ∃ fu, fuel = fu + 1 := ⟨fuel - 1, by omega⟩
    obtain ⟨J1, e1, r1, g1, q1, o1⟩ := c_fi1 (K10 := K10) (fu := fu) hM hB eB ha hb (show t < 6 by omega) hR hc
    obtain ⟨J2, e2, r2, g2, q2, o2⟩ := ih (t + 1) fu J1 (by omega) (by omega) r1 (fun hl u hu => gOk_fr (hc hl u hu) (fun j hj => q1 _ (by unfold ce; omega))) (fun u hu => by
      by_cases z : u = t
      · rw [z]; exact o1
      · exact gOk_fr (ho u (by omega)) (fun j hj => q1 _ (by unfold ce; omega)))
    refine ⟨J2, by rw [e1, e2], r2, fun g h1 h2 => (g2 g h1 h2).trans (g1 g h1 h2), fun c hcc => ?_, o2⟩
    obtain ⟨y1, y2⟩ := q2 c hcc
    obtain ⟨z1, z2⟩ := q1 c (by unfold ce at hcc ⊢; omega)
    exact ⟨y1.trans z1, y2.trans z2⟩
theorem c_fiB {A : Mem} {B a : Nat} (hM : InvM A) (hB : B ≤ 24) (eB : A 33 0 0 = nI B) (ha : a < 24) :
    ∀ (b fuel : Nat) (J : Mem), b < B → b + 1 < fuel → RC J A → (∀ b', b < b' → b' < B → ∀ u, u < 6 → gOk J A B a b' u) →
    ∃ J' fu, f_X0_findWithin_p10 fuel (nI a) (nI b) J = f_X0_findWithin_p10 (fu + 1) (nI a) (-1) J' ∧ RC J' A ∧ (∀ g, ¬ (13 ≤ g ∧ g ≤ 16) → ¬ (22 ≤ g ∧ g ≤ 25) → J' g = J g) ∧ ∀ b', b' < B → ∀ u, u < 6 → gOk J' A B a b' u := by
  intro b
  induction b with
  | zero =>
    intro fuel J hb hf hR hc
    obtain ⟨fu, rfl⟩ : ∃ fu, fuel = fu + 2 := ⟨fuel - 2, by omega⟩
    obtain ⟨J1, e1, r1, g1, q1, o1⟩ := c_fi6 (K10 := fun a1 a2 I => f_X0_findWithin_p10 (fu + 1) a1 a2 I) hM hB eB ha hb 6 0 FU J (by omega) (by rw [FU_v]; omega) hR (fun hl u hu => hc 1 (by omega) hl u hu) (fun u hu => by omega)
    refine ⟨J1, fu, ?_, r1, g1, fun b' hb' u hu => ?_⟩
    · rw [f_X0_findWithin_p10, if_neg (nI_nneg (by omega))]
      exact e1
    · by_cases z : b' = 0
      · rw [z]; exact o1 u hu
      · exact gOk_fr (hc b' (by omega) hb' u hu) (fun j hj => q1 _ (by unfold ce; omega))
  | succ b ih =>
    intro fuel J hb hf hR hc
    obtain ⟨fu, rfl⟩ : ∃ fu, fuel = fu + 1 := ⟨fuel - 1, by omega⟩
    obtain ⟨J1, e1, r1, g1, q1, o1⟩ := c_fi6 (K10 := fun a1 a2 I => f_X0_findWithin_p10 fu a1 a2 I) hM hB eB ha hb 6 0 FU J (by omega) (by rw [FU_v]; omega) hR (fun hl u hu => hc (b + 2) (by omega) hl u hu) (fun u hu => by omega)
    obtain ⟨J2, fu2, e2, r2, g2, o2⟩ := ih fu J1 (by omega) (by omega) r1 (fun b' h1 h2 u hu => by
      by_cases z : b' = b + 1
      · rw [z]; exact o1 u hu
      · exact gOk_fr (hc b' (by omega) h2 u hu) (fun j hj => q1 _ (by unfold ce; omega)))
    refine ⟨J2, fu2, ?_, r2, fun g h1 h2 => (g2 g h1 h2).trans (g1 g h1 h2), o2⟩
    rw [f_X0_findWithin_p10, if_neg (nI_nneg (by omega))]
    refine Eq.trans e1 ?_
    show f_X0_findWithin_p10 fu (nI a) (nI (b + 1) + (-1)) J1 = _
    rw [show nI (b + 1) + (-1) = nI b from by rw [← nI_1]; grind]
    exact e2
/-- a way traced along links -/
theorem c_trg {J : Mem} {B a1 : Nat} {w : Nat → Nat × Nat} (hB : B ≤ 24) (eB : J 1 0 0 = nI B) (ha1 : a1 < 3480) (hw : ∀ b, b < B → (w b).1 < 6 ∧ (w b).2 < 24) (hl : ∀ b, b + 1 < B → J 23 0 (ce b (w b).1 (w b).2) = nI (ce (b + 1) (w (b + 1)).1 (w (b + 1)).2)) :
    ∀ (d k fuel c : Nat) (J' : Mem), k + d = B → d < fuel → c < 3480 → (k < B → J 23 0 c = nI (ce k (w k).1 (w k).2)) → (∀ g, g ≠ 26 → J' g = J g) → (∀ b, b < k → J' 26 0 b = nI (w b).1) →
    ∃ J2, f_X0_trace_p18 fuel (nI a1) (nI c) (nI k) J' = rI (J 22 0 a1) J2 ∧ (∀ g, g ≠ 26 → J2 g = J g) ∧ ∀ b, b < B → J2 26 0 b = nI (w b).1 := by
  intro d
  induction d with
  | zero =>
    intro k fuel c J' hd hf hcc hlk hg h26
    obtain ⟨fu, rfl⟩ : ∃ fu, fuel = fu + 1 := ⟨fuel - 1, by omega⟩
    have : k = B := by omega
    subst this
    exact ⟨J', by rw [f_X0_trace_p18, hg 1 (by decide), eB, if_pos ((nI_leI (by omega) (by omega)).mpr (Nat.le_refl _)), ix_nI ha1 (by decide), hg 22 (by decide)], hg, h26⟩
  | succ d ih =>
    intro k fuel c J' hd hf hcc hlk hg h26
    obtain ⟨fu, rfl⟩ : ∃ fu, fuel = fu + 1 := ⟨fuel - 1, by omega⟩
    obtain ⟨w1, w2⟩ := hw k (by omega)
    rw [f_X0_trace_p18, hg 1 (by decide), eB, if_neg (by rw [nI_leI (by omega) (by omega)]; omega), ix_nI hcc (by decide), if_neg (by decide), if_neg (by decide), ix_nI (by omega) (by decide), hg 23 (by decide), hlk (by omega), ce_take (by omega) w1 w2, nI_1]
    refine ih (k + 1) fu (ce k (w k).1 (w k).2) _ (by omega) (by omega) (by unfold ce; omega) (fun hk => hl k hk) (fun g hg' => by rw [mup_g hg']; exact hg g hg') (fun b hb => ?_)
    rw [mup_0]
    by_cases z : b = k
    · rw [if_pos z, z]
    · rw [if_neg z]; exact h26 b (by omega)
theorem c_lastoff {A : Mem} {B a : Nat} (hM : InvM A) (hB1 : 1 ≤ B) (hB : B ≤ 24) (ha : a < 24) :
    ∀ (d t fuel : Nat) (J : Mem), t + d = 6 → d < fuel → (∀ u, u < 6 → gOk J A B a 0 u) → aOk J 3456 (fun e => ce 0 e.u e.j) (ofl (fiC A B a) t) →
    ∃ J', f_X0_findWithin_p135 fuel (nI a) (nI t) J = (cI (f_X0_trace 3456 J') fun v3 J2 => rI v3 J2) ∧ (∀ g, g ≠ 22 → g ≠ 23 → J' g = J g) ∧ (∀ c, c ≠ 3456 → J' 22 0 c = J 22 0 c ∧ J' 23 0 c = J 23 0 c) ∧ aOk J' 3456 (fun e => ce 0 e.u e.j) (FG A B a) := by
  have bnd : ∀ (u : Nat) (e : WE), u < 6 → fiC A B a u = some e → -40000000 ≤ e.key ∧ e.key ≤ 40000000 := by
    intro u e hu he
    obtain ⟨x, hx, rfl⟩ := fiC_some he
    have kx := GG_key hM hB hu (by omega) hx
    unfold WE.key mkW4 WE.v WE.jn at *
    dsimp only
    omega
  intro d
  induction d with
  | zero =>
    intro t fuel J hd hf ho hA
    obtain ⟨fu, rfl⟩ : ∃ fu, fuel = fu + 1 := ⟨fuel - 1, by omega⟩
    have : t = 6 := by omega
    subst this
    exact ⟨J, by rw [f_X0_findWithin_p135, if_pos (by decide)], fun _ _ _ => rfl, fun _ _ => ⟨rfl, rfl⟩, hA⟩
  | succ d ih =>
    intro t fuel J hd hf ho hA
    obtain ⟨fu, rfl⟩ : ∃ fu, fuel = fu + 1 := ⟨fuel - 1, by omega⟩
    have ht : t < 6 := by omega
    have hg := ho t ht a (Nat.le_refl _)
    obtain ⟨J1, e1, g1, q1, a1⟩ := c_offer (J := J) (c5 := 3456) (c7 := ce 0 t a) (lc := fun e => ce 0 e.u e.j) (acc := ofl (fiC A B a) t) (cand := fiC A B a t) (D := 0) (by omega) (by unfold ce; omega) (fun e he => by
      obtain ⟨u', hu', hm'⟩ := ofl_some t he
      exact bnd u' e (by omega) hm') (fun e he => bnd t e ht he) hA ⟨fun z hz => by
      obtain ⟨x, hx, rfl⟩ := fiC_some hz
      have kx := GG_key hM hB ht (by omega) hx
      rw [(hg.1 x hx).1]
      refine ⟨?_, by rw [ne_eq, eq_i, oI (by omega) (by omega), no_t]; omega, rfl⟩
      rw [Int32.add_zero]
      rfl, fun hz => by
      refine hg.2 ?_
      unfold fiC at hz
      cases hx : GG A B 0 t a with
      | none => rfl
      | some x => rw [hx] at hz; simp at hz⟩
    obtain ⟨J2, e2, g2, q2, a2⟩ := ih (t + 1) fu J1 (by omega) (by omega) (fun u hu => gOk_fr (ho u hu) (fun j hj => q1 _ (by unfold ce; omega))) a1
    refine ⟨J2, ?_, fun g h1 h2 => (g2 g h1 h2).trans (g1 g h1 h2), fun c hc => ⟨(q2 c hc).1.trans (q1 c hc).1, (q2 c hc).2.trans (q1 c hc).2⟩, a2⟩
    rw [f_X0_findWithin_p135, if_neg (show ¬ (6 : Int32) ≤ nI t from nI_ge ht (by decide)), show f_X0_cellOf 0 (nI t) (nI a) J = rI (nI (ce 0 t a)) J from cellOf_t 0 t a J, cI_r, show f_X0_offer 3456 (nI (ce 0 t a)) 0 J = rV J1 from e1, cV_r, nI_1]
    exact e2
/-- the class finds the best way with few joins -/
theorem c_few {I A : Mem} {B a : Nat} (hM : InvM A) (hB1 : 1 ≤ B) (hB : B ≤ 24) (eB : A 33 0 0 = nI B) (ha : a < 24) (hR : RC I A) :
    ∃ J, RC J A ∧ (∀ g, ¬ (13 ≤ g ∧ g ≤ 16) → ¬ (22 ≤ g ∧ g ≤ 26) → J g = I g) ∧ ((FG A B a = none ∧ f_X0_findWithin (nI a) I = rI (-2000000000) J) ∨ ∃ e : WE, FG A B a = some e ∧ f_X0_findWithin (nI a) I = rI (Int32.ofInt e.key) J ∧ ∀ b, b < B → J 26 0 b = nI (wf A B e b).1) := by
  have e1B : I 1 0 0 = nI B := by rw [hR.1.1, eB]
  obtain ⟨J1, fu, e1, r1, g1, o1⟩ := c_fiB hM hB eB ha (B - 1) FU I (by omega) (by rw [FU_v]; omega) hR (fun b' h1 h2 => by omega)
  have hs : f_X0_findWithin (nI a) I = f_X0_findWithin_p10 (fu + 1) (nI a) (-1) J1 := by
    unfold f_X0_findWithin
    rw [e1B, mM1 hB1, e1]
  have r2 : RC (mup J1 22 0 3456 (-2000000000)) A := RC_scrC r1 (fun g hg => mup_g (by omega))
  have o2 : ∀ b', b' < B → ∀ u, u < 6 → gOk (mup J1 22 0 3456 (-2000000000)) A B a b' u := fun b' hb' u hu => gOk_fr (o1 b' hb' u hu) (fun j hj => by
    rw [mup_0, if_neg (by unfold ce; omega), mup_g (by decide)]
    exact ⟨rfl, rfl⟩)
  obtain ⟨J3, e3, g3, q3, a3⟩ := c_lastoff hM hB1 hB ha 6 0 FU (mup J1 22 0 3456 (-2000000000)) (by omega) (by rw [FU_v]; omega) (fun u hu => o2 0 (by omega) u hu) ⟨fun e he => by simp [ofl] at he, fun _ => by rw [mup_at]⟩
  have r3 : RC J3 A := RC_scrC r2 (fun g hg => g3 g (by omega) (by omega))
  have o3 : ∀ b', b' < B → ∀ u, u < 6 → gOk J3 A B a b' u := fun b' hb' u hu => gOk_fr (o2 b' hb' u hu) (fun j hj => q3 _ (by unfold ce; omega))
  have hall : ∀ g, ¬ (13 ≤ g ∧ g ≤ 16) → ¬ (22 ≤ g ∧ g ≤ 26) → J3 g = I g := fun g h1 h2 => by rw [g3 g (by omega) (by omega), mup_g (by omega), g1 g h1 (by omega)]
  have hs2 : f_X0_findWithin (nI a) I = cI (f_X0_trace 3456 J3) fun v5 J4 => rI v5 J4 := by
    rw [hs, f_X0_findWithin_p10, if_pos (by decide), show (3456 : Int32) = nI 3456 from rfl, ix_nI (by decide) (by decide)]
    exact e3
  cases hx : FG A B a with
  | none =>
    refine ⟨J3, r3, hall, Or.inl ⟨rfl, ?_⟩⟩
    rw [hs2]
    unfold f_X0_trace
    rw [show (3456 : Int32) = nI 3456 from rfl, ix_nI (by decide) (by decide), a3.2 hx, if_pos rfl, cI_r]
  | some e =>
    obtain ⟨n1, n2⟩ := a3.1 e hx
    obtain ⟨x1, x2, x, x3, x4, x5⟩ := FG_get hx
    have kx := GG_key hM hB x1 (by omega) x3
    have kk : (Int32.ofInt e.key).toInt = e.key := oI (by unfold WE.key at *; omega) (by unfold WE.key at *; omega)
    obtain ⟨J4, e4, g4, t4⟩ := c_trg (J := J3) (a1 := 3456) (w := wf A B e) hB (by rw [r3.1.1, eB]) (by omega) (fun b hb => by
      obtain ⟨w1, w2, -⟩ := wf_ok hx b hb
      exact ⟨w1, by omega⟩) (fun b hb => by
      obtain ⟨w1, w2, y, w3, w4⟩ := wf_ok hx b (by omega)
      rw [((o3 b (by omega) _ w1 _ w2).1 y w3).2 hb, (w4 hb).1]) B 0 FU 3456 J3 (by omega) (by rw [FU_v]; omega) (by omega) (fun _ => n2) (fun _ _ => rfl) (fun b hb => by omega)
    refine ⟨J4, RC_scrC r3 (fun g hg => g4 g (by omega)), fun g h1 h2 => by rw [g4 g (by omega), hall g h1 h2], Or.inr ⟨e, rfl, ?_, t4⟩⟩
    rw [hs2]
    unfold f_X0_trace
    rw [show (3456 : Int32) = nI 3456 from rfl, ix_nI (by decide) (by decide), n1, if_neg (by rw [eq_i, kk, no_t]; unfold WE.key; omega), ← n1]
    rw [show f_X0_trace_p18 FU (nI 3456) (nI 3456) 0 J3 = rI (J3 22 0 3456) J4 from e4, cI_r]
