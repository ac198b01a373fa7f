/-! ===== the class: offers ===== -/
def aOk (J : Mem) (c : Nat) (lc : WE → Nat) (o : Option WE) : Prop := (∀ e : WE, o = some e → J 22 0 c = Int32.ofInt e.key ∧ J 23 0 c = nI (lc e)) ∧ (o = none → J 22 0 c = -2000000000)
theorem c_offer {J : Mem} {c5 c7 : Nat} {lc : WE → Nat} {acc cand : Option WE} {D : Int32} (h5 : c5 < 3480) (h7 : c7 < 3480) (b1 : ∀ e : WE, acc = some e → -40000000 ≤ e.key ∧ e.key ≤ 40000000) (b2 : ∀ e : WE, cand = some e → -40000000 ≤ e.key ∧ e.key ≤ 40000000) (ha : aOk J c5 lc acc) (hc : (∀ z : WE, cand = some z → J 22 0 c7 + D = Int32.ofInt z.key ∧ J 22 0 c7 ≠ -2000000000 ∧ lc z = c7) ∧ (cand = none → J 22 0 c7 = -2000000000)) :
    ∃ J', f_X0_offer (nI c5) (nI c7) D J = rV J' ∧ (∀ g, g ≠ 22 → g ≠ 23 → J' g = J g) ∧ (∀ c, c ≠ c5 → J' 22 0 c = J 22 0 c ∧ J' 23 0 c = J 23 0 c) ∧ aOk J' c5 lc (of1 acc cand) := by
  unfold f_X0_offer f_X0_offer_p39
  rw [ix_nI h7 (by decide), ix_nI h5 (by decide), ix_nI h7 (by decide), ix_nI h5 (by decide), ix_nI h7 (by decide), ix_nI h5 (by decide), ix_nI h5 (by decide)]
  cases hk : cand with
  | none =>
    refine ⟨J, by rw [if_pos (hc.2 hk)], fun _ _ _ => rfl, fun _ _ => ⟨rfl, rfl⟩, ?_⟩
    rw [of1_none]; exact ha
  | some z =>
    obtain ⟨z1, z2, z3⟩ := hc.1 z hk
    have bz := b2 z hk
    have kz : (Int32.ofInt z.key).toInt = z.key := oI (by omega) (by omega)
    rw [if_neg z2, z1]
    have take : ∃ J', rV (mup (mup J 22 0 c5 (Int32.ofInt z.key)) 23 0 c5 (nI c7)) = rV J' ∧ (∀ g, g ≠ 22 → g ≠ 23 → J' g = J g) ∧ (∀ c, c ≠ c5 → J' 22 0 c = J 22 0 c ∧ J' 23 0 c = J 23 0 c) ∧ aOk J' c5 lc (some z) := by
      refine ⟨_, rfl, fun g h1 h2 => by rw [mup_g h2, mup_g h1], fun c hcc => ?_, fun e he => ?_, fun he => by simp at he⟩
      · rw [mup_g (by decide), mup_0, if_neg hcc, mup_0, if_neg hcc, mup_g (by decide)]
        exact ⟨rfl, rfl⟩
      · simp only [Option.some.injEq] at he
        subst he
        rw [mup_g (by decide), mup_at, mup_at, z3]
        exact ⟨rfl, rfl⟩
    cases hq : acc with
    | none =>
      rw [if_pos (ha.2 hq)]
      exact take
    | some y =>
      obtain ⟨y1, y2⟩ := ha.1 y hq
      have by' := b1 y hq
      have ky : (Int32.ofInt y.key).toInt = y.key := oI (by omega) (by omega)
      rw [y1, if_neg (by rw [eq_i, ky, no_t]; omega)]
      show ∃ J', _ ∧ _ ∧ _ ∧ aOk J' c5 lc (if y.key < z.key then some z else some y)
      by_cases h : y.key < z.key
      · rw [if_neg (by rw [le_i, kz, ky]; omega), if_pos h]
        exact take
      · rw [if_pos (by rw [le_i, kz, ky]; omega), if_neg h]
        refine ⟨J, rfl, fun _ _ _ => rfl, fun _ _ => ⟨rfl, rfl⟩, ?_⟩
        rw [hq] at ha
        exact ha
def gOk (J A : Mem) (B a b t : Nat) : Prop := ∀ l : Nat, l ≤ a → (∀ e : WE, GG A B b t l = some e → J 22 0 (ce b t l) = Int32.ofInt e.key ∧ (b + 1 < B → J 23 0 (ce b t l) = nI (ce (b + 1) e.u e.j))) ∧ (GG A B b t l = none → J 22 0 (ce b t l) = -2000000000)
theorem nxC_key {A : Mem} {B b t l u : Nat} {e : WE} (hM : InvM A) (hB : B ≤ 24) (hb : b + 1 < B) (ht : t < 6) (hu : u < 6) (h : nxC A b t (GG A B (b + 1)) l u = some e) : -40000000 ≤ e.key ∧ e.key ≤ 40000000 := by
  obtain ⟨-, -, x, hx, rfl⟩ := nxC_some h
  have kx := GG_key hM hB hu hb hx
  have hw := wo_rg hM ht (b := b) (by omega)
  have c : 0 ≤ sC A b t u ∧ sC A b t u ≤ 13000 := by
    unfold sC
    split
    · omega
    · exact co_rg hM ht hu (b + 1)
  have c2 : sJ t u ≤ 1 := by
    unfold sJ
    split <;> omega
  unfold WE.key mkW4 WE.v WE.jn at *
  dsimp only
  omega
theorem c_os6 {A : Mem} {B a b t l : Nat} {K11 : Int32 → Int32 → Int32 → Int32 → Int32 → Mem → RT} (hM : InvM A) (hB : B ≤ 24) (hb : b + 1 < B) (ht : t < 6) (ha : a < 24) (hl : l ≤ a) :
    ∀ (d u fuel : Nat) (J : Mem), u + d = 6 → d < fuel → (∀ x, x < 6 → J 24 0 x = wS A b t x) → (∀ x, x < 6 → gOk J A B a (b + 1) x) → aOk J (ce b t l) (fun e => ce (b + 1) e.u e.j) (ofl (nxC A b t (GG A B (b + 1)) l) u) →
    ∃ J', f_X0_offerSteps_p20 K11 fuel (nI b) (nI t) (nI a) (Int32.ofInt (64 * (mWo A t b).toInt)) (nI l) (nI u) J = K11 (nI b) (nI t) (nI a) (Int32.ofInt (64 * (mWo A t b).toInt)) (nI (l + 1)) J' ∧ (∀ g, g ≠ 22 → g ≠ 23 → J' g = J g) ∧ (∀ c, c ≠ ce b t l → J' 22 0 c = J 22 0 c ∧ J' 23 0 c = J 23 0 c) ∧ aOk J' (ce b t l) (fun e => ce (b + 1) e.u e.j) (ofl (nxC A b t (GG A B (b + 1)) l) 6) := by
  intro d
  induction d with
  | zero =>
    intro u fuel J hd hf h24 ho hA
    obtain ⟨fu, rfl⟩ : ∃ fu, fuel = fu + 1 := ⟨fuel - 1, by omega⟩
    have : u = 6 := by omega
    subst this
    exact ⟨J, by rw [f_X0_offerSteps_p20, if_pos (by decide), nI_1], fun _ _ _ => rfl, fun _ _ => ⟨rfl, rfl⟩, hA⟩
  | succ d ih =>
    intro u fuel J hd hf h24 ho hA
    obtain ⟨fu, rfl⟩ : ∃ fu, fuel = fu + 1 := ⟨fuel - 1, by omega⟩
    have hu : u < 6 := by omega
    have hco := co_rg hM ht hu (b + 1)
    have go : ∀ (K : Mem), (∀ g, g ≠ 22 → g ≠ 23 → K g = J g) → (∀ c, c ≠ ce b t l → K 22 0 c = J 22 0 c ∧ K 23 0 c = J 23 0 c) → aOk K (ce b t l) (fun e => ce (b + 1) e.u e.j) (ofl (nxC A b t (GG A B (b + 1)) l) (u + 1)) → ∃ J', f_X0_offerSteps_p20 K11 fu (nI b) (nI t) (nI a) (Int32.ofInt (64 * (mWo A t b).toInt)) (nI l) (nI (u + 1)) K = K11 (nI b) (nI t) (nI a) (Int32.ofInt (64 * (mWo A t b).toInt)) (nI (l + 1)) J' ∧ (∀ g, g ≠ 22 → g ≠ 23 → J' g = J g) ∧ (∀ c, c ≠ ce b t l → J' 22 0 c = J 22 0 c ∧ J' 23 0 c = J 23 0 c) ∧ aOk J' (ce b t l) (fun e => ce (b + 1) e.u e.j) (ofl (nxC A b t (GG A B (b + 1)) l) 6) := by
      intro K k1 k2 k3
      obtain ⟨J', e, f1, f2, f3⟩ := ih (u + 1) fu K (by omega) (by omega) (fun x hx => by rw [k1 24 (by decide) (by decide)]; exact h24 x hx) (fun x hx l' hl' => by
        obtain ⟨y1, y2⟩ := k2 (ce (b + 1) x l') (by unfold ce; omega)
        rw [y1, y2]
        exact ho x hx l' hl') k3
      exact ⟨J', e, fun g h1 h2 => (f1 g h1 h2).trans (k1 g h1 h2), fun c hc => ⟨(f2 c hc).1.trans (k2 c hc).1, (f2 c hc).2.trans (k2 c hc).2⟩, f3⟩
    have skip : nxC A b t (GG A B (b + 1)) l u = none → ∃ J', f_X0_offerSteps_p20 K11 fu (nI b) (nI t) (nI a) (Int32.ofInt (64 * (mWo A t b).toInt)) (nI l) (nI (u + 1)) J = K11 (nI b) (nI t) (nI a) (Int32.ofInt (64 * (mWo A t b).toInt)) (nI (l + 1)) J' ∧ (∀ g, g ≠ 22 → g ≠ 23 → J' g = J g) ∧ (∀ c, c ≠ ce b t l → J' 22 0 c = J 22 0 c ∧ J' 23 0 c = J 23 0 c) ∧ aOk J' (ce b t l) (fun e => ce (b + 1) e.u e.j) (ofl (nxC A b t (GG A B (b + 1)) l) 6) := by
      intro hn
      refine go J (fun _ _ _ => rfl) (fun _ _ => ⟨rfl, rfl⟩) ?_
      rw [ofl, hn, of1_none]
      exact hA
    have main : ∀ st : Int, J 24 0 u = Int32.ofInt st → 0 ≤ st → st ≤ 900000 → alw A b t u → sJ t u ≤ l → st = 64 * sC A b t u + sJ t u → ∃ J', f_X0_offerSteps_p42 (fun a1 a2 a3 a4 a5 a6 I => f_X0_offerSteps_p20 K11 fu a1 a2 a3 a4 a5 a6 I) (nI b) (nI t) (nI a) (Int32.ofInt (64 * (mWo A t b).toInt)) (nI l) (nI u) (nI (l - sJ t u)) J = K11 (nI b) (nI t) (nI a) (Int32.ofInt (64 * (mWo A t b).toInt)) (nI (l + 1)) J' ∧ (∀ g, g ≠ 22 → g ≠ 23 → J' g = J g) ∧ (∀ c, c ≠ ce b t l → J' 22 0 c = J 22 0 c ∧ J' 23 0 c = J 23 0 c) ∧ aOk J' (ce b t l) (fun e => ce (b + 1) e.u e.j) (ofl (nxC A b t (GG A B (b + 1)) l) 6) := by
      intro st e1 e2 e3 e4 e5 e6
      have est : (Int32.ofInt st).toInt = st := oI (by omega) (by omega)
      have hg := ho u hu (l - sJ t u) (by omega)
      obtain ⟨K, q1, q2, q3, q4⟩ := c_offer (J := J) (c5 := ce b t l) (c7 := ce (b + 1) u (l - sJ t u)) (lc := fun e => ce (b + 1) e.u e.j) (acc := ofl (nxC A b t (GG A B (b + 1)) l) u) (cand := nxC A b t (GG A B (b + 1)) l u) (D := Int32.ofInt (64 * (mWo A t b).toInt) - Int32.ofInt st) (by unfold ce; omega) (by unfold ce; omega) (fun e he => by
        obtain ⟨u', hu', hm'⟩ := ofl_some u he
        exact nxC_key hM hB hb ht (by omega) hm') (fun e he => nxC_key hM hB hb ht hu he) hA ⟨fun z hz => by
        obtain ⟨-, -, x, hx, rfl⟩ := nxC_some hz
        have kx := GG_key hM hB hu hb hx
        rw [(hg.1 x hx).1]
        refine ⟨?_, by rw [ne_eq, eq_i, oI (by omega) (by omega), no_t]; omega, rfl⟩
        rw [← Int32.ofInt_sub, ← Int32.ofInt_add]
        congr 1
        unfold WE.key mkW4 WE.v WE.jn
        dsimp only
        omega, fun hz => by
        refine hg.2 ?_
        unfold nxC at hz
        rw [if_pos ⟨e4, e5⟩] at hz
        cases hx : GG A B (b + 1) u (l - sJ t u) with
        | none => rfl
        | some x => rw [hx] at hz; simp at hz⟩
      unfold f_X0_offerSteps_p42
      rw [if_neg (nI_nneg (by omega)), ix6 hu, if_neg (by rw [e1, eq_i, est, m1_t]; omega), cellOf_t, cI_r, nI_1, cellOf_t, cI_r, ix6 hu, e1, q1, cV_r, nI_1]
      exact go K q2 q3 q4
    have p42neg : ∀ s0 : Int32, s0 < 0 → f_X0_offerSteps_p42 (fun a1 a2 a3 a4 a5 a6 I => f_X0_offerSteps_p20 K11 fu a1 a2 a3 a4 a5 a6 I) (nI b) (nI t) (nI a) (Int32.ofInt (64 * (mWo A t b).toInt)) (nI l) (nI u) s0 J = f_X0_offerSteps_p20 K11 fu (nI b) (nI t) (nI a) (Int32.ofInt (64 * (mWo A t b).toInt)) (nI l) (nI (u + 1)) J := by
      intro s0 h
      unfold f_X0_offerSteps_p42
      rw [if_pos h, nI_1]
    have p42bar : ∀ s0 : Int32, J 24 0 u = -1 → f_X0_offerSteps_p42 (fun a1 a2 a3 a4 a5 a6 I => f_X0_offerSteps_p20 K11 fu a1 a2 a3 a4 a5 a6 I) (nI b) (nI t) (nI a) (Int32.ofInt (64 * (mWo A t b).toInt)) (nI l) (nI u) s0 J = f_X0_offerSteps_p20 K11 fu (nI b) (nI t) (nI a) (Int32.ofInt (64 * (mWo A t b).toInt)) (nI l) (nI (u + 1)) J := by
      intro s0 h
      unfold f_X0_offerSteps_p42
      rw [ix6 hu, if_pos h, nI_1]
      by_cases z : s0 < 0
      · rw [if_pos z]
      · rw [if_neg z]
    rw [f_X0_offerSteps_p20, if_neg (show ¬ (6 : Int32) ≤ nI u from nI_ge hu (by decide))]
    have hw := h24 u hu
    unfold wS at hw
    by_cases h1 : u = t
    · rw [if_pos h1] at hw
      have j0 : sJ t u = 0 := by unfold sJ; rw [if_pos h1]
      have := main 0 hw (by omega) (by omega) (Or.inl h1) (by omega) (by unfold sC; rw [if_pos h1, j0]; rfl)
      rw [j0, Nat.sub_zero] at this
      rw [if_pos (by rw [h1])]
      exact this
    · rw [if_neg h1] at hw
      have j1 : sJ t u = 1 := by unfold sJ; rw [if_neg h1]
      rw [if_neg (fun z => h1 ((nI_inj (by omega) (by omega)).mp z))]
      rcases Nat.eq_zero_or_pos l with hl0 | hl0
      · subst hl0
        rw [p42neg _ (by decide)]
        exact skip (by unfold nxC; rw [if_neg (by rintro ⟨-, z⟩; omega)])
      · rw [mM1 hl0]
        by_cases h2 : A 36 0 (b + 1) = 0 ∧ mMay A u (b + 1)
        · rw [if_pos h2] at hw
          have := main _ hw (by omega) (by omega) (Or.inr h2.1) (by omega) (by unfold sC; rw [if_neg h1, j1]; rfl)
          rw [j1] at this
          exact this
        · rw [if_neg h2] at hw
          rw [p42bar _ hw]
          refine skip ?_
          unfold nxC
          split
          · next q =>
            have hb0 : A 36 0 (b + 1) = 0 := by
              rcases q.1 with z | z
              · exact absurd z h1
              · exact z
            rw [GG_none hb (fun z => h2 ⟨hb0, z⟩)]; rfl
          · rfl
theorem c_osL {A : Mem} {B a b t : Nat} (hM : InvM A) (hB : B ≤ 24) (hb : b + 1 < B) (ht : t < 6) (ha : a < 24) :
    ∀ (d l fuel : Nat) (J : Mem), l + d = a + 1 → d < fuel → (∀ x, x < 6 → J 24 0 x = wS A b t x) → (∀ x, x < 6 → gOk J A B a (b + 1) x) → (∀ l', l ≤ l' → l' ≤ a → J 22 0 (ce b t l') = -2000000000) →
    ∃ J', f_X0_offerSteps_p11 fuel (nI b) (nI t) (nI a) (Int32.ofInt (64 * (mWo A t b).toInt)) (nI l) J = rV J' ∧ (∀ g, g ≠ 22 → g ≠ 23 → J' g = J g) ∧ (∀ c, ¬ (ce b t l ≤ c ∧ c ≤ ce b t a) → J' 22 0 c = J 22 0 c ∧ J' 23 0 c = J 23 0 c) ∧ ∀ l', l ≤ l' → l' ≤ a → aOk J' (ce b t l') (fun e => ce (b + 1) e.u e.j) (ofl (nxC A b t (GG A B (b + 1)) l') 6) := by
  intro d
  induction d with
  | zero =>
    intro l fuel J hd hf h24 ho hN
    obtain ⟨fu, rfl⟩ : ∃ fu, fuel = fu + 1 := ⟨fuel - 1, by omega⟩
    exact ⟨J, by rw [f_X0_offerSteps_p11, if_pos (by rw [nI_ltI (by omega) (by omega)]; omega)], fun _ _ _ => rfl, fun _ _ => ⟨rfl, rfl⟩, fun l' h1 h2 => by omega⟩
  | succ d ih =>
    intro l fuel J hd hf h24 ho hN
    obtain ⟨fu, rfl⟩ : ∃ fu, fuel = fu + 1 := ⟨fuel - 1, by omega⟩
    obtain ⟨J1, e1, g1, q1, a1⟩ := c_os6 (K11 := fun a1 a2 a3 a4 a5 I => f_X0_offerSteps_p11 fu a1 a2 a3 a4 a5 I) hM hB hb ht ha (show l ≤ a by omega) 6 0 FU J (by omega) (by rw [FU_v]; omega) h24 ho ⟨fun e he => by simp [ofl] at he, fun _ => hN l (Nat.le_refl _) (by omega)⟩
    obtain ⟨J2, e2, g2, q2, a2⟩ := ih (l + 1) fu J1 (by omega) (by omega) (fun x hx => by rw [g1 24 (by decide) (by decide)]; exact h24 x hx) (fun x hx l' hl' => by
      obtain ⟨y1, y2⟩ := q1 (ce (b + 1) x l') (by unfold ce; omega)
      rw [y1, y2]
      exact ho x hx l' hl') (fun l' h1 h2 => by rw [(q1 (ce b t l') (by unfold ce; omega)).1]; exact hN l' (by omega) h2)
    refine ⟨J2, ?_, fun g h1 h2 => (g2 g h1 h2).trans (g1 g h1 h2), fun c hc => ?_, fun l' h1 h2 => ?_⟩
    · rw [f_X0_offerSteps_p11, if_neg (by rw [nI_ltI (by omega) (by omega)]; omega)]
      exact Eq.trans e1 e2
    · obtain ⟨y1, y2⟩ := q2 c (by unfold ce at *; omega)
      obtain ⟨z1, z2⟩ := q1 c (by unfold ce at *; omega)
      exact ⟨y1.trans z1, y2.trans z2⟩
    · by_cases z : l' = l
      · subst z
        obtain ⟨y1, y2⟩ := q2 (ce b t l') (by unfold ce; omega)
        unfold aOk
        rw [y1, y2]
        exact a1
      · exact a2 l' (by omega) h2
