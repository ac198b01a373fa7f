/-! ===== the model follows; best on both sides ===== -/
theorem m_flw {A X : Mem} {B i : Nat} {e : WE} (hB : B ≤ 24) (eB : A 33 0 0 = nI B) (hi : i < 20) (h : (FL A B)[i]? = some e) (hk : sK A X) (ho : ∀ b, b < B → ∀ u, u < 6 → wOk X A B b u) :
    ∀ (d b fuel : Nat) (T U : Int32) (Y : Mem), b + d = B → d < fuel → (b < B → T = nI (wq A B e b).1 ∧ U = nI (wq A B e b).2) → (∀ g, g ≠ 48 → Y g = X g) → (∀ c, c < b → Y 48 0 c = nI (wq A B e c).1) →
    ∃ Y', f_X8_follow_p8 fuel T U (nI b) Y = rV Y' ∧ (∀ g, g ≠ 48 → g ≠ 33 → Y' g = X g) ∧ (∀ k, Y' 33 0 k = if k = 19 then 1 else A 33 0 k) ∧ ∀ c, c < B → Y' 48 0 c = nI (wq A B e c).1 := by
  intro d
  induction d with
  | zero =>
    intro b fuel T U Y hd hf hTU hg h48
    obtain ⟨fu, rfl⟩ : ∃ fu, fuel = fu + 1 := ⟨fuel - 1, by omega⟩
    have : b = B := by omega
    subst this
    refine ⟨mup Y 33 0 19 1, by rw [f_X8_follow_p8, hg 33 (by decide), hk 33 (by decide), eB, if_pos ((nI_leI (by omega) (by omega)).mpr (Nat.le_refl _))], fun g h1 h2 => by rw [mup_g h2]; exact hg g h1, fun k => by rw [mup_0, hg 33 (by decide), hk 33 (by decide)], fun c hc => by rw [mup_g (by decide)]; exact h48 c hc⟩
  | succ d ih =>
    intro b fuel T U Y hd hf hTU hg h48
    obtain ⟨fu, rfl⟩ : ∃ fu, fuel = fu + 1 := ⟨fuel - 1, by omega⟩
    obtain ⟨w1, w2, x, w3, w4⟩ := wq_ok h b (by omega)
    obtain ⟨rfl, rfl⟩ := hTU (by omega)
    rw [f_X8_follow_p8, hg 33 (by decide), hk 33 (by decide), eB, if_neg (by rw [nI_leI (by omega) (by omega)]; omega), ix_nI (by omega) (by decide), six, mul20, nI_add, ix_nI (by omega) (by decide), ix_nI (by omega) (by decide), nI_1]
    refine ih (b + 1) fu _ _ (mup Y 48 0 b (nI (wq A B e b).1)) (by omega) (by omega) (fun hb => ?_) (fun g hg' => by rw [mup_g hg']; exact hg g hg') (fun c hc => ?_)
    · obtain ⟨-, -, q⟩ := (ho b (by omega) _ w1).2 _ x (by omega) w3
      obtain ⟨q1, q2⟩ := q hb
      rw [mup_g (by decide), mup_g (by decide), hg 55 (by decide), hg 56 (by decide), q1, q2, w4 hb]
      exact ⟨rfl, rfl⟩
    · rw [mup_0]
      by_cases z : c = b
      · rw [if_pos z, z]
      · rw [if_neg z]; exact h48 c (by omega)
/-- the model finds the way of a rank -/
theorem m_ranked {A : Mem} {B a : Nat} (hM : InvM A) (hB1 : 1 ≤ B) (hB : B ≤ 24) (eB : A 33 0 0 = nI B) (ha : a < 20) :
    ((FL A B)[a]? = none ∧ ∃ X, sK A X ∧ f_X8_best (nI a) A = cI (f_X8_answer (-1000006) X) fun v11 J10 => rI v11 J10) ∨ ∃ (e : WE) (Y : Mem), (FL A B)[a]? = some e ∧ f_X8_best (nI a) A = rI (Int32.ofInt e.v) Y ∧ (∀ g, ¬ (52 ≤ g ∧ g ≤ 62) → g ≠ 48 → g ≠ 33 → Y g = A g) ∧ (∀ k, Y 33 0 k = if k = 19 then 1 else A 33 0 k) ∧ ∀ c, c < B → Y 48 0 c = nI (wq A B e c).1 := by
  obtain ⟨X, e1, k1, o1⟩ := m_ways hM hB1 hB eB
  have hz : ∀ (d k fuel : Nat) (Y : Mem), k + d = 6 → d < fuel → (∀ g, g ≠ 58 → Y g = X g) → (∀ u, u < k → Y 58 0 u = 0) → ∃ Y', f_X8_best_p28 fuel (nI a) (nI k) Y = f_X8_best_p46 FU (nI a) (nI 0) Y' ∧ (∀ g, g ≠ 58 → Y' g = X g) ∧ ∀ u, u < 6 → Y' 58 0 u = 0 := by
    intro d
    induction d with
    | zero =>
      intro k fuel Y hd hf h1 h2
      obtain ⟨fu, rfl⟩ : ∃ fu, fuel = fu + 1 := ⟨fuel - 1, by omega⟩
      have : k = 6 := by omega
      subst this
      exact ⟨Y, by rw [f_X8_best_p28, if_pos (by decide)]; rfl, h1, h2⟩
    | succ d ih =>
      intro k fuel Y hd hf h1 h2
      obtain ⟨fu, rfl⟩ : ∃ fu, fuel = fu + 1 := ⟨fuel - 1, by omega⟩
      rw [f_X8_best_p28, if_neg (show ¬ (6 : Int32) ≤ nI k from nI_ge (show k < 6 by omega) (by decide)), ix6 (by omega), nI_1]
      refine ih (k + 1) fu _ (by omega) (by omega) (fun g hg => by rw [mup_g hg]; exact h1 g hg) (fun u hu => ?_)
      rw [mup_0]
      by_cases z : u = k
      · rw [if_pos z]
      · rw [if_neg z]; exact h2 u (by omega)
  obtain ⟨X1, e2, g2, z2⟩ := hz 6 0 FU X (by omega) (by rw [FU_v]; omega) (fun _ _ => rfl) (fun u hu => by omega)
  have fr : ∀ (Y : Mem), (∀ g, g ≠ 58 → Y g = X g) → ∀ b, b < B → ∀ u, u < 6 → wOk Y A B b u := by
    intro Y hY b hb u hu
    have := o1 b hb u hu
    unfold wOk at this ⊢
    rw [hY 52 (by decide), hY 53 (by decide), hY 54 (by decide), hY 55 (by decide), hY 56 (by decide)]
    exact this
  obtain ⟨X2, g3, c3⟩ := m_bst (a := a) hM hB1 hB ha a 0 FU (fun _ => 0) X1 (by omega) (by rw [FU_v]; omega) (fun u hu => fr X1 g2 0 (by omega) u hu) (fun u hu => by rw [z2 u hu]; rfl) (fun u hu => Nat.le_refl _)
  have gX : ∀ g, g ≠ 58 → X2 g = X g := fun g hg => (g3 g hg).trans (g2 g hg)
  have k2 : sK A X2 := fun g hg => by rw [gX g (by omega)]; exact k1 g hg
  have hs : f_X8_best (nI a) A = f_X8_best_p46 FU (nI a) (nI 0) X1 := by
    unfold f_X8_best
    rw [m_in, cI_r, bi_t ⟨(nI_leI (a := 0) (by omega) (by omega)).mpr (Nat.zero_le _), (nI_leI (b := 19) (by omega) (by omega)).mpr (by omega)⟩, if_neg (by decide), e1, cV_r]
    exact e2
  rw [dF_0] at c3
  rcases c3 with ⟨q1, q2⟩ | ⟨e, q1, q2, q3⟩
  · exact Or.inl ⟨q1, X2, k2, by rw [hs, q2]⟩
  · have hx : (FL A B)[a]? = some e := q1
    obtain ⟨x1, x2, x, x3, x4, x5⟩ := FL_get hx
    obtain ⟨Y, f1, f2, f3, f4⟩ := m_flw hB eB ha hx k2 (fr X2 gX) B 0 FU (nI e.u) (nI e.j) X2 (by omega) (by rw [FU_v]; omega) (fun _ => ⟨rfl, rfl⟩) (fun _ _ => rfl) (fun c hc => by omega)
    refine Or.inr ⟨e, Y, hx, ?_, fun g h1 h2 h3 => by rw [f2 g h2 h3]; exact k2 g h1, f3, f4⟩
    have f1' : f_X8_follow (nI e.u) (nI e.j) X2 = rV Y := f1
    obtain ⟨y1, -⟩ := (fr X2 gX 0 (by omega) e.u x1).2 e.j x (by omega) x3
    rw [hs, q3, f1', cV_r, ix6 x1, f2 58 (by decide) (by decide), q2, mul20, nI_add, ix_nI (by omega) (by decide), f2 53 (by decide) (by decide)]
    rw [show 6 * 0 + e.u = e.u by omega] at y1
    rw [y1, x4]
theorem op_best (a : Int32) : opA (f_X7_best a) (f_X8_best a) := by
  intro I A hR hM
  obtain ⟨B, ⟨hB1, hB, eB⟩, -⟩ := hM.1
  rcases nb_cases a (n := 20) (by omega) with ⟨k, hk, rfl⟩ | hx
  · obtain ⟨J, rJ, gJ, cJ⟩ := c_ranked hM hB1 hB eB hk hR
    have kJ : keepC I J := fun g hg => (gJ g (by omega) (by omega)).symm
    have hin : (0 : Int32) ≤ nI k ∧ nI k ≤ 19 := nb_ok (n := 20) hk (by omega)
    have hs : f_X7_best (nI k) I = cI (f_X0_findRanked (nI k) I) fun v4 J3 => cI (f_X7_adopt v4 J3) fun v6 J5 => rI v6 J5 := by
      unfold f_X7_best
      rw [c_within, cI_r, bi_t hin, if_neg (by decide)]
    rcases m_ranked hM hB1 hB eB hk with ⟨n1, X, kX, eX⟩ | ⟨e, Y, n1, eY, gY, y33, y48⟩
    · rcases cJ with ⟨-, eJ⟩ | ⟨e, n2, -⟩
      · have rX : RC J X := RC_scrM rJ (sK_K kX) (kX 50 (by decide)) (kX 49 (by decide)) (by rw [kX 33 (by decide)])
        obtain ⟨v, I1, A1, z1, z2, z3, z4, z5, z6⟩ := op_ref (fc := fun J => cI (f_X7_adopt (-2000000000) J) fun v6 J5 => rI v6 J5) (fm := fun A => cI (f_X8_answer (-1000006) A) fun v5 J4 => rI v5 J4) (c := -1000006) 5 (by decide) rX (sK_M kX hM) rfl (by
          unfold f_X7_adopt
          rw [if_pos rfl]; rfl)
        refine ⟨v, I1, A1, by rw [eX]; exact z1, z2, agr_tr (fun g hg => (kX g (by omega)).symm) z3, ?_, z5, agr_tr kJ z6⟩
        rw [hs, eJ, cI_r]
        exact z4
      · rw [n1] at n2; simp at n2
    · rcases cJ with ⟨n2, -⟩ | ⟨e', n2, eJ, j26⟩
      · rw [n1] at n2; simp at n2
      · rw [n1] at n2
        simp only [Option.some.injEq] at n2
        subst n2
        obtain ⟨x1, x2, x, x3, x4, x5⟩ := FL_get n1
        have kx := LL_key hM hB x1 (by omega) x3
        have kk : (Int32.ofInt e.key).toInt = e.key := oI (by unfold WE.key at *; omega) (by unfold WE.key at *; omega)
        have hA : agN A Y := ⟨fun g h1 h2 => gY g (by omega) (by omega) (by omega), fun k hk => by rw [y33 k, if_neg (by omega)]⟩
        have hw : wayOk Y B := fun b hb => by
          obtain ⟨w1, w2, y, w3, -⟩ := wq_ok n1 b hb
          exact ⟨(wq A B e b).1, w1, y48 b hb, (agN_may hA).mpr (LL_may hb w3)⟩
        obtain ⟨mY, J2, e2, r2, c2⟩ := way_both rJ hM hA (gY 50 (by decide) (by decide) (by decide)) (gY 49 (by decide) (by decide) (by decide)) (by rw [y33 22, if_neg (by decide)]) eB hB1 hB (by rw [y33 19, if_pos rfl]) hw (fun b hb => by rw [j26 b hb, y48 b hb])
        refine ⟨Int32.ofInt e.v, J2, Y, eY, mY, fun g hg => (gY g (by omega) (by omega) (by omega)).symm, ?_, r2, agr_tr kJ c2⟩
        rw [hs, eJ, cI_r]
        unfold f_X7_adopt
        rw [if_neg (by rw [eq_i, kk, no_t]; unfold WE.key at *; omega), rJ.1.1, eB, e2, cV_r]
        unfold WE.key
        rw [val_key (by omega) (by omega) (by omega), cI_r, cI_r]
  · have hx' : ¬ ((0 : Int32) ≤ a ∧ a ≤ 19) := hx
    refine op_ref (c := -1000001) 0 (by decide) hR hM ?_ ?_
    · unfold f_X8_best
      rw [m_in, cI_r, bi_ite, if_neg hx']; rfl
    · unfold f_X7_best
      rw [c_within, cI_r, bi_ite, if_neg hx']; rfl
