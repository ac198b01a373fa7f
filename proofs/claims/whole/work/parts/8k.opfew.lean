theorem m_ftr {A X : Mem} {B a : Nat} {e : WE} (hB1 : 1 ≤ B) (hB : B ≤ 24) (eB : A 33 0 0 = nI B) (ha : a < 24) (h : FG A B a = some e) (hk : sK A X) (ho : ∀ b, b < B → ∀ x, x < 6 → ∀ l, l ≤ a → gM X A B b x l) :
    ∀ (d b fuel : Nat) (T L : Int32) (Y : Mem), b + d = B → d < fuel → (b < B → T = nI (wf A B e b).1 ∧ L = nI (wf A B e b).2) → (∀ g, g ≠ 48 → Y g = X g) → (∀ c, c < b → Y 48 0 c = nI (wf A B e c).1) →
    ∃ Y', f_X8_few__p226 fuel (nI a) (nI e.u) T L (nI b) Y = rI (Int32.ofInt e.v) Y' ∧ (∀ g, g ≠ 48 → g ≠ 33 → Y' g = X g) ∧ (∀ k, Y' 33 0 k = if k = 19 then 1 else A 33 0 k) ∧ ∀ c, c < B → Y' 48 0 c = nI (wf A B e c).1 := by
  obtain ⟨x1, x2, x, x3, x4, x5⟩ := FG_get h
  intro d
  induction d with
  | zero =>
    intro b fuel T L Y hd hf hTU hg h48
    obtain ⟨fu, rfl⟩ : ∃ fu, fuel = fu + 1 := ⟨fuel - 1, by omega⟩
    have : b = B := by omega
    subst this
    obtain ⟨-, g2, -⟩ := (ho 0 (by omega) e.u x1 e.j (by omega)).1 x x3
    refine ⟨mup Y 33 0 19 1, ?_, fun g h1 h2 => by rw [mup_g h2]; exact hg g h1, fun k => by rw [mup_0, hg 33 (by decide), hk 33 (by decide)], fun c hc => by rw [mup_g (by decide)]; exact h48 c hc⟩
    rw [f_X8_few__p226, hg 33 (by decide), hk 33 (by decide), eB, if_pos ((nI_leI (by omega) (by omega)).mpr (Nat.le_refl _)), show f_X8_few 0 (nI e.u) (nI a) (mup Y 33 0 19 1) = rI (nI (fwc 0 e.u a)) (mup Y 33 0 19 1) from few_t 0 e.u a _, cI_r, ix_nI (by unfold fwc; omega) (by decide), mup_g (by decide), hg 60 (by decide), ← x2, g2, x4]
  | succ d ih =>
    intro b fuel T L Y hd hf hTU hg h48
    obtain ⟨fu, rfl⟩ : ∃ fu, fuel = fu + 1 := ⟨fuel - 1, by omega⟩
    obtain ⟨w1, w2, y, w3, w4⟩ := wf_ok h b (by omega)
    obtain ⟨rfl, rfl⟩ := hTU (by omega)
    have g48 : ∀ g, g ≠ 48 → mup Y 48 0 b (nI (wf A B e b).1) g = X g := fun g hg' => by rw [mup_g hg']; exact hg g hg'
    have n48 : ∀ c, c < b + 1 → mup Y 48 0 b (nI (wf A B e b).1) 48 0 c = nI (wf A B e c).1 := fun c hc => by
      rw [mup_0]
      by_cases z : c = b
      · rw [if_pos z, z]
      · rw [if_neg z]; exact h48 c (by omega)
    have p278 : ∀ s v : Int32, f_X8_few__p278 (fun a2 a3 a4 a5 a6 I => f_X8_few__p226 fu a2 a3 a4 a5 a6 I) (nI a) (nI e.u) (nI b) v s (mup Y 48 0 b (nI (wf A B e b).1)) = f_X8_few__p226 fu (nI a) (nI e.u) v s (nI (b + 1)) (mup Y 48 0 b (nI (wf A B e b).1)) := fun s v => by
      unfold f_X8_few__p278 f_X8_few__p279
      rw [Int32.sub_zero, nI_1]
    have p279 : ∀ s v : Int32, f_X8_few__p279 (fun a2 a3 a4 a5 a6 I => f_X8_few__p226 fu a2 a3 a4 a5 a6 I) (nI a) (nI e.u) (nI b) v s 1 (mup Y 48 0 b (nI (wf A B e b).1)) = f_X8_few__p226 fu (nI a) (nI e.u) v (s - 1) (nI (b + 1)) (mup Y 48 0 b (nI (wf A B e b).1)) := fun s v => by
      unfold f_X8_few__p279
      rw [nI_1]
    rw [f_X8_few__p226, hg 33 (by decide), hk 33 (by decide), eB, if_neg (by rw [nI_leI (by omega) (by omega)]; omega), ix_nI (by omega) (by decide), few_t, cI_r, ix_nI (by unfold fwc; omega) (by decide), g48 62 (by decide), p278, p279]
    by_cases hl : b + 1 < B
    · obtain ⟨-, -, -, q⟩ := (ho b (by omega) _ w1 _ w2).1 y w3
      obtain ⟨n1, n2, n3, -⟩ := GG_next hl w3
      obtain ⟨hw, hj⟩ := w4 hl
      rw [q hl]
      by_cases h1 : y.u = (wf A B e b).1
      · rw [if_pos (by rw [h1])]
        refine ih (b + 1) fu _ _ _ (by omega) (by omega) (fun _ => ?_) g48 n48
        rw [hw]
        refine ⟨rfl, ?_⟩
        show nI (wf A B e b).2 = nI y.j
        rw [hj]
        unfold sJ
        rw [if_pos h1, Nat.sub_zero]
      · have j1 : sJ (wf A B e b).1 y.u = 1 := by unfold sJ; rw [if_neg h1]
        rw [if_neg (fun z => h1 ((nI_inj (by omega) (by omega)).mp z)), if_neg (nI_nneg (by omega)), mM1 (by omega)]
        refine ih (b + 1) fu _ _ _ (by omega) (by omega) (fun _ => ?_) g48 n48
        rw [hw]
        refine ⟨rfl, ?_⟩
        show nI ((wf A B e b).2 - 1) = nI y.j
        rw [hj, j1]
    · have nx : ∀ T' L' : Int32, ∃ Y', f_X8_few__p226 fu (nI a) (nI e.u) T' L' (nI (b + 1)) (mup Y 48 0 b (nI (wf A B e b).1)) = rI (Int32.ofInt e.v) Y' ∧ (∀ g, g ≠ 48 → g ≠ 33 → Y' g = X g) ∧ (∀ k, Y' 33 0 k = if k = 19 then 1 else A 33 0 k) ∧ ∀ c, c < B → Y' 48 0 c = nI (wf A B e c).1 := fun T' L' => ih (b + 1) fu T' L' _ (by omega) (by omega) (fun z => absurd z hl) g48 n48
      by_cases h1 : X 62 0 (fwc b (wf A B e b).1 (wf A B e b).2) = nI (wf A B e b).1
      · rw [if_pos h1]; exact nx _ _
      · rw [if_neg h1]
        by_cases h2 : X 62 0 (fwc b (wf A B e b).1 (wf A B e b).2) < 0
        · rw [if_pos h2]; exact nx _ _
        · rw [if_neg h2]; exact nx _ _
/-- the model finds the best way with few joins -/
theorem m_fewj {A : Mem} {B a : Nat} (hM : InvM A) (hB1 : 1 ≤ B) (hB : B ≤ 24) (eB : A 33 0 0 = nI B) (ha : a < 24) (c : Int32) (hc0 : 0 ≤ c) (hc : imin c (nI (B - 1)) = nI a) :
    (FG A B a = none ∧ ∃ X, sK A X ∧ f_X8_few_ c A = cI (f_X8_answer (-1000006) X) fun v11 J10 => rI v11 J10) ∨ ∃ (e : WE) (Y : Mem), FG A B a = some e ∧ f_X8_few_ c A = rI (Int32.ofInt e.v) Y ∧ (∀ g, ¬ (52 ≤ g ∧ g ≤ 62) → g ≠ 48 → g ≠ 33 → Y g = A g) ∧ (∀ k, Y 33 0 k = if k = 19 then 1 else A 33 0 k) ∧ ∀ c, c < B → Y 48 0 c = nI (wf A B e c).1 := by
  obtain ⟨X1, e1, g1, c1⟩ := m_costs hM hB1 hB eB
  obtain ⟨X2, e2, T2, o2⟩ := m_ffB (a := a) hM hB eB ha (B - 1) FU X1 (by omega) (by rw [FU_v]; omega) ⟨fun g hg => g1 g (by omega), c1⟩ (fun b' h1 h2 => by omega)
  obtain ⟨fu, e3⟩ := m_fsel (X := X2) hM hB1 hB ha (fun x hx => o2 0 (by omega) x hx a (Nat.le_refl _)) 6 0 FU (by omega) (by rw [FU_v]; omega)
  have hs : f_X8_few_ c A = f_X8_few__p88 (fu + 1) (nI a) (q3 (FG A B a)) (nI 6) X2 := by
    unfold f_X8_few_
    rw [if_pos hc0, eB, mM1 hB1, jmin_t, cI_r, hc, e1, cV_r, g1 33 (by decide), eB, mM1 hB1, e2]
    exact e3
  rw [f_X8_few__p88, if_pos (by decide)] at hs
  cases hx : FG A B a with
  | none =>
    left
    rw [hx, if_neg (show ¬ (0 : Int32) ≤ q3 none by decide)] at hs
    exact ⟨rfl, X2, T2.1, hs⟩
  | some e =>
    right
    obtain ⟨x1, x2, x, x3, x4, x5⟩ := FG_get hx
    rw [hx, show q3 (some e) = nI e.u from rfl, if_pos (show (0 : Int32) ≤ nI e.u from (nI_leI (a := 0) (by omega) (by omega)).mpr (Nat.zero_le _))] at hs
    obtain ⟨Y, f1, f2, f3, f4⟩ := m_ftr hB1 hB eB ha hx T2.1 o2 B 0 FU (nI e.u) (nI a) X2 (by omega) (by rw [FU_v]; omega) (fun _ => ⟨rfl, by show nI a = nI e.j; rw [x2]⟩) (fun _ _ => rfl) (fun c hc => by omega)
    exact ⟨e, Y, rfl, by rw [hs]; exact f1, fun g h1 h2 h3 => by rw [f2 g h2 h3]; exact T2.1 g h1, f3, f4⟩
theorem op_few (a : Int32) : opA (f_X7_few a) (f_X8_few_ a) := by
  intro I A hR hM
  obtain ⟨B, ⟨hB1, hB, eB⟩, -⟩ := hM.1
  by_cases h0 : 0 ≤ a
  · obtain ⟨k, hk, ek⟩ : ∃ k, k < 24 ∧ imin a (nI (B - 1)) = nI k := by
      rcases nb_cases a (n := B) (by omega) with ⟨k, hk, rfl⟩ | hx
      · refine ⟨k, by omega, ?_⟩
        unfold imin
        rw [if_neg (by rw [nI_ltI (by omega) (by omega)]; omega)]
      · refine ⟨B - 1, by omega, ?_⟩
        unfold imin
        rw [if_pos]
        rw [mM1 hB1] at hx
        rw [lt_i]
        rw [le_i, le_i] at hx
        rw [le_i] at h0
        omega
    obtain ⟨J, rJ, gJ, cJ⟩ := c_few hM hB1 hB eB hk hR
    have kJ : keepC I J := fun g hg => (gJ g (by omega) (by omega)).symm
    have hs : f_X7_few a I = cI (f_X0_findWithin (nI k) I) fun v4 J3 => cI (f_X7_adopt v4 J3) fun v6 J5 => rI v6 J5 := by
      unfold f_X7_few
      rw [if_pos h0, hR.1.1, eB, mM1 hB1, jmin_t, cI_r, ek]
    rcases m_fewj hM hB1 hB eB hk a h0 ek with ⟨n1, X, kX, eX⟩ | ⟨e, Y, n1, eY, gY, y33, y48⟩
    · rcases cJ with ⟨-, eJ⟩ | ⟨e, n2, -⟩
      · have rX : RC J X := RC_scrM rJ (sK_K kX) (kX 50 (by decide)) (kX 49 (by decide)) (by rw [kX 33 (by decide)])
        obtain ⟨v, I1, A1, z1, z2, z3, z4, z5, z6⟩ := op_ref (fc := fun J => cI (f_X7_adopt (-2000000000) J) fun v6 J5 => rI v6 J5) (fm := fun A => cI (f_X8_answer (-1000006) A) fun v5 J4 => rI v5 J4) (c := -1000006) 5 (by decide) rX (sK_M kX hM) rfl (by
          unfold f_X7_adopt
          rw [if_pos rfl]; rfl)
        refine ⟨v, I1, A1, by rw [eX]; exact z1, z2, agr_tr (fun g hg => (kX g (by omega)).symm) z3, ?_, z5, agr_tr kJ z6⟩
        rw [hs, eJ, cI_r]
        exact z4
      · rw [n1] at n2; simp at n2
    · rcases cJ with ⟨n2, -⟩ | ⟨e', n2, eJ, j26⟩
      · rw [n1] at n2; simp at n2
      · rw [n1] at n2
        simp only [Option.some.injEq] at n2
        subst n2
        obtain ⟨x1, x2, x, x3, x4, x5⟩ := FG_get n1
        have kx := GG_key hM hB x1 (by omega) x3
        have kk : (Int32.ofInt e.key).toInt = e.key := oI (by unfold WE.key at *; omega) (by unfold WE.key at *; omega)
        have hA : agN A Y := ⟨fun g h1 h2 => gY g (by omega) (by omega) (by omega), fun k hk => by rw [y33 k, if_neg (by omega)]⟩
        have hw : wayOk Y B := fun b hb => by
          obtain ⟨w1, w2, y, w3, -⟩ := wf_ok n1 b hb
          exact ⟨(wf A B e b).1, w1, y48 b hb, (agN_may hA).mpr (GG_may hb w3)⟩
        obtain ⟨mY, J2, e2, r2, c2⟩ := way_both rJ hM hA (gY 50 (by decide) (by decide) (by decide)) (gY 49 (by decide) (by decide) (by decide)) (by rw [y33 22, if_neg (by decide)]) eB hB1 hB (by rw [y33 19, if_pos rfl]) hw (fun b hb => by rw [j26 b hb, y48 b hb])
        refine ⟨Int32.ofInt e.v, J2, Y, eY, mY, fun g hg => (gY g (by omega) (by omega) (by omega)).symm, ?_, r2, agr_tr kJ c2⟩
        rw [hs, eJ, cI_r]
        unfold f_X7_adopt
        rw [if_neg (by rw [eq_i, kk, no_t]; unfold WE.key at *; omega), rJ.1.1, eB, e2, cV_r]
        unfold WE.key
        rw [val_key (by omega) (by omega) (by omega), cI_r, cI_r]
  · refine op_ref (c := -1000001) 0 (by decide) hR hM ?_ ?_
    · unfold f_X8_few_
      rw [if_neg h0]; rfl
    · unfold f_X7_few
      rw [if_neg h0]; rfl
