/-! ===== the model: few joins ===== -/
def fwc (b t l : Nat) : Nat := 24 * (6 * b + t) + l
theorem few_t (b t l : Nat) (I : Mem) : f_X8_few (nI b) (nI t) (nI l) I = rI (nI (fwc b t l)) I := by
  unfold f_X8_few fwc
  rw [six, show (24 : Int32) * nI (6 * b + t) = nI (24 * (6 * b + t)) from pk_mul 24 _, nI_add]
def aM (X : Mem) (c : Nat) (o : Option WE) : Prop := (∀ e : WE, o = some e → X 59 0 c = 1 ∧ X 60 0 c = Int32.ofInt e.v ∧ X 61 0 c = nI e.jn ∧ X 62 0 c = nI e.u) ∧ (o = none → X 59 0 c = 0)
def gM (X A : Mem) (B b t l : Nat) : Prop := (∀ e : WE, GG A B b t l = some e → X 59 0 (fwc b t l) = 1 ∧ X 60 0 (fwc b t l) = Int32.ofInt e.v ∧ X 61 0 (fwc b t l) = nI e.jn ∧ (b + 1 < B → X 62 0 (fwc b t l) = nI e.u)) ∧ (GG A B b t l = none → X 59 0 (fwc b t l) = 0)
def fcc (X X' : Mem) (c : Nat) : Prop := (∀ g, ¬ (59 ≤ g ∧ g ≤ 62) → X' g = X g) ∧ ∀ g, 59 ≤ g → g ≤ 62 → ∀ k, k ≠ c → X' g 0 k = X g 0 k
theorem fcc_rf {X : Mem} {c : Nat} : fcc X X c := ⟨fun _ _ => rfl, fun _ _ _ _ _ => rfl⟩
theorem fcc_tr {X Y Z : Mem} {c : Nat} (h : fcc X Y c) (h2 : fcc Y Z c) : fcc X Z c := ⟨fun g a => (h2.1 g a).trans (h.1 g a), fun g a b k d => (h2.2 g a b k d).trans (h.2 g a b k d)⟩
theorem fcc_up {X Y : Mem} {c g : Nat} {v : Int32} (h : fcc X Y c) (h1 : 59 ≤ g) (h2 : g ≤ 62) : fcc X (mup Y g 0 c v) c := by
  refine ⟨fun a ha => by rw [mup_g (by omega)]; exact h.1 a ha, fun a h3 h4 k hk => ?_⟩
  by_cases z : a = g
  · subst z; rw [mup_0, if_neg hk]; exact h.2 a h3 h4 k hk
  · rw [mup_g z]; exact h.2 a h3 h4 k hk
theorem gM_fr {X X' A : Mem} {B b t l c : Nat} (h : gM X A B b t l) (hf : fcc X X' c) (hc : c ≠ fwc b t l) : gM X' A B b t l := by
  unfold gM at h ⊢
  rw [hf.2 59 (by decide) (by decide) _ (Ne.symm hc), hf.2 60 (by decide) (by decide) _ (Ne.symm hc), hf.2 61 (by decide) (by decide) _ (Ne.symm hc), hf.2 62 (by decide) (by decide) _ (Ne.symm hc)]
  exact h
theorem fcc_sK {A X X' : Mem} {c : Nat} (h : fcc X X' c) (hk : sK A X) : sK A X' := fun g hg => by rw [h.1 g (by omega)]; exact hk g hg
theorem nxC_eOk {A : Mem} {B b t l u : Nat} {e : WE} (hM : InvM A) (hB : B ≤ 24) (hb : b + 1 < B) (ht : t < 6) (hu : u < 6) (h : nxC A b t (GG A B (b + 1)) l u = some e) : eOk e := by
  obtain ⟨-, -, x, hx, rfl⟩ := nxC_some h
  have kx := GG_key hM hB hu hb hx
  have hw := wo_rg hM ht (b := b) (by omega)
  have c : 0 ≤ sC A b t u ∧ sC A b t u ≤ 13000 := by
    unfold sC
    split
    · omega
    · exact co_rg hM ht hu (b + 1)
  have c2 : sJ t u ≤ 1 := by
    unfold sJ
    split <;> omega
  unfold eOk WE.key mkW4 WE.v WE.jn WE.u at *
  dsimp only
  omega
theorem m_fw6u {A : Mem} {B a b t l : Nat} (hM : InvM A) (hB : B ≤ 24) (eB : A 33 0 0 = nI B) (hb : b + 1 < B) (ht : t < 6) (ha : a < 24) (hl : l ≤ a) (hm : mMay A t b) :
    ∀ (d u fuel : Nat) (X : Mem), u + d = 6 → d < fuel → sK A X → (∀ s, s < 6 → ∀ t, t < 6 → ctOk X A (b + 1) s t) → (∀ x, x < 6 → ∀ l', l' ≤ a → gM X A B (b + 1) x l') → aM X (fwc b t l) (ofl (nxC A b t (GG A B (b + 1)) l) u) →
    ∃ X', f_X8_findFew_p85 fuel (nI b) (nI t) (nI l) (nI (fwc b t l)) (nI u) X = rV X' ∧ fcc X X' (fwc b t l) ∧ aM X' (fwc b t l) (ofl (nxC A b t (GG A B (b + 1)) l) 6) := by
  have hc : fwc b t l < 3456 := by unfold fwc; omega
  intro d
  induction d with
  | zero =>
    intro u fuel X hd hf hk hct ho hA
    obtain ⟨fu, rfl⟩ : ∃ fu, fuel = fu + 1 := ⟨fuel - 1, by omega⟩
    have : u = 6 := by omega
    subst this
    exact ⟨X, by rw [f_X8_findFew_p85, if_pos (by decide)], fcc_rf, hA⟩
  | succ d ih =>
    intro u fuel X hd hf hk hct ho hA
    obtain ⟨fu, rfl⟩ : ∃ fu, fuel = fu + 1 := ⟨fuel - 1, by omega⟩
    have hu : u < 6 := by omega
    have go : ∀ (Y : Mem), fcc X Y (fwc b t l) → aM Y (fwc b t l) (ofl (nxC A b t (GG A B (b + 1)) l) (u + 1)) → ∃ X', f_X8_findFew_p85 fu (nI b) (nI t) (nI l) (nI (fwc b t l)) (nI (u + 1)) Y = rV X' ∧ fcc X X' (fwc b t l) ∧ aM X' (fwc b t l) (ofl (nxC A b t (GG A B (b + 1)) l) 6) := by
      intro Y h1 h2
      obtain ⟨X', e, f1, f2⟩ := ih (u + 1) fu Y (by omega) (by omega) (fcc_sK h1 hk) (fun s hs t ht => ctOk_fr (hct s hs t ht) (by rw [h1.1 57 (by decide)])) (fun x hx l' hl' => gM_fr (ho x hx l' hl') h1 (by unfold fwc; omega)) h2
      exact ⟨X', e, fcc_tr h1 f1, f2⟩
    have skip : nxC A b t (GG A B (b + 1)) l u = none → ∃ X', f_X8_findFew_p85 fu (nI b) (nI t) (nI l) (nI (fwc b t l)) (nI (u + 1)) X = rV X' ∧ fcc X X' (fwc b t l) ∧ aM X' (fwc b t l) (ofl (nxC A b t (GG A B (b + 1)) l) 6) := by
      intro hn
      refine go X fcc_rf ?_
      rw [ofl, hn, of1_none]
      exact hA
    have main : ∀ s0 : Nat, s0 = sJ t u → ∃ X', f_X8_findFew_p122 (fun a1 a2 a3 a4 a5 I => f_X8_findFew_p85 fu a1 a2 a3 a4 a5 I) (nI b) (nI t) (nI l) (nI (fwc b t l)) (nI u) (nI s0) X = rV X' ∧ fcc X X' (fwc b t l) ∧ aM X' (fwc b t l) (ofl (nxC A b t (GG A B (b + 1)) l) 6) := by
      intro s0 es0
      have c2 : sJ t u ≤ 1 := by
        unfold sJ
        split <;> omega
      unfold f_X8_findFew_p122
      by_cases hls : l < s0
      · rw [if_pos ((nI_ltI (by omega) (by omega)).mpr hls), nI_1]
        exact skip (by unfold nxC; rw [if_neg (by rintro ⟨-, z⟩; omega)])
      · rw [if_neg (by rw [nI_ltI (by omega) (by omega)]; exact hls), nI_1, m_mj hk (by omega) ht hu, cI_r]
        by_cases hal : alw A b t u
        · rw [bi_t hal, if_neg (by decide), show nI l - nI s0 = nI (l - s0) from pk_sub (by omega), few_t, cI_r, ix_nI (by unfold fwc; omega) (by decide)]
          have hg := ho u hu (l - s0) (by omega)
          cases hx : GG A B (b + 1) u (l - s0) with
          | none =>
            rw [hg.2 hx, if_pos rfl, nI_1]
            exact skip (by unfold nxC; rw [if_pos ⟨hal, by omega⟩, ← es0, hx]; rfl)
          | some x =>
            obtain ⟨g1, g2, g3, -⟩ := hg.1 x hx
            have hz : nxC A b t (GG A B (b + 1)) l u = some (mkW4 ((mWo A t b).toInt + x.v - sC A b t u) (x.jn + sJ t u) u (l - sJ t u)) := by
              unfold nxC
              rw [if_pos ⟨hal, by omega⟩, ← es0, hx]
              rfl
            have oz := nxC_eOk hM hB hb ht hu hz
            have hmu : mMay A u (b + 1) := GG_may hb hx
            have fin : ∀ co : Int32, co = Int32.ofInt (sC A b t u) → ∃ X', f_X8_findFew_p222 (fun a1 a2 a3 a4 a5 I => f_X8_findFew_p85 fu a1 a2 a3 a4 a5 I) (nI b) (nI t) (nI l) (nI (fwc b t l)) (nI u) (nI s0) (nI (fwc (b + 1) u (l - s0))) (Int32.ofInt (mWo A t b).toInt + Int32.ofInt x.v) co X = rV X' ∧ fcc X X' (fwc b t l) ∧ aM X' (fwc b t l) (ofl (nxC A b t (GG A B (b + 1)) l) 6) := by
              intro co eco
              unfold f_X8_findFew_p222 f_X8_findFew_p283
              rw [eco, ← Int32.ofInt_add, ← Int32.ofInt_sub, ix_nI (by unfold fwc; omega) (by decide), g3, nI_add, es0, ix_nI hc (by decide), ix_nI hc (by decide), ix_nI hc (by decide), ix_nI hc (by decide), ix_nI hc (by decide), ix_nI hc (by decide), ix_nI hc (by decide), ix_nI hc (by decide), nI_1]
              generalize hzz : mkW4 ((mWo A t b).toInt + x.v - sC A b t u) (x.jn + sJ t u) u (l - sJ t u) = z at hz oz
              have zv : (mWo A t b).toInt + x.v - sC A b t u = z.v := by rw [← hzz]; rfl
              have zj : x.jn + sJ t u = z.jn := by rw [← hzz]; rfl
              have zu : u = z.u := by rw [← hzz]; rfl
              rw [zv, zj]
              have take : ofl (nxC A b t (GG A B (b + 1)) l) (u + 1) = some z → ∃ X', f_X8_findFew_p85 fu (nI b) (nI t) (nI l) (nI (fwc b t l)) (nI (u + 1)) (mup (mup (mup (mup X 59 0 (fwc b t l) (znar 1)) 60 0 (fwc b t l) (Int32.ofInt z.v)) 61 0 (fwc b t l) (nI z.jn)) 62 0 (fwc b t l) (nI u)) = rV X' ∧ fcc X X' (fwc b t l) ∧ aM X' (fwc b t l) (ofl (nxC A b t (GG A B (b + 1)) l) 6) := by
                intro hof
                refine go _ (fcc_up (fcc_up (fcc_up (fcc_up fcc_rf (by decide) (by decide)) (by decide) (by decide)) (by decide) (by decide)) (by decide) (by decide)) ?_
                rw [hof]
                refine ⟨fun e he => ?_, fun he => by simp at he⟩
                simp only [Option.some.injEq] at he
                subst he
                refine ⟨?_, ?_, ?_, ?_⟩
                · rw [mup_g (by decide), mup_g (by decide), mup_g (by decide), mup_at]; decide
                · rw [mup_g (by decide), mup_g (by decide), mup_at]
                · rw [mup_g (by decide), mup_at]
                · rw [mup_at, ← zu]
              have keep : ofl (nxC A b t (GG A B (b + 1)) l) (u + 1) = ofl (nxC A b t (GG A B (b + 1)) l) u → ∃ X', f_X8_findFew_p85 fu (nI b) (nI t) (nI l) (nI (fwc b t l)) (nI (u + 1)) X = rV X' ∧ fcc X X' (fwc b t l) ∧ aM X' (fwc b t l) (ofl (nxC A b t (GG A B (b + 1)) l) 6) := fun hof => go X fcc_rf (by rw [hof]; exact hA)
              cases hq : ofl (nxC A b t (GG A B (b + 1)) l) u with
              | none =>
                rw [if_pos (hA.2 hq)]
                exact take (by rw [ofl, hq, hz]; rfl)
              | some y =>
                obtain ⟨y1, y2, y3, -⟩ := hA.1 y hq
                have oy : eOk y := by
                  obtain ⟨u', hu', hm'⟩ := ofl_some u hq
                  exact nxC_eOk hM hB hb ht (by omega) hm'
                obtain ⟨y4, y5, y6, -⟩ := oy
                obtain ⟨z4, z5, z6, -⟩ := oz
                have hof : ofl (nxC A b t (GG A B (b + 1)) l) (u + 1) = if y.key < z.key then some z else some y := by rw [ofl, hq, hz]; rfl
                rw [y1, if_neg (by decide), y2, y3]
                by_cases h1 : y.v < z.v
                · rw [if_pos (by rw [lt_i, oI (by omega) (by omega), oI (by omega) (by omega)]; exact h1)]
                  exact take (by rw [hof, if_pos (by unfold WE.key; omega)])
                · rw [if_neg (by rw [lt_i, oI (by omega) (by omega), oI (by omega) (by omega)]; exact h1)]
                  by_cases h2 : z.v = y.v
                  · rw [if_pos (by rw [h2])]
                    by_cases h3 : y.jn ≤ z.jn
                    · rw [if_pos ((nI_leI (by omega) (by omega)).mpr h3)]
                      exact keep (by rw [hof, if_neg (by unfold WE.key; omega), hq])
                    · rw [if_neg (by rw [nI_leI (by omega) (by omega)]; exact h3)]
                      exact take (by rw [hof, if_pos (by unfold WE.key; omega)])
                  · rw [if_neg (by rw [oI_inj (by omega) (by omega) (by omega) (by omega)]; exact h2)]
                    exact keep (by rw [hof, if_neg (by unfold WE.key; omega), hq])
            rw [g1, if_neg (by decide), few_t, cI_r, sK_worth hk ht (by omega), cI_r, ix_nI (by unfold fwc; omega) (by decide), g2]
            by_cases h1 : u = t
            · have j0 : sJ t u = 0 := by unfold sJ; rw [if_pos h1]
              rw [if_pos (by rw [es0, j0]; rfl)]
              exact fin 0 (by unfold sC; rw [if_pos h1]; rfl)
            · have j1 : sJ t u = 1 := by unfold sJ; rw [if_neg h1]
              rw [if_neg (by rw [es0, j1]; decide), ct_ix, ix_nI (by unfold ct; omega) (by decide)]
              exact fin _ (by unfold sC; rw [if_neg h1, hct t ht u hu (fun z => h1 z.symm) hm hmu])
        · rw [bi_f hal, if_pos rfl, nI_1]
          exact skip (by unfold nxC; rw [if_neg (fun z => hal z.1)])
    rw [f_X8_findFew_p85, if_neg (show ¬ (6 : Int32) ≤ nI u from nI_ge hu (by decide)), sK_may hk hM ht (by omega), cI_r, bi_t hm, if_neg (by decide), hk 33 (by decide), eB, mM1 (by omega), if_neg (by rw [nI_leI (by omega) (by omega)]; omega)]
    by_cases h1 : u = t
    · rw [if_pos (by rw [h1])]
      exact main 0 (by unfold sJ; rw [if_pos h1])
    · rw [if_neg (fun z => h1 ((nI_inj (by omega) (by omega)).mp z))]
      exact main 1 (by unfold sJ; rw [if_neg h1])
