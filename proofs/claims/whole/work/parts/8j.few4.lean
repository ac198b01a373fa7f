theorem m_ff {A X : Mem} {B a b t l : Nat} (hM : InvM A) (hB : B ≤ 24) (eB : A 33 0 0 = nI B) (hb : b < B) (ht : t < 6) (ha : a < 24) (hl : l ≤ a) (hk : sK A X) (hct : b + 1 < B → ∀ s, s < 6 → ∀ t, t < 6 → ctOk X A (b + 1) s t) (ho : b + 1 < B → ∀ x, x < 6 → ∀ l', l' ≤ a → gM X A B (b + 1) x l') :
    ∃ X', f_X8_findFew (nI b) (nI t) (nI l) X = rV X' ∧ fcc X X' (fwc b t l) ∧ gM X' A B b t l := by
  have hc : fwc b t l < 3456 := by unfold fwc; omega
  have body : ∀ (v : Int32) (w : Int32), v = 0 ∨ v = 1 → (v = 0 → w = 0) → (v = 1 → w = Int32.ofInt (mWo A t b).toInt) → f_X8_findFew_p38 (nI b) (nI t) (nI l) (nI (fwc b t l)) (nI (fwc b t l)) v X = f_X8_findFew_p85 FU (nI b) (nI t) (nI l) (nI (fwc b t l)) 0 (mup (mup (mup (mup X 59 0 (fwc b t l) v) 60 0 (fwc b t l) w) 61 0 (fwc b t l) 0) 62 0 (fwc b t l) (-1)) := by
    intro v w h1 h2 h3
    unfold f_X8_findFew_p38 f_X8_findFew_p65
    have k1 : sK A (mup X 59 0 (fwc b t l) v) := fun g hg => by rw [mup_g (by omega)]; exact hk g hg
    rw [ix_nI hc (by decide), ix_nI hc (by decide), ix_nI hc (by decide), ix_nI hc (by decide), znar_b h1, mup_at, sK_worth k1 ht (by omega), cI_r]
    rcases h1 with z | z
    · rw [if_pos z, h2 z, ix_nI hc (by decide)]
    · rw [if_neg (by rw [z]; decide), h3 z, ix_nI hc (by decide), ix_nI hc (by decide), ix_nI hc (by decide)]
  have fc : ∀ v w : Int32, fcc X (mup (mup (mup (mup X 59 0 (fwc b t l) v) 60 0 (fwc b t l) w) 61 0 (fwc b t l) 0) 62 0 (fwc b t l) (-1)) (fwc b t l) := fun v w => fcc_up (fcc_up (fcc_up (fcc_up fcc_rf (by decide) (by decide)) (by decide) (by decide)) (by decide) (by decide)) (by decide) (by decide)
  have e59 : ∀ v w : Int32, mup (mup (mup (mup X 59 0 (fwc b t l) v) 60 0 (fwc b t l) w) 61 0 (fwc b t l) 0) 62 0 (fwc b t l) (-1) 59 0 (fwc b t l) = v := fun v w => by rw [mup_g (by decide), mup_g (by decide), mup_g (by decide), mup_at]
  unfold f_X8_findFew f_X8_findFew_p37
  rw [few_t, cI_r, sK_may hk hM ht (by omega), cI_r, hk 33 (by decide), eB, mM1 (by omega)]
  by_cases hm : mMay A t b
  · rw [bi_t hm, if_neg (by decide)]
    by_cases hlast : b + 1 < B
    · rw [if_neg (fun z => by have := (nI_inj (by omega) (by omega)).mp z; omega), body 0 0 (Or.inl rfl) (fun _ => rfl) (fun z => absurd z (by decide))]
      obtain ⟨X', e, f1, f2⟩ := m_fw6u (a := a) hM hB eB hlast ht ha hl hm 6 0 FU _ (by omega) (by rw [FU_v]; omega) (fcc_sK (fc 0 0) hk) (fun s hs t ht => ctOk_fr (hct hlast s hs t ht) (by rw [(fc 0 0).1 57 (by decide)])) (fun x hx l' hl' => gM_fr (ho hlast x hx l' hl') (fc 0 0) (by unfold fwc; omega)) ⟨fun e he => by simp [ofl] at he, fun _ => e59 0 0⟩
      refine ⟨X', e, fcc_tr (fc 0 0) f1, ?_⟩
      unfold gM
      rw [GG_step hlast, if_pos hm]
      exact ⟨fun e he => ⟨(f2.1 e he).1, (f2.1 e he).2.1, (f2.1 e he).2.2.1, fun _ => (f2.1 e he).2.2.2⟩, f2.2⟩
    · have hbB : b = B - 1 := by omega
      rw [if_pos (by rw [hbB]), body 1 (Int32.ofInt (mWo A t b).toInt) (Or.inr rfl) (fun z => absurd z (by decide)) (fun _ => rfl)]
      refine ⟨_, ?_, fc 1 (Int32.ofInt (mWo A t b).toInt), ?_⟩
      · rw [show FU = 19999 + 1 from rfl, f_X8_findFew_p85, if_neg (by decide), sK_may (fcc_sK (fc _ _) hk) hM ht (by omega), cI_r, bi_t hm, if_neg (by decide), (fcc_sK (fc _ _) hk) 33 (by decide), eB, mM1 (by omega), if_pos ((nI_leI (by omega) (by omega)).mpr (by omega))]
      · have hGG : GG A B b t l = some (mkW4 (mWo A t b).toInt 0 0 0) := by
          rw [hbB, GG_last, if_pos (by rw [← hbB]; exact hm)]
        unfold gM
        rw [hGG]
        refine ⟨fun e he => ?_, fun he => by simp at he⟩
        simp only [Option.some.injEq] at he
        subst he
        refine ⟨e59 _ _, ?_, ?_, fun z => absurd z hlast⟩
        · rw [mup_g (by decide), mup_g (by decide), mup_at]; rfl
        · rw [mup_g (by decide), mup_at]; rfl
  · rw [bi_f hm, if_pos rfl, body 0 0 (Or.inl rfl) (fun _ => rfl) (fun z => absurd z (by decide))]
    refine ⟨_, ?_, fc 0 0, ?_⟩
    · rw [show FU = 19999 + 1 from rfl, f_X8_findFew_p85, if_neg (by decide), sK_may (fcc_sK (fc _ _) hk) hM ht (by omega), cI_r, bi_f hm, if_pos rfl]
    · unfold gM
      rw [GG_none hb hm]
      exact ⟨fun e he => by simp at he, fun _ => e59 _ _⟩
/-- what the rows of beats hold -/
def gT (X A : Mem) (B a : Nat) : Prop := sK A X ∧ ∀ b, 1 ≤ b → b < B → ∀ s, s < 6 → ∀ t, t < 6 → ctOk X A b s t
theorem gT_fr {X X' A : Mem} {B a c : Nat} (h : gT X A B a) (hf : fcc X X' c) : gT X' A B a := ⟨fcc_sK hf h.1, fun b h1 h2 s hs t ht => ctOk_fr (h.2 b h1 h2 s hs t ht) (by rw [hf.1 57 (by decide)])⟩
theorem m_ffL {A : Mem} {B a b t : Nat} {K40 : Int32 → Int32 → Int32 → Mem → RT} (hM : InvM A) (hB : B ≤ 24) (eB : A 33 0 0 = nI B) (hb : b < B) (ht : t < 6) (ha : a < 24) :
    ∀ (d l fuel : Nat) (X : Mem), l + d = a + 1 → d < fuel → gT X A B a → (∀ b', b < b' → b' < B → ∀ x, x < 6 → ∀ l', l' ≤ a → gM X A B b' x l') → (∀ x, x < t → ∀ l', l' ≤ a → gM X A B b x l') → (∀ l', l' < l → gM X A B b t l') →
    ∃ X', f_X8_few__p50 K40 fuel (nI a) (nI b) (nI t) (nI l) X = K40 (nI a) (nI b) (nI (t + 1)) X' ∧ gT X' A B a ∧ (∀ b', b < b' → b' < B → ∀ x, x < 6 → ∀ l', l' ≤ a → gM X' A B b' x l') ∧ (∀ x, x < t + 1 → ∀ l', l' ≤ a → gM X' A B b x l') := by
  intro d
  induction d with
  | zero =>
    intro l fuel X hd hf hT h1 h2 h3
    obtain ⟨fu, rfl⟩ : ∃ fu, fuel = fu + 1 := ⟨fuel - 1, by omega⟩
    refine ⟨X, by rw [f_X8_few__p50, if_pos (by rw [nI_ltI (by omega) (by omega)]; omega), nI_1], hT, h1, fun x hx l' hl' => ?_⟩
    by_cases z : x = t
    · rw [z]; exact h3 l' (by omega)
    · exact h2 x (by omega) l' hl'
  | succ d ih =>
    intro l fuel X hd hf hT h1 h2 h3
    obtain ⟨fu, rfl⟩ : ∃ fu, fuel = fu + 1 := ⟨fuel - 1, by omega⟩
    obtain ⟨X1, e1, f1, o1⟩ := m_ff (a := a) (l := l) hM hB eB hb ht ha (by omega) hT.1 (fun hl s hs t ht => hT.2 (b + 1) (by omega) hl s hs t ht) (fun hl x hx l' hl' => h1 (b + 1) (by omega) hl x hx l' hl')
    obtain ⟨X2, e2, T2, o2, o3⟩ := ih (l + 1) fu X1 (by omega) (by omega) (gT_fr hT f1) (fun b' q1 q2 x hx l' hl' => gM_fr (h1 b' q1 q2 x hx l' hl') f1 (by unfold fwc; omega)) (fun x hx l' hl' => gM_fr (h2 x hx l' hl') f1 (by unfold fwc; omega)) (fun l' hl' => by
      by_cases z : l' = l
      · rw [z]; exact o1
      · exact gM_fr (h3 l' (by omega)) f1 (by unfold fwc; omega))
    refine ⟨X2, ?_, T2, o2, o3⟩
    rw [f_X8_few__p50, if_neg (by rw [nI_ltI (by omega) (by omega)]; omega), e1, cV_r, nI_1]
    exact e2
theorem m_ff6 {A : Mem} {B a b : Nat} {K33 : Int32 → Int32 → Mem → RT} (hM : InvM A) (hB : B ≤ 24) (eB : A 33 0 0 = nI B) (hb : b < B) (ha : a < 24) :
    ∀ (d t fuel : Nat) (X : Mem), t + d = 6 → d < fuel → gT X A B a → (∀ b', b < b' → b' < B → ∀ x, x < 6 → ∀ l', l' ≤ a → gM X A B b' x l') → (∀ x, x < t → ∀ l', l' ≤ a → gM X A B b x l') →
    ∃ X', f_X8_few__p40 K33 fuel (nI a) (nI b) (nI t) X = K33 (nI a) (nI b + (-1)) X' ∧ gT X' A B a ∧ ∀ b', b ≤ b' → b' < B → ∀ x, x < 6 → ∀ l', l' ≤ a → gM X' A B b' x l' := by
  intro d
  induction d with
  | zero =>
    intro t fuel X hd hf hT h1 h2
    obtain ⟨fu, rfl⟩ : ∃ fu, fuel = fu + 1 := ⟨fuel - 1, by omega⟩
    have : t = 6 := by omega
    subst this
    refine ⟨X, by rw [f_X8_few__p40, if_pos (by decide)], hT, fun b' q1 q2 x hx l' hl' => ?_⟩
    by_cases z : b' = b
    · rw [z]; exact h2 x hx l' hl'
    · exact h1 b' (by omega) q2 x hx l' hl'
  | succ d ih =>
    intro t fuel X hd hf hT h1 h2
    obtain ⟨fu, rfl⟩ : ∃ fu, fuel = fu + 1 := ⟨fuel - 1, by omega⟩
    obtain ⟨X1, e1, T1, o1, o2⟩ := m_ffL (K40 := fun a2 a3 a4 I => f_X8_few__p40 K33 fu a2 a3 a4 I) hM hB eB hb (show t < 6 by omega) ha (a + 1) 0 FU X (by omega) (by rw [FU_v]; omega) hT h1 h2 (fun l' hl' => by omega)
    obtain ⟨X2, e2, T2, o3⟩ := ih (t + 1) fu X1 (by omega) (by omega) T1 o1 o2
    refine ⟨X2, ?_, T2, o3⟩
    rw [f_X8_few__p40, if_neg (show ¬ (6 : Int32) ≤ nI t from nI_ge (show t < 6 by omega) (by decide))]
    exact Eq.trans e1 e2
theorem m_ffB {A : Mem} {B a : Nat} (hM : InvM A) (hB : B ≤ 24) (eB : A 33 0 0 = nI B) (ha : a < 24) :
    ∀ (b fuel : Nat) (X : Mem), b < B → b + 1 < fuel → gT X A B a → (∀ b', b < b' → b' < B → ∀ x, x < 6 → ∀ l', l' ≤ a → gM X A B b' x l') →
    ∃ X', f_X8_few__p33 fuel (nI a) (nI b) X = f_X8_few__p88 FU (nI a) (-1) 0 X' ∧ gT X' A B a ∧ ∀ b', b' < B → ∀ x, x < 6 → ∀ l', l' ≤ a → gM X' A B b' x l' := by
  intro b
  induction b with
  | zero =>
    intro fuel X hb hf hT h1
    obtain ⟨fu, rfl⟩ : ∃ fu, fuel = fu + 2 := ⟨fuel - 2, by omega⟩
    obtain ⟨X1, e1, T1, o1⟩ := m_ff6 (K33 := fun a2 a3 I => f_X8_few__p33 (fu + 1) a2 a3 I) hM hB eB hb ha 6 0 FU X (by omega) (by rw [FU_v]; omega) hT h1 (fun x hx => by omega)
    refine ⟨X1, ?_, T1, fun b' hb' x hx l' hl' => o1 b' (by omega) hb' x hx l' hl'⟩
    rw [f_X8_few__p33, if_neg (nI_nneg (by omega))]
    refine Eq.trans e1 ?_
    show f_X8_few__p33 (fu + 1) (nI a) (nI 0 + (-1)) X1 = _
    rw [f_X8_few__p33, if_pos (by decide)]
  | succ b ih =>
    intro fuel X hb hf hT h1
    obtain ⟨fu, rfl⟩ : ∃ fu, fuel = fu + 1 := ⟨fuel - 1, by omega⟩
    obtain ⟨X1, e1, T1, o1⟩ := m_ff6 (K33 := fun a2 a3 I => f_X8_few__p33 fu a2 a3 I) hM hB eB hb ha 6 0 FU X (by omega) (by rw [FU_v]; omega) hT h1 (fun x hx => by omega)
    obtain ⟨X2, e2, T2, o2⟩ := ih fu X1 (by omega) (by omega) T1 (fun b' q1 q2 x hx l' hl' => o1 b' (by omega) q2 x hx l' hl')
    refine ⟨X2, ?_, T2, o2⟩
    rw [f_X8_few__p33, if_neg (nI_nneg (by omega))]
    refine Eq.trans e1 ?_
    show f_X8_few__p33 fu (nI a) (nI (b + 1) + (-1)) X1 = _
    rw [show nI (b + 1) + (-1) = nI b from by rw [← nI_1]; grind]
    exact e2
def q3 : Option WE → Int32
  | none => -1
  | some e => nI e.u
theorem m_fsel {A X : Mem} {B a : Nat} (hM : InvM A) (hB1 : 1 ≤ B) (hB : B ≤ 24) (ha : a < 24) (ho : ∀ x, x < 6 → gM X A B 0 x a) :
    ∀ (d t fuel : Nat), t + d = 6 → d < fuel → ∃ fu, f_X8_few__p88 fuel (nI a) (q3 (ofl (fiC A B a) t)) (nI t) X = f_X8_few__p88 (fu + 1) (nI a) (q3 (FG A B a)) (nI 6) X := by
  have bnd : ∀ (u : Nat) (e : WE), u < 6 → fiC A B a u = some e → eOk e ∧ e.u = u ∧ X 59 0 (fwc 0 u a) = 1 ∧ X 60 0 (fwc 0 u a) = Int32.ofInt e.v ∧ X 61 0 (fwc 0 u a) = nI e.jn := by
    intro u e hu he
    obtain ⟨x, hx, rfl⟩ := fiC_some he
    have kx := GG_key hM hB hu (by omega) hx
    obtain ⟨g1, g2, g3, -⟩ := (ho u hu).1 x hx
    refine ⟨?_, rfl, g1, g2, g3⟩
    unfold eOk WE.key mkW4 WE.v WE.jn WE.u at *
    dsimp only
    omega
  intro d
  induction d with
  | zero =>
    intro t fuel hd hf
    obtain ⟨fu, rfl⟩ : ∃ fu, fuel = fu + 1 := ⟨fuel - 1, by omega⟩
    have : t = 6 := by omega
    subst this
    exact ⟨fu, rfl⟩
  | succ d ih =>
    intro t fuel hd hf
    obtain ⟨fu, rfl⟩ : ∃ fu, fuel = fu + 1 := ⟨fuel - 1, by omega⟩
    have ht : t < 6 := by omega
    obtain ⟨f2, next⟩ := ih (t + 1) fu (by omega) (by omega)
    refine ⟨f2, ?_⟩
    have hc : ∀ u, u < 6 → fwc 0 u a < 3456 := fun u hu => by unfold fwc; omega
    have fz : ∀ u, f_X8_few 0 (nI u) (nI a) X = rI (nI (fwc 0 u a)) X := fun u => few_t 0 u a X
    rw [← next, f_X8_few__p88, if_neg (show ¬ (6 : Int32) ≤ nI t from nI_ge ht (by decide)), fz, cI_r, ix_nI (hc t ht) (by decide), ix_nI (hc t ht) (by decide)]
    have p185 : ∀ s0 : Int32, f_X8_few__p185 (fun a2 a3 a4 I => f_X8_few__p88 fu a2 a3 a4 I) (nI a) s0 (nI t) X = f_X8_few__p88 fu (nI a) s0 (nI (t + 1)) X := fun s0 => by
      unfold f_X8_few__p185 f_X8_few__p186
      rw [if_pos rfl, nI_1]
    have p181 : ∀ s0 : Int32, f_X8_few__p181 (fun a2 a3 a4 I => f_X8_few__p88 fu a2 a3 a4 I) (nI a) s0 (nI t) X = f_X8_few__p88 fu (nI a) (nI t) (nI (t + 1)) X := fun s0 => by
      unfold f_X8_few__p181 f_X8_few__p186
      rw [if_neg (by decide), nI_1]
    cases hg : fiC A B a t with
    | none =>
      have hn : GG A B 0 t a = none := by
        cases hx : GG A B 0 t a with
        | none => rfl
        | some x => unfold fiC at hg; rw [hx] at hg; simp at hg
      rw [(ho t ht).2 hn, if_pos rfl, p185, ofl, hg, of1_none]
    | some z =>
      obtain ⟨⟨z4, z5, z6, -⟩, z0, z1, z2, z3⟩ := bnd t z ht hg
      rw [z1, if_neg (by decide)]
      cases hq : ofl (fiC A B a) t with
      | none =>
        have hof : ofl (fiC A B a) (t + 1) = some z := by rw [ofl, hq, hg]; rfl
        rw [if_pos (show q3 none < 0 by decide), p181, hof]
        show f_X8_few__p88 fu (nI a) (nI t) (nI (t + 1)) X = f_X8_few__p88 fu (nI a) (nI z.u) (nI (t + 1)) X
        rw [z0]
      | some y =>
        obtain ⟨u', hu', hm'⟩ := ofl_some t hq
        obtain ⟨⟨y4, y5, y6, -⟩, y0, y1, y2, y3⟩ := bnd u' y (by omega) hm'
        have hof : ofl (fiC A B a) (t + 1) = if y.key < z.key then some z else some y := by rw [ofl, hq, hg]; rfl
        have e3 : q3 (some y) = nI u' := by show nI y.u = nI u'; rw [y0]
        rw [if_neg (show ¬ q3 (some y) < 0 from by rw [e3]; exact nI_nneg (by omega)), e3, fz, cI_r, ix_nI (hc u' (by omega)) (by decide), ix_nI (hc t ht) (by decide), fz, cI_r, ix_nI (hc u' (by omega)) (by decide), ix_nI (hc t ht) (by decide), fz, cI_r, ix_nI (hc u' (by omega)) (by decide), z2, z3, y2, y3, p181, p185, hof]
        have zt : q3 (some z) = nI t := by show nI z.u = nI t; rw [z0]
        by_cases h1 : y.v < z.v
        · rw [if_pos (by rw [lt_i, oI (by omega) (by omega), oI (by omega) (by omega)]; exact h1), if_pos (show y.key < z.key by unfold WE.key; omega), zt]
        · rw [if_neg (by rw [lt_i, oI (by omega) (by omega), oI (by omega) (by omega)]; exact h1)]
          by_cases h2 : z.v = y.v
          · rw [if_pos (by rw [h2])]
            by_cases h3 : y.jn ≤ z.jn
            · rw [if_pos ((nI_leI (by omega) (by omega)).mpr h3), if_neg (show ¬ y.key < z.key by unfold WE.key; omega), e3]
            · rw [if_neg (by rw [nI_leI (by omega) (by omega)]; exact h3), if_pos (show y.key < z.key by unfold WE.key; omega), zt]
          · rw [if_neg (by rw [oI_inj (by omega) (by omega) (by omega) (by omega)]; exact h2), if_neg (show ¬ y.key < z.key by unfold WE.key; omega), e3]
