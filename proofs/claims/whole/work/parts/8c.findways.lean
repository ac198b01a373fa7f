/-! ===== the model: the lists of ways ===== -/
def wOk (X A : Mem) (B b t : Nat) : Prop := X 52 0 (6 * b + t) = nI (min 20 (LL A B b t).length) ∧ ∀ (j : Nat) (e : WE), j < 20 → (LL A B b t)[j]? = some e → X 53 0 (20 * (6 * b + t) + j) = Int32.ofInt e.v ∧ X 54 0 (20 * (6 * b + t) + j) = nI e.jn ∧ (b + 1 < B → X 55 0 (20 * (6 * b + t) + j) = nI e.u ∧ X 56 0 (20 * (6 * b + t) + j) = nI e.j)
theorem wOk_fr {X X' A : Mem} {B b t c : Nat} (h : wOk X A B b t) (hl : lcc X X' c) (hc : c ≠ 6 * b + t) : wOk X' A B b t := by
  refine ⟨by rw [hl.2.1 _ (by omega)]; exact h.1, fun j e hj he => ?_⟩
  rw [hl.2.2 53 (by decide) (by decide) _ (by omega), hl.2.2 54 (by decide) (by decide) _ (by omega), hl.2.2 55 (by decide) (by decide) _ (by omega), hl.2.2 56 (by decide) (by decide) _ (by omega)]
  exact h.2 j e hj he
theorem wOk_mL {X A : Mem} {B b t : Nat} (h : mL X (6 * b + t) ((LL A B b t).take 20)) : wOk X A B b t := by
  refine ⟨by rw [h.1, List.length_take], fun j e hj he => ?_⟩
  obtain ⟨h1, h2, h3, h4⟩ := h.2.2 j e (by rw [List.getElem?_take, if_pos hj]; exact he)
  exact ⟨h1, h2, fun _ => ⟨h3, h4⟩⟩
theorem srt_take {Z : List WE} (h : srt Z) (n : Nat) : srt (Z.take n) := List.Pairwise.sublist (List.take_sublist n Z) h
theorem LL_srt' (A : Mem) (B b : Nat) (t : Nat) : srt (LL A B b t) := LL_srt A B _ t
theorem nx_eOk {A : Mem} {B b t u : Nat} (hM : InvM A) (hB : B ≤ 24) (hb : b + 1 < B) (ht : t < 6) (hu : u < 6) {e : WE} (h : e ∈ nxF A b t (LL A B (b + 1)) u) : eOk e ∧ e.u = u := by
  obtain ⟨j, hj⟩ := mem_get h
  obtain ⟨y1, -⟩ := nxF_uj u j e hj
  obtain ⟨-, x, hx, rfl⟩ := nxF_get hj
  have kx := LL_key hM hB hu hb hx
  have hco := co_rg hM ht hu (b + 1)
  have hw := wo_rg hM ht (b := b) (by omega)
  have c : 0 ≤ sC A b t u ∧ sC A b t u ≤ 13000 := by
    unfold sC
    split
    · omega
    · exact hco
  have c2 : sJ t u ≤ 1 := by
    unfold sJ
    split <;> omega
  refine ⟨?_, y1⟩
  unfold eOk mkW4 WE.v WE.jn WE.u at *
  dsimp only
  omega
theorem m_go1 {A : Mem} {B b t u : Nat} (hM : InvM A) (hB : B ≤ 24) (hb : b + 1 < B) (ht : t < 6) (hu : u < 6) (hm : mMay A t b) (hal : alw A b t u) :
    ∀ (d j fuel : Nat) (X : Mem), j + d = min 20 (LL A B (b + 1) u).length → d < fuel → sK A X → (∀ s, s < 6 → ∀ t, t < 6 → ctOk X A (b + 1) s t) → wOk X A B (b + 1) u → mL X (6 * b + t) ((mg (mgl (nxF A b t (LL A B (b + 1))) u) ((nxF A b t (LL A B (b + 1)) u).take j)).take 20) →
    ∃ X', f_X8_goOn_p28 fuel (nI (6 * b + t)) (nI t) (nI b) (nI u) (nI (6 * (b + 1) + u)) (nI j) X = rV X' ∧ lcc X X' (6 * b + t) ∧ mL X' (6 * b + t) ((mgl (nxF A b t (LL A B (b + 1))) (u + 1)).take 20) := by
  have hlen : (nxF A b t (LL A B (b + 1)) u).length = (LL A B (b + 1) u).length := by
    unfold nxF
    rw [if_pos hal, List.length_mapIdx]
  intro d
  induction d with
  | zero =>
    intro j fuel X hd hf hk hct ho hL
    obtain ⟨fu, rfl⟩ : ∃ fu, fuel = fu + 1 := ⟨fuel - 1, by omega⟩
    refine ⟨X, ?_, lcc_rf, ?_⟩
    · rw [f_X8_goOn_p28, ix_nI (by omega) (by decide), ho.1, if_pos ((nI_leI (by omega) (by omega)).mpr (by omega))]
    · have : (nxF A b t (LL A B (b + 1)) u).take j = (nxF A b t (LL A B (b + 1)) u).take 20 := by
        rcases Nat.lt_or_ge 20 (LL A B (b + 1) u).length with z | z
        · rw [show j = 20 by omega]
        · rw [List.take_of_length_le (by omega), List.take_of_length_le (by omega)]
      rw [this, mg_take 20 20 _ _ (Nat.le_refl _)] at hL
      exact hL
  | succ d ih =>
    intro j fuel X hd hf hk hct ho hL
    obtain ⟨fu, rfl⟩ : ∃ fu, fuel = fu + 1 := ⟨fuel - 1, by omega⟩
    have hx : (LL A B (b + 1) u)[j]? = some ((LL A B (b + 1) u)[j]'(by omega)) := List.getElem?_eq_getElem (by omega)
    generalize (LL A B (b + 1) u)[j]'(by omega) = x at hx
    obtain ⟨s1, s2, -⟩ := ho.2 j x (by omega) hx
    have hmu : mMay A u (b + 1) := LL_may hb hx
    have he : (nxF A b t (LL A B (b + 1)) u)[j]? = some (mkW4 ((mWo A t b).toInt + x.v - sC A b t u) (x.jn + sJ t u) u j) := by
      unfold nxF
      rw [if_pos hal, List.getElem?_mapIdx, hx]
      rfl
    have hmem := List.mem_of_getElem? he
    obtain ⟨eo, -⟩ := nx_eOk hM hB hb ht hu hmem
    have hsF : ∀ u, srt (nxF A b t (LL A B (b + 1)) u) := nxF_srt (LL_srt' A B (b + 1))
    have hZ : ∀ y ∈ (mg (mgl (nxF A b t (LL A B (b + 1))) u) ((nxF A b t (LL A B (b + 1)) u).take j)).take 20, eOk y ∧ y.u ≤ u := by
      intro y hy
      rcases mg_mem _ _ _ (Nat.le_refl _) (List.mem_of_mem_take hy) with z | z
      · obtain ⟨u', hu', z'⟩ := mgl_mem u z
        obtain ⟨q1, q2⟩ := nx_eOk hM hB hb ht (by omega) z'
        exact ⟨q1, by omega⟩
      · obtain ⟨q1, q2⟩ := nx_eOk hM hB hb ht hu (List.mem_of_mem_take z)
        exact ⟨q1, by omega⟩
    obtain ⟨X1, e1, l1, m1⟩ := m_enter (c := 6 * b + t) (by omega) hL (srt_take (mg_srt _ _ _ (Nat.le_refl _) (mgl_srt hsF u) (srt_take (hsF u) j)) 20) eo hZ
    have htk : (nxF A b t (LL A B (b + 1)) u).take (j + 1) = (nxF A b t (LL A B (b + 1)) u).take j ++ [mkW4 ((mWo A t b).toInt + x.v - sC A b t u) (x.jn + sJ t u) u j] := by
      rw [List.take_succ, he]; rfl
    have hle : ∀ y ∈ (nxF A b t (LL A B (b + 1)) u).take j, (mkW4 ((mWo A t b).toInt + x.v - sC A b t u) (x.jn + sJ t u) u j).key ≤ y.key := by
      intro y hy
      have hp : srt ((nxF A b t (LL A B (b + 1)) u).take (j + 1)) := srt_take (hsF u) _
      rw [htk] at hp
      exact (List.pairwise_append.mp hp).2.2 y hy _ (List.mem_singleton.mpr rfl)
    rw [ins_take, ← mg_ins _ _ _ _ (Nat.le_refl _) hle (srt_take (hsF u) j), ← htk] at m1
    obtain ⟨X2, e2, l2, m2⟩ := ih (j + 1) fu X1 (by omega) (by omega) (fun g hg => by rw [l1.1 g (by omega)]; exact hk g hg) (fun s hs t ht => ctOk_fr (hct s hs t ht) (by rw [l1.1 57 (by decide)])) (wOk_fr ho l1 (by omega)) m1
    refine ⟨X2, ?_, lcc_tr l1 l2, m2⟩
    have fin : ∀ (s1' s4 : Int32), s1' = Int32.ofInt (sC A b t u) → s4 = nI (sJ t u) → f_X8_goOn_p120 (fun a1 a2 a3 a4 a5 a6 I => f_X8_goOn_p28 fu a1 a2 a3 a4 a5 a6 I) (nI (6 * b + t)) (nI t) (nI b) (nI u) (nI (6 * (b + 1) + u)) (nI j) (nI (6 * b + t)) (Int32.ofInt (mWo A t b).toInt + Int32.ofInt x.v - s1') (nI x.jn) s4 X = rV X2 := by
      intro s1' s4 h1 h2
      unfold f_X8_goOn_p120
      rw [h1, h2, ← Int32.ofInt_add, ← Int32.ofInt_sub, nI_add, nI_1]
      rw [show f_X8_enter (nI (6 * b + t)) (Int32.ofInt ((mWo A t b).toInt + x.v - sC A b t u)) (nI (x.jn + sJ t u)) (nI u) (nI j) X = rV X1 from e1, cV_r]
      exact e2
    rw [f_X8_goOn_p28, ix_nI (by omega) (by decide), ho.1, if_neg (by rw [nI_leI (by omega) (by omega)]; omega), sK_worth hk ht (by omega), cI_r, mul20, nI_add, ix_nI (by omega) (by decide), s1]
    by_cases h1 : u = t
    · rw [if_pos (by rw [h1])]
      unfold f_X8_goOn_p89
      rw [mul20, nI_add, ix_nI (by omega) (by decide), if_pos (by rw [h1]), s2]
      exact fin 0 0 (by unfold sC; rw [if_pos h1]; rfl) (by unfold sJ; rw [if_pos h1]; rfl)
    · have hne : ¬ nI t = nI u := fun z => h1 ((nI_inj (by omega) (by omega)).mp z).symm
      rw [if_neg hne, nI_1, ct_ix, ix_nI (by unfold ct; omega) (by decide)]
      unfold f_X8_goOn_p89
      rw [mul20, nI_add, ix_nI (by omega) (by decide), if_neg hne, s2]
      exact fin _ 1 (by unfold sC; rw [if_neg h1, hct t ht u hu (fun z => h1 z.symm) hm hmu]) (by unfold sJ; rw [if_neg h1]; rfl)
theorem m_mj {A X : Mem} {b t u : Nat} (hk : sK A X) (hb : b + 1 < 24) (ht : t < 6) (hu : u < 6) : f_X8_mayJoin (nI t) (nI u) (nI (b + 1)) X = rI (bi (alw A b t u)) X := by
  unfold f_X8_mayJoin f_X8_mayJoin_p14
  by_cases h1 : u = t
  · rw [if_pos (by rw [h1]), bi_t (Or.inl h1)]
  · rw [if_neg (fun z => h1 ((nI_inj (by omega) (by omega)).mp z).symm), ix_nI hb (by decide), hk 36 (by decide)]
    by_cases h2 : A 36 0 (b + 1) = 0
    · rw [if_pos h2, bi_t (Or.inr h2)]
    · rw [if_neg h2, bi_f (fun z => by rcases z with z | z <;> contradiction)]
theorem six (b t : Nat) : 6 * nI b + nI t = nI (6 * b + t) := by
  have m6 : ∀ n : Nat, 6 * nI n = nI (6 * n) := fun n => pk_mul 6 n
  rw [m6, nI_add]
theorem m_goOn {A X : Mem} {B b t u : Nat} (hM : InvM A) (hB : B ≤ 24) (hb : b + 1 < B) (ht : t < 6) (hu : u < 6) (hm : mMay A t b) (hk : sK A X) (hct : ∀ s, s < 6 → ∀ t, t < 6 → ctOk X A (b + 1) s t) (ho : wOk X A B (b + 1) u) (hL : mL X (6 * b + t) ((mgl (nxF A b t (LL A B (b + 1))) u).take 20)) :
    ∃ X', f_X8_goOn (nI (6 * b + t)) (nI t) (nI b) (nI u) X = rV X' ∧ lcc X X' (6 * b + t) ∧ mL X' (6 * b + t) ((mgl (nxF A b t (LL A B (b + 1))) (u + 1)).take 20) := by
  unfold f_X8_goOn
  rw [nI_1, m_mj hk (by omega) ht hu, cI_r]
  by_cases h : alw A b t u
  · rw [bi_t h, if_neg (by decide), six]
    exact m_go1 hM hB hb ht hu hm h _ 0 FU X (Nat.zero_add _) (by rw [FU_v]; omega) hk hct ho (by rw [List.take_zero, mg_nr]; exact hL)
  · refine ⟨X, by rw [bi_f h, if_pos rfl], lcc_rf, ?_⟩
    have : nxF A b t (LL A B (b + 1)) u = [] := by
      unfold nxF
      rw [if_neg h]
    rw [mgl, this, mg_nr]
    exact hL
theorem m_go6 {A : Mem} {B b t : Nat} {K17 : Int32 → Int32 → Mem → RT} (hM : InvM A) (hB : B ≤ 24) (hb : b + 1 < B) (ht : t < 6) (hm : mMay A t b) :
    ∀ (d u fuel : Nat) (X : Mem), u + d = 6 → d < fuel → sK A X → (∀ s, s < 6 → ∀ t, t < 6 → ctOk X A (b + 1) s t) → (∀ u, u < 6 → wOk X A B (b + 1) u) → mL X (6 * b + t) ((mgl (nxF A b t (LL A B (b + 1))) u).take 20) →
    ∃ X', f_X8_findWays_p79 K17 fuel (nI b) (nI t) (nI (6 * b + t)) (nI u) X = K17 (nI b) (nI (t + 1)) X' ∧ lcc X X' (6 * b + t) ∧ mL X' (6 * b + t) ((mgl (nxF A b t (LL A B (b + 1))) 6).take 20) := by
  intro d
  induction d with
  | zero =>
    intro u fuel X hd hf hk hct ho hL
    obtain ⟨fu, rfl⟩ : ∃ fu, fuel = fu + 1 := ⟨fuel - 1, by omega⟩
    have : u = 6 := by omega
    subst this
    exact ⟨X, by rw [f_X8_findWays_p79, if_pos (by decide), nI_1], lcc_rf, hL⟩
  | succ d ih =>
    intro u fuel X hd hf hk hct ho hL
    obtain ⟨fu, rfl⟩ : ∃ fu, fuel = fu + 1 := ⟨fuel - 1, by omega⟩
    obtain ⟨X1, e1, l1, m1⟩ := m_goOn hM hB hb ht (show u < 6 by omega) hm hk hct (ho u (by omega)) hL
    obtain ⟨X2, e2, l2, m2⟩ := ih (u + 1) fu X1 (by omega) (by omega) (fun g hg => by rw [l1.1 g (by omega)]; exact hk g hg) (fun s hs t ht => ctOk_fr (hct s hs t ht) (by rw [l1.1 57 (by decide)])) (fun u hu => wOk_fr (ho u hu) l1 (by omega)) m1
    refine ⟨X2, ?_, lcc_tr l1 l2, m2⟩
    rw [f_X8_findWays_p79, if_neg (show ¬ (6 : Int32) ≤ nI u from nI_ge (show u < 6 by omega) (by decide)), e1, cV_r, nI_1]
    exact e2
/-- the first entry of an empty list -/
theorem m_first {X : Mem} {c : Nat} (hc : c < 144) (h : X 52 0 c = 0) (v jn u j : Int32) : ∃ X', f_X8_enter (nI c) v jn u j X = rV X' ∧ lcc X X' c ∧ X' 52 0 c = 1 ∧ X' 53 0 (20 * c) = v ∧ X' 54 0 (20 * c) = jn := by
  obtain ⟨X', e2, g1, g2, g3, g4, g5, g6⟩ := m_shf (X := X) (v := v) (jn := jn) (u := u) (j := j) hc (show 0 ≤ 0 by omega) (by omega) 0 0 FU X (by omega) (by rw [FU_v]; omega) (Nat.le_refl _) (fun _ _ => rfl) (fun g _ _ k => by rw [if_neg (by omega)])
  refine ⟨X', ?_, ⟨g1, fun k hk => by rw [g2 k, if_neg hk], fun g h1 h2 k hk => ?_⟩, by rw [g2, if_pos rfl]; rfl, by rw [g3, if_pos (by omega)], by rw [g4, if_pos (by omega)]⟩
  · unfold f_X8_enter
    rw [ix_nI hc (by decide), h, show FU = 19999 + 1 from rfl, f_X8_enter_p8, if_pos (by decide)]
    unfold f_X8_enter_p39 f_J9_min_7cf53
    rw [if_neg (by decide), ix_nI hc (by decide), h, if_neg (by decide), cI_r]
    exact e2
  · rcases (by omega : g = 53 ∨ g = 54 ∨ g = 55 ∨ g = 56) with rfl | rfl | rfl | rfl
    · rw [g3 k, if_neg (by omega), if_neg (by omega)]
    · rw [g4 k, if_neg (by omega), if_neg (by omega)]
    · rw [g5 k, if_neg (by omega), if_neg (by omega)]
    · rw [g6 k, if_neg (by omega), if_neg (by omega)]
theorem m_fw1 {A X : Mem} {B b t fu : Nat} {K11 : Int32 → Mem → RT} (hM : InvM A) (hB : B ≤ 24) (eB : A 33 0 0 = nI B) (hb : b < B) (ht : t < 6) (hk : sK A X) (hct : b + 1 < B → ∀ s, s < 6 → ∀ t, t < 6 → ctOk X A (b + 1) s t) (ho : b + 1 < B → ∀ u, u < 6 → wOk X A B (b + 1) u) :
    ∃ X', f_X8_findWays_p17 K11 (fu + 1) (nI b) (nI t) X = f_X8_findWays_p17 K11 fu (nI b) (nI (t + 1)) X' ∧ lcc X X' (6 * b + t) ∧ wOk X' A B b t := by
  have l0 : lcc X (mup X 52 0 (6 * b + t) 0) (6 * b + t) := ⟨fun g h => mup_g (by omega), fun k h => by rw [mup_0, if_neg h], fun g h1 h2 k _ => by rw [mup_g (by omega)]⟩
  have k0 : sK A (mup X 52 0 (6 * b + t) 0) := fun g hg => by rw [mup_g (by omega)]; exact hk g hg
  have start : f_X8_findWays_p17 K11 (fu + 1) (nI b) (nI t) X = if bi (mMay A t b) = 0 then f_X8_findWays_p17 K11 fu (nI b) (nI (t + 1)) (mup X 52 0 (6 * b + t) 0) else if nI b = nI (B - 1) then (cV (f_X8_enter (nI (6 * b + t)) (Int32.ofInt (mWo A t b).toInt) 0 (-1) 0 (mup X 52 0 (6 * b + t) 0)) fun J8 => f_X8_findWays_p17 K11 fu (nI b) (nI (t + 1)) J8) else f_X8_findWays_p79 (fun a1 a2 I => f_X8_findWays_p17 K11 fu a1 a2 I) FU (nI b) (nI t) (nI (6 * b + t)) 0 (mup X 52 0 (6 * b + t) 0) := by
    rw [f_X8_findWays_p17, if_neg (show ¬ (6 : Int32) ≤ nI t from nI_ge ht (by decide)), six, ix_nI (by omega) (by decide), sK_may k0 hM ht (by omega), cI_r, sK_worth k0 ht (by omega), cI_r, k0 33 (by decide), eB, mM1 (by omega), nI_1]
  rw [start]
  by_cases hm : mMay A t b
  · rw [bi_t hm, if_neg (by decide)]
    by_cases hl : b + 1 < B
    · rw [if_neg (fun z => by have := (nI_inj (by omega) (by omega)).mp z; omega)]
      obtain ⟨X1, e1, l1, m1⟩ := m_go6 (K17 := fun a1 a2 I => f_X8_findWays_p17 K11 fu a1 a2 I) hM hB hl ht hm 6 0 FU (mup X 52 0 (6 * b + t) 0) (by omega) (by rw [FU_v]; omega) k0 (fun s hs t ht => ctOk_fr (hct hl s hs t ht) (by rw [mup_g (by decide)])) (fun u hu => wOk_fr (ho hl u hu) l0 (by omega)) ⟨by rw [mup_at]; rfl, by simp [mgl], fun i e he => by simp [mgl] at he⟩
      refine ⟨X1, e1, lcc_tr l0 l1, wOk_mL ?_⟩
      rw [LL_step hl, if_pos hm]
      exact m1
    · have hbB : b = B - 1 := by omega
      rw [if_pos (by rw [hbB])]
      obtain ⟨X1, e1, l1, n1, n2, n3⟩ := m_first (X := mup X 52 0 (6 * b + t) 0) (c := 6 * b + t) (by omega) (by rw [mup_at]) (Int32.ofInt (mWo A t b).toInt) 0 (-1) 0
      refine ⟨X1, by rw [e1, cV_r], lcc_tr l0 l1, ?_⟩
      have hLL : LL A B b t = [mkW4 (mWo A t b).toInt 0 0 0] := by
        rw [hbB, LL_last, if_pos (by rw [← hbB]; exact hm)]
      unfold wOk
      rw [hLL]
      refine ⟨n1, fun j e hj he => ?_⟩
      cases j with
      | zero =>
        simp only [List.getElem?_cons_zero, Option.some.injEq] at he
        subst he
        exact ⟨n2, n3, fun z => absurd z hl⟩
      | succ j => simp at he
  · refine ⟨mup X 52 0 (6 * b + t) 0, by rw [bi_f hm, if_pos rfl], l0, ?_⟩
    unfold wOk
    rw [LL_none hb hm]
    exact ⟨by rw [mup_at]; rfl, fun j e hj he => by simp at he⟩
