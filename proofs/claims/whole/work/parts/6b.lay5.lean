/-- the frames that are written: what the model's memory is while it writes -/
def wrM (A X Y : Mem) (t F k f i : Nat) : Prop := (∀ g, g ≠ 47 → Y g = X g) ∧ (∀ j, j < i → Y 47 0 (24 * t + (f + j)) = nI (frP A t F k f j)) ∧ ∀ c, ¬ (24 * t + f ≤ c ∧ c < 24 * t + f + i) → Y 47 0 c = A 47 0 c
theorem m_find {A X Y : Mem} {t F f k i n : Nat} {tg a5 : Int32} (hM : InvM A) (ht : t < 6) (hF : F ≤ 40) (hfk : f + k < 24) (hik : i ≤ k) (hc : mch A X) (hY : wrM A X Y t F k f i) (e : A 42 0 t = nI n) (hn : n ≤ 400)
    (hlt : mnN (sp A t F k f) 0 F < EE) (hrow : rowM X A t F (k - i) (f + i)) (htg : tg = if i = 0 then nI (mnN (sp A t F k f) 0 F) else nI (mnN (rs A t F (k - i) (f + i - 1) (frP A t F k f (i - 1))) (frP A t F k f (i - 1) + 1) (F - frP A t F k f (i - 1) - 1)))
    (K : Int32 → Int32 → Int32 → Int32 → Int32 → Int32 → Mem → RT) :
    ∀ (d z fuel : Nat), z + d = frP A t F k f i → d < fuel → (i ≠ 0 → frP A t F k f (i - 1) < z) → f_X8_lay_p115 K fuel (nI t) (nI f) a5 tg (if i = 0 then -1 else nI (frP A t F k f (i - 1))) (nI (f + i)) (nI z) Y
      = K (nI t) (nI f) a5 (nI (sp A t F (k - i) (f + i) (frP A t F k f i)) - nI (lvx A t (frP A t F k f i) (f + i))) (nI (frP A t F k f i)) (nI (f + i + 1)) (mup Y 47 0 (24 * t + (f + i)) (nI (frP A t F k f i))) := by
  obtain ⟨hfF, hfE⟩ := frP_ok hlt i hik
  have hEE : EE = 1000000000 := rfl
  intro d
  have yc : mch A Y := fun g h1 h2 => by rw [hY.1 g h2]; exact hc g h1 h2
  -- the test at a frame
  have tst : ∀ z, z < F → (i ≠ 0 → frP A t F k f (i - 1) < z) → z ≤ frP A t F k f i → ∀ (K2 : Int32 → Int32 → Int32 → Int32 → Int32 → Int32 → Int32 → Mem → RT) (fu : Nat), (fun a1 a4 a5 a6 a7 a8 a9 I => f_X8_lay_p115 K fu a1 a4 a5 a6 a7 a8 a9 I) = K2 →
      f_X8_lay_p115 K (fu + 1) (nI t) (nI f) a5 tg (if i = 0 then -1 else nI (frP A t F k f (i - 1))) (nI (f + i)) (nI z) Y = if z = frP A t F k f i then K (nI t) (nI f) a5 (nI (sp A t F (k - i) (f + i) (frP A t F k f i)) - nI (lvx A t (frP A t F k f i) (f + i))) (nI (frP A t F k f i)) (nI (f + i + 1)) (mup Y 47 0 (24 * t + (f + i)) (nI (frP A t F k f i))) else K2 (nI t) (nI f) a5 tg (if i = 0 then -1 else nI (frP A t F k f (i - 1))) (nI (f + i)) (nI (z + 1)) Y := by
    intro z hzF hz hzle K2 fu hK2
    subst hK2
    have cell : Y 51 0 (40 * (f + i) + z) = nI (sp A t F (k - i) (f + i) z) := by rw [hY.1 51 (by decide)]; exact hrow z hzF
    have hb1 := sp_bd (F := F) hM ht hF (k - i) (f + i) z (by omega) hzF
    have fin : ∀ s1 : Int32, (nI (sp A t F (k - i) (f + i) z) + s1 = tg ↔ z = frP A t F k f i) → f_X8_lay_p159 K (fun a1 a4 a5 a6 a7 a8 a9 I => f_X8_lay_p115 K fu a1 a4 a5 a6 a7 a8 a9 I) (nI t) (nI f) a5 tg (if i = 0 then -1 else nI (frP A t F k f (i - 1))) (nI (f + i)) (nI z) (nI (sp A t F (k - i) (f + i) z)) s1 Y = if z = frP A t F k f i then K (nI t) (nI f) a5 (nI (sp A t F (k - i) (f + i) (frP A t F k f i)) - nI (lvx A t (frP A t F k f i) (f + i))) (nI (frP A t F k f i)) (nI (f + i + 1)) (mup Y 47 0 (24 * t + (f + i)) (nI (frP A t F k f i))) else f_X8_lay_p115 K fu (nI t) (nI f) a5 tg (if i = 0 then -1 else nI (frP A t F k f (i - 1))) (nI (f + i)) (nI (z + 1)) Y := fun s1 hs => by
      unfold f_X8_lay_p159
      by_cases hzz : z = frP A t F k f i
      · have mc : mch A (mup Y 47 0 (24 * t + (f + i)) (nI z)) := fun g h1 h2 => by rw [mup_g h2]; exact yc g h1 h2
        rw [if_pos (hs.mpr hzz), if_pos hzz, mul24, ix_nI (by omega) (by decide), mul40', ix_nI (by omega) (by decide), m_levX mc ht e hn (by omega), cI_r, ix_nI (by omega) (by decide), mup_g (show (34 : Nat) ≠ 47 by decide), yc 34 (by decide) (by decide), m_apart, cI_r, lvx_at hM ht (by omega), mup_g (show (51 : Nat) ≠ 47 by decide), cell, nI_1, ← hzz]
      · rw [if_neg (fun q => hzz (hs.mp q)), if_neg hzz, nI_1]
    rw [f_X8_lay_p115, mul40', ix_nI (by omega) (by decide), cell]
    by_cases hi : i = 0
    · subst hi
      rw [Nat.add_zero, if_pos rfl]
      rw [Nat.add_zero] at fin
      rw [Nat.add_zero, Nat.sub_zero] at hb1
      refine fin 0 ?_
      rw [if_pos rfl] at htg
      obtain ⟨o1, o2, o3, o4⟩ := fi_ok _ _ _ hlt
      rw [htg]
      have : ∀ u : Int32, u + 0 = u := fun u => by grind
      rw [this, Nat.sub_zero, nI_eq (by omega) (by omega)]
      rw [frP] at hzle ⊢
      constructor
      · intro q
        refine Decidable.byContradiction fun hne => ?_
        have := o4 z (by omega) (by omega)
        omega
      · intro q
        rw [q]
        exact o3
    · obtain ⟨i', rfl⟩ : ∃ i', i = i' + 1 := ⟨i - 1, by omega⟩
      rw [Nat.add_sub_cancel] at hz htg fin ⊢
      rw [show f + (i' + 1) - 1 = f + i' by omega] at htg
      have hp := frP_ok hlt i' (by omega)
      have hpE := hp.2
      rw [show k - i' = (k - (i' + 1)) + 1 by omega] at hpE
      obtain ⟨n1, n2, n3, n4, n5⟩ := nx_ok hpE
      obtain ⟨s1, -, -⟩ := sp_nx hpE
      have efr : frP A t F k f (i' + 1) = nx A t F (k - (i' + 1)) (f + i') (frP A t F k f i') := by rw [frP, show k - i' - 1 = k - (i' + 1) by omega]
      have hst := stx_le hM (show f + i' < 24 by omega) (show frP A t F k f i' < 40 by omega) (show z < 40 by omega)
      have hz0 := hz (by omega)
      rw [if_neg (show ¬ nI (f + (i' + 1)) = nI f by rw [nI_eq (by omega) (by omega)]; omega), mM1 (by omega), show f + (i' + 1) - 1 = f + i' by omega, ix_nI (by omega) (by decide), yc 35 (by decide) (by decide), if_neg (by omega), m_apart, cI_r, stx_at hM (by omega) (by omega) (by omega)]
      rw [if_neg (by omega)] at fin htg
      refine fin _ ?_
      rw [htg, nI_add, nI_eq (by omega) (by omega), efr]
      rw [efr] at hzle
      have hrs : rs A t F (k - (i' + 1)) (f + i') (frP A t F k f i') z = if sp A t F (k - (i' + 1)) (f + (i' + 1)) z = EE then EE else sp A t F (k - (i' + 1)) (f + (i' + 1)) z + stx A (frP A t F k f i') z (f + i') := rfl
      constructor
      · intro q
        refine Decidable.byContradiction fun hne => ?_
        have g := n5 z (by omega) (by omega)
        rw [hrs] at g
        split at g
        · omega
        · omega
      · intro q
        rw [← q] at n3 n4
        rw [hrs] at n3
        have n4' : sp A t F (k - (i' + 1)) (f + (i' + 1)) z ≠ EE := n4
        rw [if_neg n4'] at n3
        exact n3
  induction d with
  | zero =>
    intro z fuel hz hfu hz0
    obtain ⟨fu, rfl⟩ : ∃ fu, fuel = fu + 1 := ⟨fuel - 1, by omega⟩
    rw [tst z (by omega) hz0 (by omega) _ fu rfl, if_pos (by omega)]
  | succ d ih =>
    intro z fuel hz hfu hz0
    obtain ⟨fu, rfl⟩ : ∃ fu, fuel = fu + 1 := ⟨fuel - 1, by omega⟩
    rw [tst z (by omega) hz0 (by omega) _ fu rfl, if_neg (by omega)]
    exact ih (z + 1) fu (by omega) (by omega) (fun h => by have := hz0 h; omega)
theorem m_frames {A X : Mem} {t F f k n : Nat} {a5 : Int32} (hM : InvM A) (ht : t < 6) (hF : F ≤ 40) (hfk : f + k < 24) (hc : mch A X) (el : mEnd A t = nI (f + k)) (e : A 42 0 t = nI n) (hn : n ≤ 400) (hlt : mnN (sp A t F k f) 0 F < EE) (hrows : ∀ b', f ≤ b' → b' ≤ f + k → rowM X A t F (f + k - b') b') :
    ∀ (d i fuel : Nat) (Y : Mem) (tg a7 : Int32), i + d = k + 1 → d < fuel → wrM A X Y t F k f i → (i ≤ k → tg = if i = 0 then nI (mnN (sp A t F k f) 0 F) else nI (mnN (rs A t F (k - i) (f + i - 1) (frP A t F k f (i - 1))) (frP A t F k f (i - 1) + 1) (F - frP A t F k f (i - 1) - 1))) → (i ≤ k → a7 = if i = 0 then -1 else nI (frP A t F k f (i - 1))) →
    ∃ Y', f_X8_lay_p99 fuel (nI t) (nI f) a5 tg a7 (nI (f + i)) Y = rI a5 (mup (mup Y' 46 0 t 1) 33 0 19 0) ∧ wrM A X Y' t F k f (k + 1) := by
  intro d
  induction d with
  | zero =>
    intro i fuel Y tg a7 hi hfu hY htg ha7
    obtain ⟨fu, rfl⟩ : ∃ fu, fuel = fu + 1 := ⟨fuel - 1, by omega⟩
    have : i = k + 1 := by omega
    subst this
    have yc : mch A Y := fun g h1 h2 => by rw [hY.1 g h2]; exact hc g h1 h2
    exact ⟨Y, by rw [f_X8_lay_p99, m_ends ht, cI_r, mEnd_ch yc, el, if_pos ((nI_ltI (by omega) (by omega)).mpr (by omega)), ix6 ht, znar_b (Or.inr rfl)], hY⟩
  | succ d ih =>
    intro i fuel Y tg a7 hi hfu hY htg ha7
    obtain ⟨fu, rfl⟩ : ∃ fu, fuel = fu + 1 := ⟨fuel - 1, by omega⟩
    have hik : i ≤ k := by omega
    have yc : mch A Y := fun g h1 h2 => by rw [hY.1 g h2]; exact hc g h1 h2
    obtain ⟨hfF, hfE⟩ := frP_ok hlt i hik
    have hrow := hrows (f + i) (by omega) (by omega)
    rw [show f + k - (f + i) = k - i by omega] at hrow
    have fd := m_find (a5 := a5) hM ht hF hfk hik hc hY e hn hlt hrow (htg hik) (fun a1 a4 a5 a6 a7 a8 I => f_X8_lay_p99 fu a1 a4 a5 a6 a7 a8 I)
    have hstart : ∃ z0, (if i = 0 then (-1 : Int32) else nI (frP A t F k f (i - 1))) + 1 = nI z0 ∧ z0 ≤ frP A t F k f i ∧ (i ≠ 0 → frP A t F k f (i - 1) < z0) := by
      by_cases h0 : i = 0
      · subst h0
        exact ⟨0, by rw [if_pos rfl]; decide, by omega, fun h => absurd rfl h⟩
      · obtain ⟨i', rfl⟩ : ∃ i', i = i' + 1 := ⟨i - 1, by omega⟩
        have hp := (frP_ok hlt i' (by omega)).2
        rw [show k - i' = (k - (i' + 1)) + 1 by omega] at hp
        have n1 := (nx_ok hp).1
        refine ⟨frP A t F k f i' + 1, by rw [if_neg h0, Nat.add_sub_cancel, nI_1], ?_, fun _ => by rw [Nat.add_sub_cancel]; omega⟩
        rw [frP, show k - i' - 1 = k - (i' + 1) by omega]
        omega
    obtain ⟨z0, ez, hz0, hz1⟩ := hstart
    have fd' := fd (frP A t F k f i - z0) z0 FU (by omega) (by rw [FU_v]; omega) hz1
    have hY' : wrM A X (mup Y 47 0 (24 * t + (f + i)) (nI (frP A t F k f i))) t F k f (i + 1) := by
      refine ⟨fun g h => by rw [mup_g h]; exact hY.1 g h, fun j hj => ?_, fun c hc' => ?_⟩
      · rw [mup_0]
        by_cases hji : j = i
        · subst hji; rw [if_pos rfl]
        · rw [if_neg (by omega)]; exact hY.2.1 j (by omega)
      · rw [mup_0, if_neg (by omega)]
        exact hY.2.2 c (by omega)
    obtain ⟨Y', e', q⟩ := ih (i + 1) fu (mup Y 47 0 (24 * t + (f + i)) (nI (frP A t F k f i))) (nI (sp A t F (k - i) (f + i) (frP A t F k f i)) - nI (lvx A t (frP A t F k f i) (f + i))) (nI (frP A t F k f i)) (by omega) (by omega) hY' (fun h => by
      rw [if_neg (by omega), Nat.add_sub_cancel, show f + (i + 1) - 1 = f + i by omega]
      rw [show k - i = (k - (i + 1)) + 1 by omega] at hfE ⊢
      obtain ⟨s1, s2, -⟩ := sp_nx hfE
      rw [s2]
      have hb := sp_bd (F := F) hM ht hF (k - (i + 1) + 1) (f + i) _ (by omega) hfF
      have := pk_sub (a := mnN (rs A t F (k - (i + 1)) (f + i) (frP A t F k f i)) (frP A t F k f i + 1) (F - frP A t F k f i - 1) + lvx A t (frP A t F k f i) (f + i)) (b := lvx A t (frP A t F k f i) (f + i)) (by omega)
      rw [Nat.add_sub_cancel] at this
      exact this) (fun h => by rw [if_neg (by omega), Nat.add_sub_cancel])
    refine ⟨Y', ?_, q⟩
    rw [f_X8_lay_p99, m_ends ht, cI_r, mEnd_ch yc, el, if_neg (by rw [nI_ltI (by omega) (by omega)]; omega), ha7 hik, ez, fd']
    exact e'
theorem m_min {A X : Mem} {t F f k : Nat} {a1 : Int32} (hM : InvM A) (ht : t < 6) (hF : F ≤ 40) (hfk : f + k < 24) (hrow : rowM X A t F k f) : ∀ (d n fuel : Nat), n + d = F → d < fuel → f_X8_lay_p42 fuel a1 (nI F) (nI f) (nI (mnN (sp A t F k f) 0 n)) (nI n) X = if mnN (sp A t F k f) 0 F = EE then rI (-1000007) (mAns X 7) else f_X8_lay_p99 FU a1 (nI f) (nI (mnN (sp A t F k f) 0 F)) (nI (mnN (sp A t F k f) 0 F)) (-1) (nI f) X := by
  have hEE : EE = 1000000000 := rfl
  intro d
  induction d with
  | zero =>
    intro n fuel hn hfu
    obtain ⟨fu, rfl⟩ : ∃ fu, fuel = fu + 1 := ⟨fuel - 1, by omega⟩
    have : n = F := by omega
    subst this
    have hle := mn_le (sp A t n k f) 0 n
    have cmp : nI (mnN (sp A t n k f) 0 n) = 1000000000 ↔ mnN (sp A t n k f) 0 n = EE := by
      rw [show (1000000000 : Int32) = nI EE from rfl]
      exact nI_eq (by omega) (by omega)
    rw [f_X8_lay_p42, if_pos ((nI_leI (by omega) (by omega)).mpr (Nat.le_refl _))]
    by_cases h : mnN (sp A t n k f) 0 n = EE
    · rw [if_pos (cmp.mpr h), if_pos h]; rfl
    · rw [if_neg (fun z => h (cmp.mp z)), if_neg h]
  | succ d ih =>
    intro n fuel hn hfu
    obtain ⟨fu, rfl⟩ : ∃ fu, fuel = fu + 1 := ⟨fuel - 1, by omega⟩
    have hle := mn_le (sp A t F k f) 0 n
    have hb1 := sp_bd (F := F) hM ht hF k f n (by omega) (by omega)
    have := ih (n + 1) fu (by omega) (by omega)
    rw [mnN, Nat.zero_add] at this
    rw [f_X8_lay_p42, if_neg (by rw [nI_leI (by omega) (by omega)]; omega), mul40', ix_nI (by omega) (by decide), hrow n (by omega), nI_1]
    unfold f_J9_min_7cf53
    have cmp : nI (sp A t F k f n) < nI (mnN (sp A t F k f) 0 n) ↔ sp A t F k f n < mnN (sp A t F k f) 0 n := nI_ltI (by omega) (by omega)
    by_cases h2 : sp A t F k f n < mnN (sp A t F k f) 0 n
    · rw [if_pos h2] at this
      rw [if_pos (cmp.mpr h2), cI_r]
      exact this
    · rw [if_neg h2] at this
      rw [if_neg (fun z => h2 (cmp.mp z)), cI_r]
      exact this
