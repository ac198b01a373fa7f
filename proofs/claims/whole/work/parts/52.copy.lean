/-! ===== copy ===== -/
def cpV (v c : Int32) : Int32 := let q := v * c / 100; let m := if q < 100 then q else 100; if -100 < m then m else -100
theorem cpV_rg (v c : Int32) : rg (-100) 100 (cpV v c) := by
  have e1 : (100 : Int32).toInt = 100 := by decide
  have e2 : (-100 : Int32).toInt = -100 := by decide
  unfold cpV rg
  dsimp only
  by_cases h1 : v * c / 100 < 100
  · rw [if_pos h1]
    by_cases h2 : -100 < v * c / 100
    · rw [if_pos h2]
      rw [lt_i] at h1 h2
      omega
    · rw [if_neg h2, e2]; omega
  · rw [if_neg h1, if_pos (by decide), e1]; omega
theorem m_cpV (v c : Int32) (K : Int32 → Mem → RT) (I : Mem) : (cI (f_J9_min_7cf53 100 (v * c / 100) I) fun v1 J1 => cI (f_J9_max_7cf53 (-100) v1 J1) fun v2 J2 => K v2 J2) = K (cpV v c) I := by
  unfold f_J9_min_7cf53 f_J9_max_7cf53 cpV
  dsimp only
  by_cases h1 : v * c / 100 < 100
  · rw [if_pos h1, if_pos h1, cI_r]
    by_cases h2 : -100 < v * c / 100
    · rw [if_pos h2, if_pos h2, cI_r]
    · rw [if_neg h2, if_neg h2, cI_r]
  · rw [if_neg h1, if_neg h1, cI_r, if_pos (by decide), if_pos (by decide), cI_r]
theorem apM_rd {A : Mem} {s t n ns k i : Nat} {w : Nat → Int32} (hs : s < 6) (ht : t < 6) (es : A 42 0 s = nI ns) (e : A 42 0 t = nI n) (hn : n + k ≤ 400) (hns : ns ≤ 400) (hi : i < ns) : apM A t n k w 43 0 (400 * s + i) = A 43 0 (400 * s + i) := by
  by_cases q : s = t
  · subst q
    have : n = ns := (nI_eq (by omega) (by omega)).mp (e.symm.trans es)
    rw [apM_43, if_neg (by omega)]
  · unfold apM
    rw [if_neg (by omega), if_neg (by omega)]
theorem m_copyL {A : Mem} {s t n ns N fr : Nat} {c : Int32} {w : Nat → Int32} (hs : s < 6) (ht : t < 6) (es : A 42 0 s = nI ns) (e : A 42 0 t = nI n) (hn : n + N ≤ 400) (hns : ns ≤ 400) (hfr : fr + N ≤ ns) (hw : ∀ j, j < N → w j = if A 38 0 t = 4 then 0 else cpV (A 43 0 (400 * s + (fr + j))) c) : ∀ (d k fuel : Nat), k + d = N → d < fuel → f_X8_copy_p121 fuel (nI s) (nI fr) (nI N) (nI t) c (nI k) (apM A t n k w) = rI (nI (n + N)) (mChg (apM A t n N w) t) := by
  intro d
  induction d with
  | zero =>
    intro k fuel hk hfu
    obtain ⟨fu, rfl⟩ : ∃ fu, fuel = fu + 1 := ⟨fuel - 1, by omega⟩
    have : k = N := by omega
    subst this
    rw [f_X8_copy_p121, if_pos (nI_le (Nat.le_refl _) (by omega)), m_changed ht, cV_r, ix6 ht]
    have : mChg (apM A t n k w) t 42 0 t = nI (n + k) := apM_n
    rw [this]
  | succ d ih =>
    intro k fuel hk hfu
    obtain ⟨fu, rfl⟩ : ∃ fu, fuel = fu + 1 := ⟨fuel - 1, by omega⟩
    rw [f_X8_copy_p121, if_neg (nI_ge (by omega) (by omega)), mul400, nI_add, ix_nI (by omega) (by decide), if_neg (by decide), m_cpV, show 400 * s + fr + k = 400 * s + (fr + k) by omega, apM_rd hs ht es e (by omega) hns (by omega), m_add ht (by omega) (hw k (by omega)), cV_r, nI_1]
    exact ih (k + 1) fu (by omega) (by omega)
theorem apC_snd {I A : Mem} {s t n ns k i : Nat} {w : Nat → Int32} (hS : rcT I A s) (hs : s < 6) (ht : t < 6) (es : A 42 0 s = nI ns) (e : A 42 0 t = nI n) (hn : n + k ≤ 400) (hns : ns ≤ 400) (hi : i < ns) : f_X6_soundAt s (nI i) (apC I t n k w) = rI (A 43 0 (400 * s + i)) (apC I t n k w) := by
  unfold f_X6_soundAt
  rw [if_neg (nI_pos (by omega))]
  have h8 := hS.2.2.2.2.2.1 i (by omega)
  by_cases q : s = t
  · subst q
    have : n = ns := (nI_eq (by omega) (by omega)).mp (e.symm.trans es)
    rw [apC_n, if_neg (nI_ge (by omega) (by omega)), ix_nI (by omega) (by decide), apC_8, if_neg (by omega), h8]
  · have e6 : apC I t n k w 7 s 6 = nI ns := by
      unfold apC
      rw [if_neg (fun z => q z.2.1), if_neg (by omega)]
      exact hS.2.2.2.2.1.trans es
    have e8 : apC I t n k w 8 s i = I 8 s i := by
      unfold apC
      rw [if_neg (by omega), if_neg (fun z => q z.2.1)]
    rw [e6, if_neg (nI_ge (by omega) (by omega)), ix_nI (by omega) (by decide), e8, h8]
theorem c_copyL {I A : Mem} {s t n ns N fr : Nat} {c : Int32} {w : Nat → Int32} (hS : rcT I A s) (hs : s < 6) (ht : t < 6) (es : A 42 0 s = nI ns) (e : A 42 0 t = nI n) (hn : n + N ≤ 400) (hns : ns ≤ 400) (hfr : fr + N ≤ ns) (hw : ∀ j, j < N → w j = if I 7 t 2 = 4 then 0 else cpV (A 43 0 (400 * s + (fr + j))) c) : ∀ (d k fuel : Nat), k + d = N → d < fuel → f_X7_copy_p114 fuel (nI s) (nI fr) (nI N) (nI t) c (nI k) (apC I t n k w) = rI (nI (n + N)) (cChg (apC I t n N w) t) := by
  intro d
  induction d with
  | zero =>
    intro k fuel hk hfu
    obtain ⟨fu, rfl⟩ : ∃ fu, fuel = fu + 1 := ⟨fuel - 1, by omega⟩
    have : k = N := by omega
    subst this
    rw [f_X7_copy_p114, if_pos (nI_le (Nat.le_refl _) (by omega)), c_changeTake ht, cV_r, ix6 ht]
    have : cChg (apC I t n k w) t 7 t 6 = nI (n + k) := by
      show mup (apC I t n k w) 7 t 1 0 7 t 6 = _
      rw [mup_ne (by omega), apC_n]
    rw [this]
  | succ d ih =>
    intro k fuel hk hfu
    obtain ⟨fu, rfl⟩ : ∃ fu, fuel = fu + 1 := ⟨fuel - 1, by omega⟩
    rw [f_X7_copy_p114, if_neg (nI_ge (by omega) (by omega)), ix6 hs, nI_add, apC_snd hS hs ht es e (by omega) hns (by omega), cI_r, if_neg (by decide), ix6 ht, m_cpV, c_append (by omega) (hw k (by omega)), cV_r, nI_1]
    exact ih (k + 1) fu (by omega) (by omega)
/-- where a copy begins, how long it may be -/
theorem from_cases {ns : Nat} (hns : ns ≤ 400) (x y : Int32) (hy : ¬ y < 0) : (∃ fr N, fr + N ≤ ns ∧ x = nI fr ∧ y = nI N) ∨ (¬ x < 0 ∧ ¬ y ≤ nI ns - x) ∨ x < 0 := by
  by_cases hx : x < 0
  · exact Or.inr (Or.inr hx)
  · by_cases h : y ≤ nI ns - x
    · left
      obtain ⟨fr, hfr, rfl⟩ := nI_of hx
      obtain ⟨N, hN, rfl⟩ := nI_of hy
      have e : (nI ns - nI fr).toInt = (ns : Int) - fr := by
        rw [Int32.toInt_sub, nIt (by omega), nIt hfr]
        exact Int.bmod_eq_of_le (by omega) (by omega)
      rw [le_i, e, nIt hN] at h
      exact ⟨fr, N, by omega, rfl, rfl⟩
    · exact Or.inr (Or.inl ⟨hx, h⟩)
theorem from_ok {ns fr N : Nat} (hns : ns ≤ 400) (h : fr + N ≤ ns) : (0 ≤ nI fr ∧ nI fr ≤ nI ns) ∧ nI N ≤ nI ns - nI fr ∧ ¬ nI fr < 0 := by
  rw [pk_sub (by omega)]
  exact ⟨⟨nI_pos' (by omega), nI_le (by omega) (by omega)⟩, nI_le (by omega) (by omega), nI_pos (by omega)⟩
theorem op_copy (a b y d c : Int32) : opA (f_X7_copy a b y d c) (f_X8_copy a b y d c) := by
  intro I A hR hM
  by_cases hc : (-400 ≤ c ∧ c ≤ 400)
  · rcases tk_cases a with ⟨s, hs, rfl⟩ | ha
    · rcases tk_cases d with ⟨t, ht, rfl⟩ | hd
      · have hT := hR.2.1 t ht
        have hS := hR.2.1 s hs
        have mh : ∀ K : RT, f_X8_copy (nI s) b y (nI t) c A = K ↔ (if A 38 0 s < 0 then f_X8_copy_p55 A else if 0 ≤ A 38 0 t then (if 0 ≤ y then (if b < 0 then f_X8_copy_p89 A else if y ≤ A 42 0 s - b then (if y ≤ 400 - A 42 0 t then f_X8_copy_p121 FU (nI s) b y (nI t) c 0 A else (cI (f_X8_answer (-1000005) A) fun v26 J25 => rI v26 J25)) else f_X8_copy_p89 A) else (cI (f_X8_answer (-1000004) A) fun v28 J27 => rI v28 J27)) else f_X8_copy_p55 A) = K := by
          intro K
          unfold f_X8_copy
          rw [m_isTake, cI_r, bi_ite, if_pos (tk_ok hs), m_isTake, cI_r, bi_ite, if_pos (tk_ok ht), m_in, cI_r, bi_ite, if_pos hc, ix6 hs, ix6 ht, ix6 hs, ix6 ht]
        have ch : ∀ K : RT, f_X7_copy (nI s) b y (nI t) c I = K ↔ f_X7_copy_p26 (nI s) b y (nI t) c (if I 7 s 0 = 0 then -1000002 else if I 7 t 0 = 0 then -1000002 else 0) I = K := by
          intro K
          unfold f_X7_copy f_X7_askPair
          rw [c_within, cI_r, bi_ite, if_pos hc, c_isTake, cI_r, bi_ite, if_pos (tk_ok hs), c_isTake, cI_r, bi_ite, if_pos (tk_ok ht), ix6 hs, ix6 ht]
          split
          · rw [cI_r]
          · split
            · rw [cI_r]
            · rw [cI_r]
        by_cases hks : 0 ≤ A 38 0 s
        · have hks' : ¬ A 38 0 s < 0 := Int32.not_lt.mpr hks
          by_cases hkt : 0 ≤ A 38 0 t
          · obtain ⟨n, hn, e⟩ := cnt_at hM ht
            obtain ⟨ns, hns, es⟩ := cnt_at hM hs
            have e2 : I 7 t 6 = nI n := hT.2.2.2.2.1.trans e
            have es2 : I 7 s 6 = nI ns := hS.2.2.2.2.1.trans es
            have ek : I 7 t 2 = A 38 0 t := (hT.2.2.1 hkt).1
            by_cases hy : y < 0
            · refine op_ref (c := -1000004) 3 (by decide) hR hM ((mh _).mpr ?_) ((ch _).mpr ?_)
              · rw [if_neg hks', if_pos hkt, if_neg (Int32.not_le.mpr hy)]; rfl
              · unfold f_X7_copy_p26
                rw [if_neg (here_t hS hks), if_neg (here_t hT hkt), if_pos rfl, if_neg (Int32.not_le.mpr hy)]; rfl
            · have hy' : 0 ≤ y := Int32.not_lt.mp hy
              rcases from_cases hns b y hy with ⟨fr, N, hfr, rfl, rfl⟩ | ⟨hb, hb2⟩ | hb
              · obtain ⟨f1, f2, f3⟩ := from_ok hns hfr
                by_cases hr : nI N ≤ 400 - nI n
                · have hN : n + N ≤ 400 := by
                    have e9 : (400 : Int32) - nI n = nI (400 - n) := pk_sub (a := 400) hn
                    rw [e9] at hr
                    have := (nI_leI (by omega) (by omega)).mp hr
                    omega
                  refine op_app (n := n) (k := N) (v := nI (n + N)) (w := fun j => if A 38 0 t = 4 then 0 else cpV (A 43 0 (400 * s + (fr + j))) c) ht hR hM e hN (fun j hj => ?_) ((mh _).mpr ?_) ((ch _).mpr ?_)
                  · split
                    · exact ⟨by decide, by decide⟩
                    · exact cpV_rg _ _
                  · rw [if_neg hks', if_pos hkt, if_pos hy', if_neg f3, es, if_pos f2, e, if_pos hr]
                    have := m_copyL (A := A) (c := c) (w := fun j => if A 38 0 t = 4 then 0 else cpV (A 43 0 (400 * s + (fr + j))) c) hs ht es e hN hns hfr (fun j _ => rfl) N 0 FU (by omega) (by show N < 20000; omega)
                    rw [apM_0 _ e] at this
                    exact this
                  · unfold f_X7_copy_p26 f_X6_room
                    rw [if_neg (here_t hS hks), if_neg (here_t hT hkt), if_pos rfl, if_pos hy', ix6 hs, es2, c_within, cI_r, bi_ite, if_pos f1, ix6 hs, es2, if_pos f2, ix6 ht, cI_r, e2, if_pos hr]
                    have := c_copyL (I := I) (A := A) (c := c) (w := fun j => if A 38 0 t = 4 then 0 else cpV (A 43 0 (400 * s + (fr + j))) c) hS hs ht es e hN hns hfr (fun j _ => by rw [ek]) N 0 FU (by omega) (by show N < 20000; omega)
                    rw [apC_0 _ e2] at this
                    exact this
                · refine op_ref (c := -1000005) 4 (by decide) hR hM ((mh _).mpr ?_) ((ch _).mpr ?_)
                  · rw [if_neg hks', if_pos hkt, if_pos hy', if_neg f3, es, if_pos f2, e, if_neg hr]; rfl
                  · unfold f_X7_copy_p26 f_X6_room
                    rw [if_neg (here_t hS hks), if_neg (here_t hT hkt), if_pos rfl, if_pos hy', ix6 hs, es2, c_within, cI_r, bi_ite, if_pos f1, ix6 hs, es2, if_pos f2, ix6 ht, cI_r, e2, if_neg hr]; rfl
              · refine op_ref (c := -1000001) 0 (by decide) hR hM ((mh _).mpr ?_) ((ch _).mpr ?_)
                · rw [if_neg hks', if_pos hkt, if_pos hy', if_neg hb, es, if_neg hb2]; rfl
                · unfold f_X7_copy_p26
                  rw [if_neg (here_t hS hks), if_neg (here_t hT hkt), if_pos rfl, if_pos hy', ix6 hs, es2, c_within, cI_r, bi_ite]
                  split
                  · rw [ix6 hs, es2, if_neg hb2]; rfl
                  · rfl
              · refine op_ref (c := -1000001) 0 (by decide) hR hM ((mh _).mpr ?_) ((ch _).mpr ?_)
                · rw [if_neg hks', if_pos hkt, if_pos hy', if_pos hb]; rfl
                · unfold f_X7_copy_p26
                  rw [if_neg (here_t hS hks), if_neg (here_t hT hkt), if_pos rfl, if_pos hy', ix6 hs, es2, c_within, cI_r, bi_ite, if_neg (fun q => Int32.not_le.mpr hb q.1)]; rfl
          · refine op_ref (c := -1000002) 1 (by decide) hR hM ((mh _).mpr ?_) ((ch _).mpr ?_)
            · rw [if_neg hks', if_neg hkt]; rfl
            · rw [if_neg (here_t hS hks), if_pos (here_f hT hkt)]; rfl
        · refine op_ref (c := -1000002) 1 (by decide) hR hM ((mh _).mpr ?_) ((ch _).mpr ?_)
          · rw [if_pos (Int32.not_le.mp hks)]; rfl
          · rw [if_pos (here_f hS hks)]; rfl
      · refine op_ref (c := -1000001) 0 (by decide) hR hM ?_ ?_
        · unfold f_X8_copy
          rw [m_isTake, cI_r, bi_ite, if_pos (tk_ok hs), m_isTake, cI_r, bi_ite, if_neg hd]; rfl
        · unfold f_X7_copy f_X7_askPair f_X7_copy_p26
          rw [c_within, cI_r, bi_ite, if_pos hc, c_isTake, cI_r, bi_ite, if_pos (tk_ok hs), c_isTake, cI_r, bi_ite, if_neg hd]; rfl
    · refine op_ref (c := -1000001) 0 (by decide) hR hM ?_ ?_
      · unfold f_X8_copy
        rw [m_isTake, cI_r, bi_ite, if_neg ha]; rfl
      · unfold f_X7_copy f_X7_askPair f_X7_copy_p26
        rw [c_within, cI_r, bi_ite, if_pos hc, c_isTake, cI_r, bi_ite, if_neg ha]; rfl
  · refine op_ref (c := -1000001) 0 (by decide) hR hM ?_ ?_
    · unfold f_X8_copy
      rw [m_isTake, cI_r, bi_ite]
      split
      · rw [m_isTake, cI_r, bi_ite]
        split
        · rw [m_in, cI_r, bi_ite, if_neg hc]; rfl
        · rfl
      · rfl
    · unfold f_X7_copy f_X7_copy_p26
      rw [c_within, cI_r, bi_ite, if_neg hc]; rfl
