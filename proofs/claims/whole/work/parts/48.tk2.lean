/-! ===== a take's data change, it isn't laid then ===== -/
def tkU (A : Mem) (B t : Nat) : Prop := rg (-1) 4 (A 38 0 t) ∧ (isP A t → ∃ f l, f ≤ l ∧ l < B ∧ A 39 0 t = nI f ∧ A 40 0 t = nI l) ∧ rg 0 1000 (A 41 0 t) ∧
  (∃ n, n ≤ 400 ∧ A 42 0 t = nI n) ∧ (∀ i, i < 400 → rg (-100) 100 (A 43 0 (400 * t + i))) ∧ (∀ b, b < 24 → ∀ m, m < 4 → rg 0 9 (A 44 0 (4 * (24 * t + b) + m)) ∧ (A 38 0 t = 4 → A 44 0 (4 * (24 * t + b) + m) = 0)) ∧ (∀ b, b < 24 → rg (-1) 39 (A 45 0 (24 * t + b)))
def rcU (I A : Mem) (t : Nat) : Prop := I 7 t 0 = bi (0 ≤ A 38 0 t) ∧ rg 0 4 (I 7 t 2) ∧ (0 ≤ A 38 0 t → I 7 t 2 = A 38 0 t ∧ I 7 t 3 = mBeg A t ∧ I 7 t 4 = mEnd A t) ∧ I 7 t 5 = A 41 0 t ∧ I 7 t 6 = A 42 0 t ∧
  (∀ i, i < 400 → I 8 t i = A 43 0 (400 * t + i)) ∧ (0 ≤ A 38 0 t → ∀ b, b < 24 → I 9 t b = A 45 0 (24 * t + b)) ∧ (∀ b, b < 24 → ∀ m, m < 4 → I 11 t (4 * b + m) = A 44 0 (4 * (24 * t + b) + m))
theorem tkOk_U {A : Mem} {B t : Nat} (h : tkOk A B t) : tkU A B t := ⟨h.1, h.2.1, h.2.2.1, h.2.2.2.1, h.2.2.2.2.1, h.2.2.2.2.2.1, h.2.2.2.2.2.2.1⟩
theorem rcT_U {I A : Mem} {t : Nat} (h : rcT I A t) : rcU I A t := ⟨h.1, h.2.1, h.2.2.1, h.2.2.2.1, h.2.2.2.2.1, h.2.2.2.2.2.1, h.2.2.2.2.2.2.1, h.2.2.2.2.2.2.2.1⟩
theorem op_tk {fc fm : Mem → RT} {I A I' A' : Mem} {t : Nat} {v : Int32} (ht : t < 6) (hR : RC I A) (hM : InvM A) (gA : ∀ g, ¬ (38 ≤ g ∧ g ≤ 45) → A' g = A g) (hA : ∀ u, u < 6 → u ≠ t → agT A A' u) (gI : ∀ g, ¬ (7 ≤ g ∧ g ≤ 11) → I' g = I g) (hI : ∀ u, u < 6 → u ≠ t → clT I I' u)
    (htk : ∀ B, 1 ≤ B → B ≤ 24 → A 33 0 0 = nI B → tkU A' B t) (hrc : rcU I' A' t) (em : fm A = rI v (mChg A' t)) (ec : fc I = rI v (cChg I' t)) : ∃ v I1 A1, fm A = rI v A1 ∧ InvM A1 ∧ keepM A A1 ∧ fc I = rI v I1 ∧ RC I1 A1 ∧ keepC I I1 := by
  have e46 : mChg A' t 46 0 t = 0 := by
    show mup A' 46 0 t 0 46 0 t = 0
    exact mup_at
  have n2 : ¬ (0 : Int32) = 1 := by decide
  have x46 : ∀ u, u ≠ t → mChg A' t 46 0 u = A 46 0 u := by
    intro u e
    show mup A' 46 0 t 0 46 0 u = _
    rw [mup_0, if_neg e, gA 46 (by omega)]
  have hag : ∀ u, u < 6 → u ≠ t → agT A (mChg A' t) u := by
    intro u hu e
    obtain ⟨⟨a1, a2, a3, a4, a5, a6, a7⟩, b1, b2, b3⟩ := hA u hu e
    exact ⟨⟨a1, a2, a3, a4, x46 u e, a6, a7⟩, b1, b2, b3⟩
  have x33 : ∀ k, k ≠ 19 → mChg A' t 33 0 k = A 33 0 k := by
    intro k hk
    unfold mChg
    rw [mup_ne (by omega), mup_g (by decide), gA 33 (by omega)]
  have xG : agG A (mChg A' t) := ⟨x33 0 (by decide), x33 15 (by decide), x33 16 (by decide), fun b hb => by
    show A' 35 0 b = _
    rw [gA 35 (by omega)]⟩
  have xg : ∀ g, g ≠ 33 → g ≠ 46 → mChg A' t g = A' g := fun g h1 h2 => by unfold mChg; rw [mup_g h1, mup_g h2]
  have yg : ∀ g, g ≠ 7 → g ≠ 27 → cChg I' t g = I' g := fun g h1 h2 => by unfold cChg; rw [mup_g h2, mup_g h1]
  have y7 : ∀ u, u ≠ t → cChg I' t 7 u = I' 7 u := by
    intro u e
    show mup I' 7 t 1 0 7 u = _
    rw [mup_i e]
  have yt : ∀ k, k ≠ 1 → cChg I' t 7 t k = I' 7 t k := by
    intro k e
    show mup I' 7 t 1 0 7 t k = _
    rw [mup_ne (by omega)]
  have y1 : cChg I' t 7 t 1 = 0 := by
    show mup I' 7 t 1 0 7 t 1 = 0
    exact mup_at
  have y27 : ∀ k, k ≠ 2 → cChg I' t 27 0 k = I 27 0 k := by
    intro k e
    unfold cChg
    rw [mup_ne (by omega), mup_g (by decide), gI 27 (by omega)]
  refine ⟨_, _, _, em, InvM_take hM ht hag x33 mup_at ?_ ?_ ?_ ?_ (fun B h1 h2 h3 _ => ?_), ?_, ec, RC_take hR hM hag xG e46 mup_at ?_ ?_ (fun u hu e => ?_) ?_ ?_ mup_at ?_ ?_ ?_ ?_, ?_⟩
  · rw [xg 34 (by decide) (by decide), gA 34 (by omega)]
  · rw [xg 35 (by decide) (by decide), gA 35 (by omega)]
  · rw [xg 36 (by decide) (by decide), gA 36 (by omega)]
  · rw [xg 37 (by decide) (by decide), gA 37 (by omega)]
  · obtain ⟨k1, k2, k3, k4, k5, k6, k7⟩ := htk B h1 h2 h3
    exact ⟨k1, k2, k3, k4, k5, k6, k7, Or.inl e46, fun q => absurd (e46.symm.trans q) n2, fun q => absurd (e46.symm.trans q) n2⟩
  · intro g hg
    rw [xg g (by omega) (by omega), gA g (by omega)]
  · have := hR.1
    unfold rcS at this ⊢
    rw [x33 0 (by decide), yg 1 (by decide) (by decide), yg 2 (by decide) (by decide), yg 3 (by decide) (by decide), yg 4 (by decide) (by decide), yg 5 (by decide) (by decide), gI 1 (by omega), gI 2 (by omega), gI 3 (by omega), gI 4 (by omega), gI 5 (by omega), xg 34 (by decide) (by decide), xg 35 (by decide) (by decide), xg 36 (by decide) (by decide), xg 37 (by decide) (by decide), gA 34 (by omega), gA 35 (by omega), gA 36 (by omega), gA 37 (by omega)]
    exact this
  · have := hR.2.2.1
    unfold rcJ at this ⊢
    rw [x33 15 (by decide), x33 16 (by decide), x33 17 (by decide), x33 18 (by decide), y27 3 (by decide), yg 12 (by decide) (by decide), gI 12 (by omega)]
    exact this
  · obtain ⟨c1, c2, c3, c4, c5⟩ := hI u hu e
    exact ⟨(y7 u e).trans c1, by rw [yg 8 (by decide) (by decide)]; exact c2, by rw [yg 9 (by decide) (by decide)]; exact c3, by rw [yg 10 (by decide) (by decide)]; exact c4, by rw [yg 11 (by decide) (by decide)]; exact c5⟩
  · rw [yg 15 (by decide) (by decide), gI 15 (by omega)]
  · rw [yg 16 (by decide) (by decide), gI 16 (by omega)]
  · obtain ⟨r1, r2, r3, r4, r5, r6, r7, r8⟩ := hrc
    refine ⟨by rw [yt 0 (by decide)]; exact r1, by rw [yt 2 (by decide)]; exact r2, fun q => ?_, by rw [yt 5 (by decide)]; exact r4, by rw [yt 6 (by decide)]; exact r5, r6, r7, r8, by rw [y1, e46], fun q => absurd (e46.symm.trans q) n2⟩
    rw [yt 2 (by decide), yt 3 (by decide), yt 4 (by decide)]
    obtain ⟨z1, z2, z3⟩ := r3 q
    refine ⟨z1, z2, ?_⟩
    rw [z3]
    unfold mEnd isP
    rw [x33 0 (by decide), xg 38 (by decide) (by decide), xg 40 (by decide) (by decide), gA 33 (by omega)]
  · have := hR.2.2.2.2.2.1
    unfold rcF at this ⊢
    rw [yg 31 (by decide) (by decide), gI 31 (by omega), xg 50 (by decide) (by decide), gA 50 (by omega)]
    exact this
  · have := hR.2.2.2.2.2.2.1
    unfold rcN at this ⊢
    rw [yg 0 (by decide) (by decide), gI 0 (by omega), yg 32 (by decide) (by decide), gI 32 (by omega), x33 22 (by decide), xg 49 (by decide) (by decide), gA 49 (by omega)]
    exact this
  · have := hR.2.2.2.2.2.2.2
    unfold rcX at this ⊢
    rw [yg 101 (by decide) (by decide), gI 101 (by omega), yg 102 (by decide) (by decide), gI 102 (by omega)]
    exact this
  · intro g hg
    have hg : 33 ≤ g := hg
    rw [yg g (by omega) (by omega), gI g (by omega)]
/-- samples and their number change alone -/
theorem op_smp {fc fm : Mem → RT} {I A I' A' : Mem} {t n : Nat} {v : Int32} (ht : t < 6) (hR : RC I A) (hM : InvM A) (gA : ∀ g, g ≠ 42 → g ≠ 43 → A' g = A g) (a42 : ∀ u, u ≠ t → A' 42 0 u = A 42 0 u) (a43 : ∀ u, u < 6 → u ≠ t → ∀ i, i < 400 → A' 43 0 (400 * u + i) = A 43 0 (400 * u + i))
    (gI : ∀ g, g ≠ 7 → g ≠ 8 → I' g = I g) (i7 : ∀ u, u ≠ t → I' 7 u = I 7 u) (i7t : ∀ k, k ≠ 6 → I' 7 t k = I 7 t k) (i8 : ∀ u, u ≠ t → I' 8 u = I 8 u) (hn : n ≤ 400) (en : A' 42 0 t = nI n) (en2 : I' 7 t 6 = nI n) (hs : ∀ i, i < 400 → I' 8 t i = A' 43 0 (400 * t + i) ∧ rg (-100) 100 (A' 43 0 (400 * t + i)))
    (em : fm A = rI v (mChg A' t)) (ec : fc I = rI v (cChg I' t)) : ∃ v I1 A1, fm A = rI v A1 ∧ InvM A1 ∧ keepM A A1 ∧ fc I = rI v I1 ∧ RC I1 A1 ∧ keepC I I1 := by
  refine op_tk ht hR hM (fun g hg => gA g (by omega) (by omega)) (fun u hu e => ?_) (fun g hg => gI g (by omega) (by omega)) (fun u hu e => ?_) (fun B h1 h2 h3 => ?_) ?_ em ec
  · refine ⟨⟨by rw [gA 38 (by decide) (by decide)], by rw [gA 39 (by decide) (by decide)], by rw [gA 40 (by decide) (by decide)], a42 u e, by rw [gA 46 (by decide) (by decide)], a43 u hu e, fun b _ => by rw [gA 47 (by decide) (by decide)]⟩, by rw [gA 41 (by decide) (by decide)], fun b _ m _ => by rw [gA 44 (by decide) (by decide)], fun b _ => by rw [gA 45 (by decide) (by decide)]⟩
  · exact ⟨i7 u e, i8 u e, by rw [gI 9 (by decide) (by decide)], by rw [gI 10 (by decide) (by decide)], by rw [gI 11 (by decide) (by decide)]⟩
  · obtain ⟨⟨B', ⟨b1, b2, b3⟩, -, h5, -⟩, -⟩ := hM
    have : B' = B := (nI_eq (by omega) (by omega)).mp (b3.symm.trans h3)
    subst this
    obtain ⟨k1, k2, k3, k4, k5, k6, k7⟩ := tkOk_U (h5 t ht)
    unfold tkU isP at *
    rw [gA 38 (by decide) (by decide), gA 39 (by decide) (by decide), gA 40 (by decide) (by decide), gA 41 (by decide) (by decide), gA 44 (by decide) (by decide), gA 45 (by decide) (by decide)]
    exact ⟨k1, k2, k3, ⟨n, hn, en⟩, fun i hi => (hs i hi).2, k6, k7⟩
  · obtain ⟨r1, r2, r3, r4, r5, r6, r7, r8⟩ := rcT_U (hR.2.1 t ht)
    have eb : mBeg A' t = mBeg A t := by unfold mBeg isP; rw [gA 38 (by decide) (by decide), gA 39 (by decide) (by decide)]
    have ee : mEnd A' t = mEnd A t := by unfold mEnd isP; rw [gA 38 (by decide) (by decide), gA 40 (by decide) (by decide), gA 33 (by decide) (by decide)]
    unfold rcU
    rw [eb, ee, gA 38 (by decide) (by decide), gA 41 (by decide) (by decide), gA 44 (by decide) (by decide), gA 45 (by decide) (by decide), gI 9 (by decide) (by decide), gI 11 (by decide) (by decide), i7t 0 (by decide), i7t 2 (by decide), i7t 3 (by decide), i7t 4 (by decide), i7t 5 (by decide), en, en2]
    exact ⟨r1, r2, r3, r4, rfl, fun i hi => (hs i hi).1, r7, r8⟩
theorem op_put (a c d : Int32) : opA (f_X7_put a c d) (f_X8_put a c d) := by
  intro I A hR hM
  rcases tk_cases a with ⟨t, ht, rfl⟩ | ha
  · have hT := hR.2.1 t ht
    by_cases hk : 0 ≤ A 38 0 t
    · obtain ⟨n, hn, e⟩ := cnt_at hM ht
      have e2 : I 7 t 6 = nI n := hT.2.2.2.2.1.trans e
      have ek : I 7 t 2 = A 38 0 t := (hT.2.2.1 hk).1
      rcases nb_cases c (n := n) (by omega) with ⟨i, hi, rfl⟩ | hx
      · by_cases hd : (-100 ≤ d ∧ d ≤ 100)
        · obtain ⟨w, hw⟩ : ∃ w : Int32, w = if A 38 0 t = 4 then 0 else d := ⟨_, rfl⟩
          have hrg : rg (-100) 100 w := by
            rw [hw]
            split
            · exact ⟨by decide, by decide⟩
            · rw [le_i, le_i] at hd
              exact hd
          refine op_smp (I' := mup I 8 t i w) (A' := mup A 43 0 (400 * t + i) w) (v := 1) ht hR hM (fun g h1 h2 => mup_g h2) (fun u _ => by rw [mup_g (by decide)]) (fun u hu e3 j hj => ?_) (fun g h1 h2 => mup_g h2) (fun u _ => by rw [mup_g (by decide)]) (fun k _ => by rw [mup_g (by decide)]) (fun u e3 => mup_i e3) hn (by rw [mup_g (by decide)]; exact e) (by rw [mup_g (by decide)]; exact e2) (fun j hj => ?_) ?_ ?_
          · rw [mup_0, if_neg (by omega)]
          · obtain ⟨⟨B, -, -, h5, -⟩, -⟩ := hM
            have h9 := (h5 t ht).2.2.2.2.1 j hj
            rw [mup_0, mup_t]
            by_cases q : j = i
            · subst q
              rw [if_pos ⟨rfl, rfl⟩, if_pos rfl]
              exact ⟨rfl, hrg⟩
            · rw [if_neg (by omega), if_neg (by omega)]
              exact ⟨hT.2.2.2.2.2.1 j hj, h9⟩
          · unfold f_X8_put f_X8_put_p82
            rw [look_t ht hk, cI_r, if_neg (by decide), ix6 ht, m_in, cI_r, bi_ite, e, if_pos (nb_ok hi (by omega)), m_in, cI_r, bi_ite, if_pos hd, ix6 ht, mul400, hw]
            split
            · rw [ix_nI (by omega) (by decide), m_changed ht, cV_r]
            · rw [ix_nI (by omega) (by decide), m_changed ht, cV_r]
          · unfold f_X7_put f_X6_write
            rw [ask_t ht hT hk, cI_r, if_pos rfl, ix6 ht, c_within, cI_r, bi_ite, e2, if_pos (nb_ok hi (by omega)), c_within, cI_r, bi_ite, if_pos hd, ix6 ht, e2, if_neg (nI_pos (by omega)), if_neg (nI_ge hi (by omega)), ek, hw]
            split
            · rw [ix_nI (by omega) (by decide), cV_r, c_changeTake ht, cV_r]
            · rw [ix_nI (by omega) (by decide), cV_r, c_changeTake ht, cV_r]
        · refine op_ref (c := -1000001) 0 (by decide) hR hM ?_ ?_
          · unfold f_X8_put
            rw [look_t ht hk, cI_r, if_neg (by decide), ix6 ht, m_in, cI_r, bi_ite, e, if_pos (nb_ok hi (by omega)), m_in, cI_r, bi_ite, if_neg hd]; rfl
          · unfold f_X7_put
            rw [ask_t ht hT hk, cI_r, if_pos rfl, ix6 ht, c_within, cI_r, bi_ite, e2, if_pos (nb_ok hi (by omega)), c_within, cI_r, bi_ite, if_neg hd]; rfl
      · refine op_ref (c := -1000001) 0 (by decide) hR hM ?_ ?_
        · unfold f_X8_put
          rw [look_t ht hk, cI_r, if_neg (by decide), ix6 ht, m_in, cI_r, bi_ite, e, if_neg hx]; rfl
        · unfold f_X7_put
          rw [ask_t ht hT hk, cI_r, if_pos rfl, ix6 ht, c_within, cI_r, bi_ite, e2, if_neg hx]; rfl
    · refine op_ref (c := -1000002) 1 (by decide) hR hM ?_ ?_
      · unfold f_X8_put
        rw [look_f ht hk]; rfl
      · unfold f_X7_put
        rw [ask_f ht hT hk]; rfl
  · refine op_ref (c := -1000001) 0 (by decide) hR hM ?_ ?_
    · unfold f_X8_put
      rw [m_look_no ha]; rfl
    · unfold f_X7_put
      rw [c_askTake_no ha]; rfl
