/-! ===== play, copy: samples come behind ===== -/
def apM (A : Mem) (t n k : Nat) (w : Nat → Int32) : Mem := fun g i j => if g = 42 ∧ i = 0 ∧ j = t then nI (n + k) else if g = 43 ∧ i = 0 ∧ 400 * t + n ≤ j ∧ j < 400 * t + n + k then w (j - (400 * t + n)) else A g i j
def apC (I : Mem) (t n k : Nat) (w : Nat → Int32) : Mem := fun g i j => if g = 7 ∧ i = t ∧ j = 6 then nI (n + k) else if g = 8 ∧ i = t ∧ n ≤ j ∧ j < n + k then w (j - n) else I g i j
theorem apM_0 {A : Mem} {t n : Nat} (w : Nat → Int32) (e : A 42 0 t = nI n) : apM A t n 0 w = A := by
  funext g i j
  unfold apM
  by_cases h : g = 42 ∧ i = 0 ∧ j = t
  · rw [if_pos h, h.1, h.2.1, h.2.2, e]; rfl
  · rw [if_neg h, if_neg (by omega)]
theorem apC_0 {I : Mem} {t n : Nat} (w : Nat → Int32) (e : I 7 t 6 = nI n) : apC I t n 0 w = I := by
  funext g i j
  unfold apC
  by_cases h : g = 7 ∧ i = t ∧ j = 6
  · rw [if_pos h, h.1, h.2.1, h.2.2, e]; rfl
  · rw [if_neg h, if_neg (by omega)]
theorem apM_s {A : Mem} {t n k : Nat} {w : Nat → Int32} : mup (mup (apM A t n k w) 43 0 (400 * t + n + k) (w k)) 42 0 t (nI (n + k + 1)) = apM A t n (k + 1) w := by
  funext g i j
  simp only [mup, apM]
  by_cases h : g = 42 ∧ i = 0 ∧ j = t
  · simp only [if_pos h]; rfl
  · simp only [if_neg h]
    by_cases h2 : g = 43 ∧ i = 0 ∧ j = 400 * t + n + k
    · rw [if_pos h2, if_pos (by omega), h2.2.2]
      congr 1
      omega
    · rw [if_neg h2]
      by_cases h3 : g = 43 ∧ i = 0 ∧ 400 * t + n ≤ j ∧ j < 400 * t + n + k
      · rw [if_pos h3, if_pos (by omega)]
      · rw [if_neg h3, if_neg (by omega)]
theorem apC_s {I : Mem} {t n k : Nat} {w : Nat → Int32} : mup (mup (apC I t n k w) 7 t 6 (nI (n + k + 1))) 8 t (n + k) (w k) = apC I t n (k + 1) w := by
  funext g i j
  simp only [mup, apC]
  by_cases h : g = 7 ∧ i = t ∧ j = 6
  · simp only [if_pos h]
    rw [if_neg (by omega)]
    rfl
  · simp only [if_neg h]
    by_cases h2 : g = 8 ∧ i = t ∧ j = n + k
    · rw [if_pos h2, if_pos (by omega), h2.2.2]
      congr 1
      omega
    · rw [if_neg h2]
      by_cases h3 : g = 8 ∧ i = t ∧ n ≤ j ∧ j < n + k
      · rw [if_pos h3, if_pos (by omega)]
      · rw [if_neg h3, if_neg (by omega)]
theorem apM_43 {A : Mem} {t n k i : Nat} {w : Nat → Int32} : apM A t n k w 43 0 (400 * t + i) = if n ≤ i ∧ i < n + k then w (i - n) else A 43 0 (400 * t + i) := by
  unfold apM
  rw [if_neg (by omega)]
  by_cases q : n ≤ i ∧ i < n + k
  · rw [if_pos q, if_pos (by omega), show 400 * t + i - (400 * t + n) = i - n by omega]
  · rw [if_neg q, if_neg (by omega)]
theorem apC_8 {I : Mem} {t n k i : Nat} {w : Nat → Int32} : apC I t n k w 8 t i = if n ≤ i ∧ i < n + k then w (i - n) else I 8 t i := by
  unfold apC
  rw [if_neg (by omega)]
  by_cases q : n ≤ i ∧ i < n + k
  · rw [if_pos q, if_pos ⟨rfl, rfl, q.1, q.2⟩]
  · rw [if_neg q, if_neg (by omega)]
theorem apM_g {A : Mem} {t n k g : Nat} {w : Nat → Int32} (h1 : g ≠ 42) (h2 : g ≠ 43) : apM A t n k w g = A g := by
  funext i j
  unfold apM
  rw [if_neg (fun q => h1 q.1), if_neg (fun q => h2 q.1)]
theorem apC_g {I : Mem} {t n k g : Nat} {w : Nat → Int32} (h1 : g ≠ 7) (h2 : g ≠ 8) : apC I t n k w g = I g := by
  funext i j
  unfold apC
  rw [if_neg (fun q => h1 q.1), if_neg (fun q => h2 q.1)]
theorem apM_n {A : Mem} {t n k : Nat} {w : Nat → Int32} : apM A t n k w 42 0 t = nI (n + k) := by
  unfold apM
  rw [if_pos ⟨rfl, rfl, rfl⟩]
theorem apC_n {I : Mem} {t n k : Nat} {w : Nat → Int32} : apC I t n k w 7 t 6 = nI (n + k) := by
  unfold apC
  rw [if_pos ⟨rfl, rfl, rfl⟩]
theorem m_add {A : Mem} {t n k : Nat} {w : Nat → Int32} {v : Int32} (ht : t < 6) (hn : n + k < 400) (hv : w k = if A 38 0 t = 4 then 0 else v) : f_X8_add (nI t) v (apM A t n k w) = rV (apM A t n (k + 1) w) := by
  unfold f_X8_add f_X8_add_p31
  have e1 : ∀ z, mup (apM A t n k w) 43 0 (400 * t + (n + k)) z 42 0 t = nI (n + k) := fun z => by rw [mup_g (by decide), apM_n]
  rw [ix6 ht, ix6 ht, apM_n, apM_g (by decide) (by decide), mul400]
  split
  · next q => rw [ix_nI (by omega) (by decide), ix6 ht, ix6 ht, e1, nI_1, show 400 * t + (n + k) = 400 * t + n + k by omega, ← apM_s, hv, if_pos q]
  · next q => rw [ix_nI (by omega) (by decide), ix6 ht, ix6 ht, e1, nI_1, show 400 * t + (n + k) = 400 * t + n + k by omega, ← apM_s, hv, if_neg q]
theorem c_append {I : Mem} {t n k : Nat} {w : Nat → Int32} {v : Int32} (hn : n + k < 400) (hv : w k = if I 7 t 2 = 4 then 0 else v) : f_X6_append t v (apC I t n k w) = rV (apC I t n (k + 1) w) := by
  unfold f_X6_append f_X6_write
  have e2 : mup (apC I t n k w) 7 t 6 (nI (n + k + 1)) 7 t 6 = nI (n + k + 1) := mup_at
  have e3 : mup (apC I t n k w) 7 t 6 (nI (n + k + 1)) 7 t 2 = I 7 t 2 := by
    rw [mup_ne (by omega)]
    unfold apC
    rw [if_neg (by omega), if_neg (by omega)]
  rw [apC_n, if_neg (show ¬ (400 : Int32) ≤ nI (n + k) from nI_ge hn (by decide)), nI_1, e2, nI_pred, if_neg (nI_pos (by omega)), if_neg (nI_ge (by omega) (by omega)), e3]
  split
  · next q => rw [ix_nI hn (by decide), cV_r, ← apC_s, hv, if_pos q]
  · next q => rw [ix_nI hn (by decide), cV_r, ← apC_s, hv, if_neg q]
/-- both sides after the samples -/
theorem op_app {fc fm : Mem → RT} {I A : Mem} {t n k : Nat} {v : Int32} {w : Nat → Int32} (ht : t < 6) (hR : RC I A) (hM : InvM A) (e : A 42 0 t = nI n) (hn : n + k ≤ 400) (hw : ∀ j, j < k → rg (-100) 100 (w j)) (em : fm A = rI v (mChg (apM A t n k w) t)) (ec : fc I = rI v (cChg (apC I t n k w) t)) : ∃ v I1 A1, fm A = rI v A1 ∧ InvM A1 ∧ keepM A A1 ∧ fc I = rI v I1 ∧ RC I1 A1 ∧ keepC I I1 := by
  have hT := hR.2.1 t ht
  refine op_smp (n := n + k) ht hR hM (fun g h1 h2 => apM_g h1 h2) (fun u hu => ?_) (fun u hu hu2 i hi => ?_) (fun g h1 h2 => apC_g h1 h2) (fun u hu => ?_) (fun j hj => ?_) (fun u hu => ?_) hn apM_n apC_n (fun i hi => ?_) em ec
  · unfold apM
    rw [if_neg (fun q => hu q.2.2), if_neg (by omega)]
  · unfold apM
    rw [if_neg (by omega), if_neg (by omega)]
  · funext c
    unfold apC
    rw [if_neg (fun q => hu q.2.1), if_neg (by omega)]
  · unfold apC
    rw [if_neg (fun q => hj q.2.2), if_neg (by omega)]
  · funext c
    unfold apC
    rw [if_neg (by omega), if_neg (fun q => hu q.2.1)]
  · obtain ⟨⟨B, -, -, h5, -⟩, -⟩ := hM
    have h9 := (h5 t ht).2.2.2.2.1 i hi
    rw [apM_43, apC_8]
    by_cases q : n ≤ i ∧ i < n + k
    · rw [if_pos q, if_pos q]
      exact ⟨rfl, hw _ (by omega)⟩
    · rw [if_neg q, if_neg q]
      exact ⟨hT.2.2.2.2.2.1 i hi, h9⟩
/-- the numbers that are played -/
def lcg (x : Int32) : Nat → Int32
  | 0 => x
  | k + 1 => 1103515245 * lcg x k + 12345
def plV (x g : Int32) : Int32 := (((x.toUInt32 >>> ((16 : Int32).toUInt32 &&& Int32.toUInt32 31)).toInt32) - ((x.toUInt32 >>> ((16 : Int32).toUInt32 &&& Int32.toUInt32 31)).toInt32) / ((2 * g) + 1) * ((2 * g) + 1)) - g
theorem plV_rg (x : Int32) {g : Nat} (hg : g ≤ 100) : rg (-100) 100 (plV x (nI g)) := by
  have e1 : (2 : Int32) * nI g + 1 = nI (2 * g + 1) := by
    have : (2 : Int32) * nI g = nI (2 * g) := pk_mul 2 g
    rw [this, nI_1]
  obtain ⟨m, hm, em⟩ : ∃ m, m < 65536 ∧ (x.toUInt32 >>> ((16 : Int32).toUInt32 &&& Int32.toUInt32 31)).toInt32 = nI m := by
    have h1 := pk_ushr x 16 16 (by decide)
    have h2 : x.toBitVec.toNat < 2 ^ 32 := x.toBitVec.isLt
    refine ⟨x.toBitVec.toNat / 2 ^ 16, by omega, ?_⟩
    apply Int32.toBitVec_inj.mp
    apply BitVec.eq_of_toNat_eq
    rw [h1, pk_tn (by omega)]
  unfold plV
  rw [e1, em, pk_rem (by omega) (by omega) (by omega)]
  have h3 := Nat.mod_lt m (show 0 < 2 * g + 1 by omega)
  unfold rg
  rw [pk_sub_toInt (by omega) (by omega)]
  omega
theorem m_playL {A : Mem} {t n N g : Nat} {x : Int32} {w : Nat → Int32} (ht : t < 6) (hn : n + N ≤ 400) (hg : g ≤ 100) (hw : ∀ j, j < N → w j = if A 38 0 t = 4 then 0 else plV (lcg x (j + 1)) (nI g)) : ∀ (d k fuel : Nat), k + d = N → d < fuel → f_X8_play_p81 fuel (nI t) (nI N) (nI g) (lcg x k) (nI k) (apM A t n k w) = rI (nI (n + N)) (mChg (apM A t n N w) t) := by
  intro d
  have e1 : (2 : Int32) * nI g + 1 = nI (2 * g + 1) := by
    have : (2 : Int32) * nI g = nI (2 * g) := pk_mul 2 g
    rw [this, nI_1]
  induction d with
  | zero =>
    intro k fuel hk hfu
    obtain ⟨fu, rfl⟩ : ∃ fu, fuel = fu + 1 := ⟨fuel - 1, by omega⟩
    have : k = N := by omega
    subst this
    rw [f_X8_play_p81, if_pos (nI_le (Nat.le_refl _) (by omega)), m_changed ht, cV_r, ix6 ht]
    have : mChg (apM A t n k w) t 42 0 t = nI (n + k) := apM_n
    rw [this]
  | succ d ih =>
    intro k fuel hk hfu
    obtain ⟨fu, rfl⟩ : ∃ fu, fuel = fu + 1 := ⟨fuel - 1, by omega⟩
    rw [f_X8_play_p81, if_neg (nI_ge (by omega) (by omega)), if_neg (by rw [e1]; exact nI_ne0 (by omega) (by omega))]
    have hv := hw k (by omega)
    have := m_add (A := A) (n := n) (k := k) (w := w) (v := plV (lcg x (k + 1)) (nI g)) ht (by omega) hv
    unfold plV at this
    simp only [lcg] at this
    rw [this, cV_r, nI_1]
    exact ih (k + 1) fu (by omega) (by omega)
theorem c_playL {I : Mem} {t n N g : Nat} {x : Int32} {w : Nat → Int32} (ht : t < 6) (hn : n + N ≤ 400) (hg : g ≤ 100) (hw : ∀ j, j < N → w j = if I 7 t 2 = 4 then 0 else plV (lcg x (j + 1)) (nI g)) : ∀ (d k fuel : Nat), k + d = N → d < fuel → f_X7_play_p72 fuel (nI t) (nI N) (nI g) (lcg x k) (nI k) (apC I t n k w) = rI (nI (n + N)) (cChg (apC I t n N w) t) := by
  intro d
  have e1 : (2 : Int32) * nI g + 1 = nI (2 * g + 1) := by
    have : (2 : Int32) * nI g = nI (2 * g) := pk_mul 2 g
    rw [this, nI_1]
  induction d with
  | zero =>
    intro k fuel hk hfu
    obtain ⟨fu, rfl⟩ : ∃ fu, fuel = fu + 1 := ⟨fuel - 1, by omega⟩
    have : k = N := by omega
    subst this
    rw [f_X7_play_p72, if_pos (nI_le (Nat.le_refl _) (by omega)), c_changeTake ht, cV_r, ix6 ht]
    have : cChg (apC I t n k w) t 7 t 6 = nI (n + k) := by
      show mup (apC I t n k w) 7 t 1 0 7 t 6 = _
      rw [mup_ne (by omega), apC_n]
    rw [this]
  | succ d ih =>
    intro k fuel hk hfu
    obtain ⟨fu, rfl⟩ : ∃ fu, fuel = fu + 1 := ⟨fuel - 1, by omega⟩
    rw [f_X7_play_p72, if_neg (nI_ge (by omega) (by omega)), ix6 ht, if_neg (by rw [e1]; exact nI_ne0 (by omega) (by omega))]
    have hv := hw k (by omega)
    have := c_append (I := I) (n := n) (k := k) (w := w) (v := plV (lcg x (k + 1)) (nI g)) (by omega) hv
    unfold plV at this
    simp only [lcg] at this
    rw [this, cV_r, nI_1]
    exact ih (k + 1) fu (by omega) (by omega)
/-- a length that is asked for against what is left -/
theorem room_cases {n : Nat} (hn : n ≤ 400) (x : Int32) (hx : ¬ x < 0) : (∃ N, n + N ≤ 400 ∧ x = nI N ∧ x ≤ 400 - nI n) ∨ ¬ x ≤ 400 - nI n := by
  by_cases h : x ≤ 400 - nI n
  · left
    obtain ⟨N, hN, rfl⟩ := nI_of hx
    have e : (400 : Int32) - nI n = nI (400 - n) := pk_sub (a := 400) hn
    rw [e] at h
    have := (nI_leI hN (by omega)).mp h
    exact ⟨N, by omega, rfl, by rw [e]; exact h⟩
  · exact Or.inr h
theorem op_play (a c d s : Int32) : opA (f_X7_play a c d s) (f_X8_play a c d s) := by
  intro I A hR hM
  by_cases hd : (0 ≤ d ∧ d ≤ 100)
  · rcases tk_cases a with ⟨t, ht, rfl⟩ | ha
    · have hT := hR.2.1 t ht
      by_cases hk : 0 ≤ A 38 0 t
      · obtain ⟨n, hn, e⟩ := cnt_at hM ht
        have e2 : I 7 t 6 = nI n := hT.2.2.2.2.1.trans e
        have ek : I 7 t 2 = A 38 0 t := (hT.2.2.1 hk).1
        by_cases hc : c < 0
        · refine op_ref (c := -1000004) 3 (by decide) hR hM ?_ ?_
          · unfold f_X8_play f_X8_play_p58
            rw [m_isTake, cI_r, bi_ite, if_pos (tk_ok ht), m_in, cI_r, bi_ite, if_pos hd, ix6 ht, if_pos hk, if_pos hc, if_neg (Int32.not_le.mpr hc)]; rfl
          · unfold f_X7_play f_X7_play_p20
            rw [c_within, cI_r, bi_ite, if_pos hd, ask_t ht hT hk, cI_r, if_pos rfl, if_neg (Int32.not_le.mpr hc)]; rfl
        · rcases room_cases hn c hc with ⟨N, hN, rfl, hr⟩ | hr
          · have e100 : (100 : Int32).toInt = 100 := by decide
            have e0 : (0 : Int32).toInt = 0 := by decide
            have hd2 := hd
            rw [le_i, le_i, e0, e100] at hd2
            obtain ⟨g, hg, rfl⟩ := rg_nI (n := 100) hd2.1 hd2.2 (by decide)
            refine op_app (n := n) (k := N) (v := nI (n + N)) (w := fun j => if A 38 0 t = 4 then 0 else plV (lcg s (j + 1)) (nI g)) ht hR hM e hN (fun j hj => ?_) ?_ ?_
            · split
              · exact ⟨by decide, by decide⟩
              · exact plV_rg _ hg
            · unfold f_X8_play
              rw [m_isTake, cI_r, bi_ite, if_pos (tk_ok ht), m_in, cI_r, bi_ite, if_pos hd, ix6 ht, if_pos hk, if_neg hc, ix6 ht, e, if_pos hr]
              have := m_playL (A := A) (n := n) (N := N) (g := g) (x := s) (w := fun j => if A 38 0 t = 4 then 0 else plV (lcg s (j + 1)) (nI g)) ht hN hg (fun j _ => rfl) N 0 FU (by omega) (by show N < 20000; omega)
              rw [apM_0 _ e] at this
              exact this
            · unfold f_X7_play f_X7_play_p20 f_X6_room
              rw [c_within, cI_r, bi_ite, if_pos hd, ask_t ht hT hk, cI_r, if_pos rfl, if_pos (Int32.not_lt.mp hc), ix6 ht, cI_r, e2, if_pos hr]
              have := c_playL (I := I) (n := n) (N := N) (g := g) (x := s) (w := fun j => if A 38 0 t = 4 then 0 else plV (lcg s (j + 1)) (nI g)) ht hN hg (fun j _ => by rw [ek]) N 0 FU (by omega) (by show N < 20000; omega)
              rw [apC_0 _ e2] at this
              exact this
          · refine op_ref (c := -1000005) 4 (by decide) hR hM ?_ ?_
            · unfold f_X8_play f_X8_play_p58
              rw [m_isTake, cI_r, bi_ite, if_pos (tk_ok ht), m_in, cI_r, bi_ite, if_pos hd, ix6 ht, if_pos hk, if_neg hc, ix6 ht, e, if_neg hr, if_pos (Int32.not_lt.mp hc)]; rfl
            · unfold f_X7_play f_X7_play_p20 f_X6_room
              rw [c_within, cI_r, bi_ite, if_pos hd, ask_t ht hT hk, cI_r, if_pos rfl, if_pos (Int32.not_lt.mp hc), ix6 ht, cI_r, e2, if_neg hr]; rfl
      · refine op_ref (c := -1000002) 1 (by decide) hR hM ?_ ?_
        · unfold f_X8_play
          rw [m_isTake, cI_r, bi_ite, if_pos (tk_ok ht), m_in, cI_r, bi_ite, if_pos hd, ix6 ht, if_neg hk]; rfl
        · unfold f_X7_play f_X7_play_p20
          rw [c_within, cI_r, bi_ite, if_pos hd, ask_f ht hT hk, cI_r]; rfl
    · refine op_ref (c := -1000001) 0 (by decide) hR hM ?_ ?_
      · unfold f_X8_play
        rw [m_isTake, cI_r, bi_ite, if_neg ha]; rfl
      · unfold f_X7_play f_X7_play_p20
        rw [c_within, cI_r, bi_ite, if_pos hd, c_askTake_no ha, cI_r]; rfl
  · refine op_ref (c := -1000001) 0 (by decide) hR hM ?_ ?_
    · unfold f_X8_play
      rw [m_isTake, cI_r, bi_ite]
      split
      · rw [m_in, cI_r, bi_ite, if_neg hd]; rfl
      · rfl
    · unfold f_X7_play f_X7_play_p20
      rw [c_within, cI_r, bi_ite, if_neg hd]; rfl
