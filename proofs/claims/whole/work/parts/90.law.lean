/-! ===== the law's loop ===== -/
theorem aln_L {I : Mem} {L : Nat} (h : I 103 0 0 = nI L) (hL : L ≤ 3072) : aln I 100 = L := by
  show (I 103 0 0).toNatClampNeg = L
  rw [h, nI_clamp (by omega)]
theorem tsw_P {x : Int32} {P : RT → Prop} : ∀ (ys : List RT) (j : Nat) (d : RT), (∀ y ∈ ys, P y) → P d → P (tsw x j ys d) := by
  intro ys
  induction ys with
  | nil => intro j d _ hd; exact hd
  | cons y ys ih =>
    intro j d h hd
    rw [tsw]
    split
    · exact h y (List.mem_cons_self ..)
    · exact ih (j + 1) d (fun z hz => h z (List.mem_cons_of_mem _ hz)) hd
theorem at_ix {α : Type} {k L i : Nat} {f : Nat → Option α} (h : k + i < L ∧ L ≤ 3072) : ix (nI k + nI i) L f = f (k + i) := by
  rw [nI_add]
  exact ix_nI h.1 (by omega)
theorem at_ix1 {α : Type} {k L : Nat} {f : Nat → Option α} (h : k + 1 < L ∧ L ≤ 3072) : ix (nI k + 1) L f = f (k + 1) := at_ix (i := 1) h
theorem at_ix2 {α : Type} {k L : Nat} {f : Nat → Option α} (h : k + 2 < L ∧ L ≤ 3072) : ix (nI k + 2) L f = f (k + 2) := at_ix (i := 2) h
theorem at_ix3 {α : Type} {k L : Nat} {f : Nat → Option α} (h : k + 3 < L ∧ L ≤ 3072) : ix (nI k + 3) L f = f (k + 3) := at_ix (i := 3) h
theorem at_ix4 {α : Type} {k L : Nat} {f : Nat → Option α} (h : k + 4 < L ∧ L ≤ 3072) : ix (nI k + 4) L f = f (k + 4) := at_ix (i := 4) h
theorem at_ix5 {α : Type} {k L : Nat} {f : Nat → Option α} (h : k + 5 < L ∧ L ≤ 3072) : ix (nI k + 5) L f = f (k + 5) := at_ix (i := 5) h
theorem lw0 {fc fm : Mem → RT} (h : opA fc fm) {I : Mem} {k L : Nat} {K : Mem → RT} (hR : RC I I) (hM : InvM I) (hL : I 103 0 0 = nI L) (hL2 : L ≤ 3072) (hk : k + 6 ≤ L) (hK : ∀ J, RC J J → InvM J → J 103 0 0 = nI L → ∃ Z, K J = rI 1 Z) : ∃ Z, (cI (fc  I) fun v4 J3 => cI (fm  J3) fun v7 J6 => if (v4 : Int32) = v7 then K J6 else rI 0 J6) = rI 1 Z := by
  obtain ⟨v, I1, I2, e1, e2, r, m, g⟩ := law_step h hR hM
  have l0 : aln I 100 = L := aln_L hL hL2
  have l1 : aln I1 100 = L := aln_L (by rw [(g 103 (by decide)).1]; exact hL) hL2
  have g1 : I1 100 = I 100 := (g 100 (by decide)).1
  refine (hK I2 r m (by rw [(g 103 (by decide)).2]; exact hL)).imp fun Z hZ => ?_
  rw [e1, cI_r, e2, cI_r, if_pos rfl]
  exact hZ
theorem lw1 {fc fm : Int32 → Mem → RT} (h : ∀ a1, opA (fc a1) (fm a1)) {I : Mem} {k L : Nat} {K : Mem → RT} (hR : RC I I) (hM : InvM I) (hL : I 103 0 0 = nI L) (hL2 : L ≤ 3072) (hk : k + 6 ≤ L) (hK : ∀ J, RC J J → InvM J → J 103 0 0 = nI L → ∃ Z, K J = rI 1 Z) : ∃ Z, (ix (nI k + 1) (aln I 100) fun j1 => cI (fc (I 100 0 j1) I) fun v4 J3 => ix (nI k + 1) (aln J3 100) fun i1 => cI (fm (J3 100 0 i1) J3) fun v7 J6 => if (v4 : Int32) = v7 then K J6 else rI 0 J6) = rI 1 Z := by
  obtain ⟨v, I1, I2, e1, e2, r, m, g⟩ := law_step (h (I 100 0 (k + 1))) hR hM
  have l0 : aln I 100 = L := aln_L hL hL2
  have l1 : aln I1 100 = L := aln_L (by rw [(g 103 (by decide)).1]; exact hL) hL2
  have g1 : I1 100 = I 100 := (g 100 (by decide)).1
  refine (hK I2 r m (by rw [(g 103 (by decide)).2]; exact hL)).imp fun Z hZ => ?_
  rw [l0, at_ix1 (k := k) (L := L) (by omega), e1, cI_r, l1, at_ix1 (k := k) (L := L) (by omega), g1, e2, cI_r, if_pos rfl]
  exact hZ
theorem lw2 {fc fm : Int32 → Int32 → Mem → RT} (h : ∀ a1 a2, opA (fc a1 a2) (fm a1 a2)) {I : Mem} {k L : Nat} {K : Mem → RT} (hR : RC I I) (hM : InvM I) (hL : I 103 0 0 = nI L) (hL2 : L ≤ 3072) (hk : k + 6 ≤ L) (hK : ∀ J, RC J J → InvM J → J 103 0 0 = nI L → ∃ Z, K J = rI 1 Z) : ∃ Z, (ix (nI k + 1) (aln I 100) fun j1 => ix (nI k + 2) (aln I 100) fun j2 => cI (fc (I 100 0 j1) (I 100 0 j2) I) fun v4 J3 => ix (nI k + 1) (aln J3 100) fun i1 => ix (nI k + 2) (aln J3 100) fun i2 => cI (fm (J3 100 0 i1) (J3 100 0 i2) J3) fun v7 J6 => if (v4 : Int32) = v7 then K J6 else rI 0 J6) = rI 1 Z := by
  obtain ⟨v, I1, I2, e1, e2, r, m, g⟩ := law_step (h (I 100 0 (k + 1)) (I 100 0 (k + 2))) hR hM
  have l0 : aln I 100 = L := aln_L hL hL2
  have l1 : aln I1 100 = L := aln_L (by rw [(g 103 (by decide)).1]; exact hL) hL2
  have g1 : I1 100 = I 100 := (g 100 (by decide)).1
  refine (hK I2 r m (by rw [(g 103 (by decide)).2]; exact hL)).imp fun Z hZ => ?_
  rw [l0, at_ix1 (k := k) (L := L) (by omega), at_ix2 (k := k) (L := L) (by omega), e1, cI_r, l1, at_ix1 (k := k) (L := L) (by omega), at_ix2 (k := k) (L := L) (by omega), g1, e2, cI_r, if_pos rfl]
  exact hZ
theorem lw3 {fc fm : Int32 → Int32 → Int32 → Mem → RT} (h : ∀ a1 a2 a3, opA (fc a1 a2 a3) (fm a1 a2 a3)) {I : Mem} {k L : Nat} {K : Mem → RT} (hR : RC I I) (hM : InvM I) (hL : I 103 0 0 = nI L) (hL2 : L ≤ 3072) (hk : k + 6 ≤ L) (hK : ∀ J, RC J J → InvM J → J 103 0 0 = nI L → ∃ Z, K J = rI 1 Z) : ∃ Z, (ix (nI k + 1) (aln I 100) fun j1 => ix (nI k + 2) (aln I 100) fun j2 => ix (nI k + 3) (aln I 100) fun j3 => cI (fc (I 100 0 j1) (I 100 0 j2) (I 100 0 j3) I) fun v4 J3 => ix (nI k + 1) (aln J3 100) fun i1 => ix (nI k + 2) (aln J3 100) fun i2 => ix (nI k + 3) (aln J3 100) fun i3 => cI (fm (J3 100 0 i1) (J3 100 0 i2) (J3 100 0 i3) J3) fun v7 J6 => if (v4 : Int32) = v7 then K J6 else rI 0 J6) = rI 1 Z := by
  obtain ⟨v, I1, I2, e1, e2, r, m, g⟩ := law_step (h (I 100 0 (k + 1)) (I 100 0 (k + 2)) (I 100 0 (k + 3))) hR hM
  have l0 : aln I 100 = L := aln_L hL hL2
  have l1 : aln I1 100 = L := aln_L (by rw [(g 103 (by decide)).1]; exact hL) hL2
  have g1 : I1 100 = I 100 := (g 100 (by decide)).1
  refine (hK I2 r m (by rw [(g 103 (by decide)).2]; exact hL)).imp fun Z hZ => ?_
  rw [l0, at_ix1 (k := k) (L := L) (by omega), at_ix2 (k := k) (L := L) (by omega), at_ix3 (k := k) (L := L) (by omega), e1, cI_r, l1, at_ix1 (k := k) (L := L) (by omega), at_ix2 (k := k) (L := L) (by omega), at_ix3 (k := k) (L := L) (by omega), g1, e2, cI_r, if_pos rfl]
  exact hZ
theorem lw4 {fc fm : Int32 → Int32 → Int32 → Int32 → Mem → RT} (h : ∀ a1 a2 a3 a4, opA (fc a1 a2 a3 a4) (fm a1 a2 a3 a4)) {I : Mem} {k L : Nat} {K : Mem → RT} (hR : RC I I) (hM : InvM I) (hL : I 103 0 0 = nI L) (hL2 : L ≤ 3072) (hk : k + 6 ≤ L) (hK : ∀ J, RC J J → InvM J → J 103 0 0 = nI L → ∃ Z, K J = rI 1 Z) : ∃ Z, (ix (nI k + 1) (aln I 100) fun j1 => ix (nI k + 2) (aln I 100) fun j2 => ix (nI k + 3) (aln I 100) fun j3 => ix (nI k + 4) (aln I 100) fun j4 => cI (fc (I 100 0 j1) (I 100 0 j2) (I 100 0 j3) (I 100 0 j4) I) fun v4 J3 => ix (nI k + 1) (aln J3 100) fun i1 => ix (nI k + 2) (aln J3 100) fun i2 => ix (nI k + 3) (aln J3 100) fun i3 => ix (nI k + 4) (aln J3 100) fun i4 => cI (fm (J3 100 0 i1) (J3 100 0 i2) (J3 100 0 i3) (J3 100 0 i4) J3) fun v7 J6 => if (v4 : Int32) = v7 then K J6 else rI 0 J6) = rI 1 Z := by
  obtain ⟨v, I1, I2, e1, e2, r, m, g⟩ := law_step (h (I 100 0 (k + 1)) (I 100 0 (k + 2)) (I 100 0 (k + 3)) (I 100 0 (k + 4))) hR hM
  have l0 : aln I 100 = L := aln_L hL hL2
  have l1 : aln I1 100 = L := aln_L (by rw [(g 103 (by decide)).1]; exact hL) hL2
  have g1 : I1 100 = I 100 := (g 100 (by decide)).1
  refine (hK I2 r m (by rw [(g 103 (by decide)).2]; exact hL)).imp fun Z hZ => ?_
  rw [l0, at_ix1 (k := k) (L := L) (by omega), at_ix2 (k := k) (L := L) (by omega), at_ix3 (k := k) (L := L) (by omega), at_ix4 (k := k) (L := L) (by omega), e1, cI_r, l1, at_ix1 (k := k) (L := L) (by omega), at_ix2 (k := k) (L := L) (by omega), at_ix3 (k := k) (L := L) (by omega), at_ix4 (k := k) (L := L) (by omega), g1, e2, cI_r, if_pos rfl]
  exact hZ
theorem lw5 {fc fm : Int32 → Int32 → Int32 → Int32 → Int32 → Mem → RT} (h : ∀ a1 a2 a3 a4 a5, opA (fc a1 a2 a3 a4 a5) (fm a1 a2 a3 a4 a5)) {I : Mem} {k L : Nat} {K : Mem → RT} (hR : RC I I) (hM : InvM I) (hL : I 103 0 0 = nI L) (hL2 : L ≤ 3072) (hk : k + 6 ≤ L) (hK : ∀ J, RC J J → InvM J → J 103 0 0 = nI L → ∃ Z, K J = rI 1 Z) : ∃ Z, (ix (nI k + 1) (aln I 100) fun j1 => ix (nI k + 2) (aln I 100) fun j2 => ix (nI k + 3) (aln I 100) fun j3 => ix (nI k + 4) (aln I 100) fun j4 => ix (nI k + 5) (aln I 100) fun j5 => cI (fc (I 100 0 j1) (I 100 0 j2) (I 100 0 j3) (I 100 0 j4) (I 100 0 j5) I) fun v4 J3 => ix (nI k + 1) (aln J3 100) fun i1 => ix (nI k + 2) (aln J3 100) fun i2 => ix (nI k + 3) (aln J3 100) fun i3 => ix (nI k + 4) (aln J3 100) fun i4 => ix (nI k + 5) (aln J3 100) fun i5 => cI (fm (J3 100 0 i1) (J3 100 0 i2) (J3 100 0 i3) (J3 100 0 i4) (J3 100 0 i5) J3) fun v7 J6 => if (v4 : Int32) = v7 then K J6 else rI 0 J6) = rI 1 Z := by
  obtain ⟨v, I1, I2, e1, e2, r, m, g⟩ := law_step (h (I 100 0 (k + 1)) (I 100 0 (k + 2)) (I 100 0 (k + 3)) (I 100 0 (k + 4)) (I 100 0 (k + 5))) hR hM
  have l0 : aln I 100 = L := aln_L hL hL2
  have l1 : aln I1 100 = L := aln_L (by rw [(g 103 (by decide)).1]; exact hL) hL2
  have g1 : I1 100 = I 100 := (g 100 (by decide)).1
  refine (hK I2 r m (by rw [(g 103 (by decide)).2]; exact hL)).imp fun Z hZ => ?_
  rw [l0, at_ix1 (k := k) (L := L) (by omega), at_ix2 (k := k) (L := L) (by omega), at_ix3 (k := k) (L := L) (by omega), at_ix4 (k := k) (L := L) (by omega), at_ix5 (k := k) (L := L) (by omega), e1, cI_r, l1, at_ix1 (k := k) (L := L) (by omega), at_ix2 (k := k) (L := L) (by omega), at_ix3 (k := k) (L := L) (by omega), at_ix4 (k := k) (L := L) (by omega), at_ix5 (k := k) (L := L) (by omega), g1, e2, cI_r, if_pos rfl]
  exact hZ
theorem lw_bar {I : Mem} {k L : Nat} {K : Int32 → Mem → RT} (hR : RC I I) (hM : InvM I) (hL : I 103 0 0 = nI L) (hL2 : L ≤ 3072) (hk : k + 6 ≤ L) (hK : ∀ J, RC J J → InvM J → J 103 0 0 = nI L → ∃ Z, K (nI k + 6) J = rI 1 Z) (x : Int32) (hx : x = I 100 0 (k + 1)) (c : Int32) (hc : c = if I 100 0 (k + 2) = 0 then 0 else 1) : ∃ Z, f_L_law_p948 K (nI k) x c I = rI 1 Z := by
  have hc1 : c = 0 ∨ c = 1 := by rw [hc]; split <;> simp
  obtain ⟨v, I1, I2, e1, e2, r, m, g⟩ := law_step (op_bar x c hc1) hR hM
  have l1 : aln I1 100 = L := aln_L (by rw [(g 103 (by decide)).1]; exact hL) hL2
  have g1 : I1 100 = I 100 := (g 100 (by decide)).1
  refine (hK I2 r m (by rw [(g 103 (by decide)).2]; exact hL)).imp fun Z hZ => ?_
  unfold f_L_law_p948 f_L_law_p970
  rw [e1, cI_r, l1, at_ix1 (k := k) (L := L) (by omega), at_ix2 (k := k) (L := L) (by omega), g1, ← hx]
  by_cases h0 : I 100 0 (k + 2) = 0
  · rw [if_pos h0] at hc ⊢
    subst hc
    rw [e2, cI_r, if_pos rfl]
    exact hZ
  · rw [if_neg h0] at hc ⊢
    subst hc
    rw [e2, cI_r, if_pos rfl]
    exact hZ
theorem law_loop (h_best : ∀ a0, opA (f_X7_best a0) (f_X8_best a0)) (h_few : ∀ a0, opA (f_X7_few a0) (f_X8_few_ a0)) (h_joins : opA (f_X7_joins ) (f_X8_joins )) (h_made : opA (f_X7_made ) (f_X8_made )) (h_heard : ∀ a0, opA (f_X7_heard a0) (f_X8_heard a0)) (h_from : ∀ a0 a1, opA (f_X7_from a0 a1) (f_X8_from a0 a1)) {L : Nat} (hL2 : L ≤ 3072) : ∀ (d k fuel : Nat) (I : Mem), L ≤ k + 6 * d → k ≤ L + 6 → d < fuel → RC I I → InvM I → I 103 0 0 = nI L → ∃ J, f_L_law_p18 fuel (nI k) I = rI 1 J := by
  intro d
  induction d with
  | zero =>
    intro k fuel I hd hk hf hR hM hL
    obtain ⟨fu, rfl⟩ : ∃ fu, fuel = fu + 1 := ⟨fuel - 1, by omega⟩
    refine ⟨I, ?_⟩
    have s6 : (nI L - 6).toInt = (L : Int) - 6 := sub_t (a := L) (b := 6) (by omega) (by omega)
    rw [f_L_law_p18, aln_L hL hL2, if_pos (by rw [lt_i, s6, nIt (by omega)]; omega)]
  | succ d ih =>
    intro k fuel I hd hk hf hR hM hL
    obtain ⟨fu, rfl⟩ : ∃ fu, fuel = fu + 1 := ⟨fuel - 1, by omega⟩
    have s6 : (nI L - 6).toInt = (L : Int) - 6 := sub_t (a := L) (b := 6) (by omega) (by omega)
    by_cases hend : L < k + 6
    · refine ⟨I, ?_⟩
      rw [f_L_law_p18, aln_L hL hL2, if_pos (by rw [lt_i, s6, nIt (by omega)]; omega)]
    · have hK : ∀ J, RC J J → InvM J → J 103 0 0 = nI L → ∃ Z, f_L_law_p18 fu (nI k + 6) J = rI 1 Z := fun J h1 h2 h3 => by
        rw [show nI k + 6 = nI (k + 6) from nI_add (a := k) (b := 6)]
        exact ih (k + 6) fu J (by omega) (by omega) (by omega) h1 h2 h3
      have e0 : ∃ y, f_L_law_p18 (fu + 1) (nI k) I = y := ⟨_, rfl⟩
      obtain ⟨y, ey⟩ := e0
      rw [ey]
      rw [f_L_law_p18, if_neg (by rw [aln_L hL hL2, lt_i, s6, nIt (by omega)]; omega), show ∀ f : Nat → RT, ix (nI k) (aln I 100) f = f k from fun f => by rw [aln_L hL hL2]; exact ix_nI (by omega) (by omega)] at ey
      rw [← ey]
      refine tsw_P (P := fun y => ∃ Z, y = rI 1 Z) _ _ _ (fun y hy => ?_) (hK I hR hM hL)
      have kk : k + 6 ≤ L := by omega
      simp only [List.mem_cons, List.not_mem_nil, or_false] at hy
      rcases hy with rfl | rfl | rfl | rfl | rfl | rfl | rfl | rfl | rfl | rfl | rfl | rfl | rfl | rfl | rfl | rfl | rfl | rfl | rfl | rfl | rfl | rfl | rfl | rfl | rfl | rfl | rfl | rfl | rfl | rfl | rfl
      · exact lw1 (fc := f_X7_score) (fm := f_X8_score) op_score hR hM hL hL2 kk hK
      · exact lw3 (fc := f_X7_beat) (fm := f_X8_beat) op_beat hR hM hL hL2 kk hK
      · exact lw5 (fc := f_X7_take) (fm := f_X8_take) op_take hR hM hL hL2 kk hK
      · exact lw1 (fc := f_X7_tear) (fm := f_X8_tear) op_tear hR hM hL hL2 kk hK
      · exact lw4 (fc := f_X7_play) (fm := f_X8_play) op_play hR hM hL hL2 kk hK
      · exact lw5 (fc := f_X7_copy) (fm := f_X8_copy) op_copy hR hM hL hL2 kk hK
      · exact lw3 (fc := f_X7_put) (fm := f_X8_put) op_put hR hM hL hL2 kk hK
      · exact lw2 (fc := f_X7_sample) (fm := f_X8_sample) op_sample hR hM hL hL2 kk hK
      · exact lw2 (fc := f_X7_as) (fm := f_X8_as) op_as hR hM hL hL2 kk hK
      · exact lw2 (fc := f_X7_level) (fm := f_X8_level) op_level hR hM hL hL2 kk hK
      · exact lw3 (fc := f_X7_hand) (fm := f_X8_hand) op_hand hR hM hL hL2 kk hK
      · exact lw1 (fc := f_X7_lay) (fm := f_X8_lay) op_lay hR hM hL hL2 kk hK
      · exact lw2 (fc := f_X7_frame) (fm := f_X8_frame) op_frame hR hM hL hL2 kk hK
      · exact lw3 (fc := f_X7_mark) (fm := f_X8_mark) op_mark hR hM hL hL2 kk hK
      · exact lw2 (fc := f_X7_worth) (fm := f_X8_worth) op_worth hR hM hL hL2 kk hK
      · exact lw2 (fc := f_X7_set) (fm := f_X8_set) op_set hR hM hL hL2 kk hK
      · exact lw4 (fc := f_X7_like) (fm := f_X8_like) op_like hR hM hL hL2 kk hK
      · exact lw3 (fc := f_X7_shift) (fm := f_X8_shift) op_shift hR hM hL hL2 kk hK
      · exact lw3 (fc := f_X7_cost) (fm := f_X8_cost) op_cost hR hM hL hL2 kk hK
      · rw [aln_L hL hL2, at_ix1 (k := k) (L := L) (by omega), at_ix2 (k := k) (L := L) (by omega)]
        split
        · rename_i h0
          exact lw_bar (K := fun a3 I => f_L_law_p18 fu a3 I) hR hM hL hL2 kk hK _ rfl 0 (by rw [if_pos h0])
        · rename_i h0
          exact lw_bar (K := fun a3 I => f_L_law_p18 fu a3 I) hR hM hL hL2 kk hK _ rfl 1 (by rw [if_neg h0])
      · exact lw2 (fc := f_X7_keep) (fm := f_X8_keep) op_keep hR hM hL hL2 kk hK
      · exact lw1 (fc := f_X7_best) (fm := f_X8_best) h_best hR hM hL hL2 kk hK
      · exact lw1 (fc := f_X7_few) (fm := f_X8_few_) h_few hR hM hL hL2 kk hK
      · exact lw1 (fc := f_X7_way) (fm := f_X8_way) op_way hR hM hL hL2 kk hK
      · exact lw0 (fc := f_X7_joins) (fm := f_X8_joins) h_joins hR hM hL hL2 kk hK
      · exact lw0 (fc := f_X7_made) (fm := f_X8_made) h_made hR hM hL hL2 kk hK
      · exact lw1 (fc := f_X7_heard) (fm := f_X8_heard) h_heard hR hM hL hL2 kk hK
      · exact lw2 (fc := f_X7_from) (fm := f_X8_from) h_from hR hM hL hL2 kk hK
      · exact lw1 (fc := f_X7_tell) (fm := f_X8_tell) op_tell hR hM hL hL2 kk hK
      · exact lw0 (fc := f_X7_check) (fm := f_X8_check) op_check hR hM hL hL2 kk hK
      · exact lw1 (fc := f_X7_found) (fm := f_X8_found) op_found hR hM hL hL2 kk hK
