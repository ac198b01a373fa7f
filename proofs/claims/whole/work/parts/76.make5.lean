def rwHd (A : Mem) (p : Nat → Nat) (r : Nat) : Int32 := if r = 0 then -1 else A 48 0 (p r - 1)
theorem m_makeRow {A X : Mem} {B n r : Nat} {p : Nat → Nat} (hM : InvM A) (hB : B ≤ 24) (eB : A 33 0 0 = nI B) (hw : wayOk A B) (hr : rowsOk A B n p) (h : r < n) (hk : kM A X) : f_X8_makeRow (nI (p r)) (nI (p (r + 1))) X = f_X8_makeRow_p90 FU (nI (p r)) (nI (rwT A p r)) (rwHd A p r) (rwS A p r) (rwE A n p r) (rwS A p r) X := by
  have hMX := kM_M hk hM
  have hlt := hr.2.2.1 r h
  have hmono := p_mono hr.2.2.1 (n - (r + 1)) (r + 1) (by omega)
  rw [show r + 1 + (n - (r + 1)) = n by omega, hr.2.1] at hmono
  obtain ⟨w1, w2, w3⟩ := way_at hw hr h (p r) (Nat.le_refl _) hlt
  have x48 : X 48 = A 48 := hk.1 48 (by decide) (by decide)
  have a0 : ∀ x : Int32, x + 0 = x := fun x => by grind
  have p55 : ∀ (hd s1 : Int32), f_X8_makeRow_p55 (nI (p r)) (nI (p (r + 1))) (nI (rwT A p r)) hd (10 * mFr A (rwT A p r) (p r)) s1 X = f_X8_makeRow_p90 FU (nI (p r)) (nI (rwT A p r)) hd (10 * mFr A (rwT A p r) (p r) + s1) (rwE A n p r) (10 * mFr A (rwT A p r) (p r) + s1) X := fun hd s1 => by
    unfold f_X8_makeRow_p55 rwE
    rw [hk.2 0 (by decide), eB]
    by_cases hn : r + 1 = n
    · rw [if_pos (by rw [hn, hr.2.1]), if_pos hn, ix6 w2, hk.1 42 (by decide) (by decide)]
    · have hne : p (r + 1) < B := by
        have := hr.2.2.1 (r + 1) (by omega)
        have := p_mono hr.2.2.1 (n - (r + 2)) (r + 2) (by omega)
        rw [show r + 2 + (n - (r + 2)) = n by omega, hr.2.1] at this
        omega
      rw [if_neg (by rw [nI_eq (by omega) (by omega)]; omega), if_neg hn, m_frameOf hMX w2 (by omega), cI_r, kM_fr hk]
  unfold f_X8_makeRow f_X8_makeRow_p27
  rw [ix_nI (by omega) (by decide), x48, w1]
  by_cases h0 : r = 0
  · subst h0
    have e0 : p 0 = 0 := hr.1
    have j0 : f_X8_isJoin (nI (p 0)) X = rI 0 X := by
      unfold f_X8_isJoin
      rw [e0, if_pos (show nI 0 ≤ 0 by decide)]
    rw [j0, cI_r, if_pos rfl, m_frameOf hMX w2 (by omega), cI_r, if_pos (by decide), kM_fr hk, p55]
    unfold rwHd rwS
    rw [if_pos rfl, if_pos rfl]
  · have hp0 : 0 < p r := by
      have := p_mono hr.2.2.1 r 0 (by omega)
      rw [Nat.zero_add] at this
      omega
    obtain ⟨b, eb⟩ : ∃ b, p r = b + 1 := ⟨p r - 1, by omega⟩
    have hd := hr.2.2.2.2 r (by omega) h
    obtain ⟨s, hs, es, hms⟩ := hw (p r - 1) (by omega)
    have eH : rwH A p r = s := by unfold rwH; rw [es, nI_clamp (by omega)]
    have j1 : f_X8_isJoin (nI (p r)) X = rI 1 X := by
      rw [eb, Nat.add_sub_cancel] at hd
      rw [eb, m_isJoin (by omega), x48, bi_t hd]
    rw [j1, cI_r, if_neg (by decide), mM1 (by omega), ix_nI (by omega) (by decide), x48, es, m_frameOf hMX w2 (by omega), cI_r, if_neg (nI_nneg (by omega)), m_shiftOf hMX hs w2 (by omega), cI_r, kM_fr hk, kM_sh hk, p55]
    unfold rwHd rwS
    rw [if_neg h0, if_neg h0, eH, es]
