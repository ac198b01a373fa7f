def moN (A : Mem) (n : Nat) (p : Nat → Nat) : Nat → Nat
  | 0 => 0
  | r + 1 => moN A n p r + szN A n p r
theorem mo_mono {A : Mem} {n : Nat} {p : Nat → Nat} : ∀ d r, moN A n p r ≤ moN A n p (r + d) := by
  intro d
  induction d with
  | zero => intro r; exact Nat.le_refl _
  | succ d ih =>
    intro r
    have := ih r
    rw [← Nat.add_assoc, moN]
    omega
theorem sz_le {A : Mem} {B n r : Nat} {p : Nat → Nat} (hM : InvM A) (hw : wayOk A B) (hr : rowsOk A B n p) (h : r < n) : szN A n p r ≤ 400 := by
  obtain ⟨w1, w2, w3⟩ := way_at hw hr h (p r) (Nat.le_refl _) (hr.2.2.1 r h)
  obtain ⟨c, hc, ec⟩ := cnt_at hM w2
  have hN : rwN A p r = c := by unfold rwN; rw [ec, nI_clamp (by omega)]
  unfold szN cN
  rw [hN]
  omega
theorem mo_le {A : Mem} {B n : Nat} {p : Nat → Nat} (hM : InvM A) (hw : wayOk A B) (hr : rowsOk A B n p) : ∀ r, r ≤ n → moN A n p r ≤ 400 * r := by
  intro r
  induction r with
  | zero => intro _; exact Nat.le_refl _
  | succ r ih =>
    intro h
    have := ih (by omega)
    have := sz_le hM hw hr (show r < n by omega)
    rw [moN]
    omega
theorem m_make7 {A : Mem} {B n : Nat} {p : Nat → Nat} (hM : InvM A) (hB : B ≤ 24) (eB : A 33 0 0 = nI B) (hw : wayOk A B) (hr : rowsOk A B n p) (hn : n ≤ 24) : ∀ (d r fuel : Nat) (X : Mem), r + d = n → d < fuel → kM A X → X 33 0 41 = nI (moN A n p r) → (∀ r', r' < r → ∀ j, j < szN A n p r' → mkE A X (moN A n p r' + j) (rwT A p r') (p r') (rwHd A p r') (rwS A p r') (loN A p r' + j)) →
    ∃ X', f_X8_make_p7 fuel (nI (p r)) X = rV X' ∧ kM A X' ∧ X' 33 0 41 = nI (moN A n p n) ∧ ∀ r', r' < n → ∀ j, j < szN A n p r' → mkE A X' (moN A n p r' + j) (rwT A p r') (p r') (rwHd A p r') (rwS A p r') (loN A p r' + j) := by
  intro d
  induction d with
  | zero =>
    intro r fuel X hd hf hk em hE
    obtain ⟨fu, rfl⟩ : ∃ fu, fuel = fu + 1 := ⟨fuel - 1, by omega⟩
    have : r = n := by omega
    subst this
    exact ⟨X, by rw [f_X8_make_p7, hk.2 0 (by decide), eB, hr.2.1, if_pos ((nI_leI (by omega) (by omega)).mpr (Nat.le_refl _))], hk, em, hE⟩
  | succ d ih =>
    intro r fuel X hd hf hk em hE
    obtain ⟨fu, rfl⟩ : ∃ fu, fuel = fu + 1 := ⟨fuel - 1, by omega⟩
    have h : r < n := by omega
    have hlt := hr.2.2.1 r h
    have hmono := p_mono hr.2.2.1 (n - (r + 1)) (r + 1) (by omega)
    rw [show r + 1 + (n - (r + 1)) = n by omega, hr.2.1] at hmono
    have hmo := mo_le hM hw hr r (by omega)
    obtain ⟨X1, e1, k1, c1, l1, n1⟩ := m_row hM hB eB hw hr h hk em (by omega)
    obtain ⟨X', e2, q⟩ := ih (r + 1) fu X1 (by omega) (by omega) k1 c1 (fun r' hr' j hj => by
      by_cases hrr : r' = r
      · subst hrr; exact n1 j hj
      · have hm2 := mo_mono (A := A) (n := n) (p := p) (r - (r' + 1)) (r' + 1)
        rw [show r' + 1 + (r - (r' + 1)) = r by omega, moN] at hm2
        have := hE r' (by omega) j hj
        unfold mkE at this ⊢
        rw [l1 63 _ (by decide) (by decide) (by omega), l1 64 _ (by decide) (by decide) (by omega), l1 65 _ (by decide) (by decide) (by omega), l1 66 _ (by decide) (by decide) (by omega), l1 67 _ (by decide) (by decide) (by omega)]
        exact this)
    refine ⟨X', ?_, q⟩
    rw [f_X8_make_p7, hk.2 0 (by decide), eB, if_neg (by rw [nI_leI (by omega) (by omega)]; omega), nI_1, m_end hB eB hr h hk _ (p (r + 1) - (p r + 1)) (p r + 1) FU (by omega) (by omega) (by rw [FU_v]; omega)]
    unfold f_X8_make_p41
    rw [e1, cV_r]
    exact e2
