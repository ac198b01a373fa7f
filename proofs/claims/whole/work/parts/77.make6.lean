def rwN (A : Mem) (p : Nat → Nat) (r : Nat) : Nat := (A 42 0 (rwT A p r)).toNatClampNeg
def loN (A : Mem) (p : Nat → Nat) (r : Nat) : Nat := (max 0 (rwS A p r).toInt).toNat
def szN (A : Mem) (n : Nat) (p : Nat → Nat) (r : Nat) : Nat := cN (rwE A n p r).toInt (rwN A p r) (rwS A p r).toInt
theorem rwS_rg {A : Mem} {B n r : Nat} {p : Nat → Nat} (hM : InvM A) (hB : B ≤ 24) (hw : wayOk A B) (hr : rowsOk A B n p) (h : r < n) : rg (-9) 799 (rwS A p r) := by
  have hlt := hr.2.2.1 r h
  have hmono := p_mono hr.2.2.1 (n - (r + 1)) (r + 1) (by omega)
  rw [show r + 1 + (n - (r + 1)) = n by omega, hr.2.1] at hmono
  obtain ⟨w1, w2, w3⟩ := way_at hw hr h (p r) (Nat.le_refl _) hlt
  have f := fr_rg hM w2 w3.2.1 (show p r < 25 by omega) (Or.inl w3.2.2.1)
  have f10 := ten_t f
  have s := sh_rg (s := rwH A p r) (t := rwT A p r) (b := p r) hM
  obtain ⟨f1, f2⟩ := f
  obtain ⟨s1, s2⟩ := s
  unfold rwS rg
  by_cases h0 : r = 0
  · have z : (0 : Int32).toInt = 0 := by decide
    rw [if_pos h0, Int32.toInt_add, f10, z, bm32 (by omega) (by omega)]
    omega
  · rw [if_neg h0, Int32.toInt_add, f10, bm32 (by omega) (by omega)]
    omega
theorem rwE_rg {A : Mem} {B n r : Nat} {p : Nat → Nat} (hM : InvM A) (hB : B ≤ 24) (hw : wayOk A B) (hr : rowsOk A B n p) (h : r < n) : rg 0 790 (rwE A n p r) := by
  have hlt := hr.2.2.1 r h
  have hmono := p_mono hr.2.2.1 (n - (r + 1)) (r + 1) (by omega)
  rw [show r + 1 + (n - (r + 1)) = n by omega, hr.2.1] at hmono
  obtain ⟨w1, w2, w3⟩ := way_at hw hr h (p (r + 1) - 1) (by omega) (by omega)
  obtain ⟨c, hc, ec⟩ := cnt_at hM w2
  unfold rwE
  by_cases hn : r + 1 = n
  · rw [if_pos hn, ec]
    unfold rg
    rw [nIt (by omega)]
    omega
  · have f := fr_rg hM w2 w3.2.1 (show p (r + 1) < 25 by omega) (Or.inr ⟨by omega, w3.2.2.1⟩)
    have f10 := ten_t f
    obtain ⟨f1, f2⟩ := f
    rw [if_neg hn]
    unfold rg
    rw [f10]
    omega
theorem m_row {A X : Mem} {B n r m : Nat} {p : Nat → Nat} (hM : InvM A) (hB : B ≤ 24) (eB : A 33 0 0 = nI B) (hw : wayOk A B) (hr : rowsOk A B n p) (h : r < n) (hk : kM A X) (em : X 33 0 41 = nI m) (hm : m + 400 ≤ 9600) :
    ∃ X', f_X8_makeRow (nI (p r)) (nI (p (r + 1))) X = rV X' ∧ kM A X' ∧ X' 33 0 41 = nI (m + szN A n p r) ∧ (∀ g c, 63 ≤ g → g ≤ 67 → c < m → X' g 0 c = X g 0 c) ∧ ∀ j, j < szN A n p r → mkE A X' (m + j) (rwT A p r) (p r) (rwHd A p r) (rwS A p r) (loN A p r + j) := by
  have hlt := hr.2.2.1 r h
  have hmono := p_mono hr.2.2.1 (n - (r + 1)) (r + 1) (by omega)
  rw [show r + 1 + (n - (r + 1)) = n by omega, hr.2.1] at hmono
  obtain ⟨w1, w2, w3⟩ := way_at hw hr h (p r) (Nat.le_refl _) hlt
  obtain ⟨c, hc, ec⟩ := cnt_at hM w2
  obtain ⟨s1, s2⟩ := rwS_rg hM hB hw hr h
  obtain ⟨e1, e2⟩ := rwE_rg hM hB hw hr h
  have hN : rwN A p r = c := by unfold rwN; rw [ec, nI_clamp (by omega)]
  have hH : rwHd A p r = -1 ∨ ∃ s, s < 6 ∧ rwHd A p r = nI s := by
    unfold rwHd
    by_cases h0 : r = 0
    · rw [if_pos h0]; exact Or.inl rfl
    · rw [if_neg h0]
      obtain ⟨s, hs, es, -⟩ := hw (p r - 1) (by omega)
      exact Or.inr ⟨s, hs, es⟩
  have hsz : szN A n p r ≤ 400 := by unfold szN cN; rw [hN]; omega
  have := m_rowL (b := p r) (S := rwS A p r) (E := rwE A n p r) hM w2 (by omega) ec hc hH _ (rwS A p r).toInt FU X m rfl (by rw [FU_v]; omega) (by omega) (by omega) hk em (by unfold szN at hsz; rw [hN] at hsz; omega)
  rw [m_makeRow hM hB eB hw hr h hk]
  unfold szN loN
  rw [hN]
  rw [Int32.ofInt_toInt] at this
  exact this
