theorem imax_t (a b : Int32) : (imax a b).toInt = max a.toInt b.toInt := by
  unfold imax
  split
  · rename_i h; rw [lt_i] at h; omega
  · rename_i h; rw [lt_i] at h; omega
theorem imin_t (a b : Int32) : (imin a b).toInt = min a.toInt b.toInt := by
  unfold imin
  split
  · rename_i h; rw [lt_i] at h; omega
  · rename_i h; rw [lt_i] at h; omega
theorem rwL_t {A : Mem} {p : Nat → Nat} {r : Nat} (h : rg (-9) 799 (rwS A p r)) : rwL A p r = nI (loN A p r) := by
  obtain ⟨h1, h2⟩ := h
  have z : (0 : Int32).toInt = 0 := by decide
  apply Int32.toInt_inj.mp
  unfold rwL loN
  rw [imax_t, z, nIt (by omega)]
  omega
theorem rwU_t {A : Mem} {B n r : Nat} {p : Nat → Nat} (hM : InvM A) (hB : B ≤ 24) (hw : wayOk A B) (hr : rowsOk A B n p) (h : r < n) : rwU A n p r - rwL A p r = nI (szN A n p r) := by
  obtain ⟨w1, w2, w3⟩ := way_at hw hr h (p r) (Nat.le_refl _) (hr.2.2.1 r h)
  obtain ⟨c, hc, ec⟩ := cnt_at hM w2
  have hN : rwN A p r = c := by unfold rwN; rw [ec, nI_clamp (by omega)]
  have hS := rwS_rg hM hB hw hr h
  have hL := rwL_t hS
  have hlo : loN A p r ≤ 799 := by
    obtain ⟨h1, h2⟩ := hS
    unfold loN
    omega
  obtain ⟨s1, s2⟩ := hS
  obtain ⟨e1, e2⟩ := rwE_rg hM hB hw hr h
  have hsz : szN A n p r ≤ 400 := sz_le hM hw hr h
  apply Int32.toInt_inj.mp
  have hU : (rwU A n p r).toInt = max (loN A p r : Int) (min (rwE A n p r).toInt c) := by
    unfold rwU
    rw [imax_t, imin_t, hL, nIt (by omega), ec, nIt (by omega)]
  rw [Int32.toInt_sub, hU, hL, nIt (by omega), nIt (by omega), bm32 (by omega) (by omega)]
  unfold szN cN
  unfold loN
  rw [hN]
  omega
theorem rwM_t {A : Mem} {B n : Nat} {p : Nat → Nat} (hM : InvM A) (hB : B ≤ 24) (hw : wayOk A B) (hr : rowsOk A B n p) : ∀ r, r ≤ n → rwM A n p r = nI (moN A n p r) := by
  intro r
  induction r with
  | zero => intro _; rfl
  | succ r ih =>
    intro h
    rw [rwM, ih (by omega), rwU_t hM hB hw hr (by omega), nI_add, moN]
