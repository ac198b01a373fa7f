theorem c_index {I A : Mem} {B n r i : Nat} {p : Nat → Nat} (hM : InvM A) (hB : B ≤ 24) (hw : wayOk A B) (hr : rowsOk A B n p) (h : r < n) (u5 : I 30 r 5 = rwL A p r) (u7 : I 30 r 7 = rwM A n p r) (hi : moN A n p r ≤ i) : f_X5_indexOf r (nI i) I = rI (nI (loN A p r + (i - moN A n p r))) I := by
  unfold f_X5_indexOf
  rw [u5, u7, rwL_t (rwS_rg hM hB hw hr h), rwM_t hM hB hw hr r (by omega), nI_add, show nI (loN A p r + i) - nI (moN A n p r) = nI (loN A p r + i - moN A n p r) from pk_sub (by omega), show loN A p r + i - moN A n p r = loN A p r + (i - moN A n p r) by omega]
theorem c_ramp {I A : Mem} {r i x : Nat} {H S : Int32} (hR : rcJ I A) (u2 : I 30 r 2 = H) (u4 : I 30 r 4 = S) (ei : f_X5_indexOf r (nI i) I = rI (nI x) I) : f_X3_isInRamp r (nI i) I = rI (bi (mkR A H S (nI x))) I := by
  unfold f_X3_isInRamp
  have z0 : (0 : Int32).toInt = 0 := by decide
  rw [u2]
  by_cases h0 : H < 0
  · rw [if_pos h0, bi_f (by rintro ⟨w, -⟩; rw [le_i] at w; rw [lt_i] at h0; omega)]
  · rw [if_neg h0, ei, cI_r, u4, hR.2.2.2]
    by_cases h1 : A 33 0 18 ≤ nI x - S
    · rw [if_pos h1, bi_f (by rintro ⟨-, w⟩; rw [lt_i] at w; rw [le_i] at h1; omega)]
    · rw [if_neg h1, bi_t ⟨by rw [le_i]; rw [lt_i] at h0; omega, by rw [lt_i]; rw [le_i] at h1; omega⟩]
