/-! ===== heard, from ===== -/
theorem c_str {I A : Mem} {B n : Nat} {p : Nat → Nat} (hM : InvM A) (hB : B ≤ 24) (hw : wayOk A B) (hr : rowsOk A B n p) (hn1 : 1 ≤ n) (hn : n ≤ 24) (s6 : I 27 0 6 = nI n) (hs : ∀ r, r < n → I 30 r 5 = rwL A p r ∧ I 30 r 6 = rwU A n p r ∧ I 30 r 7 = rwM A n p r) {i : Nat} (hi : i < moN A n p n) (hmo : moN A n p n ≤ 9600) :
    ∀ (d r fuel : Nat), r + d + 1 = n → d < fuel → moN A n p r ≤ i → ∃ r', r' < n ∧ moN A n p r' ≤ i ∧ i < moN A n p r' + szN A n p r' ∧ f_X3_stretchOf_p2 fuel (nI i) (nI r) I = rA 30 r' I := by
  intro d
  induction d with
  | zero =>
    intro r fuel hd hf hmr
    obtain ⟨fu, rfl⟩ : ∃ fu, fuel = fu + 1 := ⟨fuel - 1, by omega⟩
    have : n = r + 1 := by omega
    subst this
    refine ⟨r, by omega, hmr, by rw [moN] at hi; exact hi, ?_⟩
    rw [f_X3_stretchOf_p2, s6, mM1 (by omega), Nat.add_sub_cancel, if_pos ((nI_leI (by omega) (by omega)).mpr (Nat.le_refl _)), ix_nI (by omega) (by decide)]
  | succ d ih =>
    intro r fuel hd hf hmr
    obtain ⟨fu, rfl⟩ : ∃ fu, fuel = fu + 1 := ⟨fuel - 1, by omega⟩
    have hrn : r < n := by omega
    obtain ⟨u1, u2, u3⟩ := hs r hrn
    have hm2 := mo_mono (A := A) (n := n) (p := p) (n - (r + 1)) (r + 1)
    rw [show r + 1 + (n - (r + 1)) = n by omega, moN] at hm2
    have cmp : nI i < nI (moN A n p r + szN A n p r) ↔ i < moN A n p r + szN A n p r := nI_ltI (by omega) (by omega)
    rw [f_X3_stretchOf_p2, s6, mM1 (by omega), if_neg (by rw [nI_leI (by omega) (by omega)]; omega), ix_nI (by omega) (by decide), ix_nI (by omega) (by decide)]
    unfold f_X5_size
    rw [cI_r, u1, u2, u3, rwU_t hM hB hw hr hrn, rwM_t hM hB hw hr r (by omega), nI_add]
    by_cases h : i < moN A n p r + szN A n p r
    · exact ⟨r, hrn, hmr, h, by rw [if_pos (cmp.mpr h), ix_nI (by omega) (by decide)]⟩
    · obtain ⟨r', q1, q2, q3, q4⟩ := ih (r + 1) fu (by omega) (by omega) (by rw [moN]; omega)
      exact ⟨r', q1, q2, q3, by rw [if_neg (fun z => h (cmp.mp z)), nI_1]; exact q4⟩
