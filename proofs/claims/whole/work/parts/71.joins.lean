/-! ===== joins ===== -/
theorem m_isJoin {A : Mem} {b : Nat} (hb : b + 1 < 24) : f_X8_isJoin (nI (b + 1)) A = rI (bi (A 48 0 (b + 1) ≠ A 48 0 b)) A := by
  unfold f_X8_isJoin
  rw [if_neg (show ¬ nI (b + 1) ≤ 0 by rw [show (0 : Int32) = nI 0 from rfl, nI_leI (by omega) (by omega)]; omega), ix_nI (by omega) (by decide), mM1 (by omega), Nat.add_sub_cancel, ix_nI (by omega) (by decide)]
  by_cases h : A 48 0 (b + 1) = A 48 0 b
  · rw [if_pos h, bi_f (fun z => z h)]
  · rw [if_neg h, bi_t h]
theorem p_mono {n : Nat} {p : Nat → Nat} (h : ∀ r, r < n → p r < p (r + 1)) : ∀ d r, r + d ≤ n → p r + d ≤ p (r + d) := by
  intro d
  induction d with
  | zero => intro r _; exact Nat.le_refl _
  | succ d ih =>
    intro r hr
    have := ih r (by omega)
    have := h (r + d) (by omega)
    rw [← Nat.add_assoc r d 1]
    omega
theorem row_same {A : Mem} {B n r b : Nat} {p : Nat → Nat} (h : rowsOk A B n p) (hr : r < n) (h1 : p r ≤ b) (h2 : b < p (r + 1)) : A 48 0 b = A 48 0 (p r) := h.2.2.2.1 r hr b h1 h2
theorem m_jn {A : Mem} {B n : Nat} {p : Nat → Nat} (hB : B ≤ 24) (eB : A 33 0 0 = nI B) (h : rowsOk A B n p) (hn : n ≤ 24) : ∀ (d b r fuel : Nat), b + 1 + d = B → r < n → p r ≤ b → b < p (r + 1) → d < fuel → f_X8_joins_p18 fuel (nI r) (nI (b + 1)) A = rI (nI (n - 1)) A := by
  obtain ⟨h0, hnB, hlt, hsame, hdiff⟩ := id h
  intro d
  induction d with
  | zero =>
    intro b r fuel hd hr h1 h2 hf
    obtain ⟨fu, rfl⟩ : ∃ fu, fuel = fu + 1 := ⟨fuel - 1, by omega⟩
    have hm := p_mono hlt (n - (r + 1)) (r + 1) (by omega)
    rw [show r + 1 + (n - (r + 1)) = n by omega, hnB] at hm
    rw [f_X8_joins_p18, eB, if_pos ((nI_leI (by omega) (by omega)).mpr (by omega)), show r = n - 1 by omega]
  | succ d ih =>
    intro b r fuel hd hr h1 h2 hf
    obtain ⟨fu, rfl⟩ : ∃ fu, fuel = fu + 1 := ⟨fuel - 1, by omega⟩
    have a0 : ∀ x : Int32, x + 0 = x := fun x => by grind
    rw [f_X8_joins_p18, eB, if_neg (by rw [nI_leI (by omega) (by omega)]; omega), m_isJoin (by omega), cI_r, bi_ite, nI_1, nI_1, a0]
    by_cases hb : b + 1 < p (r + 1)
    · have e1 := hsame r hr b h1 h2
      have e2 := hsame r hr (b + 1) (by omega) hb
      rw [if_neg (fun z => z (by rw [e1, e2]))]
      exact ih (b + 1) r fu (by omega) hr (by omega) hb (by omega)
    · have ep : p (r + 1) = b + 1 := by omega
      have hrn : r + 1 < n := by
        refine Decidable.byContradiction fun z => ?_
        have : r + 1 = n := by omega
        rw [this, hnB] at ep
        omega
      have := hdiff (r + 1) (by omega) hrn
      rw [ep, Nat.add_sub_cancel] at this
      rw [if_pos this]
      exact ih (b + 1) (r + 1) fu (by omega) hrn (by omega) (by have := hlt (r + 1) hrn; omega) (by omega)
theorem op_joins : opA f_X7_joins f_X8_joins := by
  intro I A hR hM
  obtain ⟨B, ⟨hB1, hB, eB⟩, -, -, -, hw⟩ := hM.1
  obtain ⟨p1, p2⟩ := hR.2.2.2.2.1
  have eBn : (A 33 0 0).toNatClampNeg = B := by rw [eB, nI_clamp (by omega)]
  by_cases h0 : A 33 0 19 = 0
  · refine op_ref (c := -1000006) 5 (by decide) hR hM ?_ ?_
    · unfold f_X8_joins
      rw [if_pos h0]; rfl
    · unfold f_X7_joins
      rw [p1, if_pos h0]; rfl
  · have h1 : A 33 0 19 = 1 := by
      rcases hw with z | z
      · exact absurd z h0
      · exact z.1
    obtain ⟨-, n, p, hn1, hn, hrows, s6, s7, -⟩ := p2 h1
    rw [eBn] at hrows
    refine op_same (c := nI (n - 1)) hR hM ?_ ?_
    · unfold f_X8_joins
      rw [if_neg h0]
      have hlt := hrows.2.2.1 0 (by omega)
      have := m_jn hB eB hrows hn (B - 1) 0 0 FU (by omega) (by omega) (by rw [hrows.1]; omega) (by omega) (by rw [FU_v]; omega)
      exact this
    · unfold f_X7_joins f_X3_joinCount
      rw [p1, if_neg h0, s6, mM1 hn1, cI_r]
