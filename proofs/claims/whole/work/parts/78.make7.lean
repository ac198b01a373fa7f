theorem m_end {A X : Mem} {B n r : Nat} {p : Nat → Nat} (hB : B ≤ 24) (eB : A 33 0 0 = nI B) (hr : rowsOk A B n p) (h : r < n) (hk : kM A X) (K : Int32 → Mem → RT) : ∀ (d c fuel : Nat), c + d = p (r + 1) → p r < c → d < fuel → f_X8_make_p19 K fuel (nI (p r)) (nI c) X = f_X8_make_p41 K (nI (p r)) (nI (p (r + 1))) X := by
  have hmono := p_mono hr.2.2.1 (n - (r + 1)) (r + 1) (by omega)
  rw [show r + 1 + (n - (r + 1)) = n by omega, hr.2.1] at hmono
  have x48 : X 48 = A 48 := hk.1 48 (by decide) (by decide)
  intro d
  induction d with
  | zero =>
    intro c fuel hd hc hf
    obtain ⟨fu, rfl⟩ : ∃ fu, fuel = fu + 1 := ⟨fuel - 1, by omega⟩
    have : c = p (r + 1) := by omega
    subst this
    rw [f_X8_make_p19, hk.2 0 (by decide), eB]
    by_cases hn : r + 1 = n
    · rw [if_pos ((nI_leI (by omega) (by omega)).mpr (by rw [hn, hr.2.1]; omega))]
    · have hne : p (r + 1) < B := by
        have := p_mono hr.2.2.1 (n - (r + 2)) (r + 2) (by omega)
        rw [show r + 2 + (n - (r + 2)) = n by omega, hr.2.1] at this
        have := hr.2.2.1 (r + 1) (by omega)
        omega
      have hd := hr.2.2.2.2 (r + 1) (by omega) (by omega)
      obtain ⟨b, eb⟩ : ∃ b, p (r + 1) = b + 1 := ⟨p (r + 1) - 1, by omega⟩
      rw [if_neg (by rw [nI_leI (by omega) (by omega)]; omega)]
      rw [eb, Nat.add_sub_cancel] at hd
      rw [eb, m_isJoin (by omega), cI_r, bi_ite, x48, if_pos hd]
  | succ d ih =>
    intro c fuel hd hc hf
    obtain ⟨fu, rfl⟩ : ∃ fu, fuel = fu + 1 := ⟨fuel - 1, by omega⟩
    obtain ⟨b, rfl⟩ : ∃ b, c = b + 1 := ⟨c - 1, by omega⟩
    have e1 := hr.2.2.2.1 r h b (by omega) (by omega)
    have e2 := hr.2.2.2.1 r h (b + 1) (by omega) (by omega)
    rw [f_X8_make_p19, hk.2 0 (by decide), eB, if_neg (by rw [nI_leI (by omega) (by omega)]; omega), m_isJoin (by omega), cI_r, bi_ite, x48, if_neg (fun z => z (by rw [e1, e2])), nI_1]
    exact ih (b + 1 + 1) fu (by omega) (by omega) (by omega)
