theorem op_take (a c f l m : Int32) : opA (f_X7_take a c f l m) (f_X8_take a c f l m) := by
  intro I A hR hM
  have m0 : f_X8_take a c f l m A = f_X8_take_p15 a c f l m (bi (c = 1 ∨ c = 2)) A := by
    unfold f_X8_take f_X8_take_p10
    by_cases h1 : c = 1
    · rw [if_pos h1, bi_t (Or.inl h1)]
    · rw [if_neg h1]
      by_cases h2 : c = 2
      · rw [if_pos h2, bi_t (Or.inr h2)]
      · rw [if_neg h2, bi_f (by rintro (h | h) <;> contradiction)]
  obtain ⟨B, ⟨b1, b2, eB⟩, -⟩ := hM.1
  have eI : I 1 0 0 = nI B := by rw [hR.1.1, eB]
  rcases tk_cases a with ⟨t, ht, rfl⟩ | ha
  · rcases kn_cases c with ⟨k, hk, rfl⟩ | hc
    · have a1 : nI k = 1 ↔ k = 1 := nI_eq (by omega) (by decide)
      have a2 : nI k = 2 ↔ k = 2 := nI_eq (by omega) (by decide)
      have m1 : f_X8_take (nI t) (nI k) f l m A = if bi (nI k = 1 ∨ nI k = 2) = 0 then f_X8_take_p61 (nI t) (nI k) f l m A else (cI (f_X8_isBeat f A) fun v18 J17 => if (v18 : Int32) = 0 then (f_X8_take_p78 J17) else (cI (f_X8_isBeat l J17) fun v20 J19 => if (v20 : Int32) = 0 then (f_X8_take_p78 J19) else (if (l : Int32) < f then (f_X8_take_p78 J19) else (f_X8_take_p61 (nI t) (nI k) f l m J19)))) := by
        rw [m0]
        unfold f_X8_take_p15
        rw [m_isTake, cI_r, bi_ite, if_pos (tk_ok ht), m_in, cI_r, bi_ite, if_pos (kn_ok hk)]
      have c1 : f_X7_take (nI t) (nI k) f l m I = f_X7_take_p38 (nI t) (nI k) f l m (bi (und k 1)) (bi (k = 2)) I := by
        unfold f_X7_take
        rw [c_isTake, cI_r, bi_ite, if_pos (tk_ok ht), c_isKind, cI_r, bi_ite, if_pos (kn_ok hk), show (1 : Int32) = nI 1 from rfl, c_under hR.2.2.2.2.2.2.2 hk (by decide), cI_r]
        by_cases h2 : k = 2
        · rw [if_pos (a2.mpr h2), bi_t h2]; rfl
        · rw [if_neg (fun z => h2 (a2.mp z)), bi_f h2]
      have hu : und k 1 ↔ (k = 1 ∨ k = 2) := by unfold und; omega
      by_cases hp : k = 1 ∨ k = 2
      · rw [bi_t (show nI k = 1 ∨ nI k = 2 by rw [a1, a2]; exact hp), if_neg (by decide)] at m1
        rw [bi_t (hu.mpr hp)] at c1
        unfold f_X7_take_p38 at c1
        rw [if_neg (by decide), c_holds eI b1 (by omega), cI_r, bi_ite] at c1
        rw [m_isBeat, cI_r, bi_ite, eB] at m1
        rcases bt_cases f b1 (by omega) with ⟨x, hx, rfl⟩ | hf
        · rw [if_pos (bt_ok hx (by omega)), c_holds eI b1 (by omega), cI_r, bi_ite] at c1
          rw [if_pos (bt_ok hx (by omega)), m_isBeat, cI_r, bi_ite, eB] at m1
          rcases bt_cases l b1 (by omega) with ⟨y, hy, rfl⟩ | hl
          · rw [if_pos (bt_ok hy (by omega))] at c1 m1
            have l1 : (nI x ≤ nI y) ↔ x ≤ y := nI_leI (by omega) (by omega)
            have l2 : (nI y < nI x) ↔ y < x := nI_ltI (by omega) (by omega)
            by_cases hxy : x ≤ y
            · rw [if_pos (l1.mpr hxy)] at c1
              rw [if_neg (fun z => by have := l2.mp z; omega)] at m1
              unfold f_X7_take_p81 at c1
              unfold f_X8_take_p61 at m1
              by_cases h2 : k = 2
              · rw [if_pos (a2.mpr h2), m_in, cI_r, bi_ite] at m1
                rw [bi_t h2, if_neg (by decide), c_within, cI_r, bi_ite] at c1
                by_cases hm : 0 ≤ m ∧ m ≤ 1000
                · rw [if_pos hm, m_take85 ht, if_pos (a2.mpr h2)] at m1
                  rw [if_pos hm, c_take105 ht, if_neg (by decide), if_neg (by decide), if_neg (by decide)] at c1
                  exact op_begin ht hk hR hM ⟨le_i.mp hm.1, le_i.mp hm.2⟩ (fun _ => ⟨rfl, rfl, x, y, hxy, by rw [eB]; exact (bt_ok hy (by omega)).2, by omega, rfl, rfl⟩) (fun z => absurd hp z) m1 c1
                · rw [if_neg hm] at m1 c1
                  exact op_ref (c := -1000001) 0 (by decide) hR hM m1 c1
              · rw [if_neg (fun z => h2 (a2.mp z)), m_take85 ht, if_neg (fun z => h2 (a2.mp z))] at m1
                rw [bi_f h2, if_pos rfl, c_take105 ht, if_neg (by decide), if_neg (by decide), if_pos rfl] at c1
                exact op_begin ht hk hR hM ⟨by decide, by decide⟩ (fun _ => ⟨rfl, rfl, x, y, hxy, by rw [eB]; exact (bt_ok hy (by omega)).2, by omega, rfl, rfl⟩) (fun z => absurd hp z) m1 c1
            · rw [if_neg (fun z => hxy (l1.mp z))] at c1
              rw [if_pos (l2.mpr (by omega))] at m1
              exact op_ref (c := -1000001) 0 (by decide) hR hM m1 c1
          · rw [if_neg hl] at c1 m1
            exact op_ref (c := -1000001) 0 (by decide) hR hM m1 c1
        · rw [if_neg hf] at c1 m1
          exact op_ref (c := -1000001) 0 (by decide) hR hM m1 c1
      · rw [bi_f (show ¬ (nI k = 1 ∨ nI k = 2) by rw [a1, a2]; exact hp), if_pos rfl] at m1
        rw [bi_f (fun z => hp (hu.mp z))] at c1
        have h2 : ¬ k = 2 := fun z => hp (Or.inr z)
        unfold f_X7_take_p38 f_X7_take_p81 at c1
        unfold f_X8_take_p61 at m1
        rw [if_neg (fun z => h2 (a2.mp z)), m_take85 ht, if_neg (fun z => h2 (a2.mp z))] at m1
        rw [if_pos rfl, bi_f h2, if_pos rfl, c_take105 ht, if_pos rfl, if_pos rfl, if_pos rfl, hR.1.1] at c1
        exact op_begin ht hk hR hM ⟨by decide, by decide⟩ (fun z => absurd z hp) (fun _ => ⟨rfl, rfl⟩) m1 c1
    · refine op_ref (c := -1000001) 0 (by decide) hR hM ?_ ?_
      · rw [m0]
        unfold f_X8_take_p15
        rw [m_isTake, cI_r, bi_ite, if_pos (tk_ok ht), m_in, cI_r, bi_ite, if_neg hc]; rfl
      · unfold f_X7_take
        rw [c_isTake, cI_r, bi_ite, if_pos (tk_ok ht), c_isKind, cI_r, bi_ite, if_neg hc]; rfl
  · refine op_ref (c := -1000001) 0 (by decide) hR hM ?_ ?_
    · rw [m0]
      unfold f_X8_take_p15
      rw [m_isTake, cI_r, bi_ite, if_neg ha]; rfl
    · unfold f_X7_take
      rw [c_isTake, cI_r, bi_ite, if_neg ha]; rfl
