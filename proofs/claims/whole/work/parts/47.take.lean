/-! ===== one take changes ===== -/
theorem mup_i {I : Mem} {g i k u : Nat} {v : Int32} (h : u ≠ i) : mup I g i k v g u = I g u := by
  funext c
  simp [mup, h]
theorem RC_take {I I' A A' : Mem} {t : Nat} (hR : RC I A) (hM : InvM A) (hA : ∀ u, u < 6 → u ≠ t → agT A A' u) (hG : agG A A') (h46 : A' 46 0 t = 0) (hw : A' 33 0 19 = 0) (hS : rcS I' A') (hJ : rcJ I' A') (hc : ∀ u, u < 6 → u ≠ t → clT I I' u) (h15 : I' 15 = I 15) (h16 : I' 16 = I 16) (hw2 : I' 27 0 2 = 0) (hTt : rcT I' A' t) (hF : rcF I' A') (hN : rcN I' A') (hX : rcX I') : RC I' A' := by
  refine ⟨hS, fun u hu => ?_, hJ, rcC_ag hM hG (fun u hu => ?_) h15 h16 hR.2.2.2.1, ⟨by rw [hw, hw2], fun q => absurd (hw.symm.trans q) (by decide)⟩, hF, hN, hX⟩
  · by_cases e : u = t
    · subst e; exact hTt
    · exact rcT_ag hM hu (hA u hu e) hG (hc u hu e) (hR.2.1 u hu)
  · by_cases e : u = t
    · subst e; exact Or.inr h46
    · exact Or.inl (hA u hu e).1
theorem InvM_take {A A' : Mem} {t : Nat} (hM : InvM A) (ht : t < 6) (hA : ∀ u, u < 6 → u ≠ t → agT A A' u) (h33 : ∀ k, k ≠ 19 → A' 33 0 k = A 33 0 k) (hw : A' 33 0 19 = 0) (h34 : A' 34 = A 34) (h35 : A' 35 = A 35) (h36 : A' 36 = A 36) (h37 : A' 37 = A 37) (htk : ∀ B, 1 ≤ B → B ≤ 24 → A 33 0 0 = nI B → tkOk A B t → tkOk A' B t) : InvM A' := by
  obtain ⟨⟨B, ⟨h1, h2, h3⟩, h4, h5, h6, -⟩, h7⟩ := hM
  refine ⟨⟨B, ⟨h1, h2, by rw [h33 0 (by decide)]; exact h3⟩, fun b hb => by rw [h34, h35, h36, h37]; exact h4 b hb, fun u hu => ?_, by rw [h33 15 (by decide), h33 16 (by decide), h33 17 (by decide), h33 18 (by decide)]; exact h6, Or.inl hw⟩, by rw [h33 22 (by decide)]; exact h7⟩
  by_cases e : u = t
  · subst e; exact htk B h1 h2 h3 (h5 u hu)
  · exact tkOk_ag (hA u hu e) (h33 0 (by decide)) (h5 u hu)
theorem op_tear (a : Int32) : opA (f_X7_tear a) (f_X8_tear a) := by
  intro I A hR hM
  rcases tk_cases a with ⟨t, ht, rfl⟩ | ha
  · have hT := hR.2.1 t ht
    by_cases hk : 0 ≤ A 38 0 t
    · have m1 : f_X8_tear (nI t) A = rI 1 (mChg (mup A 38 0 t (-1)) t) := by
        unfold f_X8_tear
        rw [look_t ht hk, cI_r, if_pos (by decide), ix6 ht, m_changed ht, cV_r]
      have c1 : f_X7_tear (nI t) I = rI 1 (cChg (mup I 7 t 0 0) t) := by
        unfold f_X7_tear
        rw [ask_t ht hT hk, cI_r, if_pos rfl, ix6 ht, c_changeTake ht, cV_r]
      have hag : ∀ u, u < 6 → u ≠ t → agT A (mChg (mup A 38 0 t (-1)) t) u := by
        intro u hu e
        refine ⟨⟨?_, rfl, rfl, rfl, ?_, fun _ _ => rfl, fun _ _ => rfl⟩, rfl, fun _ _ _ _ => rfl, fun _ _ => rfl⟩
        · show mup A 38 0 t (-1) 38 0 u = _
          rw [mup_0, if_neg e]
        · show mup (mup A 38 0 t (-1)) 46 0 t 0 46 0 u = _
          rw [mup_0, if_neg e]; rfl
      have e46 : mChg (mup A 38 0 t (-1)) t 46 0 t = 0 := by
        show mup (mup A 38 0 t (-1)) 46 0 t 0 46 0 t = 0
        exact mup_at
      have e38 : mChg (mup A 38 0 t (-1)) t 38 0 t = -1 := by
        show mup A 38 0 t (-1) 38 0 t = -1
        exact mup_at
      have n1 : ¬ (0 : Int32) ≤ -1 := by decide
      have n2 : ¬ (0 : Int32) = 1 := by decide
      refine ⟨_, _, _, m1, InvM_take hM ht hag (fun k hk => ?_) mup_at rfl rfl rfl rfl (fun B _ _ _ hkk => ?_), agr_up (agr_up (agr_up agr_rf (by decide)) (by decide)) (by decide), c1, RC_take hR hM hag ⟨rfl, rfl, rfl, fun _ _ => rfl⟩ e46 mup_at hR.1 hR.2.2.1 (fun u hu e => ?_) rfl rfl mup_at ?_ hR.2.2.2.2.2.1 hR.2.2.2.2.2.2.1 hR.2.2.2.2.2.2.2, agr_up (agr_up (agr_up agr_rf (by decide)) (by decide)) (by decide)⟩
      · unfold mChg
        rw [mup_ne (by omega)]; rfl
      · obtain ⟨k1, k2, k3, k4, k5, k6, k7, k8, k9, k10⟩ := hkk
        refine ⟨by rw [e38]; exact ⟨by decide, by decide⟩, fun q => ?_, k3, k4, k5, fun b hb m hm => ⟨(k6 b hb m hm).1, fun q => ?_⟩, k7, Or.inl e46, fun q => absurd (e46.symm.trans q) n2, fun q => absurd (e46.symm.trans q) n2⟩
        · unfold isP at q
          rw [e38] at q
          exact absurd q (by decide)
        · rw [e38] at q
          exact absurd q (by decide)
      · refine ⟨?_, rfl, rfl, rfl, rfl⟩
        show mup (mup I 7 t 0 0) 7 t 1 0 7 u = _
        rw [mup_i e, mup_i e]
      · obtain ⟨r1, r2, r3, r4, r5, r6, r7, r8, r9, r10⟩ := hT
        have cc : ∀ k, cChg (mup I 7 t 0 0) t 7 t k = if k = 1 then 0 else if k = 0 then 0 else I 7 t k := by
          intro k
          show mup (mup I 7 t 0 0) 7 t 1 0 7 t k = _
          rw [mup_t, mup_t]
          simp
        refine ⟨?_, ?_, fun q => ?_, ?_, ?_, r6, fun q => absurd (by rw [e38] at q; exact q) n1, r8, ?_, fun q => absurd (e46.symm.trans q) n2⟩
        · rw [cc, bi_f (by rw [e38]; exact n1)]; rfl
        · rw [cc]; exact r2
        · rw [e38] at q; exact absurd q n1
        · rw [cc]; exact r4
        · rw [cc]; exact r5
        · rw [cc, e46]; rfl
    · refine op_ref (c := -1000002) 1 (by decide) hR hM ?_ ?_
      · unfold f_X8_tear
        rw [look_f ht hk]; rfl
      · unfold f_X7_tear
        rw [ask_f ht hT hk]; rfl
  · refine op_ref (c := -1000001) 0 (by decide) hR hM ?_ ?_
    · unfold f_X8_tear
      rw [m_look_no ha]; rfl
    · unfold f_X7_tear
      rw [c_askTake_no ha]; rfl
