def mkW (X : Mem) (m : Nat) (v T x b f : Int32) : Mem := mup (mup (mup (mup (mup (mup X 63 0 m v) 64 0 m T) 65 0 m x) 66 0 m b) 67 0 m f) 33 0 41 (nI (m + 1))
theorem m_put {X : Mem} {m : Nat} {a1 a3 a4 a5 a6 a7 a9 v : Int32} (em : X 33 0 41 = nI m) (hm : m < 9600) (K : Int32 → Int32 → Int32 → Int32 → Int32 → Int32 → Mem → RT) : f_X8_makeRow_p215 K a1 a3 a4 a5 a6 a7 a9 v X = K a1 a3 a4 a5 a6 (a7 + 1) (mkW X m v a3 a7 a1 (znar a9)) := by
  unfold f_X8_makeRow_p215 mkW
  rw [em, ix_nI hm (by decide), mup_g (show (33 : Nat) ≠ 63 by decide), em, ix_nI hm (by decide), mup_g (show (33 : Nat) ≠ 64 by decide), mup_g (show (33 : Nat) ≠ 63 by decide), em, ix_nI hm (by decide), mup_g (show (33 : Nat) ≠ 65 by decide), mup_g (show (33 : Nat) ≠ 64 by decide), mup_g (show (33 : Nat) ≠ 63 by decide), em, ix_nI hm (by decide), mup_g (show (33 : Nat) ≠ 66 by decide), mup_g (show (33 : Nat) ≠ 65 by decide), mup_g (show (33 : Nat) ≠ 64 by decide), mup_g (show (33 : Nat) ≠ 63 by decide), em, ix_nI hm (by decide), mup_g (show (33 : Nat) ≠ 67 by decide), mup_g (show (33 : Nat) ≠ 66 by decide), mup_g (show (33 : Nat) ≠ 65 by decide), mup_g (show (33 : Nat) ≠ 64 by decide), mup_g (show (33 : Nat) ≠ 63 by decide), em, nI_1]
theorem m_mkstep {A X : Mem} {T b i m cnt fu : Nat} {H S E : Int32} (hM : InvM A) (h : kM A X) (hT : T < 6) (hb : b < 24) (ec : A 42 0 T = nI cnt) (hc : cnt ≤ 400) (hi : i < cnt) (hH : H = -1 ∨ ∃ s, s < 6 ∧ H = nI s) (em : X 33 0 41 = nI m) (hm : m < 9600) (hE : ¬ E ≤ nI i) :
    f_X8_makeRow_p90 (fu + 1) (nI b) (nI T) H S E (nI i) X = f_X8_makeRow_p90 fu (nI b) (nI T) H S E (nI (i + 1)) (mkW X m (mkV A T b H S (nI i)) (nI T) (nI i) (nI b) (bi (mkR A H S (nI i)))) := by
  have hMX := kM_M h hM
  have e42 : X 42 0 T = nI cnt := by rw [h.1 42 (by decide) (by decide)]; exact ec
  have smp : X 43 0 (400 * T + i) = mSam A T (nI i) := by rw [h.1 43 (by decide) (by decide), sam_in ec hc rfl hi]
  have z0 : (0 : Int32).toInt = 0 := by decide
  rw [f_X8_makeRow_p90, if_neg hE, ix6 hT, e42, m_in, cI_r, bi_ite, if_pos (nb_ok hi (by omega)), h.2 18 (by decide)]
  unfold f_X8_makeRow_p142 f_X8_makeRow_p143 mkV
  by_cases hr : mkR A H S (nI i)
  · have hH0 : ¬ H < 0 := by have := hr.1; rw [lt_i]; rw [le_i] at this; omega
    have hH1 : ¬ A 33 0 18 ≤ nI i - S := by have := hr.2; rw [le_i]; rw [lt_i] at this; omega
    rcases hH with rfl | ⟨s, hs, rfl⟩
    · exact absurd (by decide : (-1 : Int32) < 0) hH0
    · obtain ⟨cs, hcs, es⟩ := cnt_at hMX hs
      obtain ⟨B, -, -, -, ⟨-, -, -, ⟨r1, r2⟩⟩, -⟩ := hM.1
      have hne : A 33 0 18 + 1 ≠ 0 := fun z => by
        have h1 : (1 : Int32).toInt = 1 := by decide
        have := congrArg Int32.toInt z
        rw [Int32.toInt_add, h1, bm32 (by omega) (by omega)] at this
        omega
      rw [if_neg hH0, if_neg hH1, mul400, ix_nI (by omega) (by decide), if_neg (by decide), m_frameOf hMX hs (by omega), cI_r, m_sampleOf hs es hcs, cI_r, h.2 18 (by decide), fdv_t hne, cI_r, m_put em hm, if_pos hr, bi_t hr, nI_clamp (by omega), kM_fr h, kM_sam h, smp, nI_1, znar_b (Or.inr rfl)]
  · have hor : H < 0 ∨ A 33 0 18 ≤ nI i - S := by
      refine Decidable.byContradiction fun z => hr ⟨?_, ?_⟩
      · have : ¬ H < 0 := fun q => z (Or.inl q)
        rw [lt_i] at this
        rw [le_i]; omega
      · have : ¬ A 33 0 18 ≤ nI i - S := fun q => z (Or.inr q)
        rw [le_i] at this
        rw [lt_i]; omega
    have go : ix (400 * nI T + nI i) 2400 (fun j11 => if (0 : Int32) = 0 then f_X8_makeRow_p215 (fun a1 a3 a4 a5 a6 a7 I => f_X8_makeRow_p90 fu a1 a3 a4 a5 a6 a7 I) (nI b) (nI T) H S E (nI i) 0 (X 43 0 j11) X else (cI (f_X8_frameOf H (nI b) X) fun v18 J17 => cI (f_X8_sampleOf H ((10 * v18) + (nI i - S)) J17) fun v20 J19 => cI (f_J9_floorDiv_7cf53 (((nI i - S + 1) * (X 43 0 j11)) + (((J19 33 0 18) - (nI i - S)) * v20)) ((J19 33 0 18) + 1) J19) fun v22 J21 => f_X8_makeRow_p215 (fun a1 a3 a4 a5 a6 a7 I => f_X8_makeRow_p90 fu a1 a3 a4 a5 a6 a7 I) (nI b) (nI T) H S E (nI i) 0 v22 J21)) = f_X8_makeRow_p90 fu (nI b) (nI T) H S E (nI (i + 1)) (mkW X m (mSam A T (nI i)) (nI T) (nI i) (nI b) 0) := by
      rw [mul400, ix_nI (by omega) (by decide), if_pos rfl, m_put em hm, smp, nI_1, znar_b (Or.inl rfl)]
    rw [if_neg hr, bi_f hr]
    by_cases h0 : H < 0
    · rw [if_pos h0]
      exact go
    · rw [if_neg h0, if_pos (hor.resolve_left h0)]
      exact go
