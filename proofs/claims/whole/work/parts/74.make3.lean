def cN (E : Int) (cnt : Nat) (z : Int) : Nat := (min E cnt - max 0 z).toNat
def mkE (A X : Mem) (k T b : Nat) (H S : Int32) (x : Nat) : Prop := X 63 0 k = mkV A T b H S (nI x) ∧ X 64 0 k = nI T ∧ X 65 0 k = nI x ∧ X 66 0 k = nI b ∧ X 67 0 k = bi (mkR A H S (nI x))
theorem kM_W {A X : Mem} {m : Nat} {v T x b f : Int32} (h : kM A X) : kM A (mkW X m v T x b f) := by
  refine ⟨fun g h1 h2 => ?_, fun k hk => ?_⟩
  · unfold mkW
    rw [mup_g h2, mup_g (by omega), mup_g (by omega), mup_g (by omega), mup_g (by omega), mup_g (by omega)]
    exact h.1 g h1 h2
  · unfold mkW
    rw [mup_0, if_neg hk, mup_g (by decide), mup_g (by decide), mup_g (by decide), mup_g (by decide), mup_g (by decide)]
    exact h.2 k hk
theorem mkW_lo {X : Mem} {m g c : Nat} {v T x b f : Int32} (h1 : 63 ≤ g) (h2 : g ≤ 67) (hc : c ≠ m) : mkW X m v T x b f g 0 c = X g 0 c := by
  have h6 : g = 63 ∨ g = 64 ∨ g = 65 ∨ g = 66 ∨ g = 67 := by omega
  rcases h6 with rfl | rfl | rfl | rfl | rfl <;> simp [mkW, mup, hc]
theorem m_rowL {A : Mem} {T b cnt : Nat} {H S E : Int32} (hM : InvM A) (hT : T < 6) (hb : b < 24) (ec : A 42 0 T = nI cnt) (hc : cnt ≤ 400) (hH : H = -1 ∨ ∃ s, s < 6 ∧ H = nI s) :
    ∀ (d : Nat) (z : Int) (fuel : Nat) (X : Mem) (m : Nat), (E.toInt - z).toNat = d → d < fuel → -1000 ≤ z → z + d ≤ 1000 → kM A X → X 33 0 41 = nI m → m + cN E.toInt cnt z ≤ 9600 →
    ∃ X', f_X8_makeRow_p90 fuel (nI b) (nI T) H S E (Int32.ofInt z) X = rV X' ∧ kM A X' ∧ X' 33 0 41 = nI (m + cN E.toInt cnt z) ∧ (∀ g c, 63 ≤ g → g ≤ 67 → c < m → X' g 0 c = X g 0 c) ∧ ∀ j, j < cN E.toInt cnt z → mkE A X' (m + j) T b H S ((max 0 z).toNat + j) := by
  intro d
  induction d with
  | zero =>
    intro z fuel X m hd hf hz1 hz2 hk em hm
    obtain ⟨fu, rfl⟩ : ∃ fu, fuel = fu + 1 := ⟨fuel - 1, by omega⟩
    have c0 : cN E.toInt cnt z = 0 := by unfold cN; omega
    rw [c0]
    exact ⟨X, by rw [f_X8_makeRow_p90, if_pos (by rw [le_i, ofI_t (by omega) (by omega)]; omega)], hk, em, fun _ _ _ _ _ => rfl, fun j hj => by omega⟩
  | succ d ih =>
    intro z fuel X m hd hf hz1 hz2 hk em hm
    obtain ⟨fu, rfl⟩ : ∃ fu, fuel = fu + 1 := ⟨fuel - 1, by omega⟩
    have nx1 : Int32.ofInt z + 1 = Int32.ofInt (z + 1) := by
      apply Int32.toInt_inj.mp
      have h1 : (1 : Int32).toInt = 1 := by decide
      rw [Int32.toInt_add, ofI_t (by omega) (by omega), ofI_t (by omega) (by omega), h1, bm32 (by omega) (by omega)]
    have hE : ¬ E ≤ Int32.ofInt z := by rw [le_i, ofI_t (by omega) (by omega)]; omega
    by_cases hin : 0 ≤ z ∧ z < cnt
    · obtain ⟨i, rfl⟩ : ∃ i : Nat, z = i := ⟨z.toNat, by omega⟩
      have ei : Int32.ofInt (i : Int) = nI i := (ofI_nat (by omega)).symm
      have ei1 : Int32.ofInt ((i : Int) + 1) = nI (i + 1) := (ofI_nat (n := i + 1) (by omega)).symm
      have c1 : cN E.toInt cnt i = cN E.toInt cnt ((i : Int) + 1) + 1 := by unfold cN; omega
      rw [ei] at hE ⊢
      rw [m_mkstep hM hk hT hb ec hc (by omega) hH em (by omega) hE]
      obtain ⟨X', e, q1, q2, q3, q4⟩ := ih ((i : Int) + 1) fu (mkW X m (mkV A T b H S (nI i)) (nI T) (nI i) (nI b) (bi (mkR A H S (nI i)))) (m + 1) (by omega) (by omega) (by omega) (by omega) (kM_W hk) (by unfold mkW; rw [mup_at]) (by omega)
      rw [ei1] at e
      refine ⟨X', e, q1, by rw [q2, c1]; congr 1; omega, fun g c h1 h2 h3 => by rw [q3 g c h1 h2 (by omega), mkW_lo h1 h2 (by omega)], fun j hj => ?_⟩
      by_cases hj0 : j = 0
      · subst hj0
        have mx : (max 0 (i : Int)).toNat + 0 = i := by omega
        rw [mx, Nat.add_zero]
        refine ⟨?_, ?_, ?_, ?_, ?_⟩
        · rw [q3 63 m (by decide) (by decide) (by omega)]; simp [mkW, mup]
        · rw [q3 64 m (by decide) (by decide) (by omega)]; simp [mkW, mup]
        · rw [q3 65 m (by decide) (by decide) (by omega)]; simp [mkW, mup]
        · rw [q3 66 m (by decide) (by decide) (by omega)]; simp [mkW, mup]
        · rw [q3 67 m (by decide) (by decide) (by omega)]; simp [mkW, mup]
      · have := q4 (j - 1) (by omega)
        rw [show m + 1 + (j - 1) = m + j by omega, show (max 0 ((i : Int) + 1)).toNat + (j - 1) = (max 0 (i : Int)).toNat + j by omega] at this
        exact this
    · have e42 : X 42 0 T = nI cnt := by rw [hk.1 42 (by decide) (by decide)]; exact ec
      have c1 : cN E.toInt cnt z = cN E.toInt cnt (z + 1) := by unfold cN; omega
      obtain ⟨X', e, q1, q2, q3, q4⟩ := ih (z + 1) fu X m (by omega) (by omega) (by omega) (by omega) hk em (by omega)
      refine ⟨X', ?_, q1, by rw [c1]; exact q2, q3, fun j hj => ?_⟩
      · rw [f_X8_makeRow_p90, if_neg hE, ix6 hT, e42, m_in, cI_r, bi_ite, if_neg ?_, nx1]
        · exact e
        · rintro ⟨w1, w2⟩
          have z0 : (0 : Int32).toInt = 0 := by decide
          rw [le_i, ofI_t (by omega) (by omega)] at w1
          rw [le_i, ofI_t (by omega) (by omega), sub1 (by omega)] at w2
          omega
      · have hz : ¬ (cnt : Int) ≤ z := fun w => by
          have : cN E.toInt cnt z = 0 := by unfold cN; omega
          omega
        have := q4 j (by omega)
        rw [show (max 0 (z + 1)).toNat = (max 0 z).toNat by omega] at this
        exact this
