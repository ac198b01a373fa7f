theorem law_pure (I : Mem) (L : Nat) (hL : L ≤ 3072) (h3 : I 103 0 0 = nI L) (h1 : ∀ j, I 101 0 j = xsa101.getD j 0) (h2 : ∀ j, I 102 0 j = xsa102.getD j 0) : ∃ J, f_L_law I = rI 1 J := sorry
