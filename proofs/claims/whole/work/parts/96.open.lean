theorem op_few (a : Int32) : opA (f_X7_few a) (f_X8_few_ a) := sorry
theorem law_pure (I : Mem) (L : Nat) (hL : L ≤ 3072) (h3 : I 103 0 0 = nI L) (h1 : ∀ j, I 101 0 j = xsa101.getD j 0) (h2 : ∀ j, I 102 0 j = xsa102.getD j 0) : ∃ J, f_L_law I = rI 1 J := law_from op_best op_few op_joins op_made op_heard op_from I L hL h3 h1 h2
