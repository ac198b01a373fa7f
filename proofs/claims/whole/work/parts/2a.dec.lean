-- X7_isWithin
def f_X7_isWithin (a0 : Int32) (a1 : Int32) (a2 : Int32) (I : Mem) : RT := if (a0 : Int32) < a1 then (rI 0 I) else (if (a2 : Int32) < a0 then (rI 0 I) else (rI 1 I))
set_option maxRecDepth 100000 in
set_option maxHeartbeats 4000000 in
theorem t_X7_isWithin (a0 : Int32) (a1 : Int32) (a2 : Int32) (I : Mem) : RR M_X7_isWithin SF SF 0 [some (vI a0), some (vI a1), some (vI a2)] [] I (f_X7_isWithin a0 a1 a2 I) := by
  unfold f_X7_isWithin
  exact rr_seg [(1, 0, 0, 0, 0), (1, 1, 0, 0, 0)] 2 [some (vI a0), some (vI a1), some (vI a2)] [vI a1, vI a0] I (by decide +kernel) rfl <| rr_ic_lt 14 (by decide +kernel) (rr_seg [(0, 0, 0, 0, 0)] 15 [some (vI a0), some (vI a1), some (vI a2)] [vI 0] I (by decide +kernel) rfl <| rr_iret (by decide +kernel) (Or.inl rfl)) (rr_seg [(1, 0, 0, 0, 0), (1, 2, 0, 0, 0)] 7 [some (vI a0), some (vI a1), some (vI a2)] [vI a2, vI a0] I (by decide +kernel) rfl <| rr_ic_gt 14 (by decide +kernel) (rr_seg [(0, 0, 0, 0, 0)] 15 [some (vI a0), some (vI a1), some (vI a2)] [vI 0] I (by decide +kernel) rfl <| rr_iret (by decide +kernel) (Or.inl rfl)) (rr_seg [(0, 0, 0, 0, 1), (23, 15, 0, 0, 0)] 15 [some (vI a0), some (vI a1), some (vI a2)] [vI 1] I (by decide +kernel) rfl <| rr_iret (by decide +kernel) (Or.inr rfl)))
-- X4_renew
def f_X4_renew_p7 : Nat → Int32 → Mem → RT
  | 0, _, _ => none
  | n + 1, a2, I => if (24 : Int32) ≤ a2 then (rV I) else (ix a2 24 fun j1 => ix a2 24 fun j2 => ix a2 24 fun j3 => ix a2 24 fun j4 => f_X4_renew_p7 n (a2 + 1) (mup (mup (mup (mup I 2 0 j1 100) 3 0 j2 3) 4 0 j3 (znar 0)) 5 0 j4 (-1)))
set_option maxRecDepth 100000 in
set_option maxHeartbeats 4000000 in
theorem t_X4_renew_p7 : ∀ (n : Nat) (a2 : Int32) (I : Mem), RR M_X4_renew SF SF 7 [some (vR 1 0), none, some (vI a2)] [] I (f_X4_renew_p7 n a2 I)
  | 0, _, _ => rr_none
  | n + 1, a2, I => by
    unfold f_X4_renew_p7
    exact rr_seg [(1, 2, 0, 0, 0), (0, 1, 0, 0, 24)] 10 [some (vR 1 0), none, some (vI a2)] [vI 24, vI a2] I (by decide +kernel) rfl <| rr_ic_ge 48 (by decide +kernel) (rr_vret (by decide +kernel) trivial) (rr_seg [(2, 0, 0, 0, 0), (25, 4, 1, 9, 0), (1, 2, 0, 0, 0), (0, 1, 0, 0, 100)] 20 [some (vR 1 0), none, some (vI a2)] [vI 100, vI a2, vR 2 0] I (by decide +kernel) rfl <| rr_sta 24 (by decide +kernel) rfl rfl rfl fun j1 => rr_seg [(2, 0, 0, 0, 0), (25, 4, 2, 15, 0), (1, 2, 0, 0, 0), (0, 0, 0, 0, 3)] 27 [some (vR 1 0), none, some (vI a2)] [vI 3, vI a2, vR 3 0] (mup I 2 0 j1 100) (by decide +kernel) rfl <| rr_sta 24 (by decide +kernel) rfl rfl rfl fun j2 => rr_seg [(2, 0, 0, 0, 0), (25, 4, 3, 18, 0), (1, 2, 0, 0, 0), (0, 0, 0, 0, 0)] 34 [some (vR 1 0), none, some (vI a2)] [vI 0, vI a2, vR 4 0] (mup (mup I 2 0 j1 100) 3 0 j2 3) (by decide +kernel) rfl <| rr_stz 24 (by decide +kernel) rfl rfl fun j3 => rr_seg [(2, 0, 0, 0, 0), (25, 4, 4, 22, 0), (1, 2, 0, 0, 0), (0, 0, 0, 0, -1)] 41 [some (vR 1 0), none, some (vI a2)] [vI (-1), vI a2, vR 5 0] (mup (mup (mup I 2 0 j1 100) 3 0 j2 3) 4 0 j3 (znar 0)) (by decide +kernel) rfl <| rr_sta 24 (by decide +kernel) rfl rfl rfl fun j4 => rr_seg [(7, 2, 0, 0, 1), (23, 7, 0, 0, 0)] 7 [some (vR 1 0), none, some (vI (a2 + 1))] [] (mup (mup (mup (mup I 2 0 j1 100) 3 0 j2 3) 4 0 j3 (znar 0)) 5 0 j4 (-1)) (by decide +kernel) rfl <| t_X4_renew_p7 n (a2 + 1) (mup (mup (mup (mup I 2 0 j1 100) 3 0 j2 3) 4 0 j3 (znar 0)) 5 0 j4 (-1)))
def f_X4_renew (a1 : Int32) (I : Mem) : RT := f_X4_renew_p7 FU 0 (mup I 1 0 0 a1)
set_option maxRecDepth 100000 in
set_option maxHeartbeats 4000000 in
theorem t_X4_renew (a1 : Int32) (I : Mem) : RR M_X4_renew SF SF 0 [some (vR 1 0), some (vI a1), none] [] I (f_X4_renew a1 I) := by
  unfold f_X4_renew
  exact rr_seg [(2, 0, 0, 0, 0), (1, 1, 0, 0, 0), (26, 4, 0, 29, 0), (0, 0, 0, 0, 0), (4, 2, 0, 0, 0)] 7 [some (vR 1 0), some (vI a1), some (vI 0)] [] (mup I 1 0 0 a1) (by decide +kernel) rfl <| rr_mask [true, false, true] rfl <| t_X4_renew_p7 FU 0 (mup I 1 0 0 a1)
-- J7_fill_53178_9
def f_J7_fill_53178_9_p5 : Nat → Nat → Int32 → Int32 → Int32 → Mem → RT
  | 0, _, _, _, _, _ => none
  | n + 1, r0, a1, a2, a3, I => if (a3 : Int32) ≤ a2 then (rV I) else (ix a2 24 fun j1 => f_J7_fill_53178_9_p5 n r0 a1 (a2 + 1) a3 (mup I 9 r0 j1 a1))
set_option maxRecDepth 100000 in
set_option maxHeartbeats 4000000 in
theorem t_J7_fill_53178_9_p5 : ∀ (n : Nat) (r0 : Nat) (a1 : Int32) (a2 : Int32) (a3 : Int32) (I : Mem), RR M_J7_fill_53178 SF SF 5 [some (vR 9 r0), some (vI a1), some (vI a2), some (vI a3)] [] I (f_J7_fill_53178_9_p5 n r0 a1 a2 a3 I)
  | 0, _, _, _, _, _ => rr_none
  | n + 1, r0, a1, a2, a3, I => by
    unfold f_J7_fill_53178_9_p5
    exact rr_seg [(1, 2, 0, 0, 0), (1, 3, 0, 0, 0)] 7 [some (vR 9 r0), some (vI a1), some (vI a2), some (vI a3)] [vI a3, vI a2] I (by decide +kernel) rfl <| rr_ic_ge 20 (by decide +kernel) (rr_vret (by decide +kernel) trivial) (rr_seg [(2, 0, 0, 0, 0), (1, 2, 0, 0, 0), (1, 1, 0, 0, 0)] 13 [some (vR 9 r0), some (vI a1), some (vI a2), some (vI a3)] [vI a1, vI a2, vR 9 r0] I (by decide +kernel) rfl <| rr_sta 24 (by decide +kernel) rfl rfl rfl fun j1 => rr_seg [(7, 2, 0, 0, 1), (23, 5, 0, 0, 0)] 5 [some (vR 9 r0), some (vI a1), some (vI (a2 + 1)), some (vI a3)] [] (mup I 9 r0 j1 a1) (by decide +kernel) rfl <| t_J7_fill_53178_9_p5 n r0 a1 (a2 + 1) a3 (mup I 9 r0 j1 a1))
def f_J7_fill_53178_9 (r0 : Nat) (a1 : Int32) (I : Mem) : RT := f_J7_fill_53178_9_p5 FU r0 a1 0 (nI 24) I
set_option maxRecDepth 100000 in
set_option maxHeartbeats 4000000 in
theorem t_J7_fill_53178_9 (r0 : Nat) (a1 : Int32) (I : Mem) : RR M_J7_fill_53178 SF SF 0 [some (vR 9 r0), some (vI a1), none, none] [] I (f_J7_fill_53178_9 r0 a1 I) := by
  unfold f_J7_fill_53178_9
  exact rr_seg [(0, 0, 0, 0, 0), (4, 2, 0, 0, 0), (2, 0, 0, 0, 0), (27, 0, 0, 0, 0), (4, 3, 0, 0, 0)] 5 [some (vR 9 r0), some (vI a1), some (vI 0), some (vI (nI 24))] [] I (by decide +kernel) rfl <| t_J7_fill_53178_9_p5 FU r0 a1 0 (nI 24) I
-- J7_fill_53178_11
def f_J7_fill_53178_11_p5 : Nat → Nat → Int32 → Int32 → Int32 → Mem → RT
  | 0, _, _, _, _, _ => none
  | n + 1, r0, a1, a2, a3, I => if (a3 : Int32) ≤ a2 then (rV I) else (ix a2 96 fun j1 => f_J7_fill_53178_11_p5 n r0 a1 (a2 + 1) a3 (mup I 11 r0 j1 a1))
set_option maxRecDepth 100000 in
set_option maxHeartbeats 4000000 in
theorem t_J7_fill_53178_11_p5 : ∀ (n : Nat) (r0 : Nat) (a1 : Int32) (a2 : Int32) (a3 : Int32) (I : Mem), RR M_J7_fill_53178 SF SF 5 [some (vR 11 r0), some (vI a1), some (vI a2), some (vI a3)] [] I (f_J7_fill_53178_11_p5 n r0 a1 a2 a3 I)
  | 0, _, _, _, _, _ => rr_none
  | n + 1, r0, a1, a2, a3, I => by
    unfold f_J7_fill_53178_11_p5
    exact rr_seg [(1, 2, 0, 0, 0), (1, 3, 0, 0, 0)] 7 [some (vR 11 r0), some (vI a1), some (vI a2), some (vI a3)] [vI a3, vI a2] I (by decide +kernel) rfl <| rr_ic_ge 20 (by decide +kernel) (rr_vret (by decide +kernel) trivial) (rr_seg [(2, 0, 0, 0, 0), (1, 2, 0, 0, 0), (1, 1, 0, 0, 0)] 13 [some (vR 11 r0), some (vI a1), some (vI a2), some (vI a3)] [vI a1, vI a2, vR 11 r0] I (by decide +kernel) rfl <| rr_sta 96 (by decide +kernel) rfl rfl rfl fun j1 => rr_seg [(7, 2, 0, 0, 1), (23, 5, 0, 0, 0)] 5 [some (vR 11 r0), some (vI a1), some (vI (a2 + 1)), some (vI a3)] [] (mup I 11 r0 j1 a1) (by decide +kernel) rfl <| t_J7_fill_53178_11_p5 n r0 a1 (a2 + 1) a3 (mup I 11 r0 j1 a1))
def f_J7_fill_53178_11 (r0 : Nat) (a1 : Int32) (I : Mem) : RT := f_J7_fill_53178_11_p5 FU r0 a1 0 (nI 96) I
set_option maxRecDepth 100000 in
set_option maxHeartbeats 4000000 in
theorem t_J7_fill_53178_11 (r0 : Nat) (a1 : Int32) (I : Mem) : RR M_J7_fill_53178 SF SF 0 [some (vR 11 r0), some (vI a1), none, none] [] I (f_J7_fill_53178_11 r0 a1 I) := by
  unfold f_J7_fill_53178_11
  exact rr_seg [(0, 0, 0, 0, 0), (4, 2, 0, 0, 0), (2, 0, 0, 0, 0), (27, 0, 0, 0, 0), (4, 3, 0, 0, 0)] 5 [some (vR 11 r0), some (vI a1), some (vI 0), some (vI (nI 96))] [] I (by decide +kernel) rfl <| t_J7_fill_53178_11_p5 FU r0 a1 0 (nI 96) I
-- X6_clearBeats
def f_X6_clearBeats (r0 : Nat) (I : Mem) : RT := cV (f_J7_fill_53178_9 r0 (-1) (mup I 7 r0 1 0)) fun J1 => cV (f_J7_fill_53178_11 r0 0 J1) fun J2 => rV J2
set_option maxRecDepth 100000 in
set_option maxHeartbeats 4000000 in
theorem t_X6_clearBeats (r0 : Nat) (I : Mem) : RR M_X6_clearBeats SF SF 0 [some (vR 7 r0)] [] I (f_X6_clearBeats r0 I) := by
  unfold f_X6_clearBeats
  exact rr_seg [(2, 0, 0, 0, 0), (0, 0, 0, 0, 0), (26, 6, 1, 47, 0), (2, 0, 0, 0, 0), (25, 6, 8, 15, 0), (0, 0, 0, 0, -1)] 10 [some (vR 7 r0)] [vI (-1), vR 9 r0] (mup I 7 r0 1 0) (by decide +kernel) rfl <| rr_cSV M_J7_fill_53178 [vR 9 r0, vI (-1)] [] 50 (by decide +kernel)  lk_6_50 mk_J7_fill_53178 rfl rfl rfl (Nat.le_refl _) (Nat.le_refl _) (t_J7_fill_53178_9 r0 (-1) (mup I 7 r0 1 0)) fun J1 => rr_seg [(2, 0, 0, 0, 0), (25, 6, 10, 21, 0), (0, 0, 0, 0, 0)] 18 [some (vR 7 r0)] [vI 0, vR 11 r0] J1 (by decide +kernel) rfl <| rr_cSV M_J7_fill_53178 [vR 11 r0, vI 0] [] 50 (by decide +kernel)  lk_6_50 mk_J7_fill_53178 rfl rfl rfl (Nat.le_refl _) (Nat.le_refl _) (t_J7_fill_53178_11 r0 0 J1) fun J2 => rr_vret (by decide +kernel) trivial
-- X7_isUnder
def f_X7_isUnder_p4 : Nat → Int32 → Int32 → Int32 → Mem → RT
  | 0, _, _, _, _ => none
  | n + 1, a1, a2, a3, I => if (5 : Int32) ≤ a3 then (rI 0 I) else (if (a2 : Int32) < 0 then (rI 0 I) else (if (5 : Int32) ≤ a2 then (rI 0 I) else (if (a2 : Int32) = a1 then (rI 1 I) else (ix a2 5 fun j1 => f_X7_isUnder_p4 n a1 (I 101 0 j1) (a3 + 1) I))))
set_option maxRecDepth 100000 in
set_option maxHeartbeats 4000000 in
theorem t_X7_isUnder_p4 : ∀ (n : Nat) (a1 : Int32) (a2 : Int32) (a3 : Int32) (I : Mem), RR M_X7_isUnder SF SF 4 [none, some (vI a1), some (vI a2), some (vI a3)] [] I (f_X7_isUnder_p4 n a1 a2 a3 I)
  | 0, _, _, _, _ => rr_none
  | n + 1, a1, a2, a3, I => by
    unfold f_X7_isUnder_p4
    exact rr_seg [(1, 3, 0, 0, 0), (0, 0, 0, 0, 5)] 6 [none, some (vI a1), some (vI a2), some (vI a3)] [vI 5, vI a3] I (by decide +kernel) rfl <| rr_ic_ge 37 (by decide +kernel) (rr_seg [(0, 0, 0, 0, 0)] 38 [none, some (vI a1), some (vI a2), some (vI a3)] [vI 0] I (by decide +kernel) rfl <| rr_iret (by decide +kernel) (Or.inl rfl)) (rr_seg [(1, 2, 0, 0, 0)] 10 [none, some (vI a1), some (vI a2), some (vI a3)] [vI a2] I (by decide +kernel) rfl <| rr_if_lt 37 (by decide +kernel) (rr_seg [(0, 0, 0, 0, 0)] 38 [none, some (vI a1), some (vI a2), some (vI a3)] [vI 0] I (by decide +kernel) rfl <| rr_iret (by decide +kernel) (Or.inl rfl)) (rr_seg [(1, 2, 0, 0, 0), (0, 0, 0, 0, 5)] 15 [none, some (vI a1), some (vI a2), some (vI a3)] [vI 5, vI a2] I (by decide +kernel) rfl <| rr_ic_ge 37 (by decide +kernel) (rr_seg [(0, 0, 0, 0, 0)] 38 [none, some (vI a1), some (vI a2), some (vI a3)] [vI 0] I (by decide +kernel) rfl <| rr_iret (by decide +kernel) (Or.inl rfl)) (rr_seg [(1, 2, 0, 0, 0), (1, 1, 0, 0, 0)] 20 [none, some (vI a1), some (vI a2), some (vI a3)] [vI a1, vI a2] I (by decide +kernel) rfl <| rr_ic_ne 25 (by decide +kernel) (rr_seg [(29, 101, 0, 309, 0), (1, 2, 0, 0, 0)] 29 [none, some (vI a1), some (vI a2), some (vI a3)] [vI a2, vR 101 0] I (by decide +kernel) rfl <| rr_lda 5 (by decide +kernel) rfl rfl fun j1 => rr_seg [(4, 2, 0, 0, 0), (7, 3, 0, 0, 1), (23, 4, 0, 0, 0)] 4 [none, some (vI a1), some (vI (I 101 0 j1)), some (vI (a3 + 1))] [] I (by decide +kernel) rfl <| t_X7_isUnder_p4 n a1 (I 101 0 j1) (a3 + 1) I) (rr_seg [(0, 0, 0, 0, 1)] 24 [none, some (vI a1), some (vI a2), some (vI a3)] [vI 1] I (by decide +kernel) rfl <| rr_iret (by decide +kernel) (Or.inr rfl)))))
def f_X7_isUnder (a0 : Int32) (a1 : Int32) (I : Mem) : RT := f_X7_isUnder_p4 FU a1 a0 0 I
set_option maxRecDepth 100000 in
set_option maxHeartbeats 4000000 in
theorem t_X7_isUnder (a0 : Int32) (a1 : Int32) (I : Mem) : RR M_X7_isUnder SF SF 0 [some (vI a0), some (vI a1), none, none] [] I (f_X7_isUnder a0 a1 I) := by
  unfold f_X7_isUnder
  exact rr_seg [(1, 0, 0, 0, 0), (4, 2, 0, 0, 0), (0, 0, 0, 0, 0), (4, 3, 0, 0, 0)] 4 [some (vI a0), some (vI a1), some (vI a0), some (vI 0)] [] I (by decide +kernel) rfl <| rr_mask [false, true, true, true] rfl <| t_X7_isUnder_p4 FU a1 a0 0 I
-- X6_meetScore
def f_X6_meetScore (r0 : Nat) (a1 : Int32) (I : Mem) : RT := cV (f_X6_clearBeats r0 I) fun J1 => cI (f_X7_isUnder (J1 7 r0 2) 1 J1) fun v3 J2 => if (v3 : Int32) = 0 then (rV (mup J2 7 r0 4 (a1 - 1))) else (if (J2 7 r0 4 : Int32) < a1 then (rV J2) else (rV (mup J2 7 r0 0 0)))
set_option maxRecDepth 100000 in
set_option maxHeartbeats 4000000 in
theorem t_X6_meetScore (r0 : Nat) (a1 : Int32) (I : Mem) : RR M_X6_meetScore SF SF 0 [some (vR 7 r0), some (vI a1)] [] I (f_X6_meetScore r0 a1 I) := by
  unfold f_X6_meetScore
  exact rr_seg [(2, 0, 0, 0, 0)] 1 [some (vR 7 r0), some (vI a1)] [vR 7 r0] I (by decide +kernel) rfl <| rr_cVV M_X6_clearBeats 7 r0 [] [] 44 (by decide +kernel)  lk_6_44 mk_X6_clearBeats rfl rfl rfl (Nat.le_refl _) (Nat.le_refl _) (t_X6_clearBeats r0 I) fun J1 => rr_seg [(2, 0, 0, 0, 0), (24, 6, 2, 28, 0), (0, 0, 0, 0, 1)] 9 [some (vR 7 r0), some (vI a1)] [vI 1, vI (J1 7 r0 2)] J1 (by decide +kernel) rfl <| rr_cSNI M_X7_isUnder [vI (J1 7 r0 2), vI 1] [] 56 (by decide +kernel)  _ lk_6_56 mk_X7_isUnder rfl rfl rfl (Nat.le_refl _) (Nat.le_refl _) (t_X7_isUnder (J1 7 r0 2) 1 J1) fun v3 J2 => rr_if_ne 25 (by decide +kernel) (rr_seg [(2, 0, 0, 0, 0), (24, 6, 4, 35, 0), (1, 1, 0, 0, 0)] 30 [some (vR 7 r0), some (vI a1)] [vI a1, vI (J2 7 r0 4)] J2 (by decide +kernel) rfl <| rr_ic_lt 38 (by decide +kernel) (rr_vret (by decide +kernel) trivial) (rr_seg [(2, 0, 0, 0, 0), (0, 0, 0, 0, 0), (26, 6, 0, 24, 0)] 38 [some (vR 7 r0), some (vI a1)] [] (mup J2 7 r0 0 0) (by decide +kernel) rfl <| rr_vret (by decide +kernel) trivial)) (rr_seg [(2, 0, 0, 0, 0), (1, 1, 0, 0, 0), (0, 0, 0, 0, 1), (9, 0, 0, 0, 0), (26, 6, 4, 35, 0), (23, 38, 0, 0, 0)] 38 [some (vR 7 r0), some (vI a1)] [] (mup J2 7 r0 4 (a1 - 1)) (by decide +kernel) rfl <| rr_vret (by decide +kernel) trivial)
-- X7_refuse
def f_X7_refuse (a1 : Int32) (I : Mem) : RT := if ((-1000001) - a1 : Int32) < 0 then (rI a1 I) else (if (7 : Int32) ≤ ((-1000001) - a1) then (rI a1 I) else (ix ((-1000001) - a1) 7 fun j1 => ix ((-1000001) - a1) 7 fun j2 => rI a1 (mup I 31 0 j2 ((I 31 0 j1) + 1))))
set_option maxRecDepth 100000 in
set_option maxHeartbeats 4000000 in
theorem t_X7_refuse (a1 : Int32) (I : Mem) : RR M_X7_refuse SF SF 0 [some (vR 0 0), some (vI a1), none] [] I (f_X7_refuse a1 I) := by
  unfold f_X7_refuse
  exact rr_seg [(0, 3, 0, 72, -1000001), (1, 1, 0, 0, 0), (9, 0, 0, 0, 0), (4, 2, 0, 0, 0), (1, 2, 0, 0, 0)] 6 [some (vR 0 0), some (vI a1), some (vI ((-1000001) - a1))] [vI ((-1000001) - a1)] I (by decide +kernel) rfl <| rr_if_lt 25 (by decide +kernel) (rr_seg [(1, 1, 0, 0, 0)] 26 [some (vR 0 0), some (vI a1), some (vI ((-1000001) - a1))] [vI a1] I (by decide +kernel) rfl <| rr_iret (by decide +kernel) trivial) (rr_seg [(1, 2, 0, 0, 0), (0, 1, 0, 0, 7)] 12 [some (vR 0 0), some (vI a1), some (vI ((-1000001) - a1))] [vI 7, vI ((-1000001) - a1)] I (by decide +kernel) rfl <| rr_ic_ge 25 (by decide +kernel) (rr_seg [(1, 1, 0, 0, 0)] 26 [some (vR 0 0), some (vI a1), some (vI ((-1000001) - a1))] [vI a1] I (by decide +kernel) rfl <| rr_iret (by decide +kernel) trivial) (rr_seg [(2, 0, 0, 0, 0), (25, 7, 6, 57, 0), (1, 2, 0, 0, 0), (22, 0, 0, 0, 0)] 21 [some (vR 0 0), some (vI a1), some (vI ((-1000001) - a1))] [vI ((-1000001) - a1), vR 31 0, vI ((-1000001) - a1), vR 31 0] I (by decide +kernel) rfl <| rr_lda 7 (by decide +kernel) rfl rfl fun j1 => rr_seg [(0, 0, 0, 0, 1), (8, 0, 0, 0, 0)] 24 [some (vR 0 0), some (vI a1), some (vI ((-1000001) - a1))] [vI ((I 31 0 j1) + 1), vI ((-1000001) - a1), vR 31 0] I (by decide +kernel) rfl <| rr_sta 7 (by decide +kernel) rfl rfl rfl fun j2 => rr_seg [(1, 1, 0, 0, 0)] 26 [some (vR 0 0), some (vI a1), some (vI ((-1000001) - a1))] [vI a1] (mup I 31 0 j2 ((I 31 0 j1) + 1)) (by decide +kernel) rfl <| rr_iret (by decide +kernel) trivial))
-- X7_score
def f_X7_score_p27 : Nat → Int32 → Int32 → Mem → RT
  | 0, _, _, _ => none
  | n + 1, a1, a2, I => if (6 : Int32) ≤ a2 then (rI a1 (mup I 27 0 2 0)) else (ix a2 6 fun j4 => cV (f_X6_meetScore j4 a1 I) fun J5 => f_X7_score_p27 n a1 (a2 + 1) J5)
set_option maxRecDepth 100000 in
set_option maxHeartbeats 4000000 in
theorem t_X7_score_p27 : ∀ (n : Nat) (a1 : Int32) (a2 : Int32) (I : Mem), RR M_X7_score SF SF 27 [some (vR 0 0), some (vI a1), some (vI a2)] [] I (f_X7_score_p27 n a1 a2 I)
  | 0, _, _, _ => rr_none
  | n + 1, a1, a2, I => by
    unfold f_X7_score_p27
    exact rr_seg [(1, 2, 0, 0, 0), (0, 1, 0, 0, 6)] 30 [some (vR 0 0), some (vI a1), some (vI a2)] [vI 6, vI a2] I (by decide +kernel) rfl <| rr_ic_ge 49 (by decide +kernel) (rr_seg [(2, 0, 0, 0, 0), (25, 7, 5, 53, 0), (0, 0, 0, 0, 0), (26, 3, 2, 84, 0), (1, 1, 0, 0, 0)] 58 [some (vR 0 0), some (vI a1), some (vI a2)] [vI a1] (mup I 27 0 2 0) (by decide +kernel) rfl <| rr_iret (by decide +kernel) trivial) (rr_seg [(2, 0, 0, 0, 0), (25, 7, 1, 24, 0), (1, 2, 0, 0, 0)] 38 [some (vR 0 0), some (vI a1), some (vI a2)] [vI a2, vR 6 0] I (by decide +kernel) rfl <| rr_ldq 0 6 7 (by decide +kernel) rfl rfl fun j4 => rr_seg [(1, 1, 0, 0, 0)] 40 [some (vR 0 0), some (vI a1), some (vI a2)] [vI a1, vR 7 j4] I (by decide +kernel) rfl <| rr_cVV M_X6_meetScore 7 j4 [vI a1] [] 81 (by decide +kernel)  lk_7_81 mk_X6_meetScore rfl rfl rfl (Nat.le_refl _) (Nat.le_refl _) (t_X6_meetScore j4 a1 I) fun J5 => rr_seg [(7, 2, 0, 0, 1), (23, 27, 0, 0, 0)] 27 [some (vR 0 0), some (vI a1), some (vI (a2 + 1))] [] J5 (by decide +kernel) rfl <| t_X7_score_p27 n a1 (a2 + 1) J5)
def f_X7_score (a1 : Int32) (I : Mem) : RT := cI (f_X7_isWithin a1 1 24 I) fun v2 J1 => if (v2 : Int32) = 0 then (cI (f_X7_refuse (-1000001) J1) fun v7 J6 => rI v7 J6) else (cV (f_X4_renew a1 J1) fun J3 => f_X7_score_p27 FU a1 0 J3)
set_option maxRecDepth 100000 in
set_option maxHeartbeats 4000000 in
theorem t_X7_score (a1 : Int32) (I : Mem) : RR M_X7_score SF SF 0 [some (vR 0 0), some (vI a1), none] [] I (f_X7_score a1 I) := by
  unfold f_X7_score
  exact rr_seg [(1, 1, 0, 0, 0), (0, 0, 0, 0, 1), (0, 1, 0, 0, 24)] 4 [some (vR 0 0), some (vI a1), none] [vI 24, vI 1, vI a1] I (by decide +kernel) rfl <| rr_cSI M_X7_isWithin [vI a1, vI 1, vI 24] [] 68 (by decide +kernel)  lk_7_68 mk_X7_isWithin rfl rfl rfl (Nat.le_refl _) (Nat.le_refl _) (t_X7_isWithin a1 1 24 I) fun v2 J1 => rr_if_ne 17 (by decide +kernel) (rr_seg [(2, 0, 0, 0, 0), (25, 7, 0, 20, 0), (1, 1, 0, 0, 0)] 22 [some (vR 0 0), some (vI a1), none] [vI a1, vR 1 0] J1 (by decide +kernel) rfl <| rr_cVV M_X4_renew 1 0 [vI a1] [] 77 (by decide +kernel)  lk_7_77 mk_X4_renew rfl rfl rfl (Nat.le_refl _) (Nat.le_refl _) (t_X4_renew a1 J1) fun J3 => rr_seg [(0, 0, 0, 0, 0), (4, 2, 0, 0, 0)] 27 [some (vR 0 0), some (vI a1), some (vI 0)] [] J3 (by decide +kernel) rfl <| t_X7_score_p27 FU a1 0 J3) (rr_seg [(2, 0, 0, 0, 0), (0, 3, 0, 72, -1000001)] 13 [some (vR 0 0), some (vI a1), none] [vI (-1000001), vR 0 0] J1 (by decide +kernel) rfl <| rr_cVI M_X7_refuse 0 0 [vI (-1000001)] [] 73 (by decide +kernel)  lk_7_73 mk_X7_refuse rfl rfl rfl (Nat.le_refl _) (Nat.le_refl _) (t_X7_refuse (-1000001) J1) fun v7 J6 => rr_iret (by decide +kernel) trivial)
-- X8_in
def f_X8_in (a0 : Int32) (a1 : Int32) (a2 : Int32) (I : Mem) : RT := if (a0 : Int32) < a1 then (rI 0 I) else (if (a2 : Int32) < a0 then (rI 0 I) else (rI 1 I))
set_option maxRecDepth 100000 in
set_option maxHeartbeats 4000000 in
theorem t_X8_in (a0 : Int32) (a1 : Int32) (a2 : Int32) (I : Mem) : RR M_X8_in SF SF 0 [some (vI a0), some (vI a1), some (vI a2)] [] I (f_X8_in a0 a1 a2 I) := by
  unfold f_X8_in
  exact rr_seg [(1, 0, 0, 0, 0), (1, 1, 0, 0, 0)] 2 [some (vI a0), some (vI a1), some (vI a2)] [vI a1, vI a0] I (by decide +kernel) rfl <| rr_ic_lt 14 (by decide +kernel) (rr_seg [(0, 0, 0, 0, 0)] 15 [some (vI a0), some (vI a1), some (vI a2)] [vI 0] I (by decide +kernel) rfl <| rr_iret (by decide +kernel) (Or.inl rfl)) (rr_seg [(1, 0, 0, 0, 0), (1, 2, 0, 0, 0)] 7 [some (vI a0), some (vI a1), some (vI a2)] [vI a2, vI a0] I (by decide +kernel) rfl <| rr_ic_gt 14 (by decide +kernel) (rr_seg [(0, 0, 0, 0, 0)] 15 [some (vI a0), some (vI a1), some (vI a2)] [vI 0] I (by decide +kernel) rfl <| rr_iret (by decide +kernel) (Or.inl rfl)) (rr_seg [(0, 0, 0, 0, 1), (23, 15, 0, 0, 0)] 15 [some (vI a0), some (vI a1), some (vI a2)] [vI 1] I (by decide +kernel) rfl <| rr_iret (by decide +kernel) (Or.inr rfl)))
-- X8_layNone
def f_X8_layNone_p2 : Nat → Int32 → Mem → RT
  | 0, _, _ => none
  | n + 1, a1, I => if (6 : Int32) ≤ a1 then (rV (mup I 33 0 19 0)) else (ix a1 6 fun j1 => f_X8_layNone_p2 n (a1 + 1) (mup I 46 0 j1 (znar 0)))
set_option maxRecDepth 100000 in
set_option maxHeartbeats 4000000 in
theorem t_X8_layNone_p2 : ∀ (n : Nat) (a1 : Int32) (I : Mem), RR M_X8_layNone SF SF 2 [some (vR 33 0), some (vI a1)] [] I (f_X8_layNone_p2 n a1 I)
  | 0, _, _ => rr_none
  | n + 1, a1, I => by
    unfold f_X8_layNone_p2
    exact rr_seg [(1, 1, 0, 0, 0), (0, 1, 0, 0, 6)] 5 [some (vR 33 0), some (vI a1)] [vI 6, vI a1] I (by decide +kernel) rfl <| rr_ic_ge 21 (by decide +kernel) (rr_seg [(2, 0, 0, 0, 0), (0, 0, 0, 0, 0), (26, 8, 19, 138, 0)] 26 [some (vR 33 0), some (vI a1)] [] (mup I 33 0 19 0) (by decide +kernel) rfl <| rr_vret (by decide +kernel) trivial) (rr_seg [(2, 0, 0, 0, 0), (25, 8, 13, 51, 0), (1, 1, 0, 0, 0), (0, 0, 0, 0, 0)] 14 [some (vR 33 0), some (vI a1)] [vI 0, vI a1, vR 46 0] I (by decide +kernel) rfl <| rr_stz 6 (by decide +kernel) rfl rfl fun j1 => rr_seg [(7, 1, 0, 0, 1), (23, 2, 0, 0, 0)] 2 [some (vR 33 0), some (vI (a1 + 1))] [] (mup I 46 0 j1 (znar 0)) (by decide +kernel) rfl <| t_X8_layNone_p2 n (a1 + 1) (mup I 46 0 j1 (znar 0)))
def f_X8_layNone  (I : Mem) : RT := f_X8_layNone_p2 FU 0 I
set_option maxRecDepth 100000 in
set_option maxHeartbeats 4000000 in
theorem t_X8_layNone  (I : Mem) : RR M_X8_layNone SF SF 0 [some (vR 33 0), none] [] I (f_X8_layNone  I) := by
  unfold f_X8_layNone
  exact rr_seg [(0, 0, 0, 0, 0), (4, 1, 0, 0, 0)] 2 [some (vR 33 0), some (vI 0)] [] I (by decide +kernel) rfl <| t_X8_layNone_p2 FU 0 I
-- X8_begin
def f_X8_begin_p67 : Nat → Int32 → Mem → RT
  | 0, _, _ => none
  | n + 1, a1, I => if (576 : Int32) ≤ a1 then (cV (f_X8_layNone I) fun J1 => rV J1) else (ix a1 576 fun j2 => f_X8_begin_p67 n (a1 + 1) (mup I 44 0 j2 0))
set_option maxRecDepth 100000 in
set_option maxHeartbeats 4000000 in
theorem t_X8_begin_p67 : ∀ (n : Nat) (a1 : Int32) (I : Mem), RR M_X8_begin SF SF 67 [some (vR 33 0), some (vI a1)] [] I (f_X8_begin_p67 n a1 I)
  | 0, _, _ => rr_none
  | n + 1, a1, I => by
    unfold f_X8_begin_p67
    exact rr_seg [(1, 1, 0, 0, 0), (0, 2, 0, 0, 576)] 71 [some (vR 33 0), some (vI a1)] [vI 576, vI a1] I (by decide +kernel) rfl <| rr_ic_ge 87 (by decide +kernel) (rr_seg [(2, 0, 0, 0, 0)] 88 [some (vR 33 0), some (vI a1)] [vR 33 0] I (by decide +kernel) rfl <| rr_cVV M_X8_layNone 33 0 [] [] 135 (by decide +kernel)  lk_8_135 mk_X8_layNone rfl rfl rfl (Nat.le_refl _) (Nat.le_refl _) (t_X8_layNone I) fun J1 => rr_vret (by decide +kernel) trivial) (rr_seg [(2, 0, 0, 0, 0), (25, 8, 11, 45, 0), (1, 1, 0, 0, 0), (0, 0, 0, 0, 0)] 80 [some (vR 33 0), some (vI a1)] [vI 0, vI a1, vR 44 0] I (by decide +kernel) rfl <| rr_sta 576 (by decide +kernel) rfl rfl rfl fun j2 => rr_seg [(7, 1, 0, 0, 1), (23, 67, 0, 0, 0)] 67 [some (vR 33 0), some (vI (a1 + 1))] [] (mup I 44 0 j2 0) (by decide +kernel) rfl <| t_X8_begin_p67 n (a1 + 1) (mup I 44 0 j2 0))
def f_X8_begin_p45 : Nat → Int32 → Mem → RT
  | 0, _, _ => none
  | n + 1, a1, I => if (144 : Int32) ≤ a1 then (f_X8_begin_p67 FU 0 I) else (ix a1 144 fun j3 => f_X8_begin_p45 n (a1 + 1) (mup I 45 0 j3 (-1)))
set_option maxRecDepth 100000 in
set_option maxHeartbeats 4000000 in
theorem t_X8_begin_p45 : ∀ (n : Nat) (a1 : Int32) (I : Mem), RR M_X8_begin SF SF 45 [some (vR 33 0), some (vI a1)] [] I (f_X8_begin_p45 n a1 I)
  | 0, _, _ => rr_none
  | n + 1, a1, I => by
    unfold f_X8_begin_p45
    exact rr_seg [(1, 1, 0, 0, 0), (0, 2, 0, 0, 144)] 49 [some (vR 33 0), some (vI a1)] [vI 144, vI a1] I (by decide +kernel) rfl <| rr_ic_ge 65 (by decide +kernel) (rr_seg [(0, 0, 0, 0, 0), (4, 1, 0, 0, 0)] 67 [some (vR 33 0), some (vI 0)] [] I (by decide +kernel) rfl <| t_X8_begin_p67 FU 0 I) (rr_seg [(2, 0, 0, 0, 0), (25, 8, 12, 48, 0), (1, 1, 0, 0, 0), (0, 0, 0, 0, -1)] 58 [some (vR 33 0), some (vI a1)] [vI (-1), vI a1, vR 45 0] I (by decide +kernel) rfl <| rr_sta 144 (by decide +kernel) rfl rfl rfl fun j3 => rr_seg [(7, 1, 0, 0, 1), (23, 45, 0, 0, 0)] 45 [some (vR 33 0), some (vI (a1 + 1))] [] (mup I 45 0 j3 (-1)) (by decide +kernel) rfl <| t_X8_begin_p45 n (a1 + 1) (mup I 45 0 j3 (-1)))
def f_X8_begin_p2 : Nat → Int32 → Mem → RT
  | 0, _, _ => none
  | n + 1, a1, I => if (24 : Int32) ≤ a1 then (f_X8_begin_p45 FU 0 I) else (ix a1 24 fun j4 => ix a1 24 fun j5 => ix a1 24 fun j6 => ix a1 24 fun j7 => f_X8_begin_p2 n (a1 + 1) (mup (mup (mup (mup I 34 0 j4 100) 35 0 j5 3) 36 0 j6 (znar 0)) 37 0 j7 (-1)))
set_option maxRecDepth 100000 in
set_option maxHeartbeats 4000000 in
theorem t_X8_begin_p2 : ∀ (n : Nat) (a1 : Int32) (I : Mem), RR M_X8_begin SF SF 2 [some (vR 33 0), some (vI a1)] [] I (f_X8_begin_p2 n a1 I)
  | 0, _, _ => rr_none
  | n + 1, a1, I => by
    unfold f_X8_begin_p2
    exact rr_seg [(1, 1, 0, 0, 0), (0, 1, 0, 0, 24)] 5 [some (vR 33 0), some (vI a1)] [vI 24, vI a1] I (by decide +kernel) rfl <| rr_ic_ge 43 (by decide +kernel) (rr_seg [(0, 0, 0, 0, 0), (4, 1, 0, 0, 0)] 45 [some (vR 33 0), some (vI 0)] [] I (by decide +kernel) rfl <| t_X8_begin_p45 FU 0 I) (rr_seg [(2, 0, 0, 0, 0), (25, 8, 1, 13, 0), (1, 1, 0, 0, 0), (0, 1, 0, 0, 100)] 15 [some (vR 33 0), some (vI a1)] [vI 100, vI a1, vR 34 0] I (by decide +kernel) rfl <| rr_sta 24 (by decide +kernel) rfl rfl rfl fun j4 => rr_seg [(2, 0, 0, 0, 0), (25, 8, 2, 17, 0), (1, 1, 0, 0, 0), (0, 0, 0, 0, 3)] 22 [some (vR 33 0), some (vI a1)] [vI 3, vI a1, vR 35 0] (mup I 34 0 j4 100) (by decide +kernel) rfl <| rr_sta 24 (by decide +kernel) rfl rfl rfl fun j5 => rr_seg [(2, 0, 0, 0, 0), (25, 8, 3, 20, 0), (1, 1, 0, 0, 0), (0, 0, 0, 0, 0)] 29 [some (vR 33 0), some (vI a1)] [vI 0, vI a1, vR 36 0] (mup (mup I 34 0 j4 100) 35 0 j5 3) (by decide +kernel) rfl <| rr_stz 24 (by decide +kernel) rfl rfl fun j6 => rr_seg [(2, 0, 0, 0, 0), (25, 8, 4, 24, 0), (1, 1, 0, 0, 0), (0, 0, 0, 0, -1)] 36 [some (vR 33 0), some (vI a1)] [vI (-1), vI a1, vR 37 0] (mup (mup (mup I 34 0 j4 100) 35 0 j5 3) 36 0 j6 (znar 0)) (by decide +kernel) rfl <| rr_sta 24 (by decide +kernel) rfl rfl rfl fun j7 => rr_seg [(7, 1, 0, 0, 1), (23, 2, 0, 0, 0)] 2 [some (vR 33 0), some (vI (a1 + 1))] [] (mup (mup (mup (mup I 34 0 j4 100) 35 0 j5 3) 36 0 j6 (znar 0)) 37 0 j7 (-1)) (by decide +kernel) rfl <| t_X8_begin_p2 n (a1 + 1) (mup (mup (mup (mup I 34 0 j4 100) 35 0 j5 3) 36 0 j6 (znar 0)) 37 0 j7 (-1)))
def f_X8_begin  (I : Mem) : RT := f_X8_begin_p2 FU 0 I
set_option maxRecDepth 100000 in
set_option maxHeartbeats 4000000 in
theorem t_X8_begin  (I : Mem) : RR M_X8_begin SF SF 0 [some (vR 33 0), none] [] I (f_X8_begin  I) := by
  unfold f_X8_begin
  exact rr_seg [(0, 0, 0, 0, 0), (4, 1, 0, 0, 0)] 2 [some (vR 33 0), some (vI 0)] [] I (by decide +kernel) rfl <| t_X8_begin_p2 FU 0 I
-- X8_isPart
def f_X8_isPart_p20  (I : Mem) : RT := rI 1 I
set_option maxRecDepth 100000 in
set_option maxHeartbeats 4000000 in
theorem t_X8_isPart_p20  (I : Mem) : RR M_X8_isPart SF SF 20 [none, none] [] I (f_X8_isPart_p20  I) := by
  unfold f_X8_isPart_p20
  exact rr_seg [(0, 0, 0, 0, 1), (23, 25, 0, 0, 0)] 25 [none, none] [vI 1] I (by decide +kernel) rfl <| rr_iret (by decide +kernel) (Or.inr rfl)
def f_X8_isPart (a1 : Int32) (I : Mem) : RT := ix a1 6 fun j1 => if (I 38 0 j1 : Int32) = 1 then (f_X8_isPart_p20 I) else (ix a1 6 fun j2 => if (I 38 0 j2 : Int32) = 2 then (f_X8_isPart_p20 I) else (rI 0 I))
set_option maxRecDepth 100000 in
set_option maxHeartbeats 4000000 in
theorem t_X8_isPart (a1 : Int32) (I : Mem) : RR M_X8_isPart SF SF 0 [some (vR 33 0), some (vI a1)] [] I (f_X8_isPart a1 I) := by
  unfold f_X8_isPart
  exact rr_seg [(2, 0, 0, 0, 0), (25, 8, 5, 27, 0), (1, 1, 0, 0, 0)] 5 [some (vR 33 0), some (vI a1)] [vI a1, vR 38 0] I (by decide +kernel) rfl <| rr_lda 6 (by decide +kernel) rfl rfl fun j1 => rr_seg [(0, 0, 0, 0, 1)] 7 [some (vR 33 0), some (vI a1)] [vI 1, vI (I 38 0 j1)] I (by decide +kernel) rfl <| rr_ic_eq 20 (by decide +kernel) (rr_mask [false, false] rfl <| t_X8_isPart_p20 I) (rr_seg [(2, 0, 0, 0, 0), (25, 8, 5, 27, 0), (1, 1, 0, 0, 0)] 15 [some (vR 33 0), some (vI a1)] [vI a1, vR 38 0] I (by decide +kernel) rfl <| rr_lda 6 (by decide +kernel) rfl rfl fun j2 => rr_seg [(0, 0, 0, 0, 2)] 17 [some (vR 33 0), some (vI a1)] [vI 2, vI (I 38 0 j2)] I (by decide +kernel) rfl <| rr_ic_ne 24 (by decide +kernel) (rr_seg [(0, 0, 0, 0, 0)] 25 [some (vR 33 0), some (vI a1)] [vI 0] I (by decide +kernel) rfl <| rr_iret (by decide +kernel) (Or.inl rfl)) (rr_mask [false, false] rfl <| t_X8_isPart_p20 I))
-- X8_answer
def f_X8_answer (a1 : Int32) (I : Mem) : RT := if ((-1000001) : Int32) < a1 then (rI a1 I) else (if (a1 : Int32) < (-1000007) then (rI a1 I) else (ix ((-1000000) - a1) 8 fun j1 => ix ((-1000000) - a1) 8 fun j2 => rI a1 (mup I 50 0 j2 ((I 50 0 j1) + 1))))
set_option maxRecDepth 100000 in
set_option maxHeartbeats 4000000 in
theorem t_X8_answer (a1 : Int32) (I : Mem) : RR M_X8_answer SF SF 0 [some (vR 33 0), some (vI a1)] [] I (f_X8_answer a1 I) := by
  unfold f_X8_answer
  exact rr_seg [(1, 1, 0, 0, 0), (0, 3, 0, 132, -1000001)] 3 [some (vR 33 0), some (vI a1)] [vI (-1000001), vI a1] I (by decide +kernel) rfl <| rr_ic_gt 25 (by decide +kernel) (rr_seg [(1, 1, 0, 0, 0)] 26 [some (vR 33 0), some (vI a1)] [vI a1] I (by decide +kernel) rfl <| rr_iret (by decide +kernel) trivial) (rr_seg [(1, 1, 0, 0, 0), (0, 3, 0, 133, -1000007)] 9 [some (vR 33 0), some (vI a1)] [vI (-1000007), vI a1] I (by decide +kernel) rfl <| rr_ic_lt 25 (by decide +kernel) (rr_seg [(1, 1, 0, 0, 0)] 26 [some (vR 33 0), some (vI a1)] [vI a1] I (by decide +kernel) rfl <| rr_iret (by decide +kernel) trivial) (rr_seg [(2, 0, 0, 0, 0), (25, 8, 23, 75, 0), (0, 3, 0, 134, -1000000), (1, 1, 0, 0, 0), (9, 0, 0, 0, 0), (22, 0, 0, 0, 0)] 21 [some (vR 33 0), some (vI a1)] [vI ((-1000000) - a1), vR 50 0, vI ((-1000000) - a1), vR 50 0] I (by decide +kernel) rfl <| rr_lda 8 (by decide +kernel) rfl rfl fun j1 => rr_seg [(0, 0, 0, 0, 1), (8, 0, 0, 0, 0)] 24 [some (vR 33 0), some (vI a1)] [vI ((I 50 0 j1) + 1), vI ((-1000000) - a1), vR 50 0] I (by decide +kernel) rfl <| rr_sta 8 (by decide +kernel) rfl rfl rfl fun j2 => rr_seg [(1, 1, 0, 0, 0)] 26 [some (vR 33 0), some (vI a1)] [vI a1] (mup I 50 0 j2 ((I 50 0 j1) + 1)) (by decide +kernel) rfl <| rr_iret (by decide +kernel) trivial))
-- X8_score
def f_X8_score_p28 : Nat → Int32 → Mem → RT
  | 0, _, _ => none
  | n + 1, a2, I => if (6 : Int32) ≤ a2 then (rI (I 33 0 0) I) else (cI (f_X8_isPart a2 I) fun v5 J4 => if (v5 : Int32) = 0 then (f_X8_score_p28 n (a2 + 1) J4) else (ix a2 6 fun j6 => if (J4 40 0 j6 : Int32) < (J4 33 0 0) then (ix a2 6 fun j7 => ix a2 6 fun j8 => f_X8_score_p28 n (a2 + 1) (mup J4 38 0 j8 (J4 38 0 j7))) else (ix a2 6 fun j9 => f_X8_score_p28 n (a2 + 1) (mup J4 38 0 j9 (-1)))))
set_option maxRecDepth 100000 in
set_option maxHeartbeats 4000000 in
theorem t_X8_score_p28 : ∀ (n : Nat) (a2 : Int32) (I : Mem), RR M_X8_score SF SF 28 [some (vR 33 0), none, some (vI a2)] [] I (f_X8_score_p28 n a2 I)
  | 0, _, _ => rr_none
  | n + 1, a2, I => by
    unfold f_X8_score_p28
    exact rr_seg [(1, 2, 0, 0, 0), (0, 1, 0, 0, 6)] 31 [some (vR 33 0), none, some (vI a2)] [vI 6, vI a2] I (by decide +kernel) rfl <| rr_ic_ge 77 (by decide +kernel) (rr_seg [(2, 0, 0, 0, 0), (24, 8, 0, 7, 0)] 81 [some (vR 33 0), none, some (vI a2)] [vI (I 33 0 0)] I (by decide +kernel) rfl <| rr_iret (by decide +kernel) trivial) (rr_seg [(2, 0, 0, 0, 0), (1, 2, 0, 0, 0)] 36 [some (vR 33 0), none, some (vI a2)] [vI a2, vR 33 0] I (by decide +kernel) rfl <| rr_cVI M_X8_isPart 33 0 [vI a2] [] 150 (by decide +kernel)  lk_8_150 mk_X8_isPart rfl rfl rfl (Nat.le_refl _) (Nat.le_refl _) (t_X8_isPart a2 I) fun v5 J4 => rr_if_eq 71 (by decide +kernel) (rr_seg [(7, 2, 0, 0, 1), (23, 28, 0, 0, 0)] 28 [some (vR 33 0), none, some (vI (a2 + 1))] [] J4 (by decide +kernel) rfl <| t_X8_score_p28 n (a2 + 1) J4) (rr_seg [(2, 0, 0, 0, 0), (25, 8, 5, 27, 0), (1, 2, 0, 0, 0), (2, 0, 0, 0, 0), (25, 8, 7, 33, 0), (1, 2, 0, 0, 0)] 52 [some (vR 33 0), none, some (vI a2)] [vI a2, vR 40 0, vI a2, vR 38 0] J4 (by decide +kernel) rfl <| rr_lda 6 (by decide +kernel) rfl rfl fun j6 => rr_seg [(2, 0, 0, 0, 0), (24, 8, 0, 7, 0)] 57 [some (vR 33 0), none, some (vI a2)] [vI (J4 33 0 0), vI (J4 40 0 j6), vI a2, vR 38 0] J4 (by decide +kernel) rfl <| rr_ic_lt 64 (by decide +kernel) (rr_seg [(2, 0, 0, 0, 0), (25, 8, 5, 27, 0), (1, 2, 0, 0, 0)] 69 [some (vR 33 0), none, some (vI a2)] [vI a2, vR 38 0, vI a2, vR 38 0] J4 (by decide +kernel) rfl <| rr_lda 6 (by decide +kernel) rfl rfl fun j7 => rr_sta 6 (by decide +kernel) rfl rfl rfl fun j8 => rr_seg [(7, 2, 0, 0, 1), (23, 28, 0, 0, 0)] 28 [some (vR 33 0), none, some (vI (a2 + 1))] [] (mup J4 38 0 j8 (J4 38 0 j7)) (by decide +kernel) rfl <| t_X8_score_p28 n (a2 + 1) (mup J4 38 0 j8 (J4 38 0 j7))) (rr_seg [(0, 0, 0, 0, -1), (23, 70, 0, 0, 0)] 70 [some (vR 33 0), none, some (vI a2)] [vI (-1), vI a2, vR 38 0] J4 (by decide +kernel) rfl <| rr_sta 6 (by decide +kernel) rfl rfl rfl fun j9 => rr_seg [(7, 2, 0, 0, 1), (23, 28, 0, 0, 0)] 28 [some (vR 33 0), none, some (vI (a2 + 1))] [] (mup J4 38 0 j9 (-1)) (by decide +kernel) rfl <| t_X8_score_p28 n (a2 + 1) (mup J4 38 0 j9 (-1)))))
def f_X8_score (a1 : Int32) (I : Mem) : RT := cI (f_X8_in a1 1 24 I) fun v2 J1 => if (v2 : Int32) = 0 then (cI (f_X8_answer (-1000001) J1) fun v11 J10 => rI v11 J10) else (cV (f_X8_begin (mup J1 33 0 0 a1)) fun J3 => f_X8_score_p28 FU 0 J3)
set_option maxRecDepth 100000 in
set_option maxHeartbeats 4000000 in
theorem t_X8_score (a1 : Int32) (I : Mem) : RR M_X8_score SF SF 0 [some (vR 33 0), some (vI a1), none] [] I (f_X8_score a1 I) := by
  unfold f_X8_score
  exact rr_seg [(1, 1, 0, 0, 0), (0, 0, 0, 0, 1), (0, 1, 0, 0, 24)] 4 [some (vR 33 0), some (vI a1), none] [vI 24, vI 1, vI a1] I (by decide +kernel) rfl <| rr_cSI M_X8_in [vI a1, vI 1, vI 24] [] 142 (by decide +kernel)  lk_8_142 mk_X8_in rfl rfl rfl (Nat.le_refl _) (Nat.le_refl _) (t_X8_in a1 1 24 I) fun v2 J1 => rr_if_ne 17 (by decide +kernel) (rr_seg [(2, 0, 0, 0, 0), (1, 1, 0, 0, 0), (26, 8, 0, 7, 0), (2, 0, 0, 0, 0)] 23 [some (vR 33 0), some (vI a1), none] [vR 33 0] (mup J1 33 0 0 a1) (by decide +kernel) rfl <| rr_cVV M_X8_begin 33 0 [] [] 129 (by decide +kernel)  lk_8_129 mk_X8_begin rfl rfl rfl (Nat.le_refl _) (Nat.le_refl _) (t_X8_begin (mup J1 33 0 0 a1)) fun J3 => rr_seg [(0, 0, 0, 0, 0), (4, 2, 0, 0, 0)] 28 [some (vR 33 0), some (vI a1), some (vI 0)] [] J3 (by decide +kernel) rfl <| rr_mask [true, false, true] rfl <| t_X8_score_p28 FU 0 J3) (rr_seg [(2, 0, 0, 0, 0), (0, 3, 0, 132, -1000001)] 13 [some (vR 33 0), some (vI a1), none] [vI (-1000001), vR 33 0] J1 (by decide +kernel) rfl <| rr_cVI M_X8_answer 33 0 [vI (-1000001)] [] 146 (by decide +kernel)  lk_8_146 mk_X8_answer rfl rfl rfl (Nat.le_refl _) (Nat.le_refl _) (t_X8_answer (-1000001) J1) fun v11 J10 => rr_iret (by decide +kernel) trivial)
-- X4_holds
def f_X4_holds (a1 : Int32) (I : Mem) : RT := if (a1 : Int32) < 0 then (rI 0 I) else (if (I 1 0 0 : Int32) ≤ a1 then (rI 0 I) else (rI 1 I))
set_option maxRecDepth 100000 in
set_option maxHeartbeats 4000000 in
theorem t_X4_holds (a1 : Int32) (I : Mem) : RR M_X4_holds SF SF 0 [some (vR 1 0), some (vI a1)] [] I (f_X4_holds a1 I) := by
  unfold f_X4_holds
  exact rr_seg [(1, 1, 0, 0, 0)] 1 [some (vR 1 0), some (vI a1)] [vI a1] I (by decide +kernel) rfl <| rr_if_lt 16 (by decide +kernel) (rr_seg [(0, 0, 0, 0, 0)] 17 [some (vR 1 0), some (vI a1)] [vI 0] I (by decide +kernel) rfl <| rr_iret (by decide +kernel) (Or.inl rfl)) (rr_seg [(1, 1, 0, 0, 0), (2, 0, 0, 0, 0), (24, 4, 0, 29, 0)] 9 [some (vR 1 0), some (vI a1)] [vI (I 1 0 0), vI a1] I (by decide +kernel) rfl <| rr_ic_ge 16 (by decide +kernel) (rr_seg [(0, 0, 0, 0, 0)] 17 [some (vR 1 0), some (vI a1)] [vI 0] I (by decide +kernel) rfl <| rr_iret (by decide +kernel) (Or.inl rfl)) (rr_seg [(0, 0, 0, 0, 1), (23, 17, 0, 0, 0)] 17 [some (vR 1 0), some (vI a1)] [vI 1] I (by decide +kernel) rfl <| rr_iret (by decide +kernel) (Or.inr rfl)))
-- X7_changeTake
def f_X7_changeTake (a1 : Int32) (I : Mem) : RT := ix a1 6 fun j1 => rV (mup (mup I 7 j1 1 0) 27 0 2 0)
set_option maxRecDepth 100000 in
set_option maxHeartbeats 4000000 in
theorem t_X7_changeTake (a1 : Int32) (I : Mem) : RR M_X7_changeTake SF SF 0 [some (vR 0 0), some (vI a1)] [] I (f_X7_changeTake a1 I) := by
  unfold f_X7_changeTake
  exact rr_seg [(2, 0, 0, 0, 0), (25, 7, 1, 24, 0), (1, 1, 0, 0, 0)] 5 [some (vR 0 0), some (vI a1)] [vI a1, vR 6 0] I (by decide +kernel) rfl <| rr_ldq 0 6 7 (by decide +kernel) rfl rfl fun j1 => rr_seg [(0, 0, 0, 0, 0), (26, 6, 1, 186, 0), (2, 0, 0, 0, 0), (25, 7, 5, 53, 0), (0, 0, 0, 0, 0), (26, 3, 2, 84, 0)] 18 [some (vR 0 0), some (vI a1)] [] (mup (mup I 7 j1 1 0) 27 0 2 0) (by decide +kernel) rfl <| rr_vret (by decide +kernel) trivial
-- X7_beat
def f_X7_beat_p32  (I : Mem) : RT := cI (f_X7_refuse (-1000001) I) fun v4 J3 => rI v4 J3
set_option maxRecDepth 100000 in
set_option maxHeartbeats 4000000 in
theorem t_X7_beat_p32  (I : Mem) : RR M_X7_beat SF SF 32 [some (vR 0 0), none, none, none, none] [] I (f_X7_beat_p32  I) := by
  unfold f_X7_beat_p32
  exact rr_seg [(2, 0, 0, 0, 0), (0, 3, 0, 72, -1000001)] 35 [some (vR 0 0), none, none, none, none] [vI (-1000001), vR 0 0] I (by decide +kernel) rfl <| rr_cVI M_X7_refuse 0 0 [vI (-1000001)] [] 73 (by decide +kernel)  lk_7_73 mk_X7_refuse rfl rfl rfl (Nat.le_refl _) (Nat.le_refl _) (t_X7_refuse (-1000001) I) fun v4 J3 => rr_iret (by decide +kernel) trivial
def f_X7_beat_p62 : Nat → Int32 → Mem → RT
  | 0, _, _ => none
  | n + 1, a4, I => if (6 : Int32) ≤ a4 then (rI 1 I) else (cV (f_X7_changeTake a4 I) fun J11 => f_X7_beat_p62 n (a4 + 1) J11)
set_option maxRecDepth 100000 in
set_option maxHeartbeats 4000000 in
theorem t_X7_beat_p62 : ∀ (n : Nat) (a4 : Int32) (I : Mem), RR M_X7_beat SF SF 62 [some (vR 0 0), none, none, none, some (vI a4)] [] I (f_X7_beat_p62 n a4 I)
  | 0, _, _ => rr_none
  | n + 1, a4, I => by
    unfold f_X7_beat_p62
    exact rr_seg [(1, 4, 1, 0, 0), (0, 1, 0, 0, 6)] 66 [some (vR 0 0), none, none, none, some (vI a4)] [vI 6, vI a4] I (by decide +kernel) rfl <| rr_ic_ge 81 (by decide +kernel) (rr_seg [(0, 0, 0, 0, 1)] 82 [some (vR 0 0), none, none, none, some (vI a4)] [vI 1] I (by decide +kernel) rfl <| rr_iret (by decide +kernel) trivial) (rr_seg [(2, 0, 0, 0, 0), (1, 4, 1, 0, 0)] 72 [some (vR 0 0), none, none, none, some (vI a4)] [vI a4, vR 0 0] I (by decide +kernel) rfl <| rr_cVV M_X7_changeTake 0 0 [vI a4] [] 98 (by decide +kernel)  lk_7_98 mk_X7_changeTake rfl rfl rfl (Nat.le_refl _) (Nat.le_refl _) (t_X7_changeTake a4 I) fun J11 => rr_seg [(7, 4, 0, 0, 1), (23, 62, 0, 0, 0)] 62 [some (vR 0 0), none, none, none, some (vI (a4 + 1))] [] J11 (by decide +kernel) rfl <| t_X7_beat_p62 n (a4 + 1) J11)
def f_X7_beat (a1 : Int32) (a2 : Int32) (a3 : Int32) (I : Mem) : RT := cI (f_X4_holds a1 I) fun v2 J1 => if (v2 : Int32) = 0 then (f_X7_beat_p32 J1) else (cI (f_X7_isWithin a2 0 10000 J1) fun v6 J5 => if (v6 : Int32) = 0 then (f_X7_beat_p32 J5) else (cI (f_X7_isWithin a3 1 40 J5) fun v8 J7 => if (v8 : Int32) = 0 then (f_X7_beat_p32 J7) else (ix a1 24 fun j9 => ix a1 24 fun j10 => f_X7_beat_p62 FU 0 (mup (mup J7 2 0 j9 a2) 3 0 j10 a3))))
set_option maxRecDepth 100000 in
set_option maxHeartbeats 4000000 in
theorem t_X7_beat (a1 : Int32) (a2 : Int32) (a3 : Int32) (I : Mem) : RR M_X7_beat SF SF 0 [some (vR 0 0), some (vI a1), some (vI a2), some (vI a3), none] [] I (f_X7_beat a1 a2 a3 I) := by
  unfold f_X7_beat
  exact rr_seg [(2, 0, 0, 0, 0), (25, 7, 0, 20, 0), (1, 1, 0, 0, 0)] 5 [some (vR 0 0), some (vI a1), some (vI a2), some (vI a3), none] [vI a1, vR 1 0] I (by decide +kernel) rfl <| rr_cVI M_X4_holds 1 0 [vI a1] [] 88 (by decide +kernel)  lk_7_88 mk_X4_holds rfl rfl rfl (Nat.le_refl _) (Nat.le_refl _) (t_X4_holds a1 I) fun v2 J1 => rr_if_eq 32 (by decide +kernel) (rr_mask [true, false, false, false, true] rfl <| t_X7_beat_p32 J1) (rr_seg [(1, 2, 0, 0, 0), (0, 0, 0, 0, 0), (0, 2, 0, 0, 10000)] 16 [some (vR 0 0), some (vI a1), some (vI a2), some (vI a3), none] [vI 10000, vI 0, vI a2] J1 (by decide +kernel) rfl <| rr_cSI M_X7_isWithin [vI a2, vI 0, vI 10000] [] 68 (by decide +kernel)  lk_7_68 mk_X7_isWithin rfl rfl rfl (Nat.le_refl _) (Nat.le_refl _) (t_X7_isWithin a2 0 10000 J1) fun v6 J5 => rr_if_eq 32 (by decide +kernel) (rr_mask [true, false, false, false, true] rfl <| t_X7_beat_p32 J5) (rr_seg [(1, 3, 0, 0, 0), (0, 0, 0, 0, 1), (0, 1, 0, 0, 40)] 26 [some (vR 0 0), some (vI a1), some (vI a2), some (vI a3), none] [vI 40, vI 1, vI a3] J5 (by decide +kernel) rfl <| rr_cSI M_X7_isWithin [vI a3, vI 1, vI 40] [] 68 (by decide +kernel)  lk_7_68 mk_X7_isWithin rfl rfl rfl (Nat.le_refl _) (Nat.le_refl _) (t_X7_isWithin a3 1 40 J5) fun v8 J7 => rr_if_ne 39 (by decide +kernel) (rr_seg [(2, 0, 0, 0, 0), (25, 7, 0, 20, 0), (25, 4, 1, 92, 0), (1, 1, 0, 0, 0), (1, 2, 0, 0, 0)] 48 [some (vR 0 0), some (vI a1), some (vI a2), some (vI a3), none] [vI a2, vI a1, vR 2 0] J7 (by decide +kernel) rfl <| rr_sta 24 (by decide +kernel) rfl rfl rfl fun j9 => rr_seg [(2, 0, 0, 0, 0), (25, 7, 0, 20, 0), (25, 4, 2, 95, 0), (1, 1, 0, 0, 0), (1, 3, 0, 0, 0)] 58 [some (vR 0 0), some (vI a1), some (vI a2), some (vI a3), none] [vI a3, vI a1, vR 3 0] (mup J7 2 0 j9 a2) (by decide +kernel) rfl <| rr_sta 24 (by decide +kernel) rfl rfl rfl fun j10 => rr_seg [(0, 0, 0, 0, 0), (4, 4, 1, 0, 0)] 62 [some (vR 0 0), some (vI a1), some (vI a2), some (vI a3), some (vI 0)] [] (mup (mup J7 2 0 j9 a2) 3 0 j10 a3) (by decide +kernel) rfl <| rr_mask [true, false, false, false, true] rfl <| t_X7_beat_p62 FU 0 (mup (mup J7 2 0 j9 a2) 3 0 j10 a3)) (rr_mask [true, false, false, false, true] rfl <| t_X7_beat_p32 J7)))
-- X8_isBeat
def f_X8_isBeat (a1 : Int32) (I : Mem) : RT := cI (f_X8_in a1 0 ((I 33 0 0) - 1) I) fun v2 J1 => rZ v2 J1
set_option maxRecDepth 100000 in
set_option maxHeartbeats 4000000 in
theorem t_X8_isBeat (a1 : Int32) (I : Mem) : RR M_X8_isBeat SF SF 0 [some (vR 33 0), some (vI a1)] [] I (f_X8_isBeat a1 I) := by
  unfold f_X8_isBeat
  exact rr_seg [(1, 1, 0, 0, 0), (0, 0, 0, 0, 0), (2, 0, 0, 0, 0), (24, 8, 0, 7, 0), (0, 0, 0, 0, 1), (9, 0, 0, 0, 0)] 8 [some (vR 33 0), some (vI a1)] [vI ((I 33 0 0) - 1), vI 0, vI a1] I (by decide +kernel) rfl <| rr_cSI M_X8_in [vI a1, vI 0, vI ((I 33 0 0) - 1)] [] 142 (by decide +kernel)  lk_8_142 mk_X8_in rfl rfl rfl (Nat.le_refl _) (Nat.le_refl _) (t_X8_in a1 0 ((I 33 0 0) - 1) I) fun v2 J1 => rr_retZ (by decide +kernel) rfl
-- X8_beat
def f_X8_beat_p29  (I : Mem) : RT := cI (f_X8_answer (-1000001) I) fun v4 J3 => rI v4 J3
set_option maxRecDepth 100000 in
set_option maxHeartbeats 4000000 in
theorem t_X8_beat_p29  (I : Mem) : RR M_X8_beat SF SF 29 [some (vR 33 0), none, none, none] [] I (f_X8_beat_p29  I) := by
  unfold f_X8_beat_p29
  exact rr_seg [(2, 0, 0, 0, 0), (0, 3, 0, 132, -1000001)] 32 [some (vR 33 0), none, none, none] [vI (-1000001), vR 33 0] I (by decide +kernel) rfl <| rr_cVI M_X8_answer 33 0 [vI (-1000001)] [] 146 (by decide +kernel)  lk_8_146 mk_X8_answer rfl rfl rfl (Nat.le_refl _) (Nat.le_refl _) (t_X8_answer (-1000001) I) fun v4 J3 => rr_iret (by decide +kernel) trivial
def f_X8_beat (a1 : Int32) (a2 : Int32) (a3 : Int32) (I : Mem) : RT := cI (f_X8_isBeat a1 I) fun v2 J1 => if (v2 : Int32) = 0 then (f_X8_beat_p29 J1) else (cI (f_X8_in a2 0 10000 J1) fun v6 J5 => if (v6 : Int32) = 0 then (f_X8_beat_p29 J5) else (cI (f_X8_in a3 1 40 J5) fun v8 J7 => if (v8 : Int32) = 0 then (f_X8_beat_p29 J7) else (ix a1 24 fun j9 => ix a1 24 fun j10 => cV (f_X8_layNone (mup (mup J7 34 0 j9 a2) 35 0 j10 a3)) fun J11 => rI 1 J11)))
set_option maxRecDepth 100000 in
set_option maxHeartbeats 4000000 in
theorem t_X8_beat (a1 : Int32) (a2 : Int32) (a3 : Int32) (I : Mem) : RR M_X8_beat SF SF 0 [some (vR 33 0), some (vI a1), some (vI a2), some (vI a3)] [] I (f_X8_beat a1 a2 a3 I) := by
  unfold f_X8_beat
  exact rr_seg [(2, 0, 0, 0, 0), (1, 1, 0, 0, 0)] 2 [some (vR 33 0), some (vI a1), some (vI a2), some (vI a3)] [vI a1, vR 33 0] I (by decide +kernel) rfl <| rr_cVI M_X8_isBeat 33 0 [vI a1] [] 154 (by decide +kernel)  lk_8_154 mk_X8_isBeat rfl rfl rfl (Nat.le_refl _) (Nat.le_refl _) (t_X8_isBeat a1 I) fun v2 J1 => rr_if_eq 29 (by decide +kernel) (rr_mask [true, false, false, false] rfl <| t_X8_beat_p29 J1) (rr_seg [(1, 2, 0, 0, 0), (0, 0, 0, 0, 0), (0, 2, 0, 0, 10000)] 13 [some (vR 33 0), some (vI a1), some (vI a2), some (vI a3)] [vI 10000, vI 0, vI a2] J1 (by decide +kernel) rfl <| rr_cSI M_X8_in [vI a2, vI 0, vI 10000] [] 142 (by decide +kernel)  lk_8_142 mk_X8_in rfl rfl rfl (Nat.le_refl _) (Nat.le_refl _) (t_X8_in a2 0 10000 J1) fun v6 J5 => rr_if_eq 29 (by decide +kernel) (rr_mask [true, false, false, false] rfl <| t_X8_beat_p29 J5) (rr_seg [(1, 3, 0, 0, 0), (0, 0, 0, 0, 1), (0, 1, 0, 0, 40)] 23 [some (vR 33 0), some (vI a1), some (vI a2), some (vI a3)] [vI 40, vI 1, vI a3] J5 (by decide +kernel) rfl <| rr_cSI M_X8_in [vI a3, vI 1, vI 40] [] 142 (by decide +kernel)  lk_8_142 mk_X8_in rfl rfl rfl (Nat.le_refl _) (Nat.le_refl _) (t_X8_in a3 1 40 J5) fun v8 J7 => rr_if_ne 36 (by decide +kernel) (rr_seg [(2, 0, 0, 0, 0), (25, 8, 1, 13, 0), (1, 1, 0, 0, 0), (1, 2, 0, 0, 0)] 42 [some (vR 33 0), some (vI a1), some (vI a2), some (vI a3)] [vI a2, vI a1, vR 34 0] J7 (by decide +kernel) rfl <| rr_sta 24 (by decide +kernel) rfl rfl rfl fun j9 => rr_seg [(2, 0, 0, 0, 0), (25, 8, 2, 17, 0), (1, 1, 0, 0, 0), (1, 3, 0, 0, 0)] 49 [some (vR 33 0), some (vI a1), some (vI a2), some (vI a3)] [vI a3, vI a1, vR 35 0] (mup J7 34 0 j9 a2) (by decide +kernel) rfl <| rr_sta 24 (by decide +kernel) rfl rfl rfl fun j10 => rr_seg [(2, 0, 0, 0, 0)] 51 [some (vR 33 0), some (vI a1), some (vI a2), some (vI a3)] [vR 33 0] (mup (mup J7 34 0 j9 a2) 35 0 j10 a3) (by decide +kernel) rfl <| rr_cVV M_X8_layNone 33 0 [] [] 135 (by decide +kernel)  lk_8_135 mk_X8_layNone rfl rfl rfl (Nat.le_refl _) (Nat.le_refl _) (t_X8_layNone (mup (mup J7 34 0 j9 a2) 35 0 j10 a3)) fun J11 => rr_seg [(0, 0, 0, 0, 1)] 55 [some (vR 33 0), some (vI a1), some (vI a2), some (vI a3)] [vI 1] J11 (by decide +kernel) rfl <| rr_iret (by decide +kernel) trivial) (rr_mask [true, false, false, false] rfl <| t_X8_beat_p29 J7)))
-- X7_isTake
def f_X7_isTake (a0 : Int32) (I : Mem) : RT := cI (f_X7_isWithin a0 0 5 I) fun v2 J1 => rZ v2 J1
set_option maxRecDepth 100000 in
set_option maxHeartbeats 4000000 in
theorem t_X7_isTake (a0 : Int32) (I : Mem) : RR M_X7_isTake SF SF 0 [some (vI a0)] [] I (f_X7_isTake a0 I) := by
  unfold f_X7_isTake
  exact rr_seg [(1, 0, 0, 0, 0), (0, 0, 0, 0, 0), (0, 0, 0, 0, 5)] 3 [some (vI a0)] [vI 5, vI 0, vI a0] I (by decide +kernel) rfl <| rr_cSI M_X7_isWithin [vI a0, vI 0, vI 5] [] 68 (by decide +kernel)  lk_7_68 mk_X7_isWithin rfl rfl rfl (Nat.le_refl _) (Nat.le_refl _) (t_X7_isWithin a0 0 5 I) fun v2 J1 => rr_retZ (by decide +kernel) rfl
-- X7_isKind
def f_X7_isKind (a0 : Int32) (I : Mem) : RT := cI (f_X7_isWithin a0 0 4 I) fun v2 J1 => rZ v2 J1
set_option maxRecDepth 100000 in
set_option maxHeartbeats 4000000 in
theorem t_X7_isKind (a0 : Int32) (I : Mem) : RR M_X7_isKind SF SF 0 [some (vI a0)] [] I (f_X7_isKind a0 I) := by
  unfold f_X7_isKind
  exact rr_seg [(1, 0, 0, 0, 0), (0, 0, 0, 0, 0), (0, 0, 0, 0, 4)] 3 [some (vI a0)] [vI 4, vI 0, vI a0] I (by decide +kernel) rfl <| rr_cSI M_X7_isWithin [vI a0, vI 0, vI 4] [] 68 (by decide +kernel)  lk_7_68 mk_X7_isWithin rfl rfl rfl (Nat.le_refl _) (Nat.le_refl _) (t_X7_isWithin a0 0 4 I) fun v2 J1 => rr_retZ (by decide +kernel) rfl
