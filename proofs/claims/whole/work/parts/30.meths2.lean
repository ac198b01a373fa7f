set_option maxRecDepth 100000 in
theorem ob_i : Cond.instanceMethod objectInit ∈ wAll := w_at 79 rfl rfl
set_option maxRecDepth 100000 in
theorem ob_c : Cond.code objectInit ⟨#[0xb1]⟩ 1 none ∈ wAll := w_at 80 rfl rfl
set_option maxRecDepth 100000 in
theorem ac_int : Cond.arrayClass .int ∈ wAll := w_at 117 rfl rfl
set_option maxRecDepth 100000 in
theorem ac_boolean : Cond.arrayClass .boolean ∈ wAll := w_at 118 rfl rfl
/-- a counter against its bound, both known -/
theorem rr_geC {M : MD} {s s' pc : Nat} {L : LC} {st : List PV} {I : Mem} {X : RT} {x y : Int32} (tg : Nat) (b : Bool) (hd : decode M.2.2.1 pc = .ok (.if_icmp .ge ((tg : Int) - (pc : Int)), 3)) {v : Int32} (hv : x = v) (hb : decide (y ≤ v) = b) (k : RR M s s' (if b = true then tg else pc + 3) L st I X) : RR M s s' pc L (vI y :: vI x :: st) I X := by
  subst hv
  cases b with
  | true =>
    have h := rr_ic_ge (x := x) (y := y) (Y := none) tg hd k rr_none
    rwa [if_pos (of_decide_eq_true hb)] at h
  | false =>
    have h := rr_ic_ge (x := x) (y := y) (X := none) tg hd rr_none k
    rwa [if_neg (of_decide_eq_false hb)] at h
def M_X7_init : MD := (7, yX7_init, cX7_init, 4, none, 3, 55)
def M_X4_init : MD := (4, yX4_init, cX4_init, 1, none, 1, 22)
def M_X6_init : MD := (6, yX6_init, cX6_init, 1, none, 1, 12)
def M_X1_init : MD := (1, yX1_init, cX1_init, 2, none, 1, 23)
def M_X2_init : MD := (2, yX2_init, cX2_init, 1, none, 1, 12)
def M_X0_init : MD := (0, yX0_init, cX0_init, 4, none, 1, 12)
def M_X3_init : MD := (3, yX3_init, cX3_init, 4, none, 2, 32)
def M_X5_init : MD := (5, yX5_init, cX5_init, 1, none, 1, 12)
def M_X8_init : MD := (8, yX8_init, cX8_init, 2, none, 2, 42)
def M_L_law : MD := (11, yL_law, cL_law, 4, some .boolean, 9, 225)
set_option maxRecDepth 100000 in
theorem mk_X7_init : mOk M_X7_init 2 0 := ⟨w_at 77 rfl rfl, w_at 62 rfl rfl, by decide +kernel, rfl, by decide +kernel, by decide +kernel, by decide +kernel, w_at 76 rfl rfl, rfl, rfl⟩
set_option maxRecDepth 100000 in
theorem mk_X4_init : mOk M_X4_init 2 0 := ⟨w_at 85 rfl rfl, w_at 63 rfl rfl, by decide +kernel, rfl, by decide +kernel, by decide +kernel, by decide +kernel, w_at 84 rfl rfl, rfl, rfl⟩
set_option maxRecDepth 100000 in
theorem mk_X6_init : mOk M_X6_init 2 0 := ⟨w_at 124 rfl rfl, w_at 64 rfl rfl, by decide +kernel, rfl, by decide +kernel, by decide +kernel, by decide +kernel, w_at 123 rfl rfl, rfl, rfl⟩
set_option maxRecDepth 100000 in
theorem mk_X1_init : mOk M_X1_init 2 1 := ⟨w_at 183 rfl rfl, w_at 65 rfl rfl, by decide +kernel, rfl, by decide +kernel, by decide +kernel, by decide +kernel, w_at 182 rfl rfl, rfl, rfl⟩
set_option maxRecDepth 100000 in
theorem mk_X2_init : mOk M_X2_init 2 0 := ⟨w_at 220 rfl rfl, w_at 67 rfl rfl, by decide +kernel, rfl, by decide +kernel, by decide +kernel, by decide +kernel, w_at 219 rfl rfl, rfl, rfl⟩
set_option maxRecDepth 100000 in
theorem mk_X0_init : mOk M_X0_init 2 3 := ⟨w_at 236 rfl rfl, w_at 68 rfl rfl, by decide +kernel, rfl, by decide +kernel, by decide +kernel, by decide +kernel, w_at 235 rfl rfl, rfl, rfl⟩
set_option maxRecDepth 100000 in
theorem mk_X3_init : mOk M_X3_init 2 2 := ⟨w_at 268 rfl rfl, w_at 69 rfl rfl, by decide +kernel, rfl, by decide +kernel, by decide +kernel, by decide +kernel, w_at 267 rfl rfl, rfl, rfl⟩
set_option maxRecDepth 100000 in
theorem mk_X5_init : mOk M_X5_init 2 0 := ⟨w_at 275 rfl rfl, w_at 70 rfl rfl, by decide +kernel, rfl, by decide +kernel, by decide +kernel, by decide +kernel, w_at 274 rfl rfl, rfl, rfl⟩
set_option maxRecDepth 100000 in
theorem mk_X8_init : mOk M_X8_init 2 0 := ⟨w_at 793 rfl rfl, w_at 71 rfl rfl, by decide +kernel, rfl, by decide +kernel, by decide +kernel, by decide +kernel, w_at 792 rfl rfl, rfl, rfl⟩
set_option maxRecDepth 100000 in
theorem lk_3_33 : Cond.methodLinkNest (onm 3) 33 M_X5_init.2.1 "TakeDesk" ∈ nwW := by decide +kernel
set_option maxRecDepth 100000 in
theorem lk_4_25 : Cond.methodLink (onm 4) 25 M_X4_renew.2.1 ∈ wAll := w_at 87 rfl rfl
set_option maxRecDepth 100000 in
theorem lk_7_11 : Cond.methodLink (onm 7) 11 M_X4_init.2.1 ∈ wAll := w_at 83 rfl rfl
set_option maxRecDepth 100000 in
theorem lk_7_14 : Cond.methodLinkNest (onm 7) 14 M_X6_init.2.1 "TakeDesk" ∈ nwW := by decide +kernel
set_option maxRecDepth 100000 in
theorem lk_7_17 : Cond.methodLink (onm 7) 17 M_X1_init.2.1 ∈ wAll := w_at 181 rfl rfl
set_option maxRecDepth 100000 in
theorem lk_7_30 : Cond.methodLinkNest (onm 7) 30 M_X2_init.2.1 "TakeDesk" ∈ nwW := by decide +kernel
set_option maxRecDepth 100000 in
theorem lk_7_41 : Cond.methodLink (onm 7) 41 M_X0_init.2.1 ∈ wAll := w_at 234 rfl rfl
set_option maxRecDepth 100000 in
theorem lk_7_50 : Cond.methodLink (onm 7) 50 M_X3_init.2.1 ∈ wAll := w_at 266 rfl rfl
set_option maxRecDepth 100000 in
theorem lk_11_9 : Cond.methodLink (onm 11) 9 M_X7_init.2.1 ∈ wAll := w_at 75 rfl rfl
set_option maxRecDepth 100000 in
theorem lk_11_12 : Cond.methodLink (onm 11) 12 M_X8_init.2.1 ∈ wAll := w_at 791 rfl rfl
set_option maxRecDepth 100000 in
theorem lk_11_13 : Cond.methodLink (onm 11) 13 M_X7_score.2.1 ∈ wAll := w_at 364 rfl rfl
set_option maxRecDepth 100000 in
theorem lk_11_17 : Cond.methodLink (onm 11) 17 M_X8_score.2.1 ∈ wAll := w_at 930 rfl rfl
set_option maxRecDepth 100000 in
theorem lk_11_18 : Cond.methodLink (onm 11) 18 M_X7_beat.2.1 ∈ wAll := w_at 391 rfl rfl
set_option maxRecDepth 100000 in
theorem lk_11_22 : Cond.methodLink (onm 11) 22 M_X8_beat.2.1 ∈ wAll := w_at 948 rfl rfl
set_option maxRecDepth 100000 in
theorem lk_11_23 : Cond.methodLink (onm 11) 23 M_X7_take.2.1 ∈ wAll := w_at 403 rfl rfl
set_option maxRecDepth 100000 in
theorem lk_11_27 : Cond.methodLink (onm 11) 27 M_X8_take.2.1 ∈ wAll := w_at 956 rfl rfl
set_option maxRecDepth 100000 in
theorem lk_11_28 : Cond.methodLink (onm 11) 28 M_X7_tear.2.1 ∈ wAll := w_at 418 rfl rfl
set_option maxRecDepth 100000 in
theorem lk_11_31 : Cond.methodLink (onm 11) 31 M_X8_tear.2.1 ∈ wAll := w_at 967 rfl rfl
set_option maxRecDepth 100000 in
theorem lk_11_32 : Cond.methodLink (onm 11) 32 M_X7_play.2.1 ∈ wAll := w_at 427 rfl rfl
set_option maxRecDepth 100000 in
theorem lk_11_36 : Cond.methodLink (onm 11) 36 M_X8_play.2.1 ∈ wAll := w_at 976 rfl rfl
set_option maxRecDepth 100000 in
theorem lk_11_37 : Cond.methodLink (onm 11) 37 M_X7_copy.2.1 ∈ wAll := w_at 446 rfl rfl
set_option maxRecDepth 100000 in
theorem lk_11_40 : Cond.methodLink (onm 11) 40 M_X8_copy.2.1 ∈ wAll := w_at 987 rfl rfl
set_option maxRecDepth 100000 in
theorem lk_11_41 : Cond.methodLink (onm 11) 41 M_X7_put.2.1 ∈ wAll := w_at 464 rfl rfl
set_option maxRecDepth 100000 in
theorem lk_11_44 : Cond.methodLink (onm 11) 44 M_X8_put.2.1 ∈ wAll := w_at 993 rfl rfl
set_option maxRecDepth 100000 in
theorem lk_11_45 : Cond.methodLink (onm 11) 45 M_X7_sample.2.1 ∈ wAll := w_at 469 rfl rfl
set_option maxRecDepth 100000 in
theorem lk_11_49 : Cond.methodLink (onm 11) 49 M_X8_sample.2.1 ∈ wAll := w_at 997 rfl rfl
set_option maxRecDepth 100000 in
theorem lk_11_50 : Cond.methodLink (onm 11) 50 M_X7_as.2.1 ∈ wAll := w_at 473 rfl rfl
set_option maxRecDepth 100000 in
theorem lk_11_53 : Cond.methodLink (onm 11) 53 M_X8_as.2.1 ∈ wAll := w_at 1001 rfl rfl
set_option maxRecDepth 100000 in
theorem lk_11_54 : Cond.methodLink (onm 11) 54 M_X7_level.2.1 ∈ wAll := w_at 478 rfl rfl
set_option maxRecDepth 100000 in
theorem lk_11_57 : Cond.methodLink (onm 11) 57 M_X8_level.2.1 ∈ wAll := w_at 1014 rfl rfl
set_option maxRecDepth 100000 in
theorem lk_11_58 : Cond.methodLink (onm 11) 58 M_X7_hand.2.1 ∈ wAll := w_at 490 rfl rfl
set_option maxRecDepth 100000 in
theorem lk_11_61 : Cond.methodLink (onm 11) 61 M_X8_hand.2.1 ∈ wAll := w_at 1026 rfl rfl
set_option maxRecDepth 100000 in
theorem lk_11_62 : Cond.methodLink (onm 11) 62 M_X7_lay.2.1 ∈ wAll := w_at 502 rfl rfl
set_option maxRecDepth 100000 in
theorem lk_11_65 : Cond.methodLink (onm 11) 65 M_X8_lay.2.1 ∈ wAll := w_at 1034 rfl rfl
set_option maxRecDepth 100000 in
theorem lk_11_66 : Cond.methodLink (onm 11) 66 M_X7_frame.2.1 ∈ wAll := w_at 540 rfl rfl
set_option maxRecDepth 100000 in
theorem lk_11_69 : Cond.methodLink (onm 11) 69 M_X8_frame.2.1 ∈ wAll := w_at 1050 rfl rfl
set_option maxRecDepth 100000 in
theorem lk_11_70 : Cond.methodLink (onm 11) 70 M_X7_mark.2.1 ∈ wAll := w_at 545 rfl rfl
set_option maxRecDepth 100000 in
theorem lk_11_73 : Cond.methodLink (onm 11) 73 M_X8_mark.2.1 ∈ wAll := w_at 1055 rfl rfl
set_option maxRecDepth 100000 in
theorem lk_11_74 : Cond.methodLink (onm 11) 74 M_X7_worth.2.1 ∈ wAll := w_at 549 rfl rfl
set_option maxRecDepth 100000 in
theorem lk_11_77 : Cond.methodLink (onm 11) 77 M_X8_worth.2.1 ∈ wAll := w_at 1059 rfl rfl
set_option maxRecDepth 100000 in
theorem lk_11_78 : Cond.methodLink (onm 11) 78 M_X7_set.2.1 ∈ wAll := w_at 560 rfl rfl
set_option maxRecDepth 100000 in
theorem lk_11_81 : Cond.methodLink (onm 11) 81 M_X8_set.2.1 ∈ wAll := w_at 1067 rfl rfl
set_option maxRecDepth 100000 in
theorem lk_11_82 : Cond.methodLink (onm 11) 82 M_X7_like.2.1 ∈ wAll := w_at 576 rfl rfl
set_option maxRecDepth 100000 in
theorem lk_11_85 : Cond.methodLink (onm 11) 85 M_X8_like.2.1 ∈ wAll := w_at 1071 rfl rfl
set_option maxRecDepth 100000 in
theorem lk_11_86 : Cond.methodLink (onm 11) 86 M_X7_shift.2.1 ∈ wAll := w_at 607 rfl rfl
set_option maxRecDepth 100000 in
theorem lk_11_89 : Cond.methodLink (onm 11) 89 M_X8_shift.2.1 ∈ wAll := w_at 1092 rfl rfl
set_option maxRecDepth 100000 in
theorem lk_11_90 : Cond.methodLink (onm 11) 90 M_X7_cost.2.1 ∈ wAll := w_at 625 rfl rfl
set_option maxRecDepth 100000 in
theorem lk_11_93 : Cond.methodLink (onm 11) 93 M_X8_cost.2.1 ∈ wAll := w_at 1100 rfl rfl
set_option maxRecDepth 100000 in
theorem lk_11_94 : Cond.methodLink (onm 11) 94 M_X7_bar.2.1 ∈ wAll := w_at 633 rfl rfl
set_option maxRecDepth 100000 in
theorem lk_11_98 : Cond.methodLink (onm 11) 98 M_X8_bar.2.1 ∈ wAll := w_at 1108 rfl rfl
set_option maxRecDepth 100000 in
theorem lk_11_99 : Cond.methodLink (onm 11) 99 M_X7_keep.2.1 ∈ wAll := w_at 637 rfl rfl
set_option maxRecDepth 100000 in
theorem lk_11_102 : Cond.methodLink (onm 11) 102 M_X8_keep.2.1 ∈ wAll := w_at 1112 rfl rfl
set_option maxRecDepth 100000 in
theorem lk_11_103 : Cond.methodLink (onm 11) 103 M_X7_best.2.1 ∈ wAll := w_at 641 rfl rfl
set_option maxRecDepth 100000 in
theorem lk_11_106 : Cond.methodLink (onm 11) 106 M_X8_best.2.1 ∈ wAll := w_at 1116 rfl rfl
set_option maxRecDepth 100000 in
theorem lk_11_107 : Cond.methodLink (onm 11) 107 M_X7_few.2.1 ∈ wAll := w_at 712 rfl rfl
set_option maxRecDepth 100000 in
theorem lk_11_110 : Cond.methodLink (onm 11) 110 M_X8_few_.2.1 ∈ wAll := w_at 1156 rfl rfl
set_option maxRecDepth 100000 in
theorem lk_11_111 : Cond.methodLink (onm 11) 111 M_X7_way.2.1 ∈ wAll := w_at 728 rfl rfl
set_option maxRecDepth 100000 in
theorem lk_11_114 : Cond.methodLink (onm 11) 114 M_X8_way.2.1 ∈ wAll := w_at 1167 rfl rfl
set_option maxRecDepth 100000 in
theorem lk_11_115 : Cond.methodLink (onm 11) 115 M_X7_joins.2.1 ∈ wAll := w_at 732 rfl rfl
set_option maxRecDepth 100000 in
theorem lk_11_119 : Cond.methodLink (onm 11) 119 M_X8_joins.2.1 ∈ wAll := w_at 1171 rfl rfl
set_option maxRecDepth 100000 in
theorem lk_11_120 : Cond.methodLink (onm 11) 120 M_X7_made.2.1 ∈ wAll := w_at 740 rfl rfl
set_option maxRecDepth 100000 in
theorem lk_11_123 : Cond.methodLink (onm 11) 123 M_X8_made.2.1 ∈ wAll := w_at 1179 rfl rfl
set_option maxRecDepth 100000 in
theorem lk_11_124 : Cond.methodLink (onm 11) 124 M_X7_heard.2.1 ∈ wAll := w_at 744 rfl rfl
set_option maxRecDepth 100000 in
theorem lk_11_127 : Cond.methodLink (onm 11) 127 M_X8_heard.2.1 ∈ wAll := w_at 1192 rfl rfl
set_option maxRecDepth 100000 in
theorem lk_11_128 : Cond.methodLink (onm 11) 128 M_X7_from.2.1 ∈ wAll := w_at 766 rfl rfl
set_option maxRecDepth 100000 in
theorem lk_11_131 : Cond.methodLink (onm 11) 131 M_X8_from.2.1 ∈ wAll := w_at 1196 rfl rfl
set_option maxRecDepth 100000 in
theorem lk_11_132 : Cond.methodLink (onm 11) 132 M_X7_tell.2.1 ∈ wAll := w_at 772 rfl rfl
set_option maxRecDepth 100000 in
theorem lk_11_135 : Cond.methodLink (onm 11) 135 M_X8_tell.2.1 ∈ wAll := w_at 1200 rfl rfl
set_option maxRecDepth 100000 in
theorem lk_11_136 : Cond.methodLink (onm 11) 136 M_X7_check.2.1 ∈ wAll := w_at 776 rfl rfl
set_option maxRecDepth 100000 in
theorem lk_11_139 : Cond.methodLink (onm 11) 139 M_X8_check.2.1 ∈ wAll := w_at 1204 rfl rfl
set_option maxRecDepth 100000 in
theorem lk_11_140 : Cond.methodLink (onm 11) 140 M_X7_found.2.1 ∈ wAll := w_at 785 rfl rfl
set_option maxRecDepth 100000 in
theorem lk_11_143 : Cond.methodLink (onm 11) 143 M_X8_found.2.1 ∈ wAll := w_at 1208 rfl rfl
set_option maxRecDepth 100000 in
theorem ob_0_3 : Cond.methodLink (onm 0) 3 objectInit ∈ wAll ∧ Cond.instanceMethod objectInit ∈ wAll ∧ Cond.code objectInit ⟨#[0xb1]⟩ 1 none ∈ wAll := ⟨w_at 237 rfl rfl, ob_i, ob_c⟩
set_option maxRecDepth 100000 in
theorem ob_1_3 : Cond.methodLink (onm 1) 3 objectInit ∈ wAll ∧ Cond.instanceMethod objectInit ∈ wAll ∧ Cond.code objectInit ⟨#[0xb1]⟩ 1 none ∈ wAll := ⟨w_at 184 rfl rfl, ob_i, ob_c⟩
set_option maxRecDepth 100000 in
theorem ob_2_3 : Cond.methodLink (onm 2) 3 objectInit ∈ wAll ∧ Cond.instanceMethod objectInit ∈ wAll ∧ Cond.code objectInit ⟨#[0xb1]⟩ 1 none ∈ wAll := ⟨w_at 221 rfl rfl, ob_i, ob_c⟩
set_option maxRecDepth 100000 in
theorem ob_3_3 : Cond.methodLink (onm 3) 3 objectInit ∈ wAll ∧ Cond.instanceMethod objectInit ∈ wAll ∧ Cond.code objectInit ⟨#[0xb1]⟩ 1 none ∈ wAll := ⟨w_at 269 rfl rfl, ob_i, ob_c⟩
set_option maxRecDepth 100000 in
theorem ob_4_3 : Cond.methodLink (onm 4) 3 objectInit ∈ wAll ∧ Cond.instanceMethod objectInit ∈ wAll ∧ Cond.code objectInit ⟨#[0xb1]⟩ 1 none ∈ wAll := ⟨w_at 86 rfl rfl, ob_i, ob_c⟩
set_option maxRecDepth 100000 in
theorem ob_5_1 : Cond.methodLink (onm 5) 1 objectInit ∈ wAll ∧ Cond.instanceMethod objectInit ∈ wAll ∧ Cond.code objectInit ⟨#[0xb1]⟩ 1 none ∈ wAll := ⟨w_at 276 rfl rfl, ob_i, ob_c⟩
set_option maxRecDepth 100000 in
theorem ob_6_3 : Cond.methodLink (onm 6) 3 objectInit ∈ wAll ∧ Cond.instanceMethod objectInit ∈ wAll ∧ Cond.code objectInit ⟨#[0xb1]⟩ 1 none ∈ wAll := ⟨w_at 125 rfl rfl, ob_i, ob_c⟩
set_option maxRecDepth 100000 in
theorem ob_7_3 : Cond.methodLink (onm 7) 3 objectInit ∈ wAll ∧ Cond.instanceMethod objectInit ∈ wAll ∧ Cond.code objectInit ⟨#[0xb1]⟩ 1 none ∈ wAll := ⟨w_at 78 rfl rfl, ob_i, ob_c⟩
set_option maxRecDepth 100000 in
theorem ob_8_1 : Cond.methodLink (onm 8) 1 objectInit ∈ wAll ∧ Cond.instanceMethod objectInit ∈ wAll ∧ Cond.code objectInit ⟨#[0xb1]⟩ 1 none ∈ wAll := ⟨w_at 794 rfl rfl, ob_i, ob_c⟩
set_option maxRecDepth 100000 in
theorem nr_3_19 : Cond.classLink (onm 3) 19 (rcl (1 + 2)) ∈ wAll := w_at 270 rfl rfl
set_option maxRecDepth 100000 in
theorem nr_7_12 : Cond.classLink (onm 7) 12 (rcl (0 + 2)) ∈ wAll := w_at 119 rfl rfl
set_option maxRecDepth 100000 in
theorem nk_11_10 : Cond.classLink (onm 11) 10 RX8 ∈ wAll ∧ Cond.instantiable RX8 42 ∈ wAll ∧ Cond.initialized RX8 ∈ wAll := ⟨w_at 789 rfl rfl, w_at 790 rfl rfl, w_at 71 rfl rfl⟩
set_option maxRecDepth 100000 in
theorem nk_11_7 : Cond.classLink (onm 11) 7 RX7 ∈ wAll ∧ Cond.instantiable RX7 9 ∈ wAll ∧ Cond.initialized RX7 ∈ wAll := ⟨w_at 73 rfl rfl, w_at 74 rfl rfl, w_at 62 rfl rfl⟩
set_option maxRecDepth 100000 in
theorem nk_3_19 : Cond.classLink (onm 3) 19 RX5 ∈ wAll ∧ Cond.instantiable RX5 8 ∈ wAll ∧ Cond.initialized RX5 ∈ wAll := ⟨w_at 270 rfl rfl, w_at 272 rfl rfl, w_at 70 rfl rfl⟩
set_option maxRecDepth 100000 in
theorem nk_7_12 : Cond.classLink (onm 7) 12 RX6 ∈ wAll ∧ Cond.instantiable RX6 11 ∈ wAll ∧ Cond.initialized RX6 ∈ wAll := ⟨w_at 119 rfl rfl, w_at 121 rfl rfl, w_at 64 rfl rfl⟩
set_option maxRecDepth 100000 in
theorem nk_7_15 : Cond.classLink (onm 7) 15 RX1 ∈ wAll ∧ Cond.instantiable RX1 8 ∈ wAll ∧ Cond.initialized RX1 ∈ wAll := ⟨w_at 179 rfl rfl, w_at 180 rfl rfl, w_at 65 rfl rfl⟩
set_option maxRecDepth 100000 in
theorem nk_7_28 : Cond.classLink (onm 7) 28 RX2 ∈ wAll ∧ Cond.instantiable RX2 3 ∈ wAll ∧ Cond.initialized RX2 ∈ wAll := ⟨w_at 216 rfl rfl, w_at 217 rfl rfl, w_at 67 rfl rfl⟩
set_option maxRecDepth 100000 in
theorem nk_7_39 : Cond.classLink (onm 7) 39 RX0 ∈ wAll ∧ Cond.instantiable RX0 8 ∈ wAll ∧ Cond.initialized RX0 ∈ wAll := ⟨w_at 232 rfl rfl, w_at 233 rfl rfl, w_at 68 rfl rfl⟩
set_option maxRecDepth 100000 in
theorem nk_7_48 : Cond.classLink (onm 7) 48 RX3 ∈ wAll ∧ Cond.instantiable RX3 8 ∈ wAll ∧ Cond.initialized RX3 ∈ wAll := ⟨w_at 264 rfl rfl, w_at 265 rfl rfl, w_at 69 rfl rfl⟩
set_option maxRecDepth 100000 in
theorem nk_7_9 : Cond.classLink (onm 7) 9 RX4 ∈ wAll ∧ Cond.instantiable RX4 5 ∈ wAll ∧ Cond.initialized RX4 ∈ wAll := ⟨w_at 81 rfl rfl, w_at 82 rfl rfl, w_at 63 rfl rfl⟩
