/-! ===== the methods: class, name, code, locals, answer, room ===== -/
def M_X7_isWithin : MD := (7, yX7_isWithin, cX7_isWithin, 3, some .boolean, 0, 0)
def M_X4_renew : MD := (4, yX4_renew, cX4_renew, 3, none, 0, 0)
def M_J7_fill_53178 : MD := (10, yJ7_fill_53178, cJ7_fill_53178, 4, none, 0, 0)
def M_X6_clearBeats : MD := (6, yX6_clearBeats, cX6_clearBeats, 1, none, 1, 23)
def M_X7_isUnder : MD := (7, yX7_isUnder, cX7_isUnder, 4, some .boolean, 0, 0)
def M_X6_meetScore : MD := (6, yX6_meetScore, cX6_meetScore, 2, none, 2, 43)
def M_X7_refuse : MD := (7, yX7_refuse, cX7_refuse, 3, some .int, 0, 0)
def M_X7_score : MD := (7, yX7_score, cX7_score, 3, some .int, 3, 64)
def M_X8_in : MD := (8, yX8_in, cX8_in, 3, some .boolean, 0, 0)
def M_X8_layNone : MD := (8, yX8_layNone, cX8_layNone, 2, none, 0, 0)
def M_X8_begin : MD := (8, yX8_begin, cX8_begin, 2, none, 1, 21)
def M_X8_isPart : MD := (8, yX8_isPart, cX8_isPart, 2, some .boolean, 0, 0)
def M_X8_answer : MD := (8, yX8_answer, cX8_answer, 2, some .int, 0, 0)
def M_X8_score : MD := (8, yX8_score, cX8_score, 3, some .int, 2, 42)
def M_X4_holds : MD := (4, yX4_holds, cX4_holds, 2, some .boolean, 0, 0)
def M_X7_changeTake : MD := (7, yX7_changeTake, cX7_changeTake, 2, none, 0, 0)
def M_X7_beat : MD := (7, yX7_beat, cX7_beat, 5, some .int, 1, 22)
def M_X8_isBeat : MD := (8, yX8_isBeat, cX8_isBeat, 2, some .boolean, 1, 22)
def M_X8_beat : MD := (8, yX8_beat, cX8_beat, 4, some .int, 2, 43)
def M_X7_isTake : MD := (7, yX7_isTake, cX7_isTake, 1, some .boolean, 1, 22)
def M_X7_isKind : MD := (7, yX7_isKind, cX7_isKind, 1, some .boolean, 1, 22)
def M_X6_begin : MD := (6, yX6_begin, cX6_begin, 5, none, 2, 43)
def M_X7_take : MD := (7, yX7_take, cX7_take, 8, some .int, 3, 67)
def M_X8_isTake : MD := (8, yX8_isTake, cX8_isTake, 1, some .boolean, 1, 22)
def M_X8_changed : MD := (8, yX8_changed, cX8_changed, 2, none, 0, 0)
def M_X8_take : MD := (8, yX8_take, cX8_take, 9, some .int, 2, 43)
def M_X7_askTake : MD := (7, yX7_askTake, cX7_askTake, 2, some .int, 2, 42)
def M_X7_tear : MD := (7, yX7_tear, cX7_tear, 3, some .int, 3, 63)
def M_X8_look : MD := (8, yX8_look, cX8_look, 2, some .int, 2, 42)
def M_X8_tear : MD := (8, yX8_tear, cX8_tear, 3, some .int, 3, 63)
def M_X6_room : MD := (6, yX6_room, cX6_room, 1, some .int, 0, 0)
def M_X6_write : MD := (6, yX6_write, cX6_write, 3, none, 0, 0)
def M_X6_append : MD := (6, yX6_append, cX6_append, 2, none, 1, 22)
def M_X7_play : MD := (7, yX7_play, cX7_play, 8, some .int, 3, 63)
def M_X8_add : MD := (8, yX8_add, cX8_add, 3, none, 0, 0)
def M_X8_play : MD := (8, yX8_play, cX8_play, 7, some .int, 2, 42)
def M_X6_soundAt : MD := (6, yX6_soundAt, cX6_soundAt, 2, some .int, 0, 0)
def M_J9_min_7cf53 : MD := (9, yJ9_min_7cf53, cJ9_min_7cf53, 2, some .int, 0, 0)
def M_J9_max_7cf53 : MD := (9, yJ9_max_7cf53, cJ9_max_7cf53, 2, some .int, 0, 0)
def M_X7_askPair : MD := (7, yX7_askPair, cX7_askPair, 3, some .int, 2, 42)
def M_X7_copy : MD := (7, yX7_copy, cX7_copy, 9, some .int, 3, 64)
def M_X8_copy : MD := (8, yX8_copy, cX8_copy, 8, some .int, 2, 42)
def M_X7_put : MD := (7, yX7_put, cX7_put, 5, some .int, 3, 63)
def M_X8_put : MD := (8, yX8_put, cX8_put, 5, some .int, 3, 63)
def M_X7_sample : MD := (7, yX7_sample, cX7_sample, 4, some .int, 3, 63)
def M_X8_sample : MD := (8, yX8_sample, cX8_sample, 4, some .int, 3, 63)
def M_X7_as : MD := (7, yX7_as, cX7_as, 4, some .int, 3, 63)
def M_X8_ends : MD := (8, yX8_ends, cX8_ends, 2, some .int, 1, 21)
def M_X8_begins : MD := (8, yX8_begins, cX8_begins, 2, some .int, 1, 21)
def M_X8_as : MD := (8, yX8_as, cX8_as, 4, some .int, 2, 42)
def M_X6_frameCount : MD := (6, yX6_frameCount, cX6_frameCount, 1, some .int, 0, 0)
def M_X6_levelAt : MD := (6, yX6_levelAt, cX6_levelAt, 6, some .int, 0, 0)
def M_X7_level : MD := (7, yX7_level, cX7_level, 4, some .int, 3, 63)
def M_X8_frameMany : MD := (8, yX8_frameMany, cX8_frameMany, 2, some .int, 0, 0)
def M_X8_levelOf : MD := (8, yX8_levelOf, cX8_levelOf, 7, some .int, 1, 21)
def M_X8_level : MD := (8, yX8_level, cX8_level, 4, some .int, 3, 63)
def M_X6_has : MD := (6, yX6_has, cX6_has, 2, some .boolean, 0, 0)
def M_X7_askTakeBeat : MD := (7, yX7_askTakeBeat, cX7_askTakeBeat, 4, some .int, 3, 63)
def M_X7_hand : MD := (7, yX7_hand, cX7_hand, 5, some .int, 4, 86)
def M_X8_has : MD := (8, yX8_has, cX8_has, 3, some .boolean, 2, 42)
def M_X8_hand : MD := (8, yX8_hand, cX8_hand, 5, some .int, 3, 64)
def M_X2_leastStart : MD := (2, yX2_leastStart, cX2_leastStart, 7, some .int, 0, 0)
def M_X2_write : MD := (2, yX2_write, cX2_write, 6, none, 0, 0)
def M_J9_abs_0f7a4 : MD := (9, yJ9_abs_0f7a4, cJ9_abs_0f7a4, 1, some .int, 0, 0)
def M_X2_leastRest : MD := (2, yX2_leastRest, cX2_leastRest, 10, some .int, 1, 20)
def M_X2_sumUp : MD := (2, yX2_sumUp, cX2_sumUp, 8, none, 2, 49)
def M_X2_place : MD := (2, yX2_place, cX2_place, 7, some .int, 3, 76)
def M_X1_cellOf : MD := (1, yX1_cellOf, cX1_cellOf, 3, some .int, 0, 0)
def M_X1_forgetTake : MD := (1, yX1_forgetTake, cX1_forgetTake, 4, none, 1, 22)
def M_X7_lay : MD := (7, yX7_lay, cX7_lay, 4, some .int, 4, 102)
def M_X8_apart : MD := (8, yX8_apart, cX8_apart, 2, some .int, 0, 0)
def M_X8_behind : MD := (8, yX8_behind, cX8_behind, 8, some .int, 2, 42)
def M_X8_reckon : MD := (8, yX8_reckon, cX8_reckon, 7, none, 3, 69)
def M_X8_lay : MD := (8, yX8_lay, cX8_lay, 10, some .int, 4, 95)
def M_X7_frame : MD := (7, yX7_frame, cX7_frame, 4, some .int, 3, 63)
def M_X8_frame : MD := (8, yX8_frame, cX8_frame, 4, some .int, 3, 64)
def M_X7_mark : MD := (7, yX7_mark, cX7_mark, 6, some .int, 3, 63)
def M_X8_mark : MD := (8, yX8_mark, cX8_mark, 6, some .int, 3, 64)
def M_X6_worthAt : MD := (6, yX6_worthAt, cX6_worthAt, 6, some .int, 1, 23)
def M_X7_worth : MD := (7, yX7_worth, cX7_worth, 4, some .int, 4, 86)
def M_X8_worthOf : MD := (8, yX8_worthOf, cX8_worthOf, 5, some .int, 0, 0)
def M_X8_worth : MD := (8, yX8_worth, cX8_worth, 4, some .int, 3, 64)
def M_X7_isSetting : MD := (7, yX7_isSetting, cX7_isSetting, 3, some .boolean, 1, 22)
def M_X7_setting : MD := (7, yX7_setting, cX7_setting, 2, some .int, 0, 0)
def M_X1_forgetAll : MD := (1, yX1_forgetAll, cX1_forgetAll, 1, none, 1, 23)
def M_X7_set : MD := (7, yX7_set, cX7_set, 4, some .int, 2, 44)
def M_X8_set : MD := (8, yX8_set, cX8_set, 4, some .int, 1, 22)
def M_X6_startOf : MD := (6, yX6_startOf, cX6_startOf, 2, some .int, 0, 0)
def M_X1_listen : MD := (1, yX1_listen, cX1_listen, 6, none, 0, 0)
def M_X1_squaresOf : MD := (1, yX1_squaresOf, cX1_squaresOf, 4, some .int, 0, 0)
def M_X1_liken : MD := (1, yX1_liken, cX1_liken, 5, some .int, 0, 0)
def M_X1_likenessBy : MD := (1, yX1_likenessBy, cX1_likenessBy, 5, some .int, 1, 25)
def M_X6_leadsTo : MD := (6, yX6_leadsTo, cX6_leadsTo, 2, some .boolean, 0, 0)
def M_X7_askJoin : MD := (7, yX7_askJoin, cX7_askJoin, 5, some .int, 3, 64)
def M_X7_like : MD := (7, yX7_like, cX7_like, 6, some .int, 4, 88)
def M_X8_lookTwo : MD := (8, yX8_lookTwo, cX8_lookTwo, 4, some .int, 3, 64)
def M_X8_frameOf : MD := (8, yX8_frameOf, cX8_frameOf, 3, some .int, 2, 42)
def M_X8_sampleOf : MD := (8, yX8_sampleOf, cX8_sampleOf, 3, some .int, 1, 22)
def M_X8_likeness : MD := (8, yX8_likeness, cX8_likeness, 16, some .int, 3, 64)
def M_X8_like : MD := (8, yX8_like, cX8_like, 6, some .int, 4, 99)
def M_X6_frameAt : MD := (6, yX6_frameAt, cX6_frameAt, 2, some .int, 0, 0)
def M_X1_measure : MD := (1, yX1_measure, cX1_measure, 13, none, 1, 25)
def M_X1_shiftAt : MD := (1, yX1_shiftAt, cX1_shiftAt, 5, some .int, 2, 57)
def M_X7_shift : MD := (7, yX7_shift, cX7_shift, 5, some .int, 4, 88)
def M_X8_shiftOf : MD := (8, yX8_shiftOf, cX8_shiftOf, 9, some .int, 4, 99)
def M_X8_shift : MD := (8, yX8_shift, cX8_shift, 5, some .int, 5, 127)
def M_X1_costAt : MD := (1, yX1_costAt, cX1_costAt, 5, some .int, 2, 57)
def M_X7_cost : MD := (7, yX7_cost, cX7_cost, 5, some .int, 4, 88)
def M_X8_costOf : MD := (8, yX8_costOf, cX8_costOf, 5, some .int, 5, 127)
def M_X8_cost : MD := (8, yX8_cost, cX8_cost, 5, some .int, 6, 151)
def M_X7_bar : MD := (7, yX7_bar, cX7_bar, 4, some .int, 1, 22)
def M_X8_bar : MD := (8, yX8_bar, cX8_bar, 4, some .int, 1, 22)
def M_X7_keep : MD := (7, yX7_keep, cX7_keep, 4, some .int, 1, 22)
def M_X8_keep : MD := (8, yX8_keep, cX8_keep, 4, some .int, 2, 43)
def M_X0_fillCells : MD := (0, yX0_fillCells, cX0_fillCells, 5, none, 0, 0)
def M_X0_cellOf : MD := (0, yX0_cellOf, cX0_cellOf, 3, some .int, 0, 0)
def M_X0_nextInOrder : MD := (0, yX0_nextInOrder, cX0_nextInOrder, 7, some .int, 1, 22)
def M_X0_merge : MD := (0, yX0_merge, cX0_merge, 8, none, 2, 48)
def M_X0_trace : MD := (0, yX0_trace, cX0_trace, 4, some .int, 0, 0)
def M_X0_fits : MD := (0, yX0_fits, cX0_fits, 3, some .boolean, 1, 21)
def M_X0_weighSteps : MD := (0, yX0_weighSteps, cX0_weighSteps, 4, none, 3, 81)
def M_X0_gainOf : MD := (0, yX0_gainOf, cX0_gainOf, 3, some .int, 2, 48)
def M_X0_findRanked : MD := (0, yX0_findRanked, cX0_findRanked, 5, some .int, 4, 104)
def M_X5_size : MD := (5, yX5_size, cX5_size, 1, some .int, 0, 0)
def M_X3_addStretch : MD := (3, yX3_addStretch, cX3_addStretch, 7, none, 3, 81)
def M_X3_follow : MD := (3, yX3_follow, cX3_follow, 5, none, 4, 107)
def M_J9_floorDiv_7cf53 : MD := (9, yJ9_floorDiv_7cf53, cJ9_floorDiv_7cf53, 3, some .int, 0, 0)
def M_X7_valueOf : MD := (7, yX7_valueOf, cX7_valueOf, 1, some .int, 1, 22)
def M_X7_adopt : MD := (7, yX7_adopt, cX7_adopt, 2, some .int, 5, 131)
def M_X7_best : MD := (7, yX7_best, cX7_best, 2, some .int, 6, 152)
def M_X8_may : MD := (8, yX8_may, cX8_may, 3, some .boolean, 3, 64)
def M_X8_findCosts : MD := (8, yX8_findCosts, cX8_findCosts, 5, none, 6, 151)
def M_X8_mayJoin : MD := (8, yX8_mayJoin, cX8_mayJoin, 4, some .boolean, 0, 0)
def M_X8_isAhead : MD := (8, yX8_isAhead, cX8_isAhead, 5, some .boolean, 0, 0)
def M_X8_enter : MD := (8, yX8_enter, cX8_enter, 10, none, 1, 24)
def M_X8_goOn : MD := (8, yX8_goOn, cX8_goOn, 8, none, 2, 53)
def M_X8_findWays : MD := (8, yX8_findWays, cX8_findWays, 5, none, 7, 175)
def M_X8_follow : MD := (8, yX8_follow, cX8_follow, 7, none, 0, 0)
def M_X8_isBefore : MD := (8, yX8_isBefore, cX8_isBefore, 3, some .boolean, 0, 0)
def M_X8_best : MD := (8, yX8_best, cX8_best, 7, some .int, 8, 199)
def M_X0_offer : MD := (0, yX0_offer, cX0_offer, 4, none, 0, 0)
def M_X0_offerSteps : MD := (0, yX0_offerSteps, cX0_offerSteps, 8, none, 3, 70)
def M_X0_findWithin : MD := (0, yX0_findWithin, cX0_findWithin, 6, some .int, 4, 104)
def M_X7_few : MD := (7, yX7_few, cX7_few, 2, some .int, 6, 152)
def M_X8_few : MD := (8, yX8_few, cX8_few, 3, some .int, 0, 0)
def M_X8_findFew : MD := (8, yX8_findFew, cX8_findFew, 10, none, 4, 86)
def M_X8_few_ : MD := (8, yX8_few_, cX8_few_, 8, some .int, 7, 175)
def M_X7_way : MD := (7, yX7_way, cX7_way, 2, some .int, 1, 22)
def M_X8_way : MD := (8, yX8_way, cX8_way, 2, some .int, 2, 43)
def M_X3_joinCount : MD := (3, yX3_joinCount, cX3_joinCount, 1, some .int, 0, 0)
def M_X7_joins : MD := (7, yX7_joins, cX7_joins, 1, some .int, 1, 22)
def M_X8_isJoin : MD := (8, yX8_isJoin, cX8_isJoin, 2, some .boolean, 0, 0)
def M_X8_joins : MD := (8, yX8_joins, cX8_joins, 3, some .int, 1, 21)
def M_X7_made : MD := (7, yX7_made, cX7_made, 1, some .int, 1, 22)
def M_X8_makeRow : MD := (8, yX8_makeRow, cX8_makeRow, 12, none, 5, 127)
def M_X8_make : MD := (8, yX8_make, cX8_make, 3, none, 6, 158)
def M_X8_made : MD := (8, yX8_made, cX8_made, 1, some .int, 7, 180)
def M_X3_stretchOf : MD := (3, yX3_stretchOf, cX3_stretchOf, 3, some (.object "TakeDesk$Stretch"), 1, 20)
def M_X5_indexOf : MD := (5, yX5_indexOf, cX5_indexOf, 2, some .int, 0, 0)
def M_X3_isInRamp : MD := (3, yX3_isInRamp, cX3_isInRamp, 3, some .boolean, 1, 21)
def M_X3_soundOf : MD := (3, yX3_soundOf, cX3_soundOf, 7, some .int, 2, 43)
def M_X7_heard : MD := (7, yX7_heard, cX7_heard, 2, some .int, 3, 69)
def M_X8_heard : MD := (8, yX8_heard, cX8_heard, 2, some .int, 7, 180)
def M_X7_from : MD := (7, yX7_from, cX7_from, 4, some .int, 2, 43)
def M_X8_from : MD := (8, yX8_from, cX8_from, 3, some .int, 7, 180)
def M_X7_tell : MD := (7, yX7_tell, cX7_tell, 2, some .int, 1, 22)
def M_X8_tell : MD := (8, yX8_tell, cX8_tell, 2, some .int, 1, 21)
def M_X7_mayStand : MD := (7, yX7_mayStand, cX7_mayStand, 3, some .boolean, 2, 43)
def M_X7_check : MD := (7, yX7_check, cX7_check, 4, some .int, 3, 81)
def M_X8_check : MD := (8, yX8_check, cX8_check, 5, some .int, 6, 151)
def M_X7_found : MD := (7, yX7_found, cX7_found, 2, some .int, 1, 22)
def M_X8_found : MD := (8, yX8_found, cX8_found, 2, some .int, 1, 22)
set_option maxRecDepth 100000 in
theorem mk_X7_isWithin : mOk M_X7_isWithin 1 3 := ⟨w_at 370 rfl rfl, w_at 62 rfl rfl, by decide +kernel, rfl, by decide +kernel, by decide +kernel, by decide +kernel, w_at 369 rfl rfl⟩
set_option maxRecDepth 100000 in
theorem mk_X4_renew : mOk M_X4_renew 0 1 := ⟨w_at 90 rfl rfl, w_at 63 rfl rfl, by decide +kernel, rfl, by decide +kernel, by decide +kernel, by decide +kernel, w_at 88 rfl rfl, w_at 89 rfl rfl, rfl, by decide +kernel⟩
set_option maxRecDepth 100000 in
theorem mk_J7_fill_53178 : mOk M_J7_fill_53178 1 2 := ⟨w_at 187 rfl rfl, w_at 66 rfl rfl, by decide +kernel, rfl, by decide +kernel, by decide +kernel, by decide +kernel, w_at 186 rfl rfl⟩
set_option maxRecDepth 100000 in
theorem mk_X6_clearBeats : mOk M_X6_clearBeats 0 0 := ⟨w_at 384 rfl rfl, w_at 64 rfl rfl, by decide +kernel, rfl, by decide +kernel, by decide +kernel, by decide +kernel, w_at 382 rfl rfl, w_at 383 rfl rfl, rfl, by decide +kernel⟩
set_option maxRecDepth 100000 in
theorem mk_X7_isUnder : mOk M_X7_isUnder 1 2 := ⟨w_at 388 rfl rfl, w_at 62 rfl rfl, by decide +kernel, rfl, by decide +kernel, by decide +kernel, by decide +kernel, w_at 387 rfl rfl⟩
set_option maxRecDepth 100000 in
theorem mk_X6_meetScore : mOk M_X6_meetScore 0 1 := ⟨w_at 380 rfl rfl, w_at 64 rfl rfl, by decide +kernel, rfl, by decide +kernel, by decide +kernel, by decide +kernel, w_at 378 rfl rfl, w_at 379 rfl rfl, rfl, by decide +kernel⟩
set_option maxRecDepth 100000 in
theorem mk_X7_refuse : mOk M_X7_refuse 0 1 := ⟨w_at 375 rfl rfl, w_at 62 rfl rfl, by decide +kernel, rfl, by decide +kernel, by decide +kernel, by decide +kernel, w_at 374 rfl rfl, w_at 0 rfl rfl, rfl, by decide +kernel⟩
set_option maxRecDepth 100000 in
theorem mk_X7_score : mOk M_X7_score 0 1 := ⟨w_at 367 rfl rfl, w_at 62 rfl rfl, by decide +kernel, rfl, by decide +kernel, by decide +kernel, by decide +kernel, w_at 365 rfl rfl, w_at 366 rfl rfl, rfl, by decide +kernel⟩
set_option maxRecDepth 100000 in
theorem mk_X8_in : mOk M_X8_in 1 3 := ⟨w_at 936 rfl rfl, w_at 71 rfl rfl, by decide +kernel, rfl, by decide +kernel, by decide +kernel, by decide +kernel, w_at 935 rfl rfl⟩
set_option maxRecDepth 100000 in
theorem mk_X8_layNone : mOk M_X8_layNone 0 0 := ⟨w_at 802 rfl rfl, w_at 71 rfl rfl, by decide +kernel, rfl, by decide +kernel, by decide +kernel, by decide +kernel, w_at 801 rfl rfl, w_at 27 rfl rfl, rfl, by decide +kernel⟩
set_option maxRecDepth 100000 in
theorem mk_X8_begin : mOk M_X8_begin 0 0 := ⟨w_at 798 rfl rfl, w_at 71 rfl rfl, by decide +kernel, rfl, by decide +kernel, by decide +kernel, by decide +kernel, w_at 797 rfl rfl, w_at 26 rfl rfl, rfl, by decide +kernel⟩
set_option maxRecDepth 100000 in
theorem mk_X8_isPart : mOk M_X8_isPart 0 1 := ⟨w_at 947 rfl rfl, w_at 71 rfl rfl, by decide +kernel, rfl, by decide +kernel, by decide +kernel, by decide +kernel, w_at 946 rfl rfl, w_at 29 rfl rfl, rfl, by decide +kernel⟩
set_option maxRecDepth 100000 in
theorem mk_X8_answer : mOk M_X8_answer 0 1 := ⟨w_at 941 rfl rfl, w_at 71 rfl rfl, by decide +kernel, rfl, by decide +kernel, by decide +kernel, by decide +kernel, w_at 940 rfl rfl, w_at 28 rfl rfl, rfl, by decide +kernel⟩
set_option maxRecDepth 100000 in
theorem mk_X8_score : mOk M_X8_score 0 1 := ⟨w_at 933 rfl rfl, w_at 71 rfl rfl, by decide +kernel, rfl, by decide +kernel, by decide +kernel, by decide +kernel, w_at 931 rfl rfl, w_at 932 rfl rfl, rfl, by decide +kernel⟩
set_option maxRecDepth 100000 in
theorem mk_X4_holds : mOk M_X4_holds 0 1 := ⟨w_at 398 rfl rfl, w_at 63 rfl rfl, by decide +kernel, rfl, by decide +kernel, by decide +kernel, by decide +kernel, w_at 396 rfl rfl, w_at 397 rfl rfl, rfl, by decide +kernel⟩
set_option maxRecDepth 100000 in
theorem mk_X7_changeTake : mOk M_X7_changeTake 0 1 := ⟨w_at 402 rfl rfl, w_at 62 rfl rfl, by decide +kernel, rfl, by decide +kernel, by decide +kernel, by decide +kernel, w_at 401 rfl rfl, w_at 1 rfl rfl, rfl, by decide +kernel⟩
set_option maxRecDepth 100000 in
theorem mk_X7_beat : mOk M_X7_beat 0 3 := ⟨w_at 394 rfl rfl, w_at 62 rfl rfl, by decide +kernel, rfl, by decide +kernel, by decide +kernel, by decide +kernel, w_at 392 rfl rfl, w_at 393 rfl rfl, rfl, by decide +kernel⟩
set_option maxRecDepth 100000 in
theorem mk_X8_isBeat : mOk M_X8_isBeat 0 1 := ⟨w_at 955 rfl rfl, w_at 71 rfl rfl, by decide +kernel, rfl, by decide +kernel, by decide +kernel, by decide +kernel, w_at 954 rfl rfl, w_at 30 rfl rfl, rfl, by decide +kernel⟩
set_option maxRecDepth 100000 in
theorem mk_X8_beat : mOk M_X8_beat 0 3 := ⟨w_at 951 rfl rfl, w_at 71 rfl rfl, by decide +kernel, rfl, by decide +kernel, by decide +kernel, by decide +kernel, w_at 949 rfl rfl, w_at 950 rfl rfl, rfl, by decide +kernel⟩
set_option maxRecDepth 100000 in
theorem mk_X7_isTake : mOk M_X7_isTake 1 1 := ⟨w_at 409 rfl rfl, w_at 62 rfl rfl, by decide +kernel, rfl, by decide +kernel, by decide +kernel, by decide +kernel, w_at 408 rfl rfl⟩
set_option maxRecDepth 100000 in
theorem mk_X7_isKind : mOk M_X7_isKind 1 1 := ⟨w_at 412 rfl rfl, w_at 62 rfl rfl, by decide +kernel, rfl, by decide +kernel, by decide +kernel, by decide +kernel, w_at 411 rfl rfl⟩
set_option maxRecDepth 100000 in
theorem mk_X6_begin : mOk M_X6_begin 0 4 := ⟨w_at 417 rfl rfl, w_at 64 rfl rfl, by decide +kernel, rfl, by decide +kernel, by decide +kernel, by decide +kernel, w_at 415 rfl rfl, w_at 416 rfl rfl, rfl, by decide +kernel⟩
set_option maxRecDepth 100000 in
theorem mk_X7_take : mOk M_X7_take 0 5 := ⟨w_at 406 rfl rfl, w_at 62 rfl rfl, by decide +kernel, rfl, by decide +kernel, by decide +kernel, by decide +kernel, w_at 404 rfl rfl, w_at 405 rfl rfl, rfl, by decide +kernel⟩
set_option maxRecDepth 100000 in
theorem mk_X8_isTake : mOk M_X8_isTake 1 1 := ⟨w_at 962 rfl rfl, w_at 71 rfl rfl, by decide +kernel, rfl, by decide +kernel, by decide +kernel, by decide +kernel, w_at 961 rfl rfl⟩
set_option maxRecDepth 100000 in
theorem mk_X8_changed : mOk M_X8_changed 0 1 := ⟨w_at 966 rfl rfl, w_at 71 rfl rfl, by decide +kernel, rfl, by decide +kernel, by decide +kernel, by decide +kernel, w_at 965 rfl rfl, w_at 31 rfl rfl, rfl, by decide +kernel⟩
set_option maxRecDepth 100000 in
theorem mk_X8_take : mOk M_X8_take 0 5 := ⟨w_at 959 rfl rfl, w_at 71 rfl rfl, by decide +kernel, rfl, by decide +kernel, by decide +kernel, by decide +kernel, w_at 957 rfl rfl, w_at 958 rfl rfl, rfl, by decide +kernel⟩
set_option maxRecDepth 100000 in
theorem mk_X7_askTake : mOk M_X7_askTake 0 1 := ⟨w_at 425 rfl rfl, w_at 62 rfl rfl, by decide +kernel, rfl, by decide +kernel, by decide +kernel, by decide +kernel, w_at 424 rfl rfl, w_at 2 rfl rfl, rfl, by decide +kernel⟩
set_option maxRecDepth 100000 in
theorem mk_X7_tear : mOk M_X7_tear 0 1 := ⟨w_at 421 rfl rfl, w_at 62 rfl rfl, by decide +kernel, rfl, by decide +kernel, by decide +kernel, by decide +kernel, w_at 419 rfl rfl, w_at 420 rfl rfl, rfl, by decide +kernel⟩
set_option maxRecDepth 100000 in
theorem mk_X8_look : mOk M_X8_look 0 1 := ⟨w_at 974 rfl rfl, w_at 71 rfl rfl, by decide +kernel, rfl, by decide +kernel, by decide +kernel, by decide +kernel, w_at 973 rfl rfl, w_at 32 rfl rfl, rfl, by decide +kernel⟩
set_option maxRecDepth 100000 in
theorem mk_X8_tear : mOk M_X8_tear 0 1 := ⟨w_at 970 rfl rfl, w_at 71 rfl rfl, by decide +kernel, rfl, by decide +kernel, by decide +kernel, by decide +kernel, w_at 968 rfl rfl, w_at 969 rfl rfl, rfl, by decide +kernel⟩
set_option maxRecDepth 100000 in
theorem mk_X6_room : mOk M_X6_room 0 0 := ⟨w_at 435 rfl rfl, w_at 64 rfl rfl, by decide +kernel, rfl, by decide +kernel, by decide +kernel, by decide +kernel, w_at 433 rfl rfl, w_at 434 rfl rfl, rfl, by decide +kernel⟩
set_option maxRecDepth 100000 in
theorem mk_X6_write : mOk M_X6_write 0 2 := ⟨w_at 445 rfl rfl, w_at 64 rfl rfl, by decide +kernel, rfl, by decide +kernel, by decide +kernel, by decide +kernel, w_at 443 rfl rfl, w_at 444 rfl rfl, rfl, by decide +kernel⟩
set_option maxRecDepth 100000 in
theorem mk_X6_append : mOk M_X6_append 0 1 := ⟨w_at 441 rfl rfl, w_at 64 rfl rfl, by decide +kernel, rfl, by decide +kernel, by decide +kernel, by decide +kernel, w_at 439 rfl rfl, w_at 440 rfl rfl, rfl, by decide +kernel⟩
set_option maxRecDepth 100000 in
theorem mk_X7_play : mOk M_X7_play 0 4 := ⟨w_at 430 rfl rfl, w_at 62 rfl rfl, by decide +kernel, rfl, by decide +kernel, by decide +kernel, by decide +kernel, w_at 428 rfl rfl, w_at 429 rfl rfl, rfl, by decide +kernel⟩
set_option maxRecDepth 100000 in
theorem mk_X8_add : mOk M_X8_add 0 2 := ⟨w_at 986 rfl rfl, w_at 71 rfl rfl, by decide +kernel, rfl, by decide +kernel, by decide +kernel, by decide +kernel, w_at 985 rfl rfl, w_at 33 rfl rfl, rfl, by decide +kernel⟩
set_option maxRecDepth 100000 in
theorem mk_X8_play : mOk M_X8_play 0 4 := ⟨w_at 979 rfl rfl, w_at 71 rfl rfl, by decide +kernel, rfl, by decide +kernel, by decide +kernel, by decide +kernel, w_at 977 rfl rfl, w_at 978 rfl rfl, rfl, by decide +kernel⟩
set_option maxRecDepth 100000 in
theorem mk_X6_soundAt : mOk M_X6_soundAt 0 1 := ⟨w_at 457 rfl rfl, w_at 64 rfl rfl, by decide +kernel, rfl, by decide +kernel, by decide +kernel, by decide +kernel, w_at 455 rfl rfl, w_at 456 rfl rfl, rfl, by decide +kernel⟩
set_option maxRecDepth 100000 in
theorem mk_J9_min_7cf53 : mOk M_J9_min_7cf53 1 2 := ⟨w_at 460 rfl rfl, w_at 72 rfl rfl, by decide +kernel, rfl, by decide +kernel, by decide +kernel, by decide +kernel, w_at 459 rfl rfl⟩
set_option maxRecDepth 100000 in
theorem mk_J9_max_7cf53 : mOk M_J9_max_7cf53 1 2 := ⟨w_at 463 rfl rfl, w_at 72 rfl rfl, by decide +kernel, rfl, by decide +kernel, by decide +kernel, by decide +kernel, w_at 462 rfl rfl⟩
set_option maxRecDepth 100000 in
theorem mk_X7_askPair : mOk M_X7_askPair 0 2 := ⟨w_at 453 rfl rfl, w_at 62 rfl rfl, by decide +kernel, rfl, by decide +kernel, by decide +kernel, by decide +kernel, w_at 452 rfl rfl, w_at 3 rfl rfl, rfl, by decide +kernel⟩
set_option maxRecDepth 100000 in
theorem mk_X7_copy : mOk M_X7_copy 0 5 := ⟨w_at 449 rfl rfl, w_at 62 rfl rfl, by decide +kernel, rfl, by decide +kernel, by decide +kernel, by decide +kernel, w_at 447 rfl rfl, w_at 448 rfl rfl, rfl, by decide +kernel⟩
set_option maxRecDepth 100000 in
theorem mk_X8_copy : mOk M_X8_copy 0 5 := ⟨w_at 990 rfl rfl, w_at 71 rfl rfl, by decide +kernel, rfl, by decide +kernel, by decide +kernel, by decide +kernel, w_at 988 rfl rfl, w_at 989 rfl rfl, rfl, by decide +kernel⟩
set_option maxRecDepth 100000 in
theorem mk_X7_put : mOk M_X7_put 0 3 := ⟨w_at 467 rfl rfl, w_at 62 rfl rfl, by decide +kernel, rfl, by decide +kernel, by decide +kernel, by decide +kernel, w_at 465 rfl rfl, w_at 466 rfl rfl, rfl, by decide +kernel⟩
set_option maxRecDepth 100000 in
theorem mk_X8_put : mOk M_X8_put 0 3 := ⟨w_at 996 rfl rfl, w_at 71 rfl rfl, by decide +kernel, rfl, by decide +kernel, by decide +kernel, by decide +kernel, w_at 994 rfl rfl, w_at 995 rfl rfl, rfl, by decide +kernel⟩
set_option maxRecDepth 100000 in
theorem mk_X7_sample : mOk M_X7_sample 0 2 := ⟨w_at 472 rfl rfl, w_at 62 rfl rfl, by decide +kernel, rfl, by decide +kernel, by decide +kernel, by decide +kernel, w_at 470 rfl rfl, w_at 471 rfl rfl, rfl, by decide +kernel⟩
set_option maxRecDepth 100000 in
theorem mk_X8_sample : mOk M_X8_sample 0 2 := ⟨w_at 1000 rfl rfl, w_at 71 rfl rfl, by decide +kernel, rfl, by decide +kernel, by decide +kernel, by decide +kernel, w_at 998 rfl rfl, w_at 999 rfl rfl, rfl, by decide +kernel⟩
set_option maxRecDepth 100000 in
theorem mk_X7_as : mOk M_X7_as 0 2 := ⟨w_at 476 rfl rfl, w_at 62 rfl rfl, by decide +kernel, rfl, by decide +kernel, by decide +kernel, by decide +kernel, w_at 474 rfl rfl, w_at 475 rfl rfl, rfl, by decide +kernel⟩
set_option maxRecDepth 100000 in
theorem mk_X8_ends : mOk M_X8_ends 0 1 := ⟨w_at 1008 rfl rfl, w_at 71 rfl rfl, by decide +kernel, rfl, by decide +kernel, by decide +kernel, by decide +kernel, w_at 1007 rfl rfl, w_at 34 rfl rfl, rfl, by decide +kernel⟩
set_option maxRecDepth 100000 in
theorem mk_X8_begins : mOk M_X8_begins 0 1 := ⟨w_at 1012 rfl rfl, w_at 71 rfl rfl, by decide +kernel, rfl, by decide +kernel, by decide +kernel, by decide +kernel, w_at 1011 rfl rfl, w_at 35 rfl rfl, rfl, by decide +kernel⟩
set_option maxRecDepth 100000 in
theorem mk_X8_as : mOk M_X8_as 0 2 := ⟨w_at 1004 rfl rfl, w_at 71 rfl rfl, by decide +kernel, rfl, by decide +kernel, by decide +kernel, by decide +kernel, w_at 1002 rfl rfl, w_at 1003 rfl rfl, rfl, by decide +kernel⟩
set_option maxRecDepth 100000 in
theorem mk_X6_frameCount : mOk M_X6_frameCount 0 0 := ⟨w_at 485 rfl rfl, w_at 64 rfl rfl, by decide +kernel, rfl, by decide +kernel, by decide +kernel, by decide +kernel, w_at 483 rfl rfl, w_at 484 rfl rfl, rfl, by decide +kernel⟩
set_option maxRecDepth 100000 in
theorem mk_X6_levelAt : mOk M_X6_levelAt 0 1 := ⟨w_at 489 rfl rfl, w_at 64 rfl rfl, by decide +kernel, rfl, by decide +kernel, by decide +kernel, by decide +kernel, w_at 487 rfl rfl, w_at 488 rfl rfl, rfl, by decide +kernel⟩
set_option maxRecDepth 100000 in
theorem mk_X7_level : mOk M_X7_level 0 2 := ⟨w_at 481 rfl rfl, w_at 62 rfl rfl, by decide +kernel, rfl, by decide +kernel, by decide +kernel, by decide +kernel, w_at 479 rfl rfl, w_at 480 rfl rfl, rfl, by decide +kernel⟩
set_option maxRecDepth 100000 in
theorem mk_X8_frameMany : mOk M_X8_frameMany 0 1 := ⟨w_at 1021 rfl rfl, w_at 71 rfl rfl, by decide +kernel, rfl, by decide +kernel, by decide +kernel, by decide +kernel, w_at 1020 rfl rfl, w_at 36 rfl rfl, rfl, by decide +kernel⟩
set_option maxRecDepth 100000 in
theorem mk_X8_levelOf : mOk M_X8_levelOf 0 2 := ⟨w_at 1025 rfl rfl, w_at 71 rfl rfl, by decide +kernel, rfl, by decide +kernel, by decide +kernel, by decide +kernel, w_at 1024 rfl rfl, w_at 37 rfl rfl, rfl, by decide +kernel⟩
set_option maxRecDepth 100000 in
theorem mk_X8_level : mOk M_X8_level 0 2 := ⟨w_at 1017 rfl rfl, w_at 71 rfl rfl, by decide +kernel, rfl, by decide +kernel, by decide +kernel, by decide +kernel, w_at 1015 rfl rfl, w_at 1016 rfl rfl, rfl, by decide +kernel⟩
set_option maxRecDepth 100000 in
theorem mk_X6_has : mOk M_X6_has 0 1 := ⟨w_at 501 rfl rfl, w_at 64 rfl rfl, by decide +kernel, rfl, by decide +kernel, by decide +kernel, by decide +kernel, w_at 499 rfl rfl, w_at 500 rfl rfl, rfl, by decide +kernel⟩
set_option maxRecDepth 100000 in
theorem mk_X7_askTakeBeat : mOk M_X7_askTakeBeat 0 2 := ⟨w_at 497 rfl rfl, w_at 62 rfl rfl, by decide +kernel, rfl, by decide +kernel, by decide +kernel, by decide +kernel, w_at 496 rfl rfl, w_at 4 rfl rfl, rfl, by decide +kernel⟩
set_option maxRecDepth 100000 in
theorem mk_X7_hand : mOk M_X7_hand 0 3 := ⟨w_at 493 rfl rfl, w_at 62 rfl rfl, by decide +kernel, rfl, by decide +kernel, by decide +kernel, by decide +kernel, w_at 491 rfl rfl, w_at 492 rfl rfl, rfl, by decide +kernel⟩
set_option maxRecDepth 100000 in
theorem mk_X8_has : mOk M_X8_has 0 2 := ⟨w_at 1033 rfl rfl, w_at 71 rfl rfl, by decide +kernel, rfl, by decide +kernel, by decide +kernel, by decide +kernel, w_at 1032 rfl rfl, w_at 38 rfl rfl, rfl, by decide +kernel⟩
set_option maxRecDepth 100000 in
theorem mk_X8_hand : mOk M_X8_hand 0 3 := ⟨w_at 1029 rfl rfl, w_at 71 rfl rfl, by decide +kernel, rfl, by decide +kernel, by decide +kernel, by decide +kernel, w_at 1027 rfl rfl, w_at 1028 rfl rfl, rfl, by decide +kernel⟩
set_option maxRecDepth 100000 in
theorem mk_X2_leastStart : mOk M_X2_leastStart 0 2 := ⟨w_at 527 rfl rfl, w_at 67 rfl rfl, by decide +kernel, rfl, by decide +kernel, by decide +kernel, by decide +kernel, w_at 526 rfl rfl, w_at 7 rfl rfl, rfl, by decide +kernel⟩
set_option maxRecDepth 100000 in
theorem mk_X2_write : mOk M_X2_write 0 3 := ⟨w_at 531 rfl rfl, w_at 67 rfl rfl, by decide +kernel, rfl, by decide +kernel, by decide +kernel, by decide +kernel, w_at 530 rfl rfl, w_at 8 rfl rfl, rfl, by decide +kernel⟩
set_option maxRecDepth 100000 in
theorem mk_J9_abs_0f7a4 : mOk M_J9_abs_0f7a4 1 1 := ⟨w_at 523 rfl rfl, w_at 72 rfl rfl, by decide +kernel, rfl, by decide +kernel, by decide +kernel, by decide +kernel, w_at 522 rfl rfl⟩
set_option maxRecDepth 100000 in
theorem mk_X2_leastRest : mOk M_X2_leastRest 0 4 := ⟨w_at 520 rfl rfl, w_at 67 rfl rfl, by decide +kernel, rfl, by decide +kernel, by decide +kernel, by decide +kernel, w_at 519 rfl rfl, w_at 6 rfl rfl, rfl, by decide +kernel⟩
set_option maxRecDepth 100000 in
theorem mk_X2_sumUp : mOk M_X2_sumUp 0 5 := ⟨w_at 516 rfl rfl, w_at 67 rfl rfl, by decide +kernel, rfl, by decide +kernel, by decide +kernel, by decide +kernel, w_at 515 rfl rfl, w_at 5 rfl rfl, rfl, by decide +kernel⟩
set_option maxRecDepth 100000 in
theorem mk_X2_place : mOk M_X2_place 0 2 := ⟨w_at 509 rfl rfl, w_at 67 rfl rfl, by decide +kernel, rfl, by decide +kernel, by decide +kernel, by decide +kernel, w_at 507 rfl rfl, w_at 508 rfl rfl, rfl, by decide +kernel⟩
set_option maxRecDepth 100000 in
theorem mk_X1_cellOf : mOk M_X1_cellOf 1 3 := ⟨w_at 539 rfl rfl, w_at 65 rfl rfl, by decide +kernel, rfl, by decide +kernel, by decide +kernel, by decide +kernel, w_at 538 rfl rfl⟩
set_option maxRecDepth 100000 in
theorem mk_X1_forgetTake : mOk M_X1_forgetTake 0 1 := ⟨w_at 536 rfl rfl, w_at 65 rfl rfl, by decide +kernel, rfl, by decide +kernel, by decide +kernel, by decide +kernel, w_at 534 rfl rfl, w_at 535 rfl rfl, rfl, by decide +kernel⟩
set_option maxRecDepth 100000 in
theorem mk_X7_lay : mOk M_X7_lay 0 1 := ⟨w_at 505 rfl rfl, w_at 62 rfl rfl, by decide +kernel, rfl, by decide +kernel, by decide +kernel, by decide +kernel, w_at 503 rfl rfl, w_at 504 rfl rfl, rfl, by decide +kernel⟩
set_option maxRecDepth 100000 in
theorem mk_X8_apart : mOk M_X8_apart 1 2 := ⟨w_at 1049 rfl rfl, w_at 71 rfl rfl, by decide +kernel, rfl, by decide +kernel, by decide +kernel, by decide +kernel, w_at 1048 rfl rfl⟩
set_option maxRecDepth 100000 in
theorem mk_X8_behind : mOk M_X8_behind 0 4 := ⟨w_at 1045 rfl rfl, w_at 71 rfl rfl, by decide +kernel, rfl, by decide +kernel, by decide +kernel, by decide +kernel, w_at 1044 rfl rfl, w_at 40 rfl rfl, rfl, by decide +kernel⟩
set_option maxRecDepth 100000 in
theorem mk_X8_reckon : mOk M_X8_reckon 0 2 := ⟨w_at 1041 rfl rfl, w_at 71 rfl rfl, by decide +kernel, rfl, by decide +kernel, by decide +kernel, by decide +kernel, w_at 1040 rfl rfl, w_at 39 rfl rfl, rfl, by decide +kernel⟩
set_option maxRecDepth 100000 in
theorem mk_X8_lay : mOk M_X8_lay 0 1 := ⟨w_at 1037 rfl rfl, w_at 71 rfl rfl, by decide +kernel, rfl, by decide +kernel, by decide +kernel, by decide +kernel, w_at 1035 rfl rfl, w_at 1036 rfl rfl, rfl, by decide +kernel⟩
set_option maxRecDepth 100000 in
theorem mk_X7_frame : mOk M_X7_frame 0 2 := ⟨w_at 543 rfl rfl, w_at 62 rfl rfl, by decide +kernel, rfl, by decide +kernel, by decide +kernel, by decide +kernel, w_at 541 rfl rfl, w_at 542 rfl rfl, rfl, by decide +kernel⟩
set_option maxRecDepth 100000 in
theorem mk_X8_frame : mOk M_X8_frame 0 2 := ⟨w_at 1053 rfl rfl, w_at 71 rfl rfl, by decide +kernel, rfl, by decide +kernel, by decide +kernel, by decide +kernel, w_at 1051 rfl rfl, w_at 1052 rfl rfl, rfl, by decide +kernel⟩
set_option maxRecDepth 100000 in
theorem mk_X7_mark : mOk M_X7_mark 0 3 := ⟨w_at 548 rfl rfl, w_at 62 rfl rfl, by decide +kernel, rfl, by decide +kernel, by decide +kernel, by decide +kernel, w_at 546 rfl rfl, w_at 547 rfl rfl, rfl, by decide +kernel⟩
set_option maxRecDepth 100000 in
theorem mk_X8_mark : mOk M_X8_mark 0 3 := ⟨w_at 1058 rfl rfl, w_at 71 rfl rfl, by decide +kernel, rfl, by decide +kernel, by decide +kernel, by decide +kernel, w_at 1056 rfl rfl, w_at 1057 rfl rfl, rfl, by decide +kernel⟩
set_option maxRecDepth 100000 in
theorem mk_X6_worthAt : mOk M_X6_worthAt 0 1 := ⟨w_at 556 rfl rfl, w_at 64 rfl rfl, by decide +kernel, rfl, by decide +kernel, by decide +kernel, by decide +kernel, w_at 554 rfl rfl, w_at 555 rfl rfl, rfl, by decide +kernel⟩
set_option maxRecDepth 100000 in
theorem mk_X7_worth : mOk M_X7_worth 0 2 := ⟨w_at 552 rfl rfl, w_at 62 rfl rfl, by decide +kernel, rfl, by decide +kernel, by decide +kernel, by decide +kernel, w_at 550 rfl rfl, w_at 551 rfl rfl, rfl, by decide +kernel⟩
set_option maxRecDepth 100000 in
theorem mk_X8_worthOf : mOk M_X8_worthOf 0 2 := ⟨w_at 1066 rfl rfl, w_at 71 rfl rfl, by decide +kernel, rfl, by decide +kernel, by decide +kernel, by decide +kernel, w_at 1065 rfl rfl, w_at 41 rfl rfl, rfl, by decide +kernel⟩
set_option maxRecDepth 100000 in
theorem mk_X8_worth : mOk M_X8_worth 0 2 := ⟨w_at 1062 rfl rfl, w_at 71 rfl rfl, by decide +kernel, rfl, by decide +kernel, by decide +kernel, by decide +kernel, w_at 1060 rfl rfl, w_at 1061 rfl rfl, rfl, by decide +kernel⟩
set_option maxRecDepth 100000 in
theorem mk_X7_isSetting : mOk M_X7_isSetting 0 2 := ⟨w_at 567 rfl rfl, w_at 62 rfl rfl, by decide +kernel, rfl, by decide +kernel, by decide +kernel, by decide +kernel, w_at 566 rfl rfl, w_at 9 rfl rfl, rfl, by decide +kernel⟩
set_option maxRecDepth 100000 in
theorem mk_X7_setting : mOk M_X7_setting 0 1 := ⟨w_at 571 rfl rfl, w_at 62 rfl rfl, by decide +kernel, rfl, by decide +kernel, by decide +kernel, by decide +kernel, w_at 570 rfl rfl, w_at 10 rfl rfl, rfl, by decide +kernel⟩
set_option maxRecDepth 100000 in
theorem mk_X1_forgetAll : mOk M_X1_forgetAll 0 0 := ⟨w_at 575 rfl rfl, w_at 65 rfl rfl, by decide +kernel, rfl, by decide +kernel, by decide +kernel, by decide +kernel, w_at 573 rfl rfl, w_at 574 rfl rfl, rfl, by decide +kernel⟩
set_option maxRecDepth 100000 in
theorem mk_X7_set : mOk M_X7_set 0 2 := ⟨w_at 563 rfl rfl, w_at 62 rfl rfl, by decide +kernel, rfl, by decide +kernel, by decide +kernel, by decide +kernel, w_at 561 rfl rfl, w_at 562 rfl rfl, rfl, by decide +kernel⟩
set_option maxRecDepth 100000 in
theorem mk_X8_set : mOk M_X8_set 0 2 := ⟨w_at 1070 rfl rfl, w_at 71 rfl rfl, by decide +kernel, rfl, by decide +kernel, by decide +kernel, by decide +kernel, w_at 1068 rfl rfl, w_at 1069 rfl rfl, rfl, by decide +kernel⟩
set_option maxRecDepth 100000 in
theorem mk_X6_startOf : mOk M_X6_startOf 0 1 := ⟨w_at 595 rfl rfl, w_at 64 rfl rfl, by decide +kernel, rfl, by decide +kernel, by decide +kernel, by decide +kernel, w_at 593 rfl rfl, w_at 594 rfl rfl, rfl, by decide +kernel⟩
set_option maxRecDepth 100000 in
theorem mk_X1_listen : mOk M_X1_listen 1 4 := ⟨w_at 598 rfl rfl, w_at 65 rfl rfl, by decide +kernel, rfl, by decide +kernel, by decide +kernel, by decide +kernel, w_at 597 rfl rfl⟩
set_option maxRecDepth 100000 in
theorem mk_X1_squaresOf : mOk M_X1_squaresOf 0 1 := ⟨w_at 602 rfl rfl, w_at 65 rfl rfl, by decide +kernel, rfl, by decide +kernel, by decide +kernel, by decide +kernel, w_at 601 rfl rfl, w_at 12 rfl rfl, rfl, by decide +kernel⟩
set_option maxRecDepth 100000 in
theorem mk_X1_liken : mOk M_X1_liken 0 2 := ⟨w_at 606 rfl rfl, w_at 65 rfl rfl, by decide +kernel, rfl, by decide +kernel, by decide +kernel, by decide +kernel, w_at 605 rfl rfl, w_at 13 rfl rfl, rfl, by decide +kernel⟩
set_option maxRecDepth 100000 in
theorem mk_X1_likenessBy : mOk M_X1_likenessBy 0 4 := ⟨w_at 591 rfl rfl, w_at 65 rfl rfl, by decide +kernel, rfl, by decide +kernel, by decide +kernel, by decide +kernel, w_at 589 rfl rfl, w_at 590 rfl rfl, rfl, by decide +kernel⟩
set_option maxRecDepth 100000 in
theorem mk_X6_leadsTo : mOk M_X6_leadsTo 0 1 := ⟨w_at 587 rfl rfl, w_at 64 rfl rfl, by decide +kernel, rfl, by decide +kernel, by decide +kernel, by decide +kernel, w_at 585 rfl rfl, w_at 586 rfl rfl, rfl, by decide +kernel⟩
set_option maxRecDepth 100000 in
theorem mk_X7_askJoin : mOk M_X7_askJoin 0 3 := ⟨w_at 583 rfl rfl, w_at 62 rfl rfl, by decide +kernel, rfl, by decide +kernel, by decide +kernel, by decide +kernel, w_at 582 rfl rfl, w_at 11 rfl rfl, rfl, by decide +kernel⟩
set_option maxRecDepth 100000 in
theorem mk_X7_like : mOk M_X7_like 0 4 := ⟨w_at 579 rfl rfl, w_at 62 rfl rfl, by decide +kernel, rfl, by decide +kernel, by decide +kernel, by decide +kernel, w_at 577 rfl rfl, w_at 578 rfl rfl, rfl, by decide +kernel⟩
set_option maxRecDepth 100000 in
theorem mk_X8_lookTwo : mOk M_X8_lookTwo 0 3 := ⟨w_at 1078 rfl rfl, w_at 71 rfl rfl, by decide +kernel, rfl, by decide +kernel, by decide +kernel, by decide +kernel, w_at 1077 rfl rfl, w_at 42 rfl rfl, rfl, by decide +kernel⟩
set_option maxRecDepth 100000 in
theorem mk_X8_frameOf : mOk M_X8_frameOf 0 2 := ⟨w_at 1086 rfl rfl, w_at 71 rfl rfl, by decide +kernel, rfl, by decide +kernel, by decide +kernel, by decide +kernel, w_at 1085 rfl rfl, w_at 44 rfl rfl, rfl, by decide +kernel⟩
set_option maxRecDepth 100000 in
theorem mk_X8_sampleOf : mOk M_X8_sampleOf 0 2 := ⟨w_at 1090 rfl rfl, w_at 71 rfl rfl, by decide +kernel, rfl, by decide +kernel, by decide +kernel, by decide +kernel, w_at 1089 rfl rfl, w_at 45 rfl rfl, rfl, by decide +kernel⟩
set_option maxRecDepth 100000 in
theorem mk_X8_likeness : mOk M_X8_likeness 0 4 := ⟨w_at 1082 rfl rfl, w_at 71 rfl rfl, by decide +kernel, rfl, by decide +kernel, by decide +kernel, by decide +kernel, w_at 1081 rfl rfl, w_at 43 rfl rfl, rfl, by decide +kernel⟩
set_option maxRecDepth 100000 in
theorem mk_X8_like : mOk M_X8_like 0 4 := ⟨w_at 1074 rfl rfl, w_at 71 rfl rfl, by decide +kernel, rfl, by decide +kernel, by decide +kernel, by decide +kernel, w_at 1072 rfl rfl, w_at 1073 rfl rfl, rfl, by decide +kernel⟩
set_option maxRecDepth 100000 in
theorem mk_X6_frameAt : mOk M_X6_frameAt 0 1 := ⟨w_at 623 rfl rfl, w_at 64 rfl rfl, by decide +kernel, rfl, by decide +kernel, by decide +kernel, by decide +kernel, w_at 621 rfl rfl, w_at 622 rfl rfl, rfl, by decide +kernel⟩
set_option maxRecDepth 100000 in
theorem mk_X1_measure : mOk M_X1_measure 0 3 := ⟨w_at 618 rfl rfl, w_at 65 rfl rfl, by decide +kernel, rfl, by decide +kernel, by decide +kernel, by decide +kernel, w_at 617 rfl rfl, w_at 14 rfl rfl, rfl, by decide +kernel⟩
set_option maxRecDepth 100000 in
theorem mk_X1_shiftAt : mOk M_X1_shiftAt 0 3 := ⟨w_at 614 rfl rfl, w_at 65 rfl rfl, by decide +kernel, rfl, by decide +kernel, by decide +kernel, by decide +kernel, w_at 612 rfl rfl, w_at 613 rfl rfl, rfl, by decide +kernel⟩
set_option maxRecDepth 100000 in
theorem mk_X7_shift : mOk M_X7_shift 0 3 := ⟨w_at 610 rfl rfl, w_at 62 rfl rfl, by decide +kernel, rfl, by decide +kernel, by decide +kernel, by decide +kernel, w_at 608 rfl rfl, w_at 609 rfl rfl, rfl, by decide +kernel⟩
set_option maxRecDepth 100000 in
theorem mk_X8_shiftOf : mOk M_X8_shiftOf 0 3 := ⟨w_at 1099 rfl rfl, w_at 71 rfl rfl, by decide +kernel, rfl, by decide +kernel, by decide +kernel, by decide +kernel, w_at 1098 rfl rfl, w_at 46 rfl rfl, rfl, by decide +kernel⟩
set_option maxRecDepth 100000 in
theorem mk_X8_shift : mOk M_X8_shift 0 3 := ⟨w_at 1095 rfl rfl, w_at 71 rfl rfl, by decide +kernel, rfl, by decide +kernel, by decide +kernel, by decide +kernel, w_at 1093 rfl rfl, w_at 1094 rfl rfl, rfl, by decide +kernel⟩
set_option maxRecDepth 100000 in
theorem mk_X1_costAt : mOk M_X1_costAt 0 3 := ⟨w_at 632 rfl rfl, w_at 65 rfl rfl, by decide +kernel, rfl, by decide +kernel, by decide +kernel, by decide +kernel, w_at 630 rfl rfl, w_at 631 rfl rfl, rfl, by decide +kernel⟩
set_option maxRecDepth 100000 in
theorem mk_X7_cost : mOk M_X7_cost 0 3 := ⟨w_at 628 rfl rfl, w_at 62 rfl rfl, by decide +kernel, rfl, by decide +kernel, by decide +kernel, by decide +kernel, w_at 626 rfl rfl, w_at 627 rfl rfl, rfl, by decide +kernel⟩
set_option maxRecDepth 100000 in
theorem mk_X8_costOf : mOk M_X8_costOf 0 3 := ⟨w_at 1107 rfl rfl, w_at 71 rfl rfl, by decide +kernel, rfl, by decide +kernel, by decide +kernel, by decide +kernel, w_at 1106 rfl rfl, w_at 47 rfl rfl, rfl, by decide +kernel⟩
set_option maxRecDepth 100000 in
theorem mk_X8_cost : mOk M_X8_cost 0 3 := ⟨w_at 1103 rfl rfl, w_at 71 rfl rfl, by decide +kernel, rfl, by decide +kernel, by decide +kernel, by decide +kernel, w_at 1101 rfl rfl, w_at 1102 rfl rfl, rfl, by decide +kernel⟩
set_option maxRecDepth 100000 in
theorem mk_X7_bar : mOk M_X7_bar 0 2 := ⟨w_at 636 rfl rfl, w_at 62 rfl rfl, by decide +kernel, rfl, by decide +kernel, by decide +kernel, by decide +kernel, w_at 634 rfl rfl, w_at 635 rfl rfl, rfl, by decide +kernel⟩
set_option maxRecDepth 100000 in
theorem mk_X8_bar : mOk M_X8_bar 0 2 := ⟨w_at 1111 rfl rfl, w_at 71 rfl rfl, by decide +kernel, rfl, by decide +kernel, by decide +kernel, by decide +kernel, w_at 1109 rfl rfl, w_at 1110 rfl rfl, rfl, by decide +kernel⟩
set_option maxRecDepth 100000 in
theorem mk_X7_keep : mOk M_X7_keep 0 2 := ⟨w_at 640 rfl rfl, w_at 62 rfl rfl, by decide +kernel, rfl, by decide +kernel, by decide +kernel, by decide +kernel, w_at 638 rfl rfl, w_at 639 rfl rfl, rfl, by decide +kernel⟩
set_option maxRecDepth 100000 in
theorem mk_X8_keep : mOk M_X8_keep 0 2 := ⟨w_at 1115 rfl rfl, w_at 71 rfl rfl, by decide +kernel, rfl, by decide +kernel, by decide +kernel, by decide +kernel, w_at 1113 rfl rfl, w_at 1114 rfl rfl, rfl, by decide +kernel⟩
set_option maxRecDepth 100000 in
theorem mk_X0_fillCells : mOk M_X0_fillCells 0 3 := ⟨w_at 656 rfl rfl, w_at 68 rfl rfl, by decide +kernel, rfl, by decide +kernel, by decide +kernel, by decide +kernel, w_at 655 rfl rfl, w_at 15 rfl rfl, rfl, by decide +kernel⟩
set_option maxRecDepth 100000 in
theorem mk_X0_cellOf : mOk M_X0_cellOf 1 3 := ⟨w_at 651 rfl rfl, w_at 68 rfl rfl, by decide +kernel, rfl, by decide +kernel, by decide +kernel, by decide +kernel, w_at 650 rfl rfl⟩
set_option maxRecDepth 100000 in
theorem mk_X0_nextInOrder : mOk M_X0_nextInOrder 0 2 := ⟨w_at 680 rfl rfl, w_at 68 rfl rfl, by decide +kernel, rfl, by decide +kernel, by decide +kernel, by decide +kernel, w_at 679 rfl rfl, w_at 19 rfl rfl, rfl, by decide +kernel⟩
set_option maxRecDepth 100000 in
theorem mk_X0_merge : mOk M_X0_merge 0 4 := ⟨w_at 675 rfl rfl, w_at 68 rfl rfl, by decide +kernel, rfl, by decide +kernel, by decide +kernel, by decide +kernel, w_at 674 rfl rfl, w_at 18 rfl rfl, rfl, by decide +kernel⟩
set_option maxRecDepth 100000 in
theorem mk_X0_trace : mOk M_X0_trace 0 1 := ⟨w_at 684 rfl rfl, w_at 68 rfl rfl, by decide +kernel, rfl, by decide +kernel, by decide +kernel, by decide +kernel, w_at 683 rfl rfl, w_at 20 rfl rfl, rfl, by decide +kernel⟩
set_option maxRecDepth 100000 in
theorem mk_X0_fits : mOk M_X0_fits 0 2 := ⟨w_at 660 rfl rfl, w_at 68 rfl rfl, by decide +kernel, rfl, by decide +kernel, by decide +kernel, by decide +kernel, w_at 658 rfl rfl, w_at 659 rfl rfl, rfl, by decide +kernel⟩
set_option maxRecDepth 100000 in
theorem mk_X0_weighSteps : mOk M_X0_weighSteps 0 2 := ⟨w_at 670 rfl rfl, w_at 68 rfl rfl, by decide +kernel, rfl, by decide +kernel, by decide +kernel, by decide +kernel, w_at 669 rfl rfl, w_at 17 rfl rfl, rfl, by decide +kernel⟩
set_option maxRecDepth 100000 in
theorem mk_X0_gainOf : mOk M_X0_gainOf 0 2 := ⟨w_at 665 rfl rfl, w_at 68 rfl rfl, by decide +kernel, rfl, by decide +kernel, by decide +kernel, by decide +kernel, w_at 664 rfl rfl, w_at 16 rfl rfl, rfl, by decide +kernel⟩
set_option maxRecDepth 100000 in
theorem mk_X0_findRanked : mOk M_X0_findRanked 0 1 := ⟨w_at 648 rfl rfl, w_at 68 rfl rfl, by decide +kernel, rfl, by decide +kernel, by decide +kernel, by decide +kernel, w_at 646 rfl rfl, w_at 647 rfl rfl, rfl, by decide +kernel⟩
set_option maxRecDepth 100000 in
theorem mk_X5_size : mOk M_X5_size 0 0 := ⟨w_at 705 rfl rfl, w_at 70 rfl rfl, by decide +kernel, rfl, by decide +kernel, by decide +kernel, by decide +kernel, w_at 703 rfl rfl, w_at 704 rfl rfl, rfl, by decide +kernel⟩
set_option maxRecDepth 100000 in
theorem mk_X3_addStretch : mOk M_X3_addStretch 0 3 := ⟨w_at 697 rfl rfl, w_at 69 rfl rfl, by decide +kernel, rfl, by decide +kernel, by decide +kernel, by decide +kernel, w_at 696 rfl rfl, w_at 22 rfl rfl, rfl, by decide +kernel⟩
set_option maxRecDepth 100000 in
theorem mk_X3_follow : mOk M_X3_follow 0 2 := ⟨w_at 693 rfl rfl, w_at 69 rfl rfl, by decide +kernel, rfl, by decide +kernel, by decide +kernel, by decide +kernel, w_at 691 rfl rfl, w_at 692 rfl rfl, rfl, by decide +kernel⟩
set_option maxRecDepth 100000 in
theorem mk_J9_floorDiv_7cf53 : mOk M_J9_floorDiv_7cf53 1 2 := ⟨w_at 711 rfl rfl, w_at 72 rfl rfl, by decide +kernel, rfl, by decide +kernel, by decide +kernel, by decide +kernel, w_at 710 rfl rfl⟩
set_option maxRecDepth 100000 in
theorem mk_X7_valueOf : mOk M_X7_valueOf 1 1 := ⟨w_at 708 rfl rfl, w_at 62 rfl rfl, by decide +kernel, rfl, by decide +kernel, by decide +kernel, by decide +kernel, w_at 707 rfl rfl⟩
set_option maxRecDepth 100000 in
theorem mk_X7_adopt : mOk M_X7_adopt 0 1 := ⟨w_at 688 rfl rfl, w_at 62 rfl rfl, by decide +kernel, rfl, by decide +kernel, by decide +kernel, by decide +kernel, w_at 687 rfl rfl, w_at 21 rfl rfl, rfl, by decide +kernel⟩
set_option maxRecDepth 100000 in
theorem mk_X7_best : mOk M_X7_best 0 1 := ⟨w_at 644 rfl rfl, w_at 62 rfl rfl, by decide +kernel, rfl, by decide +kernel, by decide +kernel, by decide +kernel, w_at 642 rfl rfl, w_at 643 rfl rfl, rfl, by decide +kernel⟩
set_option maxRecDepth 100000 in
theorem mk_X8_may : mOk M_X8_may 0 2 := ⟨w_at 1131 rfl rfl, w_at 71 rfl rfl, by decide +kernel, rfl, by decide +kernel, by decide +kernel, by decide +kernel, w_at 1130 rfl rfl, w_at 50 rfl rfl, rfl, by decide +kernel⟩
set_option maxRecDepth 100000 in
theorem mk_X8_findCosts : mOk M_X8_findCosts 0 0 := ⟨w_at 1127 rfl rfl, w_at 71 rfl rfl, by decide +kernel, rfl, by decide +kernel, by decide +kernel, by decide +kernel, w_at 1126 rfl rfl, w_at 49 rfl rfl, rfl, by decide +kernel⟩
set_option maxRecDepth 100000 in
theorem mk_X8_mayJoin : mOk M_X8_mayJoin 0 3 := ⟨w_at 1147 rfl rfl, w_at 71 rfl rfl, by decide +kernel, rfl, by decide +kernel, by decide +kernel, by decide +kernel, w_at 1146 rfl rfl, w_at 54 rfl rfl, rfl, by decide +kernel⟩
set_option maxRecDepth 100000 in
theorem mk_X8_isAhead : mOk M_X8_isAhead 0 4 := ⟨w_at 1139 rfl rfl, w_at 71 rfl rfl, by decide +kernel, rfl, by decide +kernel, by decide +kernel, by decide +kernel, w_at 1138 rfl rfl, w_at 52 rfl rfl, rfl, by decide +kernel⟩
set_option maxRecDepth 100000 in
theorem mk_X8_enter : mOk M_X8_enter 0 5 := ⟨w_at 1135 rfl rfl, w_at 71 rfl rfl, by decide +kernel, rfl, by decide +kernel, by decide +kernel, by decide +kernel, w_at 1134 rfl rfl, w_at 51 rfl rfl, rfl, by decide +kernel⟩
set_option maxRecDepth 100000 in
theorem mk_X8_goOn : mOk M_X8_goOn 0 4 := ⟨w_at 1143 rfl rfl, w_at 71 rfl rfl, by decide +kernel, rfl, by decide +kernel, by decide +kernel, by decide +kernel, w_at 1142 rfl rfl, w_at 53 rfl rfl, rfl, by decide +kernel⟩
set_option maxRecDepth 100000 in
theorem mk_X8_findWays : mOk M_X8_findWays 0 0 := ⟨w_at 1123 rfl rfl, w_at 71 rfl rfl, by decide +kernel, rfl, by decide +kernel, by decide +kernel, by decide +kernel, w_at 1122 rfl rfl, w_at 48 rfl rfl, rfl, by decide +kernel⟩
set_option maxRecDepth 100000 in
theorem mk_X8_follow : mOk M_X8_follow 0 2 := ⟨w_at 1155 rfl rfl, w_at 71 rfl rfl, by decide +kernel, rfl, by decide +kernel, by decide +kernel, by decide +kernel, w_at 1154 rfl rfl, w_at 56 rfl rfl, rfl, by decide +kernel⟩
set_option maxRecDepth 100000 in
theorem mk_X8_isBefore : mOk M_X8_isBefore 0 2 := ⟨w_at 1151 rfl rfl, w_at 71 rfl rfl, by decide +kernel, rfl, by decide +kernel, by decide +kernel, by decide +kernel, w_at 1150 rfl rfl, w_at 55 rfl rfl, rfl, by decide +kernel⟩
set_option maxRecDepth 100000 in
theorem mk_X8_best : mOk M_X8_best 0 1 := ⟨w_at 1119 rfl rfl, w_at 71 rfl rfl, by decide +kernel, rfl, by decide +kernel, by decide +kernel, by decide +kernel, w_at 1117 rfl rfl, w_at 1118 rfl rfl, rfl, by decide +kernel⟩
set_option maxRecDepth 100000 in
theorem mk_X0_offer : mOk M_X0_offer 0 3 := ⟨w_at 727 rfl rfl, w_at 68 rfl rfl, by decide +kernel, rfl, by decide +kernel, by decide +kernel, by decide +kernel, w_at 726 rfl rfl, w_at 24 rfl rfl, rfl, by decide +kernel⟩
set_option maxRecDepth 100000 in
theorem mk_X0_offerSteps : mOk M_X0_offerSteps 0 3 := ⟨w_at 723 rfl rfl, w_at 68 rfl rfl, by decide +kernel, rfl, by decide +kernel, by decide +kernel, by decide +kernel, w_at 722 rfl rfl, w_at 23 rfl rfl, rfl, by decide +kernel⟩
set_option maxRecDepth 100000 in
theorem mk_X0_findWithin : mOk M_X0_findWithin 0 1 := ⟨w_at 719 rfl rfl, w_at 68 rfl rfl, by decide +kernel, rfl, by decide +kernel, by decide +kernel, by decide +kernel, w_at 717 rfl rfl, w_at 718 rfl rfl, rfl, by decide +kernel⟩
set_option maxRecDepth 100000 in
theorem mk_X7_few : mOk M_X7_few 0 1 := ⟨w_at 715 rfl rfl, w_at 62 rfl rfl, by decide +kernel, rfl, by decide +kernel, by decide +kernel, by decide +kernel, w_at 713 rfl rfl, w_at 714 rfl rfl, rfl, by decide +kernel⟩
set_option maxRecDepth 100000 in
theorem mk_X8_few : mOk M_X8_few 1 3 := ⟨w_at 1166 rfl rfl, w_at 71 rfl rfl, by decide +kernel, rfl, by decide +kernel, by decide +kernel, by decide +kernel, w_at 1165 rfl rfl⟩
set_option maxRecDepth 100000 in
theorem mk_X8_findFew : mOk M_X8_findFew 0 3 := ⟨w_at 1163 rfl rfl, w_at 71 rfl rfl, by decide +kernel, rfl, by decide +kernel, by decide +kernel, by decide +kernel, w_at 1162 rfl rfl, w_at 57 rfl rfl, rfl, by decide +kernel⟩
set_option maxRecDepth 100000 in
theorem mk_X8_few_ : mOk M_X8_few_ 0 1 := ⟨w_at 1159 rfl rfl, w_at 71 rfl rfl, by decide +kernel, rfl, by decide +kernel, by decide +kernel, by decide +kernel, w_at 1157 rfl rfl, w_at 1158 rfl rfl, rfl, by decide +kernel⟩
set_option maxRecDepth 100000 in
theorem mk_X7_way : mOk M_X7_way 0 1 := ⟨w_at 731 rfl rfl, w_at 62 rfl rfl, by decide +kernel, rfl, by decide +kernel, by decide +kernel, by decide +kernel, w_at 729 rfl rfl, w_at 730 rfl rfl, rfl, by decide +kernel⟩
set_option maxRecDepth 100000 in
theorem mk_X8_way : mOk M_X8_way 0 1 := ⟨w_at 1170 rfl rfl, w_at 71 rfl rfl, by decide +kernel, rfl, by decide +kernel, by decide +kernel, by decide +kernel, w_at 1168 rfl rfl, w_at 1169 rfl rfl, rfl, by decide +kernel⟩
set_option maxRecDepth 100000 in
theorem mk_X3_joinCount : mOk M_X3_joinCount 0 0 := ⟨w_at 739 rfl rfl, w_at 69 rfl rfl, by decide +kernel, rfl, by decide +kernel, by decide +kernel, by decide +kernel, w_at 737 rfl rfl, w_at 738 rfl rfl, rfl, by decide +kernel⟩
set_option maxRecDepth 100000 in
theorem mk_X7_joins : mOk M_X7_joins 0 0 := ⟨w_at 735 rfl rfl, w_at 62 rfl rfl, by decide +kernel, rfl, by decide +kernel, by decide +kernel, by decide +kernel, w_at 733 rfl rfl, w_at 734 rfl rfl, rfl, by decide +kernel⟩
set_option maxRecDepth 100000 in
theorem mk_X8_isJoin : mOk M_X8_isJoin 0 1 := ⟨w_at 1178 rfl rfl, w_at 71 rfl rfl, by decide +kernel, rfl, by decide +kernel, by decide +kernel, by decide +kernel, w_at 1177 rfl rfl, w_at 58 rfl rfl, rfl, by decide +kernel⟩
set_option maxRecDepth 100000 in
theorem mk_X8_joins : mOk M_X8_joins 0 0 := ⟨w_at 1174 rfl rfl, w_at 71 rfl rfl, by decide +kernel, rfl, by decide +kernel, by decide +kernel, by decide +kernel, w_at 1172 rfl rfl, w_at 1173 rfl rfl, rfl, by decide +kernel⟩
set_option maxRecDepth 100000 in
theorem mk_X7_made : mOk M_X7_made 0 0 := ⟨w_at 743 rfl rfl, w_at 62 rfl rfl, by decide +kernel, rfl, by decide +kernel, by decide +kernel, by decide +kernel, w_at 741 rfl rfl, w_at 742 rfl rfl, rfl, by decide +kernel⟩
set_option maxRecDepth 100000 in
theorem mk_X8_makeRow : mOk M_X8_makeRow 0 2 := ⟨w_at 1190 rfl rfl, w_at 71 rfl rfl, by decide +kernel, rfl, by decide +kernel, by decide +kernel, by decide +kernel, w_at 1189 rfl rfl, w_at 60 rfl rfl, rfl, by decide +kernel⟩
set_option maxRecDepth 100000 in
theorem mk_X8_make : mOk M_X8_make 0 0 := ⟨w_at 1186 rfl rfl, w_at 71 rfl rfl, by decide +kernel, rfl, by decide +kernel, by decide +kernel, by decide +kernel, w_at 1185 rfl rfl, w_at 59 rfl rfl, rfl, by decide +kernel⟩
set_option maxRecDepth 100000 in
theorem mk_X8_made : mOk M_X8_made 0 0 := ⟨w_at 1182 rfl rfl, w_at 71 rfl rfl, by decide +kernel, rfl, by decide +kernel, by decide +kernel, by decide +kernel, w_at 1180 rfl rfl, w_at 1181 rfl rfl, rfl, by decide +kernel⟩
set_option maxRecDepth 100000 in
theorem mk_X3_stretchOf : mOk M_X3_stretchOf 0 1 := ⟨w_at 751 rfl rfl, w_at 69 rfl rfl, by decide +kernel, rfl, by decide +kernel, by decide +kernel, by decide +kernel, w_at 749 rfl rfl, w_at 750 rfl rfl, rfl, by decide +kernel⟩
set_option maxRecDepth 100000 in
theorem mk_X5_indexOf : mOk M_X5_indexOf 0 1 := ⟨w_at 759 rfl rfl, w_at 70 rfl rfl, by decide +kernel, rfl, by decide +kernel, by decide +kernel, by decide +kernel, w_at 757 rfl rfl, w_at 758 rfl rfl, rfl, by decide +kernel⟩
set_option maxRecDepth 100000 in
theorem mk_X3_isInRamp : mOk M_X3_isInRamp 0 2 := ⟨w_at 764 rfl rfl, w_at 69 rfl rfl, by decide +kernel, rfl, by decide +kernel, by decide +kernel, by decide +kernel, w_at 762 rfl rfl, w_at 763 rfl rfl, rfl, by decide +kernel⟩
set_option maxRecDepth 100000 in
theorem mk_X3_soundOf : mOk M_X3_soundOf 0 2 := ⟨w_at 755 rfl rfl, w_at 69 rfl rfl, by decide +kernel, rfl, by decide +kernel, by decide +kernel, by decide +kernel, w_at 753 rfl rfl, w_at 754 rfl rfl, rfl, by decide +kernel⟩
set_option maxRecDepth 100000 in
theorem mk_X7_heard : mOk M_X7_heard 0 1 := ⟨w_at 747 rfl rfl, w_at 62 rfl rfl, by decide +kernel, rfl, by decide +kernel, by decide +kernel, by decide +kernel, w_at 745 rfl rfl, w_at 746 rfl rfl, rfl, by decide +kernel⟩
set_option maxRecDepth 100000 in
theorem mk_X8_heard : mOk M_X8_heard 0 1 := ⟨w_at 1195 rfl rfl, w_at 71 rfl rfl, by decide +kernel, rfl, by decide +kernel, by decide +kernel, by decide +kernel, w_at 1193 rfl rfl, w_at 1194 rfl rfl, rfl, by decide +kernel⟩
set_option maxRecDepth 100000 in
theorem mk_X7_from : mOk M_X7_from 0 2 := ⟨w_at 769 rfl rfl, w_at 62 rfl rfl, by decide +kernel, rfl, by decide +kernel, by decide +kernel, by decide +kernel, w_at 767 rfl rfl, w_at 768 rfl rfl, rfl, by decide +kernel⟩
set_option maxRecDepth 100000 in
theorem mk_X8_from : mOk M_X8_from 0 2 := ⟨w_at 1199 rfl rfl, w_at 71 rfl rfl, by decide +kernel, rfl, by decide +kernel, by decide +kernel, by decide +kernel, w_at 1197 rfl rfl, w_at 1198 rfl rfl, rfl, by decide +kernel⟩
set_option maxRecDepth 100000 in
theorem mk_X7_tell : mOk M_X7_tell 0 1 := ⟨w_at 775 rfl rfl, w_at 62 rfl rfl, by decide +kernel, rfl, by decide +kernel, by decide +kernel, by decide +kernel, w_at 773 rfl rfl, w_at 774 rfl rfl, rfl, by decide +kernel⟩
set_option maxRecDepth 100000 in
theorem mk_X8_tell : mOk M_X8_tell 0 1 := ⟨w_at 1203 rfl rfl, w_at 71 rfl rfl, by decide +kernel, rfl, by decide +kernel, by decide +kernel, by decide +kernel, w_at 1201 rfl rfl, w_at 1202 rfl rfl, rfl, by decide +kernel⟩
set_option maxRecDepth 100000 in
theorem mk_X7_mayStand : mOk M_X7_mayStand 0 1 := ⟨w_at 783 rfl rfl, w_at 62 rfl rfl, by decide +kernel, rfl, by decide +kernel, by decide +kernel, by decide +kernel, w_at 782 rfl rfl, w_at 25 rfl rfl, rfl, by decide +kernel⟩
set_option maxRecDepth 100000 in
theorem mk_X7_check : mOk M_X7_check 0 0 := ⟨w_at 779 rfl rfl, w_at 62 rfl rfl, by decide +kernel, rfl, by decide +kernel, by decide +kernel, by decide +kernel, w_at 777 rfl rfl, w_at 778 rfl rfl, rfl, by decide +kernel⟩
set_option maxRecDepth 100000 in
theorem mk_X8_check : mOk M_X8_check 0 0 := ⟨w_at 1207 rfl rfl, w_at 71 rfl rfl, by decide +kernel, rfl, by decide +kernel, by decide +kernel, by decide +kernel, w_at 1205 rfl rfl, w_at 1206 rfl rfl, rfl, by decide +kernel⟩
set_option maxRecDepth 100000 in
theorem mk_X7_found : mOk M_X7_found 0 1 := ⟨w_at 788 rfl rfl, w_at 62 rfl rfl, by decide +kernel, rfl, by decide +kernel, by decide +kernel, by decide +kernel, w_at 786 rfl rfl, w_at 787 rfl rfl, rfl, by decide +kernel⟩
set_option maxRecDepth 100000 in
theorem mk_X8_found : mOk M_X8_found 0 1 := ⟨w_at 1211 rfl rfl, w_at 71 rfl rfl, by decide +kernel, rfl, by decide +kernel, by decide +kernel, by decide +kernel, w_at 1209 rfl rfl, w_at 1210 rfl rfl, rfl, by decide +kernel⟩
set_option maxRecDepth 100000 in
theorem lk_0_48 : Cond.methodLink (onm 0) 48 M_X6_has.2.1 ∈ wAll := w_at 661 rfl rfl
set_option maxRecDepth 100000 in
theorem lk_0_61 : Cond.methodLink (onm 0) 61 M_X0_cellOf.2.1 ∈ wAll := w_at 649 rfl rfl
set_option maxRecDepth 100000 in
theorem lk_0_66 : Cond.methodLink (onm 0) 66 M_X0_fillCells.2.1 ∈ wAll := w_at 653 rfl rfl
set_option maxRecDepth 100000 in
theorem lk_0_70 : Cond.methodLink (onm 0) 70 M_X0_fits.2.1 ∈ wAll := w_at 657 rfl rfl
set_option maxRecDepth 100000 in
theorem lk_0_74 : Cond.methodLink (onm 0) 74 M_X0_gainOf.2.1 ∈ wAll := w_at 662 rfl rfl
set_option maxRecDepth 100000 in
theorem lk_0_78 : Cond.methodLink (onm 0) 78 M_X0_weighSteps.2.1 ∈ wAll := w_at 667 rfl rfl
set_option maxRecDepth 100000 in
theorem lk_0_82 : Cond.methodLink (onm 0) 82 M_X0_merge.2.1 ∈ wAll := w_at 672 rfl rfl
set_option maxRecDepth 100000 in
theorem lk_0_86 : Cond.methodLink (onm 0) 86 M_J7_fill_53178.2.1 ∈ wAll := w_at 676 rfl rfl
set_option maxRecDepth 100000 in
theorem lk_0_92 : Cond.methodLink (onm 0) 92 M_X0_trace.2.1 ∈ wAll := w_at 681 rfl rfl
set_option maxRecDepth 100000 in
theorem lk_0_96 : Cond.methodLink (onm 0) 96 M_X0_nextInOrder.2.1 ∈ wAll := w_at 677 rfl rfl
set_option maxRecDepth 100000 in
theorem lk_0_99 : Cond.methodLink (onm 0) 99 M_X0_offerSteps.2.1 ∈ wAll := w_at 720 rfl rfl
set_option maxRecDepth 100000 in
theorem lk_0_102 : Cond.methodLink (onm 0) 102 M_X0_offer.2.1 ∈ wAll := w_at 724 rfl rfl
set_option maxRecDepth 100000 in
theorem lk_0_105 : Cond.methodLink (onm 0) 105 M_X6_worthAt.2.1 ∈ wAll := w_at 666 rfl rfl
set_option maxRecDepth 100000 in
theorem lk_0_112 : Cond.methodLink (onm 0) 112 M_X1_costAt.2.1 ∈ wAll := w_at 671 rfl rfl
set_option maxRecDepth 100000 in
theorem lk_1_38 : Cond.methodLink (onm 1) 38 M_J7_fill_53178.2.1 ∈ wAll := w_at 185 rfl rfl
set_option maxRecDepth 100000 in
theorem lk_1_44 : Cond.methodLink (onm 1) 44 M_X1_cellOf.2.1 ∈ wAll := w_at 537 rfl rfl
set_option maxRecDepth 100000 in
theorem lk_1_48 : Cond.methodLink (onm 1) 48 M_X6_startOf.2.1 ∈ wAll := w_at 592 rfl rfl
set_option maxRecDepth 100000 in
theorem lk_1_54 : Cond.methodLink (onm 1) 54 M_X1_listen.2.1 ∈ wAll := w_at 596 rfl rfl
set_option maxRecDepth 100000 in
theorem lk_1_58 : Cond.methodLink (onm 1) 58 M_X1_squaresOf.2.1 ∈ wAll := w_at 599 rfl rfl
set_option maxRecDepth 100000 in
theorem lk_1_62 : Cond.methodLink (onm 1) 62 M_X1_liken.2.1 ∈ wAll := w_at 603 rfl rfl
set_option maxRecDepth 100000 in
theorem lk_1_66 : Cond.methodLink (onm 1) 66 M_X1_measure.2.1 ∈ wAll := w_at 615 rfl rfl
set_option maxRecDepth 100000 in
theorem lk_1_70 : Cond.methodLink (onm 1) 70 M_J9_abs_0f7a4.2.1 ∈ wAll := w_at 619 rfl rfl
set_option maxRecDepth 100000 in
theorem lk_1_75 : Cond.methodLink (onm 1) 75 M_X6_frameAt.2.1 ∈ wAll := w_at 620 rfl rfl
set_option maxRecDepth 100000 in
theorem lk_1_78 : Cond.methodLink (onm 1) 78 M_X6_levelAt.2.1 ∈ wAll := w_at 624 rfl rfl
set_option maxRecDepth 100000 in
theorem lk_2_21 : Cond.methodLink (onm 2) 21 M_X6_frameCount.2.1 ∈ wAll := w_at 510 rfl rfl
set_option maxRecDepth 100000 in
theorem lk_2_27 : Cond.methodLink (onm 2) 27 M_J9_min_7cf53.2.1 ∈ wAll := w_at 511 rfl rfl
set_option maxRecDepth 100000 in
theorem lk_2_33 : Cond.methodLink (onm 2) 33 M_X6_levelAt.2.1 ∈ wAll := w_at 512 rfl rfl
set_option maxRecDepth 100000 in
theorem lk_2_44 : Cond.methodLink (onm 2) 44 M_X2_sumUp.2.1 ∈ wAll := w_at 513 rfl rfl
set_option maxRecDepth 100000 in
theorem lk_2_48 : Cond.methodLink (onm 2) 48 M_X2_leastStart.2.1 ∈ wAll := w_at 524 rfl rfl
set_option maxRecDepth 100000 in
theorem lk_2_51 : Cond.methodLink (onm 2) 51 M_X2_write.2.1 ∈ wAll := w_at 528 rfl rfl
set_option maxRecDepth 100000 in
theorem lk_2_63 : Cond.methodLink (onm 2) 63 M_X2_leastRest.2.1 ∈ wAll := w_at 517 rfl rfl
set_option maxRecDepth 100000 in
theorem lk_2_70 : Cond.methodLink (onm 2) 70 M_J9_abs_0f7a4.2.1 ∈ wAll := w_at 521 rfl rfl
set_option maxRecDepth 100000 in
theorem lk_3_40 : Cond.methodLink (onm 3) 40 M_X3_addStretch.2.1 ∈ wAll := w_at 694 rfl rfl
set_option maxRecDepth 100000 in
theorem lk_3_60 : Cond.methodLink (onm 3) 60 M_X6_startOf.2.1 ∈ wAll := w_at 698 rfl rfl
set_option maxRecDepth 100000 in
theorem lk_3_69 : Cond.methodLink (onm 3) 69 M_X1_shiftAt.2.1 ∈ wAll := w_at 699 rfl rfl
set_option maxRecDepth 100000 in
theorem lk_3_78 : Cond.methodLink (onm 3) 78 M_J9_max_7cf53.2.1 ∈ wAll := w_at 700 rfl rfl
set_option maxRecDepth 100000 in
theorem lk_3_87 : Cond.methodLink (onm 3) 87 M_J9_min_7cf53.2.1 ∈ wAll := w_at 701 rfl rfl
set_option maxRecDepth 100000 in
theorem lk_3_96 : Cond.methodLink (onm 3) 96 M_X5_size.2.1 ∈ wAll := w_at 702 rfl rfl
set_option maxRecDepth 100000 in
theorem lk_3_100 : Cond.methodLink (onm 3) 100 M_X5_indexOf.2.1 ∈ wAll := w_at 756 rfl rfl
set_option maxRecDepth 100000 in
theorem lk_3_103 : Cond.methodLink (onm 3) 103 M_X6_soundAt.2.1 ∈ wAll := w_at 760 rfl rfl
set_option maxRecDepth 100000 in
theorem lk_3_106 : Cond.methodLink (onm 3) 106 M_X3_isInRamp.2.1 ∈ wAll := w_at 761 rfl rfl
set_option maxRecDepth 100000 in
theorem lk_3_110 : Cond.methodLink (onm 3) 110 M_J9_floorDiv_7cf53.2.1 ∈ wAll := w_at 765 rfl rfl
set_option maxRecDepth 100000 in
theorem lk_6_44 : Cond.methodLink (onm 6) 44 M_X6_clearBeats.2.1 ∈ wAll := w_at 381 rfl rfl
set_option maxRecDepth 100000 in
theorem lk_6_50 : Cond.methodLink (onm 6) 50 M_J7_fill_53178.2.1 ∈ wAll := w_at 385 rfl rfl
set_option maxRecDepth 100000 in
theorem lk_6_56 : Cond.methodLinkNest (onm 6) 56 M_X7_isUnder.2.1 "TakeDesk" ∈ nwW := by decide +kernel
set_option maxRecDepth 100000 in
theorem lk_6_60 : Cond.methodLink (onm 6) 60 M_X6_write.2.1 ∈ wAll := w_at 442 rfl rfl
set_option maxRecDepth 100000 in
theorem lk_6_64 : Cond.methodLink (onm 6) 64 M_X6_has.2.1 ∈ wAll := w_at 557 rfl rfl
set_option maxRecDepth 100000 in
theorem lk_7_68 : Cond.methodLink (onm 7) 68 M_X7_isWithin.2.1 ∈ wAll := w_at 368 rfl rfl
set_option maxRecDepth 100000 in
theorem lk_7_73 : Cond.methodLink (onm 7) 73 M_X7_refuse.2.1 ∈ wAll := w_at 372 rfl rfl
set_option maxRecDepth 100000 in
theorem lk_7_77 : Cond.methodLink (onm 7) 77 M_X4_renew.2.1 ∈ wAll := w_at 376 rfl rfl
set_option maxRecDepth 100000 in
theorem lk_7_81 : Cond.methodLink (onm 7) 81 M_X6_meetScore.2.1 ∈ wAll := w_at 377 rfl rfl
set_option maxRecDepth 100000 in
theorem lk_7_88 : Cond.methodLink (onm 7) 88 M_X4_holds.2.1 ∈ wAll := w_at 395 rfl rfl
set_option maxRecDepth 100000 in
theorem lk_7_98 : Cond.methodLink (onm 7) 98 M_X7_changeTake.2.1 ∈ wAll := w_at 399 rfl rfl
set_option maxRecDepth 100000 in
theorem lk_7_101 : Cond.methodLink (onm 7) 101 M_X7_isTake.2.1 ∈ wAll := w_at 407 rfl rfl
set_option maxRecDepth 100000 in
theorem lk_7_104 : Cond.methodLink (onm 7) 104 M_X7_isKind.2.1 ∈ wAll := w_at 410 rfl rfl
set_option maxRecDepth 100000 in
theorem lk_7_107 : Cond.methodLink (onm 7) 107 M_X7_isUnder.2.1 ∈ wAll := w_at 413 rfl rfl
set_option maxRecDepth 100000 in
theorem lk_7_114 : Cond.methodLink (onm 7) 114 M_X6_begin.2.1 ∈ wAll := w_at 414 rfl rfl
set_option maxRecDepth 100000 in
theorem lk_7_118 : Cond.methodLink (onm 7) 118 M_X7_askTake.2.1 ∈ wAll := w_at 422 rfl rfl
set_option maxRecDepth 100000 in
theorem lk_7_125 : Cond.methodLink (onm 7) 125 M_X6_room.2.1 ∈ wAll := w_at 432 rfl rfl
set_option maxRecDepth 100000 in
theorem lk_7_131 : Cond.methodLink (onm 7) 131 M_X6_append.2.1 ∈ wAll := w_at 438 rfl rfl
set_option maxRecDepth 100000 in
theorem lk_7_137 : Cond.methodLink (onm 7) 137 M_X7_askPair.2.1 ∈ wAll := w_at 450 rfl rfl
set_option maxRecDepth 100000 in
theorem lk_7_141 : Cond.methodLink (onm 7) 141 M_X6_soundAt.2.1 ∈ wAll := w_at 454 rfl rfl
set_option maxRecDepth 100000 in
theorem lk_7_144 : Cond.methodLink (onm 7) 144 M_J9_min_7cf53.2.1 ∈ wAll := w_at 458 rfl rfl
set_option maxRecDepth 100000 in
theorem lk_7_149 : Cond.methodLink (onm 7) 149 M_J9_max_7cf53.2.1 ∈ wAll := w_at 461 rfl rfl
set_option maxRecDepth 100000 in
theorem lk_7_152 : Cond.methodLink (onm 7) 152 M_X6_write.2.1 ∈ wAll := w_at 468 rfl rfl
set_option maxRecDepth 100000 in
theorem lk_7_166 : Cond.methodLink (onm 7) 166 M_X6_frameCount.2.1 ∈ wAll := w_at 482 rfl rfl
set_option maxRecDepth 100000 in
theorem lk_7_169 : Cond.methodLink (onm 7) 169 M_X6_levelAt.2.1 ∈ wAll := w_at 486 rfl rfl
set_option maxRecDepth 100000 in
theorem lk_7_172 : Cond.methodLink (onm 7) 172 M_X7_askTakeBeat.2.1 ∈ wAll := w_at 494 rfl rfl
set_option maxRecDepth 100000 in
theorem lk_7_178 : Cond.methodLink (onm 7) 178 M_X2_place.2.1 ∈ wAll := w_at 506 rfl rfl
set_option maxRecDepth 100000 in
theorem lk_7_183 : Cond.methodLink (onm 7) 183 M_X1_forgetTake.2.1 ∈ wAll := w_at 533 rfl rfl
set_option maxRecDepth 100000 in
theorem lk_7_190 : Cond.methodLink (onm 7) 190 M_X6_has.2.1 ∈ wAll := w_at 498 rfl rfl
set_option maxRecDepth 100000 in
theorem lk_7_199 : Cond.methodLink (onm 7) 199 M_X6_worthAt.2.1 ∈ wAll := w_at 553 rfl rfl
set_option maxRecDepth 100000 in
theorem lk_7_202 : Cond.methodLink (onm 7) 202 M_X7_isSetting.2.1 ∈ wAll := w_at 564 rfl rfl
set_option maxRecDepth 100000 in
theorem lk_7_205 : Cond.methodLink (onm 7) 205 M_X7_setting.2.1 ∈ wAll := w_at 568 rfl rfl
set_option maxRecDepth 100000 in
theorem lk_7_211 : Cond.methodLink (onm 7) 211 M_X1_forgetAll.2.1 ∈ wAll := w_at 572 rfl rfl
set_option maxRecDepth 100000 in
theorem lk_7_223 : Cond.methodLink (onm 7) 223 M_X7_askJoin.2.1 ∈ wAll := w_at 580 rfl rfl
set_option maxRecDepth 100000 in
theorem lk_7_227 : Cond.methodLink (onm 7) 227 M_X1_likenessBy.2.1 ∈ wAll := w_at 588 rfl rfl
set_option maxRecDepth 100000 in
theorem lk_7_231 : Cond.methodLink (onm 7) 231 M_X1_shiftAt.2.1 ∈ wAll := w_at 611 rfl rfl
set_option maxRecDepth 100000 in
theorem lk_7_234 : Cond.methodLink (onm 7) 234 M_X1_costAt.2.1 ∈ wAll := w_at 629 rfl rfl
set_option maxRecDepth 100000 in
theorem lk_7_244 : Cond.methodLink (onm 7) 244 M_X0_findRanked.2.1 ∈ wAll := w_at 645 rfl rfl
set_option maxRecDepth 100000 in
theorem lk_7_247 : Cond.methodLink (onm 7) 247 M_X7_adopt.2.1 ∈ wAll := w_at 685 rfl rfl
set_option maxRecDepth 100000 in
theorem lk_7_250 : Cond.methodLink (onm 7) 250 M_X0_findWithin.2.1 ∈ wAll := w_at 716 rfl rfl
set_option maxRecDepth 100000 in
theorem lk_7_256 : Cond.methodLink (onm 7) 256 M_X3_joinCount.2.1 ∈ wAll := w_at 736 rfl rfl
set_option maxRecDepth 100000 in
theorem lk_7_262 : Cond.methodLink (onm 7) 262 M_X3_stretchOf.2.1 ∈ wAll := w_at 748 rfl rfl
set_option maxRecDepth 100000 in
theorem lk_7_266 : Cond.methodLink (onm 7) 266 M_X3_soundOf.2.1 ∈ wAll := w_at 752 rfl rfl
set_option maxRecDepth 100000 in
theorem lk_7_275 : Cond.methodLink (onm 7) 275 M_X5_indexOf.2.1 ∈ wAll := w_at 770 rfl rfl
set_option maxRecDepth 100000 in
theorem lk_7_281 : Cond.methodLink (onm 7) 281 M_X3_isInRamp.2.1 ∈ wAll := w_at 771 rfl rfl
set_option maxRecDepth 100000 in
theorem lk_7_285 : Cond.methodLink (onm 7) 285 M_X7_mayStand.2.1 ∈ wAll := w_at 780 rfl rfl
set_option maxRecDepth 100000 in
theorem lk_7_289 : Cond.methodLink (onm 7) 289 M_X6_leadsTo.2.1 ∈ wAll := w_at 584 rfl rfl
set_option maxRecDepth 100000 in
theorem lk_7_292 : Cond.methodLink (onm 7) 292 M_X0_fits.2.1 ∈ wAll := w_at 784 rfl rfl
set_option maxRecDepth 100000 in
theorem lk_7_299 : Cond.methodLink (onm 7) 299 M_X3_follow.2.1 ∈ wAll := w_at 690 rfl rfl
set_option maxRecDepth 100000 in
theorem lk_7_303 : Cond.methodLink (onm 7) 303 M_X7_valueOf.2.1 ∈ wAll := w_at 706 rfl rfl
set_option maxRecDepth 100000 in
theorem lk_7_306 : Cond.methodLink (onm 7) 306 M_J9_floorDiv_7cf53.2.1 ∈ wAll := w_at 709 rfl rfl
set_option maxRecDepth 100000 in
theorem lk_8_129 : Cond.methodLink (onm 8) 129 M_X8_begin.2.1 ∈ wAll := w_at 795 rfl rfl
set_option maxRecDepth 100000 in
theorem lk_8_135 : Cond.methodLink (onm 8) 135 M_X8_layNone.2.1 ∈ wAll := w_at 799 rfl rfl
set_option maxRecDepth 100000 in
theorem lk_8_142 : Cond.methodLink (onm 8) 142 M_X8_in.2.1 ∈ wAll := w_at 934 rfl rfl
set_option maxRecDepth 100000 in
theorem lk_8_146 : Cond.methodLink (onm 8) 146 M_X8_answer.2.1 ∈ wAll := w_at 938 rfl rfl
set_option maxRecDepth 100000 in
theorem lk_8_150 : Cond.methodLink (onm 8) 150 M_X8_isPart.2.1 ∈ wAll := w_at 944 rfl rfl
set_option maxRecDepth 100000 in
theorem lk_8_154 : Cond.methodLink (onm 8) 154 M_X8_isBeat.2.1 ∈ wAll := w_at 952 rfl rfl
set_option maxRecDepth 100000 in
theorem lk_8_157 : Cond.methodLink (onm 8) 157 M_X8_begins.2.1 ∈ wAll := w_at 1009 rfl rfl
set_option maxRecDepth 100000 in
theorem lk_8_160 : Cond.methodLink (onm 8) 160 M_X8_ends.2.1 ∈ wAll := w_at 1005 rfl rfl
set_option maxRecDepth 100000 in
theorem lk_8_163 : Cond.methodLink (onm 8) 163 M_X8_isTake.2.1 ∈ wAll := w_at 960 rfl rfl
set_option maxRecDepth 100000 in
theorem lk_8_167 : Cond.methodLink (onm 8) 167 M_X8_changed.2.1 ∈ wAll := w_at 963 rfl rfl
set_option maxRecDepth 100000 in
theorem lk_8_171 : Cond.methodLink (onm 8) 171 M_X8_look.2.1 ∈ wAll := w_at 971 rfl rfl
set_option maxRecDepth 100000 in
theorem lk_8_177 : Cond.methodLink (onm 8) 177 M_X8_add.2.1 ∈ wAll := w_at 983 rfl rfl
set_option maxRecDepth 100000 in
theorem lk_8_181 : Cond.methodLink (onm 8) 181 M_J9_min_7cf53.2.1 ∈ wAll := w_at 991 rfl rfl
set_option maxRecDepth 100000 in
theorem lk_8_187 : Cond.methodLink (onm 8) 187 M_J9_max_7cf53.2.1 ∈ wAll := w_at 992 rfl rfl
set_option maxRecDepth 100000 in
theorem lk_8_191 : Cond.methodLink (onm 8) 191 M_X8_frameMany.2.1 ∈ wAll := w_at 1018 rfl rfl
set_option maxRecDepth 100000 in
theorem lk_8_194 : Cond.methodLink (onm 8) 194 M_X8_levelOf.2.1 ∈ wAll := w_at 1022 rfl rfl
set_option maxRecDepth 100000 in
theorem lk_8_197 : Cond.methodLink (onm 8) 197 M_X8_has.2.1 ∈ wAll := w_at 1030 rfl rfl
set_option maxRecDepth 100000 in
theorem lk_8_202 : Cond.methodLink (onm 8) 202 M_X8_apart.2.1 ∈ wAll := w_at 1047 rfl rfl
set_option maxRecDepth 100000 in
theorem lk_8_205 : Cond.methodLink (onm 8) 205 M_X8_behind.2.1 ∈ wAll := w_at 1042 rfl rfl
set_option maxRecDepth 100000 in
theorem lk_8_209 : Cond.methodLink (onm 8) 209 M_X8_reckon.2.1 ∈ wAll := w_at 1038 rfl rfl
set_option maxRecDepth 100000 in
theorem lk_8_213 : Cond.methodLink (onm 8) 213 M_X8_worthOf.2.1 ∈ wAll := w_at 1063 rfl rfl
set_option maxRecDepth 100000 in
theorem lk_8_216 : Cond.methodLink (onm 8) 216 M_X8_frameOf.2.1 ∈ wAll := w_at 1083 rfl rfl
set_option maxRecDepth 100000 in
theorem lk_8_219 : Cond.methodLink (onm 8) 219 M_X8_sampleOf.2.1 ∈ wAll := w_at 1087 rfl rfl
set_option maxRecDepth 100000 in
theorem lk_8_224 : Cond.methodLink (onm 8) 224 M_X8_lookTwo.2.1 ∈ wAll := w_at 1075 rfl rfl
set_option maxRecDepth 100000 in
theorem lk_8_228 : Cond.methodLink (onm 8) 228 M_X8_likeness.2.1 ∈ wAll := w_at 1079 rfl rfl
set_option maxRecDepth 100000 in
theorem lk_8_231 : Cond.methodLink (onm 8) 231 M_X8_shiftOf.2.1 ∈ wAll := w_at 1096 rfl rfl
set_option maxRecDepth 100000 in
theorem lk_8_234 : Cond.methodLink (onm 8) 234 M_X8_costOf.2.1 ∈ wAll := w_at 1104 rfl rfl
set_option maxRecDepth 100000 in
theorem lk_8_237 : Cond.methodLink (onm 8) 237 M_X8_may.2.1 ∈ wAll := w_at 1128 rfl rfl
set_option maxRecDepth 100000 in
theorem lk_8_240 : Cond.methodLink (onm 8) 240 M_X8_isAhead.2.1 ∈ wAll := w_at 1136 rfl rfl
set_option maxRecDepth 100000 in
theorem lk_8_244 : Cond.methodLink (onm 8) 244 M_X8_findCosts.2.1 ∈ wAll := w_at 1124 rfl rfl
set_option maxRecDepth 100000 in
theorem lk_8_247 : Cond.methodLink (onm 8) 247 M_X8_enter.2.1 ∈ wAll := w_at 1132 rfl rfl
set_option maxRecDepth 100000 in
theorem lk_8_251 : Cond.methodLink (onm 8) 251 M_X8_goOn.2.1 ∈ wAll := w_at 1140 rfl rfl
set_option maxRecDepth 100000 in
theorem lk_8_255 : Cond.methodLink (onm 8) 255 M_X8_mayJoin.2.1 ∈ wAll := w_at 1144 rfl rfl
set_option maxRecDepth 100000 in
theorem lk_8_258 : Cond.methodLink (onm 8) 258 M_X8_findWays.2.1 ∈ wAll := w_at 1120 rfl rfl
set_option maxRecDepth 100000 in
theorem lk_8_261 : Cond.methodLink (onm 8) 261 M_X8_isBefore.2.1 ∈ wAll := w_at 1148 rfl rfl
set_option maxRecDepth 100000 in
theorem lk_8_264 : Cond.methodLink (onm 8) 264 M_X8_follow.2.1 ∈ wAll := w_at 1152 rfl rfl
set_option maxRecDepth 100000 in
theorem lk_8_267 : Cond.methodLink (onm 8) 267 M_X8_few.2.1 ∈ wAll := w_at 1164 rfl rfl
set_option maxRecDepth 100000 in
theorem lk_8_270 : Cond.methodLink (onm 8) 270 M_X8_findFew.2.1 ∈ wAll := w_at 1160 rfl rfl
set_option maxRecDepth 100000 in
theorem lk_8_274 : Cond.methodLink (onm 8) 274 M_X8_isJoin.2.1 ∈ wAll := w_at 1175 rfl rfl
set_option maxRecDepth 100000 in
theorem lk_8_280 : Cond.methodLink (onm 8) 280 M_X8_makeRow.2.1 ∈ wAll := w_at 1187 rfl rfl
set_option maxRecDepth 100000 in
theorem lk_8_283 : Cond.methodLink (onm 8) 283 M_J9_floorDiv_7cf53.2.1 ∈ wAll := w_at 1191 rfl rfl
set_option maxRecDepth 100000 in
theorem lk_8_286 : Cond.methodLink (onm 8) 286 M_X8_make.2.1 ∈ wAll := w_at 1183 rfl rfl
