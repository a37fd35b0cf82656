set_option maxRecDepth 16384
theorem kF : lkC 10 101 10 = some (mX10_bindBySlip, 3, 2) ∧
  lkC 10 105 10 = some (mX10_doDeed, 1, 2) ∧
  lkC 10 108 8 = some (mX8_isBound, 2, 2) ∧
  lkC 10 111 8 = some (mX8_areOwn, 2, 2) ∧
  lkC 10 114 8 = some (mX8_natureOf, 2, 2) ∧
  lkC 10 118 0 = some (mX0_growth, 1, 3) ∧
  lkC 10 118 1 = some (mX1_growth, 1, 3) ∧
  lkC 10 118 3 = some (mX9_growth, 1, 3) ∧
  lkC 10 118 6 = some (mX6_growth, 1, 2) ∧
  lkC 10 118 7 = some (mX7_growth, 1, 3) ∧
  lkC 10 118 9 = some (mX9_growth, 1, 3) ∧
  lkC 10 124 8 = some (mX8_addLiking, 4, 2) ∧
  lkC 10 128 0 = some (mX0_sulking, 0, 3) ∧
  lkC 10 128 1 = some (mX6_sulking, 0, 3) ∧
  lkC 10 128 3 = some (mX3_sulking, 0, 3) ∧
  lkC 10 128 6 = some (mX6_sulking, 0, 2) ∧
  lkC 10 128 7 = some (mX7_sulking, 0, 3) ∧
  lkC 10 128 9 = some (mX6_sulking, 0, 3) ∧
  lkC 10 132 10 = some (mX10_end, 2, 2) ∧
  lkC 10 135 8 = some (mX8_bind, 2, 2) ∧
  lkC 10 138 10 = some (mX10_loseCouplesWith, 2, 2) ∧
  lkC 10 29 10 = some (mX10_orderByNumbers, 0, 2) ∧
  lkC 10 32 10 = some (mX10_again, 1, 2) ∧
  lkC 10 36 8 = some (mX8_takeFrom, 1, 2) ∧
  lkC 10 57 10 = some (mX10_swap, 2, 2) ∧
  lkC 10 64 8 = some (mX8_goesOn, 1, 2) ∧
  lkC 10 68 10 = some (mX10_takeTurn, 1, 2) ∧
  lkC 10 71 10 = some (mX10_waitAll, 1, 2) ∧
  lkC 10 75 8 = some (mX8_doer, 2, 2) ∧
  lkC 10 79 10 = some (mX10_isTaken, 2, 2) ∧
  lkC 10 86 10 = some (mX10_meet, 2, 2) ∧
  lkC 10 89 10 = some (mX10_sulkOver, 2, 2) ∧
  lkC 10 98 8 = some (mX8_likeAboveSlip, 2, 2) ∧
  lkC 11 103 11 = some (mX11_doStatement, 2, 2) ∧
  lkC 11 110 8 = some (mX8_takeFrom, 1, 2) ∧
  lkC 11 113 8 = some (mX8_hasOne, 2, 2) ∧
  lkC 11 117 8 = some (mX8_natureOf, 2, 2) ∧
  lkC 11 121 0 = some (mX0_kind, 0, 3) ∧
  lkC 11 121 1 = some (mX1_kind, 0, 3) ∧
  lkC 11 121 3 = some (mX3_kind, 0, 3) ∧
  lkC 11 121 6 = some (mX6_kind, 0, 2) ∧
  lkC 11 121 7 = some (mX7_kind, 0, 3) ∧
  lkC 11 121 9 = some (mX9_kind, 0, 3) ∧
  lkC 11 139 0 = some (mX0_sulking, 0, 3) ∧
  lkC 11 139 1 = some (mX6_sulking, 0, 3) ∧
  lkC 11 139 3 = some (mX3_sulking, 0, 3) ∧
  lkC 11 139 6 = some (mX6_sulking, 0, 2) ∧
  lkC 11 139 7 = some (mX7_sulking, 0, 3) ∧
  lkC 11 139 9 = some (mX6_sulking, 0, 3) ∧
  lkC 11 145 0 = some (mX0_growth, 1, 3) ∧
  lkC 11 145 1 = some (mX1_growth, 1, 3) ∧
  lkC 11 145 3 = some (mX9_growth, 1, 3) ∧
  lkC 11 145 6 = some (mX6_growth, 1, 2) ∧
  lkC 11 145 7 = some (mX7_growth, 1, 3) ∧
  lkC 11 145 9 = some (mX9_growth, 1, 3) ∧
  lkC 11 149 0 = some (mX0_retold, 1, 3) ∧
  lkC 11 149 1 = some (mX1_retold, 1, 3) ∧
  lkC 11 149 3 = some (mX3_retold, 1, 3) ∧
  lkC 11 149 6 = some (mX6_retold, 1, 2) ∧
  lkC 11 149 7 = some (mX7_retold, 1, 3) ∧
  lkC 11 149 9 = some (mX9_retold, 1, 3) ∧
  lkC 11 155 5 = some (mX5_refusalAsNature, 0, 2) ∧
  lkC 11 162 8 = some (mX8_admit, 2, 2) ∧
  lkC 11 166 8 = some (mX8_hasTwo, 3, 2) ∧
  lkC 11 170 8 = some (mX8_liking, 3, 2) ∧
  lkC 11 174 8 = some (mX8_setLiking, 4, 2) ∧
  lkC 11 178 8 = some (mX8_setDeputy, 3, 2) ∧
  lkC 11 182 8 = some (mX8_pair, 2, 2) ∧
  lkC 11 185 8 = some (mX8_hasCouple, 1, 2) ∧
  lkC 11 200 8 = some (mX8_goesOn, 1, 2) ∧
  lkC 11 203 8 = some (mX8_doer, 2, 2) ∧
  lkC 11 218 10 = some (mX10_pass, 1, 2) ∧
  lkC 11 239 8 = some (mX8_howMany, 1, 2) ∧
  lkC 11 245 10 = some (mX10_orderByNumbers, 0, 2) ∧
  lkC 11 248 10 = some (mX10_again, 1, 2) ∧
  lkC 11 251 11 = some (mX11_daysTillWed, 0, 2) ∧
  lkC 11 254 10 = some (mX10_orderDigits, 0, 2) ∧
  lkC 11 257 10 = some (mX10_nextOrder, 0, 2) ∧
  lkC 11 264 11 = some (mX11_dayWedWith, 3, 2) ∧
  lkC 11 267 5 = some (mX5_refusalAsRow, 0, 2) ∧
  lkC 11 270 4 = some (mX4_clear, 0, 2) ∧
  lkC 11 279 4 = some (mX4_joinFree, 2, 2) ∧
  lkC 11 282 4 = some (mX4_firstLeaving, 0, 2) ∧
  lkC 11 285 4 = some (mX4_askAll, 0, 2) ∧
  lkC 11 291 4 = some (mX4_survey, 0, 2) ∧
  lkC 11 303 11 = some (mX11_reported, 3, 2) ∧
  lkC 11 306 5 = some (mX5_isAll, 1, 2) ∧
  lkC 11 309 2 = some (mX2_become, 1, 2) ∧
  lkC 11 313 2 = some (mX2_tell, 1, 2) ∧
  lkC 11 316 2 = some (mX2_mix, 3, 2) ∧
  lkC 11 320 5 = some (mX5_leastOfSort, 0, 2) ∧
  lkC 11 324 8 = some (mX8_drawLikings, 1, 2) ∧
  lkC 11 334 5 = some (mX5_holdNature, 1, 2) ∧
  lkC 11 337 5 = some (mX5_holdRow, 2, 2) ∧
  lkC 11 341 5 = some (mX5_hasPlace, 1, 2) ∧
  lkC 11 344 5 = some (mX5_store, 2, 2) ∧
  lkC 11 359 5 = some (mX5_hasPlaces, 2, 2) ∧
  lkC 11 368 0 = some (mX0_price, 0, 3) ∧
  lkC 11 368 1 = some (mX1_price, 0, 3) ∧
  lkC 11 368 3 = some (mX3_price, 0, 3) ∧
  lkC 11 368 6 = some (mX6_price, 0, 2) ∧
  lkC 11 368 7 = some (mX7_price, 0, 3) ∧
  lkC 11 368 9 = some (mX9_price, 0, 3) ∧
  lkC 11 371 0 = some (mX6_fail, 0, 3) ∧
  lkC 11 371 1 = some (mX1_fail, 0, 3) ∧
  lkC 11 371 3 = some (mX3_fail, 0, 3) ∧
  lkC 11 371 6 = some (mX6_fail, 0, 2) ∧
  lkC 11 371 7 = some (mX7_fail, 0, 3) ∧
  lkC 11 371 9 = some (mX6_fail, 0, 3) ∧
  lkC 11 379 5 = some (mX5_digitAt, 1, 2) ∧
  lkC 11 90 10 = some (mX10_begin, 1, 2) ∧
  lkC 11 96 5 = some (mX5_byteAt, 1, 2) ∧
  lkC 12 124 12 = some (mX12_ends, 3, 2) ∧
  lkC 12 138 12 = some (mX12_bind, 5, 2) ∧
  lkC 12 142 12 = some (mX12_turn, 3, 2) ∧
  lkC 12 149 12 = some (mX12_begins, 0, 2) ∧
  lkC 12 152 12 = some (mX12_goes, 1, 2) ∧
  lkC 12 165 12 = some (mX12_here, 0, 2) ∧
  lkC 12 169 12 = some (mX12_readsNumber, 2, 2) ∧
  lkC 12 172 12 = some (mX12_addsOne, 3, 2) ∧
  lkC 12 175 12 = some (mX12_isOne, 2, 2) ∧
  lkC 12 178 12 = some (mX12_canNotBe, 2, 2) ∧
  lkC 12 181 12 = some (mX12_addsCouple, 2, 2) ∧
  lkC 12 184 12 = some (mX12_wrongRow, 2, 2) ∧
  lkC 12 187 12 = some (mX12_readsStatement, 0, 2) ∧
  lkC 12 191 12 = some (mX12_isDone, 1, 2) ∧
  lkC 12 205 12 = some (mX12_wrongKept, 1, 2) ∧
  lkC 12 208 12 = some (mX12_isCouple, 1, 2) ∧
  lkC 12 211 12 = some (mX12_inMind, 1, 2) ∧
  lkC 12 219 12 = some (mX12_daysTillWed, 1, 2) ∧
  lkC 12 228 12 = some (mX12_eachOrder, 3, 2) ∧
  lkC 12 233 12 = some (mX12_manOf, 1, 2) ∧
  lkC 12 236 12 = some (mX12_leaving, 0, 2) ∧
  lkC 12 239 12 = some (mX12_nextOf, 2, 2) ∧
  lkC 12 242 12 = some (mX12_keepsMore, 3, 2) ∧
  lkC 12 245 12 = some (mX12_asksOnce, 0, 2) ∧
  lkC 12 254 12 = some (mX12_looksAtMatching, 0, 2) ∧
  lkC 12 257 12 = some (mX12_eachMatching, 3, 2) ∧
  lkC 12 260 12 = some (mX12_allMatchings, 0, 2) ∧
  lkC 12 263 12 = some (mX12_told, 3, 2) ∧
  lkC 12 266 12 = some (mX12_isLearnt, 3, 2) ∧
  lkC 12 271 12 = some (mX12_digitOf, 2, 2) ∧
  lkC 12 275 12 = some (mX12_thaws, 3, 2) ∧
  lkC 12 285 12 = some (mX12_drawn, 1, 2) ∧
  lkC 13 101 12 = some (mX12_orders, 1, 2) ∧
  lkC 13 102 11 = some (mX11_deputies, 2, 2) ∧
  lkC 13 105 12 = some (mX12_deputies, 2, 2) ∧
  lkC 13 106 11 = some (mX11_bestWho, 1, 2) ∧
  lkC 13 109 12 = some (mX12_bestWho, 1, 2) ∧
  lkC 13 110 11 = some (mX11_leave, 1, 2) ∧
  lkC 13 113 12 = some (mX12_leave, 1, 2) ∧
  lkC 13 114 11 = some (mX11_stable, 1, 2) ∧
  lkC 13 117 12 = some (mX12_stable, 1, 2) ∧
  lkC 13 118 11 = some (mX11_allStable, 0, 2) ∧
  lkC 13 121 12 = some (mX12_allStable, 0, 2) ∧
  lkC 13 122 11 = some (mX11_most, 0, 2) ∧
  lkC 13 125 12 = some (mX12_most, 0, 2) ∧
  lkC 13 126 11 = some (mX11_mostOf, 1, 2) ∧
  lkC 13 129 12 = some (mX12_mostOf, 1, 2) ∧
  lkC 13 130 11 = some (mX11_report, 3, 2) ∧
  lkC 13 133 12 = some (mX12_report, 3, 2) ∧
  lkC 13 134 11 = some (mX11_said, 4, 2) ∧
  lkC 13 137 12 = some (mX12_said, 4, 2) ∧
  lkC 13 138 11 = some (mX11_learnt, 2, 2) ∧
  lkC 13 141 12 = some (mX12_learnt, 2, 2) ∧
  lkC 13 142 11 = some (mX11_chain, 3, 2) ∧
  lkC 13 145 12 = some (mX12_chain, 3, 2) ∧
  lkC 13 146 11 = some (mX11_ways, 1, 2) ∧
  lkC 13 149 12 = some (mX12_ways, 1, 2) ∧
  lkC 13 150 11 = some (mX11_thaw, 4, 2) ∧
  lkC 13 153 12 = some (mX12_thaw, 4, 2) ∧
  lkC 13 154 11 = some (mX11_judge, 4, 2) ∧
  lkC 13 157 12 = some (mX12_judge, 4, 2) ∧
  lkC 13 158 11 = some (mX11_seeds, 3, 2) ∧
  lkC 13 161 12 = some (mX12_seeds, 3, 2) ∧
  lkC 13 162 11 = some (mX11_image, 0, 2) ∧
  lkC 13 165 12 = some (mX12_image, 0, 2) ∧
  lkC 13 166 11 = some (mX11_restore, 0, 2) ∧
  lkC 13 169 12 = some (mX12_restore, 0, 2) ∧
  lkC 13 170 11 = some (mX11_count, 1, 2) ∧
  lkC 13 173 12 = some (mX12_count, 1, 2) ∧
  lkC 13 174 11 = some (mX11_keep, 4, 2) ∧
  lkC 13 177 12 = some (mX12_keep, 4, 2) ∧
  lkC 13 178 11 = some (mX11_row, 3, 2) ∧
  lkC 13 181 12 = some (mX12_row, 3, 2) ∧
  lkC 13 182 11 = some (mX11_put, 3, 2) ∧
  lkC 13 185 12 = some (mX12_put, 3, 2) ∧
  lkC 13 191 12 = some (mX12_element, 2, 2) ∧
  lkC 13 192 12 = some (mX12_thrown, 0, 2) ∧
  lkC 13 195 11 = some (mX11_copy, 5, 2) ∧
  lkC 13 199 12 = some (mX12_copy, 5, 2) ∧
  lkC 13 200 11 = some (mX11_cost, 1, 2) ∧
  lkC 13 203 12 = some (mX12_cost, 1, 2) ∧
  lkC 13 204 11 = some (mX11_toss, 1, 8) ∧
  lkC 13 207 12 = some (mX12_toss, 1, 2) ∧
  lkC 13 21 11 = some (mX11_valley, 1, 2) ∧
  lkC 13 25 12 = some (mX12_valley, 1, 2) ∧
  lkC 13 26 11 = some (mX11_one, 3, 2) ∧
  lkC 13 30 12 = some (mX12_one, 3, 2) ∧
  lkC 13 31 11 = some (mX11_grows, 3, 2) ∧
  lkC 13 34 12 = some (mX12_grows, 3, 2) ∧
  lkC 13 35 11 = some (mX11_retells, 3, 2) ∧
  lkC 13 38 12 = some (mX12_retells, 3, 2) ∧
  lkC 13 39 11 = some (mX11_comes, 2, 2) ∧
  lkC 13 43 12 = some (mX12_comes, 2, 2) ∧
  lkC 13 44 11 = some (mX11_likes, 3, 2) ∧
  lkC 13 47 12 = some (mX12_likes, 3, 2) ∧
  lkC 13 48 11 = some (mX11_like, 4, 2) ∧
  lkC 13 52 12 = some (mX12_like, 4, 2) ∧
  lkC 13 53 11 = some (mX11_sends, 3, 2) ∧
  lkC 13 56 12 = some (mX12_sends, 3, 2) ∧
  lkC 13 57 11 = some (mX11_couple, 2, 2) ∧
  lkC 13 60 12 = some (mX12_couple, 2, 2) ∧
  lkC 13 61 11 = some (mX11_about, 2, 2) ∧
  lkC 13 64 12 = some (mX12_about, 2, 2) ∧
  lkC 13 65 11 = some (mX11_who, 2, 2) ∧
  lkC 13 68 12 = some (mX12_who, 2, 2) ∧
  lkC 13 69 11 = some (mX11_slip, 1, 2) ∧
  lkC 13 7 11 = some (mX11_element, 2, 2) ∧
  lkC 13 72 12 = some (mX12_slip, 1, 2) ∧
  lkC 13 73 11 = some (mX11_days, 1, 2) ∧
  lkC 13 76 12 = some (mX12_days, 1, 2) ∧
  lkC 13 77 11 = some (mX11_fate, 3, 2) ∧
  lkC 13 80 12 = some (mX12_fate, 3, 2) ∧
  lkC 13 81 11 = some (mX11_then, 4, 2) ∧
  lkC 13 84 12 = some (mX12_then, 4, 2) ∧
  lkC 13 85 11 = some (mX11_bound, 3, 2) ∧
  lkC 13 88 12 = some (mX12_bound, 3, 2) ∧
  lkC 13 89 11 = some (mX11_slips, 2, 2) ∧
  lkC 13 92 12 = some (mX12_slips, 2, 2) ∧
  lkC 13 93 11 = some (mX11_soonest, 0, 2) ∧
  lkC 13 97 12 = some (mX12_soonest, 0, 2) ∧
  lkC 13 98 11 = some (mX11_orders, 1, 2) ∧
  lkC 2 15 2 = some (mX2_digit, 1, 2) ∧
  lkC 3 30 3 = some (mX3_sulking, 0, 2) ∧
  lkC 3 30 7 = some (mX7_sulking, 0, 3) ∧
  lkC 4 29 4 = some (mX4_join, 2, 2) ∧
  lkC 4 38 4 = some (mX4_wouldLeave, 4, 2) ∧
  lkC 4 42 8 = some (mX8_liking, 3, 2) ∧
  lkC 4 46 4 = some (mX4_clear, 0, 2) ∧
  lkC 4 49 4 = some (mX4_askNext, 1, 2) ∧
  lkC 4 53 4 = some (mX4_keepsRather, 3, 2) ∧
  lkC 4 57 4 = some (mX4_part, 2, 2) ∧
  lkC 4 77 4 = some (mX4_noteMatching, 1, 2) ∧
  lkC 4 80 4 = some (mX4_joinFree, 2, 2) ∧
  lkC 4 84 4 = some (mX4_likingOfBoth, 2, 2) ∧
  lkC 4 87 4 = some (mX4_firstLeaving, 0, 2) ∧
  lkC 5 35 5 = some (mX5_hasPlace, 1, 2) ∧
  lkC 5 39 5 = some (mX5_byteAt, 1, 2) ∧
  lkC 8 53 8 = some (mX8_hasOne, 2, 2) ∧
  lkC 8 72 8 = some (mX8_liking, 3, 2) ∧
  lkC 8 76 8 = some (mX8_setLiking, 4, 2) ∧
  lkC 8 80 8 = some (mX8_isBound, 2, 2) ∧
  lkC 8 83 8 = some (mX8_goesOn, 1, 2) ∧
  lkF 1 15 1 = some 0 ∧
  lkF 10 141 8 = some 9 ∧
  lkF 10 144 8 = some 8 ∧
  lkF 10 15 10 = some 2 ∧
  lkF 10 19 10 = some 3 ∧
  lkF 10 22 10 = some 4 ∧
  lkF 10 25 10 = some 0 ∧
  lkF 10 41 10 = some 5 ∧
  lkF 10 45 10 = some 6 ∧
  lkF 10 48 10 = some 7 ∧
  lkF 10 51 10 = some 8 ∧
  lkF 10 54 8 = some 5 ∧
  lkF 10 61 8 = some 12 ∧
  lkF 10 9 10 = some 1 ∧
  lkF 10 92 8 = some 6 ∧
  lkF 10 95 8 = some 7 ∧
  lkF 11 107 10 = some 0 ∧
  lkF 11 125 0 = some 0 ∧
  lkF 11 125 1 = some 0 ∧
  lkF 11 125 3 = some 0 ∧
  lkF 11 125 6 = some 0 ∧
  lkF 11 125 7 = some 0 ∧
  lkF 11 125 9 = some 0 ∧
  lkF 11 128 8 = some 2 ∧
  lkF 11 142 8 = some 3 ∧
  lkF 11 158 5 = some 1 ∧
  lkF 11 17 11 = some 2 ∧
  lkF 11 188 8 = some 6 ∧
  lkF 11 191 8 = some 7 ∧
  lkF 11 194 8 = some 8 ∧
  lkF 11 197 8 = some 9 ∧
  lkF 11 209 8 = some 10 ∧
  lkF 11 212 8 = some 11 ∧
  lkF 11 215 8 = some 12 ∧
  lkF 11 221 10 = some 6 ∧
  lkF 11 227 10 = some 3 ∧
  lkF 11 230 10 = some 4 ∧
  lkF 11 233 10 = some 7 ∧
  lkF 11 236 10 = some 8 ∧
  lkF 11 242 8 = some 5 ∧
  lkF 11 261 8 = some 0 ∧
  lkF 11 273 5 = some 4 ∧
  lkF 11 28 11 = some 6 ∧
  lkF 11 288 4 = some 1 ∧
  lkF 11 294 4 = some 5 ∧
  lkF 11 297 4 = some 6 ∧
  lkF 11 300 4 = some 3 ∧
  lkF 11 32 11 = some 3 ∧
  lkF 11 327 11 = some 4 ∧
  lkF 11 38 11 = some 5 ∧
  lkF 11 42 11 = some 0 ∧
  lkF 11 63 11 = some 1 ∧
  lkF 11 70 11 = some 7 ∧
  lkF 11 79 5 = some 0 ∧
  lkF 11 83 5 = some 2 ∧
  lkF 11 93 5 = some 3 ∧
  lkF 12 13 12 = some 1 ∧
  lkF 12 156 12 = some 12 ∧
  lkF 12 159 12 = some 14 ∧
  lkF 12 16 12 = some 2 ∧
  lkF 12 162 12 = some 13 ∧
  lkF 12 19 12 = some 3 ∧
  lkF 12 22 12 = some 5 ∧
  lkF 12 222 12 = some 16 ∧
  lkF 12 225 12 = some 17 ∧
  lkF 12 248 12 = some 21 ∧
  lkF 12 25 12 = some 6 ∧
  lkF 12 251 12 = some 22 ∧
  lkF 12 279 12 = some 25 ∧
  lkF 12 28 12 = some 7 ∧
  lkF 12 288 12 = some 4 ∧
  lkF 12 292 12 = some 32 ∧
  lkF 12 31 12 = some 15 ∧
  lkF 12 34 12 = some 18 ∧
  lkF 12 37 12 = some 19 ∧
  lkF 12 40 12 = some 20 ∧
  lkF 12 43 12 = some 23 ∧
  lkF 12 46 12 = some 24 ∧
  lkF 12 49 12 = some 26 ∧
  lkF 12 52 12 = some 27 ∧
  lkF 12 55 12 = some 28 ∧
  lkF 12 58 12 = some 29 ∧
  lkF 12 61 12 = some 30 ∧
  lkF 12 64 12 = some 31 ∧
  lkF 12 75 12 = some 8 ∧
  lkF 12 79 12 = some 9 ∧
  lkF 12 82 12 = some 10 ∧
  lkF 12 85 12 = some 11 ∧
  lkF 12 9 12 = some 0 ∧
  lkF 2 7 2 = some 0 ∧
  lkF 3 11 3 = some 0 ∧
  lkF 3 11 7 = some 0 ∧
  lkF 4 15 4 = some 2 ∧
  lkF 4 18 4 = some 3 ∧
  lkF 4 21 4 = some 4 ∧
  lkF 4 25 4 = some 0 ∧
  lkF 4 33 8 = some 0 ∧
  lkF 4 60 4 = some 5 ∧
  lkF 4 64 4 = some 6 ∧
  lkF 4 9 4 = some 1 ∧
  lkF 5 15 5 = some 4 ∧
  lkF 5 19 5 = some 1 ∧
  lkF 5 23 5 = some 2 ∧
  lkF 5 26 5 = some 3 ∧
  lkF 5 9 5 = some 0 ∧
  lkF 6 7 0 = some 0 ∧
  lkF 6 7 1 = some 0 ∧
  lkF 6 7 3 = some 0 ∧
  lkF 6 7 6 = some 0 ∧
  lkF 6 7 7 = some 0 ∧
  lkF 6 7 9 = some 0 ∧
  lkF 7 11 7 = some 0 ∧
  lkF 8 17 8 = some 1 ∧
  lkF 8 21 8 = some 2 ∧
  lkF 8 24 8 = some 3 ∧
  lkF 8 27 8 = some 4 ∧
  lkF 8 30 8 = some 6 ∧
  lkF 8 33 8 = some 7 ∧
  lkF 8 36 8 = some 8 ∧
  lkF 8 39 8 = some 9 ∧
  lkF 8 42 8 = some 10 ∧
  lkF 8 45 8 = some 11 ∧
  lkF 8 57 8 = some 5 ∧
  lkF 8 9 8 = some 0 ∧
  lkF 8 98 8 = some 12 ∧
  pOK 10 false 10 5 = true ∧
  pOK 10 false 10 6 = true ∧
  pOK 10 false 10 7 = true ∧
  pOK 10 false 10 8 = true ∧
  pOK 10 false 8 12 = true ∧
  pOK 10 true 10 0 = true ∧
  pOK 10 true 10 1 = true ∧
  pOK 10 true 10 2 = true ∧
  pOK 10 true 10 3 = true ∧
  pOK 10 true 10 4 = true ∧
  pOK 11 false 11 4 = true ∧
  pOK 11 false 5 0 = true ∧
  pOK 11 false 8 11 = true ∧
  pOK 11 true 11 0 = true ∧
  pOK 11 true 11 1 = true ∧
  pOK 11 true 11 2 = true ∧
  pOK 11 true 11 3 = true ∧
  pOK 11 true 11 5 = true ∧
  pOK 11 true 11 6 = true ∧
  pOK 11 true 11 7 = true ∧
  pOK 12 false 12 10 = true ∧
  pOK 12 false 12 11 = true ∧
  pOK 12 false 12 12 = true ∧
  pOK 12 false 12 13 = true ∧
  pOK 12 false 12 14 = true ∧
  pOK 12 false 12 16 = true ∧
  pOK 12 false 12 17 = true ∧
  pOK 12 false 12 21 = true ∧
  pOK 12 false 12 22 = true ∧
  pOK 12 false 12 25 = true ∧
  pOK 12 false 12 32 = true ∧
  pOK 12 false 12 4 = true ∧
  pOK 12 false 12 8 = true ∧
  pOK 12 false 12 9 = true ∧
  pOK 12 true 12 0 = true ∧
  pOK 12 true 12 1 = true ∧
  pOK 12 true 12 15 = true ∧
  pOK 12 true 12 18 = true ∧
  pOK 12 true 12 19 = true ∧
  pOK 12 true 12 2 = true ∧
  pOK 12 true 12 20 = true ∧
  pOK 12 true 12 23 = true ∧
  pOK 12 true 12 24 = true ∧
  pOK 12 true 12 26 = true ∧
  pOK 12 true 12 27 = true ∧
  pOK 12 true 12 28 = true ∧
  pOK 12 true 12 29 = true ∧
  pOK 12 true 12 3 = true ∧
  pOK 12 true 12 30 = true ∧
  pOK 12 true 12 31 = true ∧
  pOK 12 true 12 5 = true ∧
  pOK 12 true 12 6 = true ∧
  pOK 12 true 12 7 = true ∧
  pOK 2 true 2 0 = true ∧
  pOK 4 false 4 5 = true ∧
  pOK 4 false 4 6 = true ∧
  pOK 4 true 4 0 = true ∧
  pOK 4 true 4 1 = true ∧
  pOK 4 true 4 2 = true ∧
  pOK 4 true 4 3 = true ∧
  pOK 4 true 4 4 = true ∧
  pOK 5 false 5 0 = true ∧
  pOK 5 false 5 1 = true ∧
  pOK 5 false 5 2 = true ∧
  pOK 5 false 5 3 = true ∧
  pOK 5 false 5 4 = true ∧
  pOK 5 true 5 0 = true ∧
  pOK 5 true 5 1 = true ∧
  pOK 5 true 5 4 = true ∧
  pOK 6 true 0 0 = true ∧
  pOK 6 true 1 0 = true ∧
  pOK 6 true 3 0 = true ∧
  pOK 6 true 6 0 = true ∧
  pOK 6 true 7 0 = true ∧
  pOK 6 true 9 0 = true ∧
  pOK 8 false 8 11 = true ∧
  pOK 8 false 8 12 = true ∧
  pOK 8 false 8 5 = true ∧
  pOK 8 true 8 0 = true ∧
  pOK 8 true 8 1 = true ∧
  pOK 8 true 8 10 = true ∧
  pOK 8 true 8 11 = true ∧
  pOK 8 true 8 2 = true ∧
  pOK 8 true 8 3 = true ∧
  pOK 8 true 8 4 = true ∧
  pOK 8 true 8 6 = true ∧
  pOK 8 true 8 7 = true ∧
  pOK 8 true 8 8 = true ∧
  pOK 8 true 8 9 = true := ⟨by decide +kernel, by decide +kernel, by decide +kernel, by decide +kernel, by decide +kernel, by decide +kernel, by decide +kernel, by decide +kernel, by decide +kernel, by decide +kernel, by decide +kernel, by decide +kernel, by decide +kernel, by decide +kernel, by decide +kernel, by decide +kernel, by decide +kernel, by decide +kernel, by decide +kernel, by decide +kernel, by decide +kernel, by decide +kernel, by decide +kernel, by decide +kernel, by decide +kernel, by decide +kernel, by decide +kernel, by decide +kernel, by decide +kernel, by decide +kernel, by decide +kernel, by decide +kernel, by decide +kernel, by decide +kernel, by decide +kernel, by decide +kernel, by decide +kernel, by decide +kernel, by decide +kernel, by decide +kernel, by decide +kernel, by decide +kernel, by decide +kernel, by decide +kernel, by decide +kernel, by decide +kernel, by decide +kernel, by decide +kernel, by decide +kernel, by decide +kernel, by decide +kernel, by decide +kernel, by decide +kernel, by decide +kernel, by decide +kernel, by decide +kernel, by decide +kernel, by decide +kernel, by decide +kernel, by decide +kernel, by decide +kernel, by decide +kernel, by decide +kernel, by decide +kernel, by decide +kernel, by decide +kernel, by decide +kernel, by decide +kernel, by decide +kernel, by decide +kernel, by decide +kernel, by decide +kernel, by decide +kernel, by decide +kernel, by decide +kernel, by decide +kernel, by decide +kernel, by decide +kernel, by decide +kernel, by decide +kernel, by decide +kernel, by decide +kernel, by decide +kernel, by decide +kernel, by decide +kernel, by decide +kernel, by decide +kernel, by decide +kernel, by decide +kernel, by decide +kernel, by decide +kernel, by decide +kernel, by decide +kernel, by decide +kernel, by decide +kernel, by decide +kernel, by decide +kernel, by decide +kernel, by decide +kernel, by decide +kernel, by decide +kernel, by decide +kernel, by decide +kernel, by decide +kernel, by decide +kernel, by decide +kernel, by decide +kernel, by decide +kernel, by decide +kernel, by decide +kernel, by decide +kernel, by decide +kernel, by decide +kernel, by decide +kernel, by decide +kernel, by decide +kernel, by decide +kernel, by decide +kernel, by decide +kernel, by decide +kernel, by decide +kernel, by decide +kernel, by decide +kernel, by decide +kernel, by decide +kernel, by decide +kernel, by decide +kernel, by decide +kernel, by decide +kernel, by decide +kernel, by decide +kernel, by decide +kernel, by decide +kernel, by decide +kernel, by decide +kernel, by decide +kernel, by decide +kernel, by decide +kernel, by decide +kernel, by decide +kernel, by decide +kernel, by decide +kernel, by decide +kernel, by decide +kernel, by decide +kernel, by decide +kernel, by decide +kernel, by decide +kernel, by decide +kernel, by decide +kernel, by decide +kernel, by decide +kernel, by decide +kernel, by decide +kernel, by decide +kernel, by decide +kernel, by decide +kernel, by decide +kernel, by decide +kernel, by decide +kernel, by decide +kernel, by decide +kernel, by decide +kernel, by decide +kernel, by decide +kernel, by decide +kernel, by decide +kernel, by decide +kernel, by decide +kernel, by decide +kernel, by decide +kernel, by decide +kernel, by decide +kernel, by decide +kernel, by decide +kernel, by decide +kernel, by decide +kernel, by decide +kernel, by decide +kernel, by decide +kernel, by decide +kernel, by decide +kernel, by decide +kernel, by decide +kernel, by decide +kernel, by decide +kernel, by decide +kernel, by decide +kernel, by decide +kernel, by decide +kernel, by decide +kernel, by decide +kernel, by decide +kernel, by decide +kernel, by decide +kernel, by decide +kernel, by decide +kernel, by decide +kernel, by decide +kernel, by decide +kernel, by decide +kernel, by decide +kernel, by decide +kernel, by decide +kernel, by decide +kernel, by decide +kernel, by decide +kernel, by decide +kernel, by decide +kernel, by decide +kernel, by decide +kernel, by decide +kernel, by decide +kernel, by decide +kernel, by decide +kernel, by decide +kernel, by decide +kernel, by decide +kernel, by decide +kernel, by decide +kernel, by decide +kernel, by decide +kernel, by decide +kernel, by decide +kernel, by decide +kernel, by decide +kernel, by decide +kernel, by decide +kernel, by decide +kernel, by decide +kernel, by decide +kernel, by decide +kernel, by decide +kernel, by decide +kernel, by decide +kernel, by decide +kernel, by decide +kernel, by decide +kernel, by decide +kernel, by decide +kernel, by decide +kernel, by decide +kernel, by decide +kernel, by decide +kernel, by decide +kernel, by decide +kernel, by decide +kernel, by decide +kernel, by decide +kernel, by decide +kernel, by decide +kernel, by decide +kernel, by decide +kernel, by decide +kernel, by decide +kernel, by decide +kernel, by decide +kernel, by decide +kernel, by decide +kernel, by decide +kernel, by decide +kernel, by decide +kernel, by decide +kernel, by decide +kernel, by decide +kernel, by decide +kernel, by decide +kernel, by decide +kernel, by decide +kernel, by decide +kernel, by decide +kernel, by decide +kernel, by decide +kernel, by decide +kernel, by decide +kernel, by decide +kernel, by decide +kernel, by decide +kernel, by decide +kernel, by decide +kernel, by decide +kernel, by decide +kernel, by decide +kernel, by decide +kernel, by decide +kernel, by decide +kernel, by decide +kernel, by decide +kernel, by decide +kernel, by decide +kernel, by decide +kernel, by decide +kernel, by decide +kernel, by decide +kernel, by decide +kernel, by decide +kernel, by decide +kernel, by decide +kernel, by decide +kernel, by decide +kernel, by decide +kernel, by decide +kernel, by decide +kernel, by decide +kernel, by decide +kernel, by decide +kernel, by decide +kernel, by decide +kernel, by decide +kernel, by decide +kernel, by decide +kernel, by decide +kernel, by decide +kernel, by decide +kernel, by decide +kernel, by decide +kernel, by decide +kernel, by decide +kernel, by decide +kernel, by decide +kernel, by decide +kernel, by decide +kernel, by decide +kernel, by decide +kernel, by decide +kernel, by decide +kernel, by decide +kernel, by decide +kernel, by decide +kernel, by decide +kernel, by decide +kernel, by decide +kernel, by decide +kernel, by decide +kernel, by decide +kernel, by decide +kernel, by decide +kernel, by decide +kernel, by decide +kernel, by decide +kernel, by decide +kernel, by decide +kernel, by decide +kernel, by decide +kernel, by decide +kernel, by decide +kernel, by decide +kernel, by decide +kernel, by decide +kernel, by decide +kernel, by decide +kernel, by decide +kernel, by decide +kernel, by decide +kernel, by decide +kernel, by decide +kernel, by decide +kernel, by decide +kernel, by decide +kernel, by decide +kernel, by decide +kernel, by decide +kernel, by decide +kernel, by decide +kernel, by decide +kernel, by decide +kernel, by decide +kernel, by decide +kernel, by decide +kernel, by decide +kernel, by decide +kernel, by decide +kernel, by decide +kernel, by decide +kernel, by decide +kernel, by decide +kernel, by decide +kernel, by decide +kernel, by decide +kernel, by decide +kernel, by decide +kernel, by decide +kernel, by decide +kernel, by decide +kernel, by decide +kernel, by decide +kernel, by decide +kernel, by decide +kernel, by decide +kernel, by decide +kernel, by decide +kernel, by decide +kernel, by decide +kernel, by decide +kernel, by decide +kernel, by decide +kernel, by decide +kernel, by decide +kernel, by decide +kernel, by decide +kernel, by decide +kernel, by decide +kernel, by decide +kernel, by decide +kernel, by decide +kernel, by decide +kernel, by decide +kernel, by decide +kernel, by decide +kernel, by decide +kernel, by decide +kernel, by decide +kernel, by decide +kernel, by decide +kernel, by decide +kernel, by decide +kernel, by decide +kernel, by decide +kernel, by decide +kernel, by decide +kernel, by decide +kernel, by decide +kernel, by decide +kernel, by decide +kernel, by decide +kernel, by decide +kernel, by decide +kernel, by decide +kernel, by decide +kernel, by decide +kernel, by decide +kernel, by decide +kernel, by decide +kernel, by decide +kernel, by decide +kernel, by decide +kernel, by decide +kernel, by decide +kernel, by decide +kernel, by decide +kernel, by decide +kernel, by decide +kernel, by decide +kernel, by decide +kernel, by decide +kernel, by decide +kernel, by decide +kernel, by decide +kernel, by decide +kernel, by decide +kernel, by decide +kernel, by decide +kernel, by decide +kernel, by decide +kernel, by decide +kernel, by decide +kernel, by decide +kernel, by decide +kernel, by decide +kernel, by decide +kernel, by decide +kernel, by decide +kernel, by decide +kernel, by decide +kernel, by decide +kernel, by decide +kernel, by decide +kernel, by decide +kernel⟩
section GG
variable {sp : Nat → List iV → iH → Option (Option iV × iH)} {sc : List Int}
theorem eX0_init (n d : Nat) (t : Nat) (x0 : Int) (h : iH) (Q : Option iV → iH → Prop) : G sp sc [] d mX0_init n 0 [some (.inr (.inr t)), some (.inl x0)] [] h Q → Call sp sc d mX0_init [.inr (.inr t), .inl x0] h Q := fun k => call_of (by decide) rfl rfl rfl (G_run n _ _ _ _ k)
theorem eX0_kind (n d : Nat) (t : Nat) (h : iH) (Q : Option iV → iH → Prop) : G sp sc [] d mX0_kind n 0 [some (.inr (.inr t))] [] h Q → Call sp sc d mX0_kind [.inr (.inr t)] h Q := fun k => call_of (by decide) rfl rfl rfl (G_run n _ _ _ _ k)
theorem eX0_growth (n d : Nat) (t : Nat) (x0 : Int) (h : iH) (Q : Option iV → iH → Prop) : G sp sc [] d mX0_growth n 0 [some (.inr (.inr t)), some (.inl x0)] [] h Q → Call sp sc d mX0_growth [.inr (.inr t), .inl x0] h Q := fun k => call_of (by decide) rfl rfl rfl (G_run n _ _ _ _ k)
theorem eX0_sulking (n d : Nat) (t : Nat) (h : iH) (Q : Option iV → iH → Prop) : G sp sc [] d mX0_sulking n 0 [some (.inr (.inr t))] [] h Q → Call sp sc d mX0_sulking [.inr (.inr t)] h Q := fun k => call_of (by decide) rfl rfl rfl (G_run n _ _ _ _ k)
theorem eX0_retold (n d : Nat) (t : Nat) (x0 : Int) (h : iH) (Q : Option iV → iH → Prop) : G sp sc [] d mX0_retold n 0 [some (.inr (.inr t)), some (.inl x0)] [] h Q → Call sp sc d mX0_retold [.inr (.inr t), .inl x0] h Q := fun k => call_of (by decide) rfl rfl rfl (G_run n _ _ _ _ k)
theorem eX0_price (n d : Nat) (t : Nat) (h : iH) (Q : Option iV → iH → Prop) : G sp sc [] d mX0_price n 0 [some (.inr (.inr t))] [] h Q → Call sp sc d mX0_price [.inr (.inr t)] h Q := fun k => call_of (by decide) rfl rfl rfl (G_run n _ _ _ _ k)
theorem eX1_init (n d : Nat) (t : Nat) (x0 : Int) (h : iH) (Q : Option iV → iH → Prop) : G sp sc [] d mX1_init n 0 [some (.inr (.inr t)), some (.inl x0)] [] h Q → Call sp sc d mX1_init [.inr (.inr t), .inl x0] h Q := fun k => call_of (by decide) rfl rfl rfl (G_run n _ _ _ _ k)
theorem eX1_kind (n d : Nat) (t : Nat) (h : iH) (Q : Option iV → iH → Prop) : G sp sc [] d mX1_kind n 0 [some (.inr (.inr t))] [] h Q → Call sp sc d mX1_kind [.inr (.inr t)] h Q := fun k => call_of (by decide) rfl rfl rfl (G_run n _ _ _ _ k)
theorem eX1_growth (n d : Nat) (t : Nat) (x0 : Int) (h : iH) (Q : Option iV → iH → Prop) : G sp sc [] d mX1_growth n 0 [some (.inr (.inr t)), some (.inl x0)] [] h Q → Call sp sc d mX1_growth [.inr (.inr t), .inl x0] h Q := fun k => call_of (by decide) rfl rfl rfl (G_run n _ _ _ _ k)
theorem eX1_retold (n d : Nat) (t : Nat) (x0 : Int) (h : iH) (Q : Option iV → iH → Prop) : G sp sc [] d mX1_retold n 0 [some (.inr (.inr t)), some (.inl x0)] [] h Q → Call sp sc d mX1_retold [.inr (.inr t), .inl x0] h Q := fun k => call_of (by decide) rfl rfl rfl (G_run n _ _ _ _ k)
theorem eX1_price (n d : Nat) (t : Nat) (h : iH) (Q : Option iV → iH → Prop) : G sp sc [] d mX1_price n 0 [some (.inr (.inr t))] [] h Q → Call sp sc d mX1_price [.inr (.inr t)] h Q := fun k => call_of (by decide) rfl rfl rfl (G_run n _ _ _ _ k)
theorem eX1_fail (n d : Nat) (t : Nat) (h : iH) (Q : Option iV → iH → Prop) : G sp sc [] d mX1_fail n 0 [some (.inr (.inr t))] [] h Q → Call sp sc d mX1_fail [.inr (.inr t)] h Q := fun k => call_of (by decide) rfl rfl rfl (G_run n _ _ _ _ k)
theorem eX2_init (n d : Nat) (t : Nat) (h : iH) (Q : Option iV → iH → Prop) : G sp sc [] d mX2_init n 0 [some (.inr (.inr t))] [] h Q → Call sp sc d mX2_init [.inr (.inr t)] h Q := fun k => call_of (by decide) rfl rfl rfl (G_run n _ _ _ _ k)
theorem eX2_become (n d : Nat) (t : Nat) (x0 : Int) (h : iH) (Q : Option iV → iH → Prop) : G sp sc [5] d mX2_become n 0 [some (.inr (.inr t)), some (.inr (.inl x0)), none, none, none, none] [] h Q → Call sp sc d mX2_become [.inr (.inr t), .inr (.inl x0)] h Q := fun k => call_of (by decide) rfl rfl rfl (G_run n _ _ _ _ k)
theorem eX2_mix (n d : Nat) (t : Nat) (x0 : Int) (x1 : Nat) (x2 : Int) (h : iH) (Q : Option iV → iH → Prop) : G sp sc [6] d mX2_mix n 0 [some (.inr (.inr t)), some (.inl x0), some (.inr (.inr x1)), some (.inl x2), none, none, none] [] h Q → Call sp sc d mX2_mix [.inr (.inr t), .inl x0, .inr (.inr x1), .inl x2] h Q := fun k => call_of (by decide) rfl rfl rfl (G_run n _ _ _ _ k)
theorem eX2_tell (n d : Nat) (t : Nat) (x0 : Int) (h : iH) (Q : Option iV → iH → Prop) : G sp sc [21] d mX2_tell n 0 [some (.inr (.inr t)), some (.inl x0), none] [] h Q → Call sp sc d mX2_tell [.inr (.inr t), .inl x0] h Q := fun k => call_of (by decide) rfl rfl rfl (G_run n _ _ _ _ k)
theorem eX2_digit (n d : Nat) (t : Nat) (x0 : Int) (h : iH) (Q : Option iV → iH → Prop) : G sp sc [30] d mX2_digit n 0 [some (.inr (.inr t)), some (.inl x0), none, none, none] [] h Q → Call sp sc d mX2_digit [.inr (.inr t), .inl x0] h Q := fun k => call_of (by decide) rfl rfl rfl (G_run n _ _ _ _ k)
theorem eX3_init (n d : Nat) (t : Nat) (x0 : Int) (h : iH) (Q : Option iV → iH → Prop) : G sp sc [] d mX3_init n 0 [some (.inr (.inr t)), some (.inl x0)] [] h Q → Call sp sc d mX3_init [.inr (.inr t), .inl x0] h Q := fun k => call_of (by decide) rfl rfl rfl (G_run n _ _ _ _ k)
theorem eX3_kind (n d : Nat) (t : Nat) (h : iH) (Q : Option iV → iH → Prop) : G sp sc [] d mX3_kind n 0 [some (.inr (.inr t))] [] h Q → Call sp sc d mX3_kind [.inr (.inr t)] h Q := fun k => call_of (by decide) rfl rfl rfl (G_run n _ _ _ _ k)
theorem eX3_sulking (n d : Nat) (t : Nat) (h : iH) (Q : Option iV → iH → Prop) : G sp sc [] d mX3_sulking n 0 [some (.inr (.inr t))] [] h Q → Call sp sc d mX3_sulking [.inr (.inr t)] h Q := fun k => call_of (by decide) rfl rfl rfl (G_run n _ _ _ _ k)
theorem eX3_retold (n d : Nat) (t : Nat) (x0 : Int) (h : iH) (Q : Option iV → iH → Prop) : G sp sc [] d mX3_retold n 0 [some (.inr (.inr t)), some (.inl x0)] [] h Q → Call sp sc d mX3_retold [.inr (.inr t), .inl x0] h Q := fun k => call_of (by decide) rfl rfl rfl (G_run n _ _ _ _ k)
theorem eX3_price (n d : Nat) (t : Nat) (h : iH) (Q : Option iV → iH → Prop) : G sp sc [] d mX3_price n 0 [some (.inr (.inr t))] [] h Q → Call sp sc d mX3_price [.inr (.inr t)] h Q := fun k => call_of (by decide) rfl rfl rfl (G_run n _ _ _ _ k)
theorem eX3_fail (n d : Nat) (t : Nat) (h : iH) (Q : Option iV → iH → Prop) : G sp sc [] d mX3_fail n 0 [some (.inr (.inr t))] [] h Q → Call sp sc d mX3_fail [.inr (.inr t)] h Q := fun k => call_of (by decide) rfl rfl rfl (G_run n _ _ _ _ k)
theorem eX4_init (n d : Nat) (t : Nat) (x0 : Nat) (h : iH) (Q : Option iV → iH → Prop) : G sp sc [] d mX4_init n 0 [some (.inr (.inr t)), some (.inr (.inr x0))] [] h Q → Call sp sc d mX4_init [.inr (.inr t), .inr (.inr x0)] h Q := fun k => call_of (by decide) rfl rfl rfl (G_run n _ _ _ _ k)
theorem eX4_clear (n d : Nat) (t : Nat) (h : iH) (Q : Option iV → iH → Prop) : G sp sc [2] d mX4_clear n 0 [some (.inr (.inr t)), none] [] h Q → Call sp sc d mX4_clear [.inr (.inr t)] h Q := fun k => call_of (by decide) rfl rfl rfl (G_run n _ _ _ _ k)
theorem eX4_join (n d : Nat) (t : Nat) (x0 : Int) (x1 : Int) (h : iH) (Q : Option iV → iH → Prop) : G sp sc [] d mX4_join n 0 [some (.inr (.inr t)), some (.inl x0), some (.inl x1)] [] h Q → Call sp sc d mX4_join [.inr (.inr t), .inl x0, .inl x1] h Q := fun k => call_of (by decide) rfl rfl rfl (G_run n _ _ _ _ k)
theorem eX4_part (n d : Nat) (t : Nat) (x0 : Int) (x1 : Int) (h : iH) (Q : Option iV → iH → Prop) : G sp sc [] d mX4_part n 0 [some (.inr (.inr t)), some (.inl x0), some (.inl x1)] [] h Q → Call sp sc d mX4_part [.inr (.inr t), .inl x0, .inl x1] h Q := fun k => call_of (by decide) rfl rfl rfl (G_run n _ _ _ _ k)
theorem eX4_joinFree (n d : Nat) (t : Nat) (x0 : Int) (x1 : Int) (h : iH) (Q : Option iV → iH → Prop) : G sp sc [] d mX4_joinFree n 0 [some (.inr (.inr t)), some (.inl x0), some (.inl x1)] [] h Q → Call sp sc d mX4_joinFree [.inr (.inr t), .inl x0, .inl x1] h Q := fun k => call_of (by decide) rfl rfl rfl (G_run n _ _ _ _ k)
theorem eX4_firstLeaving (n d : Nat) (t : Nat) (h : iH) (Q : Option iV → iH → Prop) : G sp sc [2, 17] d mX4_firstLeaving n 0 [some (.inr (.inr t)), none, none] [] h Q → Call sp sc d mX4_firstLeaving [.inr (.inr t)] h Q := fun k => call_of (by decide) rfl rfl rfl (G_run n _ _ _ _ k)
theorem eX4_wouldLeave (n d : Nat) (t : Nat) (x0 : Int) (x1 : Int) (x2 : Int) (x3 : Int) (h : iH) (Q : Option iV → iH → Prop) : G sp sc [] d mX4_wouldLeave n 0 [some (.inr (.inr t)), some (.inl x0), some (.inl x1), some (.inl x2), some (.inl x3)] [] h Q → Call sp sc d mX4_wouldLeave [.inr (.inr t), .inl x0, .inl x1, .inl x2, .inl x3] h Q := fun k => call_of (by decide) rfl rfl rfl (G_run n _ _ _ _ k)
theorem eX4_askAll (n d : Nat) (t : Nat) (h : iH) (Q : Option iV → iH → Prop) : G sp sc [6, 30, 41] d mX4_askAll n 0 [some (.inr (.inr t)), none, none] [] h Q → Call sp sc d mX4_askAll [.inr (.inr t)] h Q := fun k => call_of (by decide) rfl rfl rfl (G_run n _ _ _ _ k)
theorem eX4_askNext (n d : Nat) (t : Nat) (x0 : Int) (h : iH) (Q : Option iV → iH → Prop) : G sp sc [4] d mX4_askNext n 0 [some (.inr (.inr t)), some (.inl x0), none, none] [] h Q → Call sp sc d mX4_askNext [.inr (.inr t), .inl x0] h Q := fun k => call_of (by decide) rfl rfl rfl (G_run n _ _ _ _ k)
theorem eX4_keepsRather (n d : Nat) (t : Nat) (x0 : Int) (x1 : Int) (x2 : Int) (h : iH) (Q : Option iV → iH → Prop) : G sp sc [] d mX4_keepsRather n 0 [some (.inr (.inr t)), some (.inl x0), some (.inl x1), some (.inl x2), none, none] [] h Q → Call sp sc d mX4_keepsRather [.inr (.inr t), .inl x0, .inl x1, .inl x2] h Q := fun k => call_of (by decide) rfl rfl rfl (G_run n _ _ _ _ k)
theorem eX4_survey (n d : Nat) (t : Nat) (h : iH) (Q : Option iV → iH → Prop) : G sp sc [] d mX4_survey n 0 [some (.inr (.inr t))] [] h Q → Call sp sc d mX4_survey [.inr (.inr t)] h Q := fun k => call_of (by decide) rfl rfl rfl (G_run n _ _ _ _ k)
theorem eX4_tryMan (n d : Nat) (x0 : Nat) (x1 : Int) (x2 : Int) (x3 : Int) (h : iH) (Q : Option iV → iH → Prop) : G sp sc [31] d mX4_tryMan n 0 [some (.inr (.inr x0)), some (.inl x1), some (.inl x2), some (.inl x3), none, none] [] h Q → Call sp sc d mX4_tryMan [.inr (.inr x0), .inl x1, .inl x2, .inl x3] h Q := fun k => call_of (by decide) rfl rfl rfl (G_run n _ _ _ _ k)
theorem eX4_likingOfBoth (n d : Nat) (t : Nat) (x0 : Int) (x1 : Int) (h : iH) (Q : Option iV → iH → Prop) : G sp sc [] d mX4_likingOfBoth n 0 [some (.inr (.inr t)), some (.inl x0), some (.inl x1)] [] h Q → Call sp sc d mX4_likingOfBoth [.inr (.inr t), .inl x0, .inl x1] h Q := fun k => call_of (by decide) rfl rfl rfl (G_run n _ _ _ _ k)
theorem eX4_noteMatching (n d : Nat) (t : Nat) (x0 : Int) (h : iH) (Q : Option iV → iH → Prop) : G sp sc [] d mX4_noteMatching n 0 [some (.inr (.inr t)), some (.inl x0)] [] h Q → Call sp sc d mX4_noteMatching [.inr (.inr t), .inl x0] h Q := fun k => call_of (by decide) rfl rfl rfl (G_run n _ _ _ _ k)
theorem eX5_init (n d : Nat) (t : Nat) (x0 : Nat) (h : iH) (Q : Option iV → iH → Prop) : G sp sc [] d mX5_init n 0 [some (.inr (.inr t)), some (.inr (.inr x0))] [] h Q → Call sp sc d mX5_init [.inr (.inr t), .inr (.inr x0)] h Q := fun k => call_of (by decide) rfl rfl rfl (G_run n _ _ _ _ k)
theorem eX5_holdNature (n d : Nat) (t : Nat) (x0 : Nat) (h : iH) (Q : Option iV → iH → Prop) : G sp sc [] d mX5_holdNature n 0 [some (.inr (.inr t)), some (.inr (.inr x0))] [] h Q → Call sp sc d mX5_holdNature [.inr (.inr t), .inr (.inr x0)] h Q := fun k => call_of (by decide) rfl rfl rfl (G_run n _ _ _ _ k)
theorem eX5_holdRow (n d : Nat) (t : Nat) (x0 : Int) (x1 : Int) (h : iH) (Q : Option iV → iH → Prop) : G sp sc [34] d mX5_holdRow n 0 [some (.inr (.inr t)), some (.inl x0), some (.inl x1), none] [] h Q → Call sp sc d mX5_holdRow [.inr (.inr t), .inl x0, .inl x1] h Q := fun k => call_of (by decide) rfl rfl rfl (G_run n _ _ _ _ k)
theorem eX5_refusalAsRow (n d : Nat) (t : Nat) (h : iH) (Q : Option iV → iH → Prop) : G sp sc [] d mX5_refusalAsRow n 0 [some (.inr (.inr t))] [] h Q → Call sp sc d mX5_refusalAsRow [.inr (.inr t)] h Q := fun k => call_of (by decide) rfl rfl rfl (G_run n _ _ _ _ k)
theorem eX5_refusalAsNature (n d : Nat) (t : Nat) (h : iH) (Q : Option iV → iH → Prop) : G sp sc [] d mX5_refusalAsNature n 0 [some (.inr (.inr t))] [] h Q → Call sp sc d mX5_refusalAsNature [.inr (.inr t)] h Q := fun k => call_of (by decide) rfl rfl rfl (G_run n _ _ _ _ k)
theorem eX5_hasPlace (n d : Nat) (t : Nat) (x0 : Int) (h : iH) (Q : Option iV → iH → Prop) : G sp sc [] d mX5_hasPlace n 0 [some (.inr (.inr t)), some (.inl x0)] [] h Q → Call sp sc d mX5_hasPlace [.inr (.inr t), .inl x0] h Q := fun k => call_of (by decide) rfl rfl rfl (G_run n _ _ _ _ k)
theorem eX5_hasPlaces (n d : Nat) (t : Nat) (x0 : Int) (x1 : Int) (h : iH) (Q : Option iV → iH → Prop) : G sp sc [] d mX5_hasPlaces n 0 [some (.inr (.inr t)), some (.inl x0), some (.inl x1)] [] h Q → Call sp sc d mX5_hasPlaces [.inr (.inr t), .inl x0, .inl x1] h Q := fun k => call_of (by decide) rfl rfl rfl (G_run n _ _ _ _ k)
theorem eX5_store (n d : Nat) (t : Nat) (x0 : Int) (x1 : Int) (h : iH) (Q : Option iV → iH → Prop) : G sp sc [] d mX5_store n 0 [some (.inr (.inr t)), some (.inl x0), some (.inl x1)] [] h Q → Call sp sc d mX5_store [.inr (.inr t), .inl x0, .inl x1] h Q := fun k => call_of (by decide) rfl rfl rfl (G_run n _ _ _ _ k)
theorem eX5_leastOfSort (n d : Nat) (t : Nat) (h : iH) (Q : Option iV → iH → Prop) : G sp sc [] d mX5_leastOfSort n 0 [some (.inr (.inr t))] [] h Q → Call sp sc d mX5_leastOfSort [.inr (.inr t)] h Q := fun k => call_of (by decide) rfl rfl rfl (G_run n _ _ _ _ k)
theorem eX5_isAll (n d : Nat) (t : Nat) (x0 : Int) (h : iH) (Q : Option iV → iH → Prop) : G sp sc [2] d mX5_isAll n 0 [some (.inr (.inr t)), some (.inl x0), none] [] h Q → Call sp sc d mX5_isAll [.inr (.inr t), .inl x0] h Q := fun k => call_of (by decide) rfl rfl rfl (G_run n _ _ _ _ k)
theorem eX5_byteAt (n d : Nat) (t : Nat) (x0 : Int) (h : iH) (Q : Option iV → iH → Prop) : G sp sc [] d mX5_byteAt n 0 [some (.inr (.inr t)), some (.inl x0)] [] h Q → Call sp sc d mX5_byteAt [.inr (.inr t), .inl x0] h Q := fun k => call_of (by decide) rfl rfl rfl (G_run n _ _ _ _ k)
theorem eX5_digitAt (n d : Nat) (t : Nat) (x0 : Int) (h : iH) (Q : Option iV → iH → Prop) : G sp sc [] d mX5_digitAt n 0 [some (.inr (.inr t)), some (.inl x0)] [] h Q → Call sp sc d mX5_digitAt [.inr (.inr t), .inl x0] h Q := fun k => call_of (by decide) rfl rfl rfl (G_run n _ _ _ _ k)
theorem eX6_init (n d : Nat) (t : Nat) (x0 : Int) (h : iH) (Q : Option iV → iH → Prop) : G sp sc [] d mX6_init n 0 [some (.inr (.inr t)), some (.inl x0)] [] h Q → Call sp sc d mX6_init [.inr (.inr t), .inl x0] h Q := fun k => call_of (by decide) rfl rfl rfl (G_run n _ _ _ _ k)
theorem eX6_kind (n d : Nat) (t : Nat) (h : iH) (Q : Option iV → iH → Prop) : G sp sc [] d mX6_kind n 0 [some (.inr (.inr t))] [] h Q → Call sp sc d mX6_kind [.inr (.inr t)] h Q := fun k => call_of (by decide) rfl rfl rfl (G_run n _ _ _ _ k)
theorem eX6_growth (n d : Nat) (t : Nat) (x0 : Int) (h : iH) (Q : Option iV → iH → Prop) : G sp sc [] d mX6_growth n 0 [some (.inr (.inr t)), some (.inl x0)] [] h Q → Call sp sc d mX6_growth [.inr (.inr t), .inl x0] h Q := fun k => call_of (by decide) rfl rfl rfl (G_run n _ _ _ _ k)
theorem eX6_sulking (n d : Nat) (t : Nat) (h : iH) (Q : Option iV → iH → Prop) : G sp sc [] d mX6_sulking n 0 [some (.inr (.inr t))] [] h Q → Call sp sc d mX6_sulking [.inr (.inr t)] h Q := fun k => call_of (by decide) rfl rfl rfl (G_run n _ _ _ _ k)
theorem eX6_retold (n d : Nat) (t : Nat) (x0 : Int) (h : iH) (Q : Option iV → iH → Prop) : G sp sc [] d mX6_retold n 0 [some (.inr (.inr t)), some (.inl x0)] [] h Q → Call sp sc d mX6_retold [.inr (.inr t), .inl x0] h Q := fun k => call_of (by decide) rfl rfl rfl (G_run n _ _ _ _ k)
theorem eX6_price (n d : Nat) (t : Nat) (h : iH) (Q : Option iV → iH → Prop) : G sp sc [] d mX6_price n 0 [some (.inr (.inr t))] [] h Q → Call sp sc d mX6_price [.inr (.inr t)] h Q := fun k => call_of (by decide) rfl rfl rfl (G_run n _ _ _ _ k)
theorem eX6_fail (n d : Nat) (t : Nat) (h : iH) (Q : Option iV → iH → Prop) : G sp sc [] d mX6_fail n 0 [some (.inr (.inr t))] [] h Q → Call sp sc d mX6_fail [.inr (.inr t)] h Q := fun k => call_of (by decide) rfl rfl rfl (G_run n _ _ _ _ k)
theorem eX7_init (n d : Nat) (t : Nat) (x0 : Int) (h : iH) (Q : Option iV → iH → Prop) : G sp sc [] d mX7_init n 0 [some (.inr (.inr t)), some (.inl x0)] [] h Q → Call sp sc d mX7_init [.inr (.inr t), .inl x0] h Q := fun k => call_of (by decide) rfl rfl rfl (G_run n _ _ _ _ k)
theorem eX7_kind (n d : Nat) (t : Nat) (h : iH) (Q : Option iV → iH → Prop) : G sp sc [] d mX7_kind n 0 [some (.inr (.inr t))] [] h Q → Call sp sc d mX7_kind [.inr (.inr t)] h Q := fun k => call_of (by decide) rfl rfl rfl (G_run n _ _ _ _ k)
theorem eX7_growth (n d : Nat) (t : Nat) (x0 : Int) (h : iH) (Q : Option iV → iH → Prop) : G sp sc [] d mX7_growth n 0 [some (.inr (.inr t)), some (.inl x0)] [] h Q → Call sp sc d mX7_growth [.inr (.inr t), .inl x0] h Q := fun k => call_of (by decide) rfl rfl rfl (G_run n _ _ _ _ k)
theorem eX7_sulking (n d : Nat) (t : Nat) (h : iH) (Q : Option iV → iH → Prop) : G sp sc [] d mX7_sulking n 0 [some (.inr (.inr t))] [] h Q → Call sp sc d mX7_sulking [.inr (.inr t)] h Q := fun k => call_of (by decide) rfl rfl rfl (G_run n _ _ _ _ k)
theorem eX7_retold (n d : Nat) (t : Nat) (x0 : Int) (h : iH) (Q : Option iV → iH → Prop) : G sp sc [] d mX7_retold n 0 [some (.inr (.inr t)), some (.inl x0)] [] h Q → Call sp sc d mX7_retold [.inr (.inr t), .inl x0] h Q := fun k => call_of (by decide) rfl rfl rfl (G_run n _ _ _ _ k)
theorem eX7_price (n d : Nat) (t : Nat) (h : iH) (Q : Option iV → iH → Prop) : G sp sc [] d mX7_price n 0 [some (.inr (.inr t))] [] h Q → Call sp sc d mX7_price [.inr (.inr t)] h Q := fun k => call_of (by decide) rfl rfl rfl (G_run n _ _ _ _ k)
theorem eX7_fail (n d : Nat) (t : Nat) (h : iH) (Q : Option iV → iH → Prop) : G sp sc [] d mX7_fail n 0 [some (.inr (.inr t))] [] h Q → Call sp sc d mX7_fail [.inr (.inr t)] h Q := fun k => call_of (by decide) rfl rfl rfl (G_run n _ _ _ _ k)
theorem eX8_init (n d : Nat) (t : Nat) (x0 : Nat) (h : iH) (Q : Option iV → iH → Prop) : G sp sc [88, 126, 151] d mX8_init n 0 [some (.inr (.inr t)), some (.inr (.inr x0)), none] [] h Q → Call sp sc d mX8_init [.inr (.inr t), .inr (.inr x0)] h Q := fun k => call_of (by decide) rfl rfl rfl (G_run n _ _ _ _ k)
theorem eX8_place (n d : Nat) (x0 : Int) (x1 : Int) (h : iH) (Q : Option iV → iH → Prop) : G sp sc [] d mX8_place n 0 [some (.inl x0), some (.inl x1)] [] h Q → Call sp sc d mX8_place [.inl x0, .inl x1] h Q := fun k => call_of (by decide) rfl rfl rfl (G_run n _ _ _ _ k)
theorem eX8_hasOne (n d : Nat) (t : Nat) (x0 : Int) (x1 : Int) (h : iH) (Q : Option iV → iH → Prop) : G sp sc [] d mX8_hasOne n 0 [some (.inr (.inr t)), some (.inl x0), some (.inl x1)] [] h Q → Call sp sc d mX8_hasOne [.inr (.inr t), .inl x0, .inl x1] h Q := fun k => call_of (by decide) rfl rfl rfl (G_run n _ _ _ _ k)
theorem eX8_hasTwo (n d : Nat) (t : Nat) (x0 : Int) (x1 : Int) (x2 : Int) (h : iH) (Q : Option iV → iH → Prop) : G sp sc [] d mX8_hasTwo n 0 [some (.inr (.inr t)), some (.inl x0), some (.inl x1), some (.inl x2)] [] h Q → Call sp sc d mX8_hasTwo [.inr (.inr t), .inl x0, .inl x1, .inl x2] h Q := fun k => call_of (by decide) rfl rfl rfl (G_run n _ _ _ _ k)
theorem eX8_hasCouple (n d : Nat) (t : Nat) (x0 : Int) (h : iH) (Q : Option iV → iH → Prop) : G sp sc [] d mX8_hasCouple n 0 [some (.inr (.inr t)), some (.inl x0)] [] h Q → Call sp sc d mX8_hasCouple [.inr (.inr t), .inl x0] h Q := fun k => call_of (by decide) rfl rfl rfl (G_run n _ _ _ _ k)
theorem eX8_goesOn (n d : Nat) (t : Nat) (x0 : Int) (h : iH) (Q : Option iV → iH → Prop) : G sp sc [] d mX8_goesOn n 0 [some (.inr (.inr t)), some (.inl x0)] [] h Q → Call sp sc d mX8_goesOn [.inr (.inr t), .inl x0] h Q := fun k => call_of (by decide) rfl rfl rfl (G_run n _ _ _ _ k)
theorem eX8_natureOf (n d : Nat) (t : Nat) (x0 : Int) (x1 : Int) (h : iH) (Q : Option iV → iH → Prop) : G sp sc [] d mX8_natureOf n 0 [some (.inr (.inr t)), some (.inl x0), some (.inl x1)] [] h Q → Call sp sc d mX8_natureOf [.inr (.inr t), .inl x0, .inl x1] h Q := fun k => call_of (by decide) rfl rfl rfl (G_run n _ _ _ _ k)
theorem eX8_liking (n d : Nat) (t : Nat) (x0 : Int) (x1 : Int) (x2 : Int) (h : iH) (Q : Option iV → iH → Prop) : G sp sc [] d mX8_liking n 0 [some (.inr (.inr t)), some (.inl x0), some (.inl x1), some (.inl x2)] [] h Q → Call sp sc d mX8_liking [.inr (.inr t), .inl x0, .inl x1, .inl x2] h Q := fun k => call_of (by decide) rfl rfl rfl (G_run n _ _ _ _ k)
theorem eX8_setLiking (n d : Nat) (t : Nat) (x0 : Int) (x1 : Int) (x2 : Int) (x3 : Int) (h : iH) (Q : Option iV → iH → Prop) : G sp sc [] d mX8_setLiking n 0 [some (.inr (.inr t)), some (.inl x0), some (.inl x1), some (.inl x2), some (.inl x3)] [] h Q → Call sp sc d mX8_setLiking [.inr (.inr t), .inl x0, .inl x1, .inl x2, .inl x3] h Q := fun k => call_of (by decide) rfl rfl rfl (G_run n _ _ _ _ k)
theorem eX8_addLiking (n d : Nat) (t : Nat) (x0 : Int) (x1 : Int) (x2 : Int) (x3 : Int) (h : iH) (Q : Option iV → iH → Prop) : G sp sc [] d mX8_addLiking n 0 [some (.inr (.inr t)), some (.inl x0), some (.inl x1), some (.inl x2), some (.inl x3)] [] h Q → Call sp sc d mX8_addLiking [.inr (.inr t), .inl x0, .inl x1, .inl x2, .inl x3] h Q := fun k => call_of (by decide) rfl rfl rfl (G_run n _ _ _ _ k)
theorem eX8_setDeputy (n d : Nat) (t : Nat) (x0 : Int) (x1 : Int) (x2 : Int) (h : iH) (Q : Option iV → iH → Prop) : G sp sc [] d mX8_setDeputy n 0 [some (.inr (.inr t)), some (.inl x0), some (.inl x1), some (.inl x2)] [] h Q → Call sp sc d mX8_setDeputy [.inr (.inr t), .inl x0, .inl x1, .inl x2] h Q := fun k => call_of (by decide) rfl rfl rfl (G_run n _ _ _ _ k)
theorem eX8_admit (n d : Nat) (t : Nat) (x0 : Int) (x1 : Nat) (h : iH) (Q : Option iV → iH → Prop) : G sp sc [] d mX8_admit n 0 [some (.inr (.inr t)), some (.inl x0), some (.inr (.inr x1)), none] [] h Q → Call sp sc d mX8_admit [.inr (.inr t), .inl x0, .inr (.inr x1)] h Q := fun k => call_of (by decide) rfl rfl rfl (G_run n _ _ _ _ k)
theorem eX8_pair (n d : Nat) (t : Nat) (x0 : Int) (x1 : Int) (h : iH) (Q : Option iV → iH → Prop) : G sp sc [22] d mX8_pair n 0 [some (.inr (.inr t)), some (.inl x0), some (.inl x1), none] [] h Q → Call sp sc d mX8_pair [.inr (.inr t), .inl x0, .inl x1] h Q := fun k => call_of (by decide) rfl rfl rfl (G_run n _ _ _ _ k)
theorem eX8_isBound (n d : Nat) (t : Nat) (x0 : Int) (x1 : Int) (h : iH) (Q : Option iV → iH → Prop) : G sp sc [] d mX8_isBound n 0 [some (.inr (.inr t)), some (.inl x0), some (.inl x1)] [] h Q → Call sp sc d mX8_isBound [.inr (.inr t), .inl x0, .inl x1] h Q := fun k => call_of (by decide) rfl rfl rfl (G_run n _ _ _ _ k)
theorem eX8_bind (n d : Nat) (t : Nat) (x0 : Int) (x1 : Int) (h : iH) (Q : Option iV → iH → Prop) : G sp sc [] d mX8_bind n 0 [some (.inr (.inr t)), some (.inl x0), some (.inl x1)] [] h Q → Call sp sc d mX8_bind [.inr (.inr t), .inl x0, .inl x1] h Q := fun k => call_of (by decide) rfl rfl rfl (G_run n _ _ _ _ k)
theorem eX8_areOwn (n d : Nat) (t : Nat) (x0 : Int) (x1 : Int) (h : iH) (Q : Option iV → iH → Prop) : G sp sc [2] d mX8_areOwn n 0 [some (.inr (.inr t)), some (.inl x0), some (.inl x1), none] [] h Q → Call sp sc d mX8_areOwn [.inr (.inr t), .inl x0, .inl x1] h Q := fun k => call_of (by decide) rfl rfl rfl (G_run n _ _ _ _ k)
theorem eX8_likeAboveSlip (n d : Nat) (t : Nat) (x0 : Int) (x1 : Int) (h : iH) (Q : Option iV → iH → Prop) : G sp sc [] d mX8_likeAboveSlip n 0 [some (.inr (.inr t)), some (.inl x0), some (.inl x1)] [] h Q → Call sp sc d mX8_likeAboveSlip [.inr (.inr t), .inl x0, .inl x1] h Q := fun k => call_of (by decide) rfl rfl rfl (G_run n _ _ _ _ k)
theorem eX8_doer (n d : Nat) (t : Nat) (x0 : Int) (x1 : Int) (h : iH) (Q : Option iV → iH → Prop) : G sp sc [52] d mX8_doer n 0 [some (.inr (.inr t)), some (.inl x0), some (.inl x1), none, none, none, none, none] [] h Q → Call sp sc d mX8_doer [.inr (.inr t), .inl x0, .inl x1] h Q := fun k => call_of (by decide) rfl rfl rfl (G_run n _ _ _ _ k)
theorem eX8_howMany (n d : Nat) (t : Nat) (x0 : Int) (h : iH) (Q : Option iV → iH → Prop) : G sp sc [4] d mX8_howMany n 0 [some (.inr (.inr t)), some (.inl x0), none, none] [] h Q → Call sp sc d mX8_howMany [.inr (.inr t), .inl x0] h Q := fun k => call_of (by decide) rfl rfl rfl (G_run n _ _ _ _ k)
theorem eX8_drawLikings (n d : Nat) (t : Nat) (x0 : Int) (h : iH) (Q : Option iV → iH → Prop) : G sp sc [4, 12, 26] d mX8_drawLikings n 0 [some (.inr (.inr t)), some (.inl x0), none, none, none, none] [] h Q → Call sp sc d mX8_drawLikings [.inr (.inr t), .inl x0] h Q := fun k => call_of (by decide) rfl rfl rfl (G_run n _ _ _ _ k)
theorem eX8_takeFrom (n d : Nat) (t : Nat) (x0 : Nat) (h : iH) (Q : Option iV → iH → Prop) : G sp sc [188] d mX8_takeFrom n 0 [some (.inr (.inr t)), some (.inr (.inr x0)), none] [] h Q → Call sp sc d mX8_takeFrom [.inr (.inr t), .inr (.inr x0)] h Q := fun k => call_of (by decide) rfl rfl rfl (G_run n _ _ _ _ k)
theorem eX9_init (n d : Nat) (t : Nat) (x0 : Int) (h : iH) (Q : Option iV → iH → Prop) : G sp sc [] d mX9_init n 0 [some (.inr (.inr t)), some (.inl x0)] [] h Q → Call sp sc d mX9_init [.inr (.inr t), .inl x0] h Q := fun k => call_of (by decide) rfl rfl rfl (G_run n _ _ _ _ k)
theorem eX9_kind (n d : Nat) (t : Nat) (h : iH) (Q : Option iV → iH → Prop) : G sp sc [] d mX9_kind n 0 [some (.inr (.inr t))] [] h Q → Call sp sc d mX9_kind [.inr (.inr t)] h Q := fun k => call_of (by decide) rfl rfl rfl (G_run n _ _ _ _ k)
theorem eX9_growth (n d : Nat) (t : Nat) (x0 : Int) (h : iH) (Q : Option iV → iH → Prop) : G sp sc [] d mX9_growth n 0 [some (.inr (.inr t)), some (.inl x0)] [] h Q → Call sp sc d mX9_growth [.inr (.inr t), .inl x0] h Q := fun k => call_of (by decide) rfl rfl rfl (G_run n _ _ _ _ k)
theorem eX9_retold (n d : Nat) (t : Nat) (x0 : Int) (h : iH) (Q : Option iV → iH → Prop) : G sp sc [] d mX9_retold n 0 [some (.inr (.inr t)), some (.inl x0)] [] h Q → Call sp sc d mX9_retold [.inr (.inr t), .inl x0] h Q := fun k => call_of (by decide) rfl rfl rfl (G_run n _ _ _ _ k)
theorem eX9_price (n d : Nat) (t : Nat) (h : iH) (Q : Option iV → iH → Prop) : G sp sc [] d mX9_price n 0 [some (.inr (.inr t))] [] h Q → Call sp sc d mX9_price [.inr (.inr t)] h Q := fun k => call_of (by decide) rfl rfl rfl (G_run n _ _ _ _ k)
theorem eX10_init (n d : Nat) (t : Nat) (x0 : Nat) (h : iH) (Q : Option iV → iH → Prop) : G sp sc [] d mX10_init n 0 [some (.inr (.inr t)), some (.inr (.inr x0))] [] h Q → Call sp sc d mX10_init [.inr (.inr t), .inr (.inr x0)] h Q := fun k => call_of (by decide) rfl rfl rfl (G_run n _ _ _ _ k)
theorem eX10_begin (n d : Nat) (t : Nat) (x0 : Nat) (h : iH) (Q : Option iV → iH → Prop) : G sp sc [] d mX10_begin n 0 [some (.inr (.inr t)), some (.inr (.inr x0))] [] h Q → Call sp sc d mX10_begin [.inr (.inr t), .inr (.inr x0)] h Q := fun k => call_of (by decide) rfl rfl rfl (G_run n _ _ _ _ k)
theorem eX10_again (n d : Nat) (t : Nat) (x0 : Nat) (h : iH) (Q : Option iV → iH → Prop) : G sp sc [30] d mX10_again n 0 [some (.inr (.inr t)), some (.inr (.inr x0)), none] [] h Q → Call sp sc d mX10_again [.inr (.inr t), .inr (.inr x0)] h Q := fun k => call_of (by decide) rfl rfl rfl (G_run n _ _ _ _ k)
theorem eX10_orderByNumbers (n d : Nat) (t : Nat) (h : iH) (Q : Option iV → iH → Prop) : G sp sc [2] d mX10_orderByNumbers n 0 [some (.inr (.inr t)), none] [] h Q → Call sp sc d mX10_orderByNumbers [.inr (.inr t)] h Q := fun k => call_of (by decide) rfl rfl rfl (G_run n _ _ _ _ k)
theorem eX10_orderDigits (n d : Nat) (t : Nat) (h : iH) (Q : Option iV → iH → Prop) : G sp sc [4] d mX10_orderDigits n 0 [some (.inr (.inr t)), none, none] [] h Q → Call sp sc d mX10_orderDigits [.inr (.inr t)] h Q := fun k => call_of (by decide) rfl rfl rfl (G_run n _ _ _ _ k)
theorem eX10_nextOrder (n d : Nat) (t : Nat) (h : iH) (Q : Option iV → iH → Prop) : G sp sc [14, 49, 89] d mX10_nextOrder n 0 [some (.inr (.inr t)), none, none, none, none, none] [] h Q → Call sp sc d mX10_nextOrder [.inr (.inr t)] h Q := fun k => call_of (by decide) rfl rfl rfl (G_run n _ _ _ _ k)
theorem eX10_swap (n d : Nat) (t : Nat) (x0 : Int) (x1 : Int) (h : iH) (Q : Option iV → iH → Prop) : G sp sc [] d mX10_swap n 0 [some (.inr (.inr t)), some (.inl x0), some (.inl x1), none] [] h Q → Call sp sc d mX10_swap [.inr (.inr t), .inl x0, .inl x1] h Q := fun k => call_of (by decide) rfl rfl rfl (G_run n _ _ _ _ k)
theorem eX10_pass (n d : Nat) (t : Nat) (x0 : Int) (h : iH) (Q : Option iV → iH → Prop) : G sp sc [2, 9, 59] d mX10_pass n 0 [some (.inr (.inr t)), some (.inl x0), none, none, none] [] h Q → Call sp sc d mX10_pass [.inr (.inr t), .inl x0] h Q := fun k => call_of (by decide) rfl rfl rfl (G_run n _ _ _ _ k)
theorem eX10_waitAll (n d : Nat) (t : Nat) (x0 : Int) (h : iH) (Q : Option iV → iH → Prop) : G sp sc [25] d mX10_waitAll n 0 [some (.inr (.inr t)), some (.inl x0), none] [] h Q → Call sp sc d mX10_waitAll [.inr (.inr t), .inl x0] h Q := fun k => call_of (by decide) rfl rfl rfl (G_run n _ _ _ _ k)
theorem eX10_takeTurn (n d : Nat) (t : Nat) (x0 : Int) (h : iH) (Q : Option iV → iH → Prop) : G sp sc [] d mX10_takeTurn n 0 [some (.inr (.inr t)), some (.inl x0), none, none, none] [] h Q → Call sp sc d mX10_takeTurn [.inr (.inr t), .inl x0] h Q := fun k => call_of (by decide) rfl rfl rfl (G_run n _ _ _ _ k)
theorem eX10_isTaken (n d : Nat) (t : Nat) (x0 : Int) (x1 : Int) (h : iH) (Q : Option iV → iH → Prop) : G sp sc [] d mX10_isTaken n 0 [some (.inr (.inr t)), some (.inl x0), some (.inl x1)] [] h Q → Call sp sc d mX10_isTaken [.inr (.inr t), .inl x0, .inl x1] h Q := fun k => call_of (by decide) rfl rfl rfl (G_run n _ _ _ _ k)
theorem eX10_meet (n d : Nat) (t : Nat) (x0 : Int) (x1 : Int) (h : iH) (Q : Option iV → iH → Prop) : G sp sc [] d mX10_meet n 0 [some (.inr (.inr t)), some (.inl x0), some (.inl x1), none] [] h Q → Call sp sc d mX10_meet [.inr (.inr t), .inl x0, .inl x1] h Q := fun k => call_of (by decide) rfl rfl rfl (G_run n _ _ _ _ k)
theorem eX10_sulkOver (n d : Nat) (t : Nat) (x0 : Int) (x1 : Int) (h : iH) (Q : Option iV → iH → Prop) : G sp sc [2] d mX10_sulkOver n 0 [some (.inr (.inr t)), some (.inl x0), some (.inl x1), none, none, none] [] h Q → Call sp sc d mX10_sulkOver [.inr (.inr t), .inl x0, .inl x1] h Q := fun k => call_of (by decide) rfl rfl rfl (G_run n _ _ _ _ k)
theorem eX10_bindBySlip (n d : Nat) (t : Nat) (x0 : Int) (x1 : Int) (x2 : Int) (h : iH) (Q : Option iV → iH → Prop) : G sp sc [] d mX10_bindBySlip n 0 [some (.inr (.inr t)), some (.inl x0), some (.inl x1), some (.inl x2)] [] h Q → Call sp sc d mX10_bindBySlip [.inr (.inr t), .inl x0, .inl x1, .inl x2] h Q := fun k => call_of (by decide) rfl rfl rfl (G_run n _ _ _ _ k)
theorem eX10_doDeed (n d : Nat) (t : Nat) (x0 : Int) (h : iH) (Q : Option iV → iH → Prop) : G sp sc [] d mX10_doDeed n 0 [some (.inr (.inr t)), some (.inl x0)] [] h Q → Call sp sc d mX10_doDeed [.inr (.inr t), .inl x0] h Q := fun k => call_of (by decide) rfl rfl rfl (G_run n _ _ _ _ k)
theorem eX10_end (n d : Nat) (t : Nat) (x0 : Int) (x1 : Int) (h : iH) (Q : Option iV → iH → Prop) : G sp sc [] d mX10_end n 0 [some (.inr (.inr t)), some (.inl x0), some (.inl x1)] [] h Q → Call sp sc d mX10_end [.inr (.inr t), .inl x0, .inl x1] h Q := fun k => call_of (by decide) rfl rfl rfl (G_run n _ _ _ _ k)
theorem eX10_loseCouplesWith (n d : Nat) (t : Nat) (x0 : Int) (x1 : Int) (h : iH) (Q : Option iV → iH → Prop) : G sp sc [2] d mX10_loseCouplesWith n 0 [some (.inr (.inr t)), some (.inl x0), some (.inl x1), none] [] h Q → Call sp sc d mX10_loseCouplesWith [.inr (.inr t), .inl x0, .inl x1] h Q := fun k => call_of (by decide) rfl rfl rfl (G_run n _ _ _ _ k)
theorem eX11_init (n d : Nat) (t : Nat) (h : iH) (Q : Option iV → iH → Prop) : G sp sc [81, 203, 240] d mX11_init n 0 [some (.inr (.inr t)), none, none, none] [] h Q → Call sp sc d mX11_init [.inr (.inr t)] h Q := fun k => call_of (by decide) rfl rfl rfl (G_run n _ _ _ _ k)
theorem eX11_valley (n d : Nat) (t : Nat) (x0 : Int) (h : iH) (Q : Option iV → iH → Prop) : G sp sc [76] d mX11_valley n 0 [some (.inr (.inr t)), some (.inl x0), none, none, none, none] [] h Q → Call sp sc d mX11_valley [.inr (.inr t), .inl x0] h Q := fun k => call_of (by decide) rfl rfl rfl (G_run n _ _ _ _ k)
theorem eX11_one (n d : Nat) (t : Nat) (x0 : Int) (x1 : Int) (x2 : Int) (h : iH) (Q : Option iV → iH → Prop) : G sp sc [] d mX11_one n 0 [some (.inr (.inr t)), some (.inl x0), some (.inl x1), some (.inl x2)] [] h Q → Call sp sc d mX11_one [.inr (.inr t), .inl x0, .inl x1, .inl x2] h Q := fun k => call_of (by decide) rfl rfl rfl (G_run n _ _ _ _ k)
theorem eX11_grows (n d : Nat) (t : Nat) (x0 : Int) (x1 : Int) (x2 : Int) (h : iH) (Q : Option iV → iH → Prop) : G sp sc [] d mX11_grows n 0 [some (.inr (.inr t)), some (.inl x0), some (.inl x1), some (.inl x2)] [] h Q → Call sp sc d mX11_grows [.inr (.inr t), .inl x0, .inl x1, .inl x2] h Q := fun k => call_of (by decide) rfl rfl rfl (G_run n _ _ _ _ k)
theorem eX11_retells (n d : Nat) (t : Nat) (x0 : Int) (x1 : Int) (x2 : Int) (h : iH) (Q : Option iV → iH → Prop) : G sp sc [] d mX11_retells n 0 [some (.inr (.inr t)), some (.inl x0), some (.inl x1), some (.inl x2)] [] h Q → Call sp sc d mX11_retells [.inr (.inr t), .inl x0, .inl x1, .inl x2] h Q := fun k => call_of (by decide) rfl rfl rfl (G_run n _ _ _ _ k)
theorem eX11_comes (n d : Nat) (t : Nat) (x0 : Int) (x1 : Int) (h : iH) (Q : Option iV → iH → Prop) : G sp sc [] d mX11_comes n 0 [some (.inr (.inr t)), some (.inl x0), some (.inl x1), none] [] h Q → Call sp sc d mX11_comes [.inr (.inr t), .inl x0, .inl x1] h Q := fun k => call_of (by decide) rfl rfl rfl (G_run n _ _ _ _ k)
theorem eX11_likes (n d : Nat) (t : Nat) (x0 : Int) (x1 : Int) (x2 : Int) (h : iH) (Q : Option iV → iH → Prop) : G sp sc [] d mX11_likes n 0 [some (.inr (.inr t)), some (.inl x0), some (.inl x1), some (.inl x2)] [] h Q → Call sp sc d mX11_likes [.inr (.inr t), .inl x0, .inl x1, .inl x2] h Q := fun k => call_of (by decide) rfl rfl rfl (G_run n _ _ _ _ k)
theorem eX11_like (n d : Nat) (t : Nat) (x0 : Int) (x1 : Int) (x2 : Int) (x3 : Int) (h : iH) (Q : Option iV → iH → Prop) : G sp sc [] d mX11_like n 0 [some (.inr (.inr t)), some (.inl x0), some (.inl x1), some (.inl x2), some (.inl x3), none] [] h Q → Call sp sc d mX11_like [.inr (.inr t), .inl x0, .inl x1, .inl x2, .inl x3] h Q := fun k => call_of (by decide) rfl rfl rfl (G_run n _ _ _ _ k)
theorem eX11_sends (n d : Nat) (t : Nat) (x0 : Int) (x1 : Int) (x2 : Int) (h : iH) (Q : Option iV → iH → Prop) : G sp sc [] d mX11_sends n 0 [some (.inr (.inr t)), some (.inl x0), some (.inl x1), some (.inl x2), none] [] h Q → Call sp sc d mX11_sends [.inr (.inr t), .inl x0, .inl x1, .inl x2] h Q := fun k => call_of (by decide) rfl rfl rfl (G_run n _ _ _ _ k)
theorem eX11_couple (n d : Nat) (t : Nat) (x0 : Int) (x1 : Int) (h : iH) (Q : Option iV → iH → Prop) : G sp sc [] d mX11_couple n 0 [some (.inr (.inr t)), some (.inl x0), some (.inl x1)] [] h Q → Call sp sc d mX11_couple [.inr (.inr t), .inl x0, .inl x1] h Q := fun k => call_of (by decide) rfl rfl rfl (G_run n _ _ _ _ k)
theorem eX11_about (n d : Nat) (t : Nat) (x0 : Int) (x1 : Int) (h : iH) (Q : Option iV → iH → Prop) : G sp sc [] d mX11_about n 0 [some (.inr (.inr t)), some (.inl x0), some (.inl x1)] [] h Q → Call sp sc d mX11_about [.inr (.inr t), .inl x0, .inl x1] h Q := fun k => call_of (by decide) rfl rfl rfl (G_run n _ _ _ _ k)
theorem eX11_who (n d : Nat) (t : Nat) (x0 : Int) (x1 : Int) (h : iH) (Q : Option iV → iH → Prop) : G sp sc [] d mX11_who n 0 [some (.inr (.inr t)), some (.inl x0), some (.inl x1), none] [] h Q → Call sp sc d mX11_who [.inr (.inr t), .inl x0, .inl x1] h Q := fun k => call_of (by decide) rfl rfl rfl (G_run n _ _ _ _ k)
theorem eX11_slip (n d : Nat) (t : Nat) (x0 : Int) (h : iH) (Q : Option iV → iH → Prop) : G sp sc [] d mX11_slip n 0 [some (.inr (.inr t)), some (.inl x0), none] [] h Q → Call sp sc d mX11_slip [.inr (.inr t), .inl x0] h Q := fun k => call_of (by decide) rfl rfl rfl (G_run n _ _ _ _ k)
theorem eX11_days (n d : Nat) (t : Nat) (x0 : Int) (h : iH) (Q : Option iV → iH → Prop) : G sp sc [] d mX11_days n 0 [some (.inr (.inr t)), some (.inl x0)] [] h Q → Call sp sc d mX11_days [.inr (.inr t), .inl x0] h Q := fun k => call_of (by decide) rfl rfl rfl (G_run n _ _ _ _ k)
theorem eX11_fate (n d : Nat) (t : Nat) (x0 : Int) (x1 : Int) (x2 : Int) (h : iH) (Q : Option iV → iH → Prop) : G sp sc [] d mX11_fate n 0 [some (.inr (.inr t)), some (.inl x0), some (.inl x1), some (.inl x2)] [] h Q → Call sp sc d mX11_fate [.inr (.inr t), .inl x0, .inl x1, .inl x2] h Q := fun k => call_of (by decide) rfl rfl rfl (G_run n _ _ _ _ k)
theorem eX11_then (n d : Nat) (t : Nat) (x0 : Int) (x1 : Int) (x2 : Int) (x3 : Int) (h : iH) (Q : Option iV → iH → Prop) : G sp sc [] d mX11_then n 0 [some (.inr (.inr t)), some (.inl x0), some (.inl x1), some (.inl x2), some (.inl x3)] [] h Q → Call sp sc d mX11_then [.inr (.inr t), .inl x0, .inl x1, .inl x2, .inl x3] h Q := fun k => call_of (by decide) rfl rfl rfl (G_run n _ _ _ _ k)
theorem eX11_bound (n d : Nat) (t : Nat) (x0 : Int) (x1 : Int) (x2 : Int) (h : iH) (Q : Option iV → iH → Prop) : G sp sc [] d mX11_bound n 0 [some (.inr (.inr t)), some (.inl x0), some (.inl x1), some (.inl x2)] [] h Q → Call sp sc d mX11_bound [.inr (.inr t), .inl x0, .inl x1, .inl x2] h Q := fun k => call_of (by decide) rfl rfl rfl (G_run n _ _ _ _ k)
theorem eX11_slips (n d : Nat) (t : Nat) (x0 : Int) (x1 : Int) (h : iH) (Q : Option iV → iH → Prop) : G sp sc [] d mX11_slips n 0 [some (.inr (.inr t)), some (.inl x0), some (.inl x1)] [] h Q → Call sp sc d mX11_slips [.inr (.inr t), .inl x0, .inl x1] h Q := fun k => call_of (by decide) rfl rfl rfl (G_run n _ _ _ _ k)
theorem eX11_soonest (n d : Nat) (t : Nat) (h : iH) (Q : Option iV → iH → Prop) : G sp sc [13] d mX11_soonest n 0 [some (.inr (.inr t)), none] [] h Q → Call sp sc d mX11_soonest [.inr (.inr t)] h Q := fun k => call_of (by decide) rfl rfl rfl (G_run n _ _ _ _ k)
theorem eX11_orders (n d : Nat) (t : Nat) (x0 : Int) (h : iH) (Q : Option iV → iH → Prop) : G sp sc [43] d mX11_orders n 0 [some (.inr (.inr t)), some (.inl x0), none, none, none, none, none] [] h Q → Call sp sc d mX11_orders [.inr (.inr t), .inl x0] h Q := fun k => call_of (by decide) rfl rfl rfl (G_run n _ _ _ _ k)
theorem eX11_deputies (n d : Nat) (t : Nat) (x0 : Int) (x1 : Int) (h : iH) (Q : Option iV → iH → Prop) : G sp sc [68, 85] d mX11_deputies n 0 [some (.inr (.inr t)), some (.inl x0), some (.inl x1), none, none, none, none, none, none, none] [] h Q → Call sp sc d mX11_deputies [.inr (.inr t), .inl x0, .inl x1] h Q := fun k => call_of (by decide) rfl rfl rfl (G_run n _ _ _ _ k)
theorem eX11_bestWho (n d : Nat) (t : Nat) (x0 : Int) (h : iH) (Q : Option iV → iH → Prop) : G sp sc [16] d mX11_bestWho n 0 [some (.inr (.inr t)), some (.inl x0), none, none, none, none] [] h Q → Call sp sc d mX11_bestWho [.inr (.inr t), .inl x0] h Q := fun k => call_of (by decide) rfl rfl rfl (G_run n _ _ _ _ k)
theorem eX11_leave (n d : Nat) (t : Nat) (x0 : Int) (h : iH) (Q : Option iV → iH → Prop) : G sp sc [56] d mX11_leave n 0 [some (.inr (.inr t)), some (.inl x0), none, none, none, none, none] [] h Q → Call sp sc d mX11_leave [.inr (.inr t), .inl x0] h Q := fun k => call_of (by decide) rfl rfl rfl (G_run n _ _ _ _ k)
theorem eX11_stable (n d : Nat) (t : Nat) (x0 : Int) (h : iH) (Q : Option iV → iH → Prop) : G sp sc [] d mX11_stable n 0 [some (.inr (.inr t)), some (.inl x0)] [] h Q → Call sp sc d mX11_stable [.inr (.inr t), .inl x0] h Q := fun k => call_of (by decide) rfl rfl rfl (G_run n _ _ _ _ k)
theorem eX11_allStable (n d : Nat) (t : Nat) (h : iH) (Q : Option iV → iH → Prop) : G sp sc [] d mX11_allStable n 0 [some (.inr (.inr t))] [] h Q → Call sp sc d mX11_allStable [.inr (.inr t)] h Q := fun k => call_of (by decide) rfl rfl rfl (G_run n _ _ _ _ k)
theorem eX11_most (n d : Nat) (t : Nat) (h : iH) (Q : Option iV → iH → Prop) : G sp sc [] d mX11_most n 0 [some (.inr (.inr t))] [] h Q → Call sp sc d mX11_most [.inr (.inr t)] h Q := fun k => call_of (by decide) rfl rfl rfl (G_run n _ _ _ _ k)
theorem eX11_mostOf (n d : Nat) (t : Nat) (x0 : Int) (h : iH) (Q : Option iV → iH → Prop) : G sp sc [] d mX11_mostOf n 0 [some (.inr (.inr t)), some (.inl x0)] [] h Q → Call sp sc d mX11_mostOf [.inr (.inr t), .inl x0] h Q := fun k => call_of (by decide) rfl rfl rfl (G_run n _ _ _ _ k)
theorem eX11_report (n d : Nat) (t : Nat) (x0 : Int) (x1 : Int) (x2 : Int) (h : iH) (Q : Option iV → iH → Prop) : G sp sc [] d mX11_report n 0 [some (.inr (.inr t)), some (.inl x0), some (.inl x1), some (.inl x2)] [] h Q → Call sp sc d mX11_report [.inr (.inr t), .inl x0, .inl x1, .inl x2] h Q := fun k => call_of (by decide) rfl rfl rfl (G_run n _ _ _ _ k)
theorem eX11_said (n d : Nat) (t : Nat) (x0 : Int) (x1 : Int) (x2 : Int) (x3 : Int) (h : iH) (Q : Option iV → iH → Prop) : G sp sc [47] d mX11_said n 0 [some (.inr (.inr t)), some (.inl x0), some (.inl x1), some (.inl x2), some (.inl x3), none, none, none] [] h Q → Call sp sc d mX11_said [.inr (.inr t), .inl x0, .inl x1, .inl x2, .inl x3] h Q := fun k => call_of (by decide) rfl rfl rfl (G_run n _ _ _ _ k)
theorem eX11_learnt (n d : Nat) (t : Nat) (x0 : Int) (x1 : Int) (h : iH) (Q : Option iV → iH → Prop) : G sp sc [43] d mX11_learnt n 0 [some (.inr (.inr t)), some (.inl x0), some (.inl x1), none, none, none, none] [] h Q → Call sp sc d mX11_learnt [.inr (.inr t), .inl x0, .inl x1] h Q := fun k => call_of (by decide) rfl rfl rfl (G_run n _ _ _ _ k)
theorem eX11_chain (n d : Nat) (t : Nat) (x0 : Int) (x1 : Int) (x2 : Int) (h : iH) (Q : Option iV → iH → Prop) : G sp sc [49] d mX11_chain n 0 [some (.inr (.inr t)), some (.inl x0), some (.inl x1), some (.inl x2), none, none, none, none] [] h Q → Call sp sc d mX11_chain [.inr (.inr t), .inl x0, .inl x1, .inl x2] h Q := fun k => call_of (by decide) rfl rfl rfl (G_run n _ _ _ _ k)
theorem eX11_ways (n d : Nat) (t : Nat) (x0 : Int) (h : iH) (Q : Option iV → iH → Prop) : G sp sc [15, 61] d mX11_ways n 0 [some (.inr (.inr t)), some (.inl x0), none, none, none, none, none, none] [] h Q → Call sp sc d mX11_ways [.inr (.inr t), .inl x0] h Q := fun k => call_of (by decide) rfl rfl rfl (G_run n _ _ _ _ k)
theorem eX11_thaw (n d : Nat) (t : Nat) (x0 : Int) (x1 : Int) (x2 : Int) (x3 : Int) (h : iH) (Q : Option iV → iH → Prop) : G sp sc [78, 105, 115] d mX11_thaw n 0 [some (.inr (.inr t)), some (.inl x0), some (.inl x1), some (.inl x2), some (.inl x3), none, none, none] [] h Q → Call sp sc d mX11_thaw [.inr (.inr t), .inl x0, .inl x1, .inl x2, .inl x3] h Q := fun k => call_of (by decide) rfl rfl rfl (G_run n _ _ _ _ k)
theorem eX11_judge (n d : Nat) (t : Nat) (x0 : Int) (x1 : Int) (x2 : Int) (x3 : Int) (h : iH) (Q : Option iV → iH → Prop) : G sp sc [68] d mX11_judge n 0 [some (.inr (.inr t)), some (.inl x0), some (.inl x1), some (.inl x2), some (.inl x3), none, none, none, none, none] [] h Q → Call sp sc d mX11_judge [.inr (.inr t), .inl x0, .inl x1, .inl x2, .inl x3] h Q := fun k => call_of (by decide) rfl rfl rfl (G_run n _ _ _ _ k)
theorem eX11_seeds (n d : Nat) (t : Nat) (x0 : Int) (x1 : Int) (x2 : Int) (h : iH) (Q : Option iV → iH → Prop) : G sp sc [34] d mX11_seeds n 0 [some (.inr (.inr t)), some (.inl x0), some (.inl x1), some (.inl x2), none, none, none, none] [] h Q → Call sp sc d mX11_seeds [.inr (.inr t), .inl x0, .inl x1, .inl x2] h Q := fun k => call_of (by decide) rfl rfl rfl (G_run n _ _ _ _ k)
theorem eX11_image (n d : Nat) (t : Nat) (h : iH) (Q : Option iV → iH → Prop) : G sp sc [] d mX11_image n 0 [some (.inr (.inr t))] [] h Q → Call sp sc d mX11_image [.inr (.inr t)] h Q := fun k => call_of (by decide) rfl rfl rfl (G_run n _ _ _ _ k)
theorem eX11_restore (n d : Nat) (t : Nat) (h : iH) (Q : Option iV → iH → Prop) : G sp sc [] d mX11_restore n 0 [some (.inr (.inr t))] [] h Q → Call sp sc d mX11_restore [.inr (.inr t)] h Q := fun k => call_of (by decide) rfl rfl rfl (G_run n _ _ _ _ k)
theorem eX11_count (n d : Nat) (t : Nat) (x0 : Int) (h : iH) (Q : Option iV → iH → Prop) : G sp sc [] d mX11_count n 0 [some (.inr (.inr t)), some (.inl x0)] [] h Q → Call sp sc d mX11_count [.inr (.inr t), .inl x0] h Q := fun k => call_of (by decide) rfl rfl rfl (G_run n _ _ _ _ k)
theorem eX11_keep (n d : Nat) (t : Nat) (x0 : Int) (x1 : Int) (x2 : Int) (x3 : Int) (h : iH) (Q : Option iV → iH → Prop) : G sp sc [] d mX11_keep n 0 [some (.inr (.inr t)), some (.inl x0), some (.inl x1), some (.inl x2), some (.inl x3)] [] h Q → Call sp sc d mX11_keep [.inr (.inr t), .inl x0, .inl x1, .inl x2, .inl x3] h Q := fun k => call_of (by decide) rfl rfl rfl (G_run n _ _ _ _ k)
theorem eX11_row (n d : Nat) (t : Nat) (x0 : Int) (x1 : Int) (x2 : Int) (h : iH) (Q : Option iV → iH → Prop) : G sp sc [] d mX11_row n 0 [some (.inr (.inr t)), some (.inl x0), some (.inl x1), some (.inl x2)] [] h Q → Call sp sc d mX11_row [.inr (.inr t), .inl x0, .inl x1, .inl x2] h Q := fun k => call_of (by decide) rfl rfl rfl (G_run n _ _ _ _ k)
theorem eX11_put (n d : Nat) (t : Nat) (x0 : Int) (x1 : Int) (x2 : Int) (h : iH) (Q : Option iV → iH → Prop) : G sp sc [] d mX11_put n 0 [some (.inr (.inr t)), some (.inl x0), some (.inl x1), some (.inl x2), none] [] h Q → Call sp sc d mX11_put [.inr (.inr t), .inl x0, .inl x1, .inl x2] h Q := fun k => call_of (by decide) rfl rfl rfl (G_run n _ _ _ _ k)
theorem eX11_element (n d : Nat) (t : Nat) (x0 : Int) (x1 : Int) (h : iH) (Q : Option iV → iH → Prop) : G sp sc [] d mX11_element n 0 [some (.inr (.inr t)), some (.inl x0), some (.inl x1)] [] h Q → Call sp sc d mX11_element [.inr (.inr t), .inl x0, .inl x1] h Q := fun k => call_of (by decide) rfl rfl rfl (G_run n _ _ _ _ k)
theorem eX11_copy (n d : Nat) (t : Nat) (x0 : Int) (x1 : Int) (x2 : Int) (x3 : Int) (x4 : Int) (h : iH) (Q : Option iV → iH → Prop) : G sp sc [] d mX11_copy n 0 [some (.inr (.inr t)), some (.inl x0), some (.inl x1), some (.inl x2), some (.inl x3), some (.inl x4), none, none] [] h Q → Call sp sc d mX11_copy [.inr (.inr t), .inl x0, .inl x1, .inl x2, .inl x3, .inl x4] h Q := fun k => call_of (by decide) rfl rfl rfl (G_run n _ _ _ _ k)
theorem eX11_cost (n d : Nat) (t : Nat) (x0 : Int) (h : iH) (Q : Option iV → iH → Prop) : G sp sc [] d mX11_cost n 0 [some (.inr (.inr t)), some (.inl x0), none] [] h Q → Call sp sc d mX11_cost [.inr (.inr t), .inl x0] h Q := fun k => call_of (by decide) rfl rfl rfl (G_run n _ _ _ _ k)
theorem eX11_isSide (n d : Nat) (x0 : Int) (h : iH) (Q : Option iV → iH → Prop) : G sp sc [] d mX11_isSide n 0 [some (.inl x0)] [] h Q → Call sp sc d mX11_isSide [.inl x0] h Q := fun k => call_of (by decide) rfl rfl rfl (G_run n _ _ _ _ k)
theorem eX11_isShelf (n d : Nat) (x0 : Int) (h : iH) (Q : Option iV → iH → Prop) : G sp sc [] d mX11_isShelf n 0 [some (.inl x0)] [] h Q → Call sp sc d mX11_isShelf [.inl x0] h Q := fun k => call_of (by decide) rfl rfl rfl (G_run n _ _ _ _ k)
theorem eX11_isDeed (n d : Nat) (x0 : Int) (h : iH) (Q : Option iV → iH → Prop) : G sp sc [] d mX11_isDeed n 0 [some (.inl x0)] [] h Q → Call sp sc d mX11_isDeed [.inl x0] h Q := fun k => call_of (by decide) rfl rfl rfl (G_run n _ _ _ _ k)
theorem eX11_isKind (n d : Nat) (x0 : Int) (h : iH) (Q : Option iV → iH → Prop) : G sp sc [] d mX11_isKind n 0 [some (.inl x0)] [] h Q → Call sp sc d mX11_isKind [.inl x0] h Q := fun k => call_of (by decide) rfl rfl rfl (G_run n _ _ _ _ k)
theorem eX11_isMindSpan (n d : Nat) (x0 : Int) (h : iH) (Q : Option iV → iH → Prop) : G sp sc [] d mX11_isMindSpan n 0 [some (.inl x0)] [] h Q → Call sp sc d mX11_isMindSpan [.inl x0] h Q := fun k => call_of (by decide) rfl rfl rfl (G_run n _ _ _ _ k)
theorem eX11_orNone (n d : Nat) (x0 : Int) (h : iH) (Q : Option iV → iH → Prop) : G sp sc [] d mX11_orNone n 0 [some (.inl x0)] [] h Q → Call sp sc d mX11_orNone [.inl x0] h Q := fun k => call_of (by decide) rfl rfl rfl (G_run n _ _ _ _ k)
theorem eX11_isDigit (n d : Nat) (x0 : Int) (h : iH) (Q : Option iV → iH → Prop) : G sp sc [] d mX11_isDigit n 0 [some (.inl x0)] [] h Q → Call sp sc d mX11_isDigit [.inl x0] h Q := fun k => call_of (by decide) rfl rfl rfl (G_run n _ _ _ _ k)
theorem eX11_digitsBehind (n d : Nat) (x0 : Int) (h : iH) (Q : Option iV → iH → Prop) : G sp sc [] d mX11_digitsBehind n 0 [some (.inl x0)] [] h Q → Call sp sc d mX11_digitsBehind [.inl x0] h Q := fun k => call_of (by decide) rfl rfl rfl (G_run n _ _ _ _ k)
theorem eX11_firstBadByte (n d : Nat) (x0 : Nat) (h : iH) (Q : Option iV → iH → Prop) : G sp sc [2, 19] d mX11_firstBadByte n 0 [some (.inr (.inr x0)), none, none, none] [] h Q → Call sp sc d mX11_firstBadByte [.inr (.inr x0)] h Q := fun k => call_of (by decide) rfl rfl rfl (G_run n _ _ _ _ k)
theorem eX11_doStatement (n d : Nat) (t : Nat) (x0 : Nat) (x1 : Int) (h : iH) (Q : Option iV → iH → Prop) : G sp sc [] d mX11_doStatement n 0 [some (.inr (.inr t)), some (.inr (.inr x0)), some (.inl x1), none, none, none, none, none] [] h Q → Call sp sc d mX11_doStatement [.inr (.inr t), .inr (.inr x0), .inl x1] h Q := fun k => call_of (by decide) rfl rfl rfl (G_run n _ _ _ _ k)
theorem eX11_daysTillWed (n d : Nat) (t : Nat) (h : iH) (Q : Option iV → iH → Prop) : G sp sc [4] d mX11_daysTillWed n 0 [some (.inr (.inr t)), none, none] [] h Q → Call sp sc d mX11_daysTillWed [.inr (.inr t)] h Q := fun k => call_of (by decide) rfl rfl rfl (G_run n _ _ _ _ k)
theorem eX11_dayWedWith (n d : Nat) (t : Nat) (x0 : Int) (x1 : Int) (x2 : Int) (h : iH) (Q : Option iV → iH → Prop) : G sp sc [59] d mX11_dayWedWith n 0 [some (.inr (.inr t)), some (.inl x0), some (.inl x1), some (.inl x2), none, none] [] h Q → Call sp sc d mX11_dayWedWith [.inr (.inr t), .inl x0, .inl x1, .inl x2] h Q := fun k => call_of (by decide) rfl rfl rfl (G_run n _ _ _ _ k)
theorem eX11_reported (n d : Nat) (t : Nat) (x0 : Int) (x1 : Int) (x2 : Int) (h : iH) (Q : Option iV → iH → Prop) : G sp sc [21] d mX11_reported n 0 [some (.inr (.inr t)), some (.inl x0), some (.inl x1), some (.inl x2), none, none, none] [] h Q → Call sp sc d mX11_reported [.inr (.inr t), .inl x0, .inl x1, .inl x2] h Q := fun k => call_of (by decide) rfl rfl rfl (G_run n _ _ _ _ k)
theorem eX12_init (n d : Nat) (t : Nat) (h : iH) (Q : Option iV → iH → Prop) : G sp sc [162] d mX12_init n 0 [some (.inr (.inr t)), none] [] h Q → Call sp sc d mX12_init [.inr (.inr t)] h Q := fun k => call_of (by decide) rfl rfl rfl (G_run n _ _ _ _ k)
theorem eX12_isIn (n d : Nat) (x0 : Int) (x1 : Int) (x2 : Int) (h : iH) (Q : Option iV → iH → Prop) : G sp sc [] d mX12_isIn n 0 [some (.inl x0), some (.inl x1), some (.inl x2)] [] h Q → Call sp sc d mX12_isIn [.inl x0, .inl x1, .inl x2] h Q := fun k => call_of (by decide) rfl rfl rfl (G_run n _ _ _ _ k)
theorem eX12_least (n d : Nat) (x0 : Int) (x1 : Int) (h : iH) (Q : Option iV → iH → Prop) : G sp sc [] d mX12_least n 0 [some (.inl x0), some (.inl x1)] [] h Q → Call sp sc d mX12_least [.inl x0, .inl x1] h Q := fun k => call_of (by decide) rfl rfl rfl (G_run n _ _ _ _ k)
theorem eX12_most_II (n d : Nat) (x0 : Int) (x1 : Int) (h : iH) (Q : Option iV → iH → Prop) : G sp sc [] d mX12_most_II n 0 [some (.inl x0), some (.inl x1)] [] h Q → Call sp sc d mX12_most_II [.inl x0, .inl x1] h Q := fun k => call_of (by decide) rfl rfl rfl (G_run n _ _ _ _ k)
theorem eX12_lays (n d : Nat) (x0 : Nat) (x1 : Nat) (h : iH) (Q : Option iV → iH → Prop) : G sp sc [2] d mX12_lays n 0 [some (.inr (.inr x0)), some (.inr (.inr x1)), none] [] h Q → Call sp sc d mX12_lays [.inr (.inr x0), .inr (.inr x1)] h Q := fun k => call_of (by decide) rfl rfl rfl (G_run n _ _ _ _ k)
theorem eX12_has (n d : Nat) (x0 : Int) (x1 : Int) (h : iH) (Q : Option iV → iH → Prop) : G sp sc [] d mX12_has n 0 [some (.inl x0), some (.inl x1)] [] h Q → Call sp sc d mX12_has [.inl x0, .inl x1] h Q := fun k => call_of (by decide) rfl rfl rfl (G_run n _ _ _ _ k)
theorem eX12_atOne (n d : Nat) (x0 : Int) (x1 : Int) (x2 : Int) (h : iH) (Q : Option iV → iH → Prop) : G sp sc [] d mX12_atOne n 0 [some (.inl x0), some (.inl x1), some (.inl x2)] [] h Q → Call sp sc d mX12_atOne [.inl x0, .inl x1, .inl x2] h Q := fun k => call_of (by decide) rfl rfl rfl (G_run n _ _ _ _ k)
theorem eX12_atLike (n d : Nat) (x0 : Int) (x1 : Int) (x2 : Int) (h : iH) (Q : Option iV → iH → Prop) : G sp sc [] d mX12_atLike n 0 [some (.inl x0), some (.inl x1), some (.inl x2)] [] h Q → Call sp sc d mX12_atLike [.inl x0, .inl x1, .inl x2] h Q := fun k => call_of (by decide) rfl rfl rfl (G_run n _ _ _ _ k)
theorem eX12_atCouple (n d : Nat) (x0 : Int) (x1 : Int) (h : iH) (Q : Option iV → iH → Prop) : G sp sc [] d mX12_atCouple n 0 [some (.inl x0), some (.inl x1)] [] h Q → Call sp sc d mX12_atCouple [.inl x0, .inl x1] h Q := fun k => call_of (by decide) rfl rfl rfl (G_run n _ _ _ _ k)
theorem eX12_isOne (n d : Nat) (t : Nat) (x0 : Int) (x1 : Int) (h : iH) (Q : Option iV → iH → Prop) : G sp sc [] d mX12_isOne n 0 [some (.inr (.inr t)), some (.inl x0), some (.inl x1)] [] h Q → Call sp sc d mX12_isOne [.inr (.inr t), .inl x0, .inl x1] h Q := fun k => call_of (by decide) rfl rfl rfl (G_run n _ _ _ _ k)
theorem eX12_isCouple (n d : Nat) (t : Nat) (x0 : Int) (h : iH) (Q : Option iV → iH → Prop) : G sp sc [] d mX12_isCouple n 0 [some (.inr (.inr t)), some (.inl x0)] [] h Q → Call sp sc d mX12_isCouple [.inr (.inr t), .inl x0] h Q := fun k => call_of (by decide) rfl rfl rfl (G_run n _ _ _ _ k)
theorem eX12_growsBy (n d : Nat) (x0 : Int) (x1 : Int) (x2 : Int) (h : iH) (Q : Option iV → iH → Prop) : G sp sc [] d mX12_growsBy n 0 [some (.inl x0), some (.inl x1), some (.inl x2)] [] h Q → Call sp sc d mX12_growsBy [.inl x0, .inl x1, .inl x2] h Q := fun k => call_of (by decide) rfl rfl rfl (G_run n _ _ _ _ k)
theorem eX12_sulksBy (n d : Nat) (x0 : Int) (x1 : Int) (h : iH) (Q : Option iV → iH → Prop) : G sp sc [] d mX12_sulksBy n 0 [some (.inl x0), some (.inl x1)] [] h Q → Call sp sc d mX12_sulksBy [.inl x0, .inl x1] h Q := fun k => call_of (by decide) rfl rfl rfl (G_run n _ _ _ _ k)
theorem eX12_retellsBy (n d : Nat) (x0 : Int) (x1 : Int) (x2 : Int) (h : iH) (Q : Option iV → iH → Prop) : G sp sc [] d mX12_retellsBy n 0 [some (.inl x0), some (.inl x1), some (.inl x2), none] [] h Q → Call sp sc d mX12_retellsBy [.inl x0, .inl x1, .inl x2] h Q := fun k => call_of (by decide) rfl rfl rfl (G_run n _ _ _ _ k)
theorem eX12_begins (n d : Nat) (t : Nat) (h : iH) (Q : Option iV → iH → Prop) : G sp sc [2] d mX12_begins n 0 [some (.inr (.inr t)), none] [] h Q → Call sp sc d mX12_begins [.inr (.inr t)] h Q := fun k => call_of (by decide) rfl rfl rfl (G_run n _ _ _ _ k)
theorem eX12_doer (n d : Nat) (x0 : Nat) (x1 : Int) (x2 : Int) (x3 : Int) (h : iH) (Q : Option iV → iH → Prop) : G sp sc [6] d mX12_doer n 0 [some (.inr (.inr x0)), some (.inl x1), some (.inl x2), some (.inl x3), none, none] [] h Q → Call sp sc d mX12_doer [.inr (.inr x0), .inl x1, .inl x2, .inl x3] h Q := fun k => call_of (by decide) rfl rfl rfl (G_run n _ _ _ _ k)
theorem eX12_goesOn (n d : Nat) (x0 : Nat) (x1 : Int) (h : iH) (Q : Option iV → iH → Prop) : G sp sc [] d mX12_goesOn n 0 [some (.inr (.inr x0)), some (.inl x1)] [] h Q → Call sp sc d mX12_goesOn [.inr (.inr x0), .inl x1] h Q := fun k => call_of (by decide) rfl rfl rfl (G_run n _ _ _ _ k)
theorem eX12_areOwn (n d : Nat) (x0 : Nat) (x1 : Int) (x2 : Int) (h : iH) (Q : Option iV → iH → Prop) : G sp sc [2] d mX12_areOwn n 0 [some (.inr (.inr x0)), some (.inl x1), some (.inl x2), none] [] h Q → Call sp sc d mX12_areOwn [.inr (.inr x0), .inl x1, .inl x2] h Q := fun k => call_of (by decide) rfl rfl rfl (G_run n _ _ _ _ k)
theorem eX12_changesLike (n d : Nat) (x0 : Nat) (x1 : Int) (x2 : Int) (h : iH) (Q : Option iV → iH → Prop) : G sp sc [] d mX12_changesLike n 0 [some (.inr (.inr x0)), some (.inl x1), some (.inl x2)] [] h Q → Call sp sc d mX12_changesLike [.inr (.inr x0), .inl x1, .inl x2] h Q := fun k => call_of (by decide) rfl rfl rfl (G_run n _ _ _ _ k)
theorem eX12_sulksOf (n d : Nat) (x0 : Nat) (x1 : Int) (x2 : Int) (h : iH) (Q : Option iV → iH → Prop) : G sp sc [] d mX12_sulksOf n 0 [some (.inr (.inr x0)), some (.inl x1), some (.inl x2)] [] h Q → Call sp sc d mX12_sulksOf [.inr (.inr x0), .inl x1, .inl x2] h Q := fun k => call_of (by decide) rfl rfl rfl (G_run n _ _ _ _ k)
theorem eX12_meet (n d : Nat) (x0 : Nat) (x1 : Int) (x2 : Int) (h : iH) (Q : Option iV → iH → Prop) : G sp sc [70] d mX12_meet n 0 [some (.inr (.inr x0)), some (.inl x1), some (.inl x2), none, none, none, none] [] h Q → Call sp sc d mX12_meet [.inr (.inr x0), .inl x1, .inl x2] h Q := fun k => call_of (by decide) rfl rfl rfl (G_run n _ _ _ _ k)
theorem eX12_ends (n d : Nat) (t : Nat) (x0 : Nat) (x1 : Int) (x2 : Int) (h : iH) (Q : Option iV → iH → Prop) : G sp sc [] d mX12_ends n 0 [some (.inr (.inr t)), some (.inr (.inr x0)), some (.inl x1), some (.inl x2)] [] h Q → Call sp sc d mX12_ends [.inr (.inr t), .inr (.inr x0), .inl x1, .inl x2] h Q := fun k => call_of (by decide) rfl rfl rfl (G_run n _ _ _ _ k)
theorem eX12_bind (n d : Nat) (t : Nat) (x0 : Nat) (x1 : Int) (x2 : Int) (x3 : Int) (x4 : Int) (h : iH) (Q : Option iV → iH → Prop) : G sp sc [30] d mX12_bind n 0 [some (.inr (.inr t)), some (.inr (.inr x0)), some (.inl x1), some (.inl x2), some (.inl x3), some (.inl x4), none] [] h Q → Call sp sc d mX12_bind [.inr (.inr t), .inr (.inr x0), .inl x1, .inl x2, .inl x3, .inl x4] h Q := fun k => call_of (by decide) rfl rfl rfl (G_run n _ _ _ _ k)
theorem eX12_turn (n d : Nat) (t : Nat) (x0 : Nat) (x1 : Int) (x2 : Int) (h : iH) (Q : Option iV → iH → Prop) : G sp sc [] d mX12_turn n 0 [some (.inr (.inr t)), some (.inr (.inr x0)), some (.inl x1), some (.inl x2), none, none, none, none, none, none] [] h Q → Call sp sc d mX12_turn [.inr (.inr t), .inr (.inr x0), .inl x1, .inl x2] h Q := fun k => call_of (by decide) rfl rfl rfl (G_run n _ _ _ _ k)
theorem eX12_goes (n d : Nat) (t : Nat) (x0 : Nat) (h : iH) (Q : Option iV → iH → Prop) : G sp sc [4] d mX12_goes n 0 [some (.inr (.inr t)), some (.inr (.inr x0)), none, none] [] h Q → Call sp sc d mX12_goes [.inr (.inr t), .inr (.inr x0)] h Q := fun k => call_of (by decide) rfl rfl rfl (G_run n _ _ _ _ k)
theorem eX12_inMind (n d : Nat) (t : Nat) (x0 : Int) (h : iH) (Q : Option iV → iH → Prop) : G sp sc [17] d mX12_inMind n 0 [some (.inr (.inr t)), some (.inl x0), none] [] h Q → Call sp sc d mX12_inMind [.inr (.inr t), .inl x0] h Q := fun k => call_of (by decide) rfl rfl rfl (G_run n _ _ _ _ k)
theorem eX12_manySuch (n d : Nat) (x0 : Nat) (x1 : Int) (h : iH) (Q : Option iV → iH → Prop) : G sp sc [4] d mX12_manySuch n 0 [some (.inr (.inr x0)), some (.inl x1), none, none] [] h Q → Call sp sc d mX12_manySuch [.inr (.inr x0), .inl x1] h Q := fun k => call_of (by decide) rfl rfl rfl (G_run n _ _ _ _ k)
theorem eX12_here (n d : Nat) (t : Nat) (h : iH) (Q : Option iV → iH → Prop) : G sp sc [] d mX12_here n 0 [some (.inr (.inr t))] [] h Q → Call sp sc d mX12_here [.inr (.inr t)] h Q := fun k => call_of (by decide) rfl rfl rfl (G_run n _ _ _ _ k)
theorem eX12_readsNumber (n d : Nat) (t : Nat) (x0 : Int) (x1 : Int) (h : iH) (Q : Option iV → iH → Prop) : G sp sc [9] d mX12_readsNumber n 0 [some (.inr (.inr t)), some (.inl x0), some (.inl x1), none] [] h Q → Call sp sc d mX12_readsNumber [.inr (.inr t), .inl x0, .inl x1] h Q := fun k => call_of (by decide) rfl rfl rfl (G_run n _ _ _ _ k)
theorem eX12_readsStatement (n d : Nat) (t : Nat) (h : iH) (Q : Option iV → iH → Prop) : G sp sc [] d mX12_readsStatement n 0 [some (.inr (.inr t)), none, none] [] h Q → Call sp sc d mX12_readsStatement [.inr (.inr t)] h Q := fun k => call_of (by decide) rfl rfl rfl (G_run n _ _ _ _ k)
theorem eX12_addsOne (n d : Nat) (t : Nat) (x0 : Int) (x1 : Int) (x2 : Int) (h : iH) (Q : Option iV → iH → Prop) : G sp sc [65] d mX12_addsOne n 0 [some (.inr (.inr t)), some (.inl x0), some (.inl x1), some (.inl x2), none, none] [] h Q → Call sp sc d mX12_addsOne [.inr (.inr t), .inl x0, .inl x1, .inl x2] h Q := fun k => call_of (by decide) rfl rfl rfl (G_run n _ _ _ _ k)
theorem eX12_canNotBe (n d : Nat) (t : Nat) (x0 : Int) (x1 : Int) (h : iH) (Q : Option iV → iH → Prop) : G sp sc [32] d mX12_canNotBe n 0 [some (.inr (.inr t)), some (.inl x0), some (.inl x1), none] [] h Q → Call sp sc d mX12_canNotBe [.inr (.inr t), .inl x0, .inl x1] h Q := fun k => call_of (by decide) rfl rfl rfl (G_run n _ _ _ _ k)
theorem eX12_addsCouple (n d : Nat) (t : Nat) (x0 : Int) (x1 : Int) (h : iH) (Q : Option iV → iH → Prop) : G sp sc [] d mX12_addsCouple n 0 [some (.inr (.inr t)), some (.inl x0), some (.inl x1), none] [] h Q → Call sp sc d mX12_addsCouple [.inr (.inr t), .inl x0, .inl x1] h Q := fun k => call_of (by decide) rfl rfl rfl (G_run n _ _ _ _ k)
theorem eX12_isDone (n d : Nat) (t : Nat) (x0 : Int) (h : iH) (Q : Option iV → iH → Prop) : G sp sc [390] d mX12_isDone n 0 [some (.inr (.inr t)), some (.inl x0), none, none, none, none] [] h Q → Call sp sc d mX12_isDone [.inr (.inr t), .inl x0] h Q := fun k => call_of (by decide) rfl rfl rfl (G_run n _ _ _ _ k)
theorem eX12_valley (n d : Nat) (t : Nat) (x0 : Int) (h : iH) (Q : Option iV → iH → Prop) : G sp sc [41, 93] d mX12_valley n 0 [some (.inr (.inr t)), some (.inl x0), none, none, none, none, none, none] [] h Q → Call sp sc d mX12_valley [.inr (.inr t), .inl x0] h Q := fun k => call_of (by decide) rfl rfl rfl (G_run n _ _ _ _ k)
theorem eX12_orNone (n d : Nat) (x0 : Int) (h : iH) (Q : Option iV → iH → Prop) : G sp sc [] d mX12_orNone n 0 [some (.inl x0)] [] h Q → Call sp sc d mX12_orNone [.inl x0] h Q := fun k => call_of (by decide) rfl rfl rfl (G_run n _ _ _ _ k)
theorem eX12_one (n d : Nat) (t : Nat) (x0 : Int) (x1 : Int) (x2 : Int) (h : iH) (Q : Option iV → iH → Prop) : G sp sc [] d mX12_one n 0 [some (.inr (.inr t)), some (.inl x0), some (.inl x1), some (.inl x2)] [] h Q → Call sp sc d mX12_one [.inr (.inr t), .inl x0, .inl x1, .inl x2] h Q := fun k => call_of (by decide) rfl rfl rfl (G_run n _ _ _ _ k)
theorem eX12_grows (n d : Nat) (t : Nat) (x0 : Int) (x1 : Int) (x2 : Int) (h : iH) (Q : Option iV → iH → Prop) : G sp sc [] d mX12_grows n 0 [some (.inr (.inr t)), some (.inl x0), some (.inl x1), some (.inl x2)] [] h Q → Call sp sc d mX12_grows [.inr (.inr t), .inl x0, .inl x1, .inl x2] h Q := fun k => call_of (by decide) rfl rfl rfl (G_run n _ _ _ _ k)
theorem eX12_retells (n d : Nat) (t : Nat) (x0 : Int) (x1 : Int) (x2 : Int) (h : iH) (Q : Option iV → iH → Prop) : G sp sc [] d mX12_retells n 0 [some (.inr (.inr t)), some (.inl x0), some (.inl x1), some (.inl x2)] [] h Q → Call sp sc d mX12_retells [.inr (.inr t), .inl x0, .inl x1, .inl x2] h Q := fun k => call_of (by decide) rfl rfl rfl (G_run n _ _ _ _ k)
theorem eX12_comes (n d : Nat) (t : Nat) (x0 : Int) (x1 : Int) (h : iH) (Q : Option iV → iH → Prop) : G sp sc [] d mX12_comes n 0 [some (.inr (.inr t)), some (.inl x0), some (.inl x1), none] [] h Q → Call sp sc d mX12_comes [.inr (.inr t), .inl x0, .inl x1] h Q := fun k => call_of (by decide) rfl rfl rfl (G_run n _ _ _ _ k)
theorem eX12_likes (n d : Nat) (t : Nat) (x0 : Int) (x1 : Int) (x2 : Int) (h : iH) (Q : Option iV → iH → Prop) : G sp sc [] d mX12_likes n 0 [some (.inr (.inr t)), some (.inl x0), some (.inl x1), some (.inl x2)] [] h Q → Call sp sc d mX12_likes [.inr (.inr t), .inl x0, .inl x1, .inl x2] h Q := fun k => call_of (by decide) rfl rfl rfl (G_run n _ _ _ _ k)
theorem eX12_like (n d : Nat) (t : Nat) (x0 : Int) (x1 : Int) (x2 : Int) (x3 : Int) (h : iH) (Q : Option iV → iH → Prop) : G sp sc [] d mX12_like n 0 [some (.inr (.inr t)), some (.inl x0), some (.inl x1), some (.inl x2), some (.inl x3), none] [] h Q → Call sp sc d mX12_like [.inr (.inr t), .inl x0, .inl x1, .inl x2, .inl x3] h Q := fun k => call_of (by decide) rfl rfl rfl (G_run n _ _ _ _ k)
theorem eX12_sends (n d : Nat) (t : Nat) (x0 : Int) (x1 : Int) (x2 : Int) (h : iH) (Q : Option iV → iH → Prop) : G sp sc [] d mX12_sends n 0 [some (.inr (.inr t)), some (.inl x0), some (.inl x1), some (.inl x2), none] [] h Q → Call sp sc d mX12_sends [.inr (.inr t), .inl x0, .inl x1, .inl x2] h Q := fun k => call_of (by decide) rfl rfl rfl (G_run n _ _ _ _ k)
theorem eX12_couple (n d : Nat) (t : Nat) (x0 : Int) (x1 : Int) (h : iH) (Q : Option iV → iH → Prop) : G sp sc [] d mX12_couple n 0 [some (.inr (.inr t)), some (.inl x0), some (.inl x1)] [] h Q → Call sp sc d mX12_couple [.inr (.inr t), .inl x0, .inl x1] h Q := fun k => call_of (by decide) rfl rfl rfl (G_run n _ _ _ _ k)
theorem eX12_about (n d : Nat) (t : Nat) (x0 : Int) (x1 : Int) (h : iH) (Q : Option iV → iH → Prop) : G sp sc [] d mX12_about n 0 [some (.inr (.inr t)), some (.inl x0), some (.inl x1)] [] h Q → Call sp sc d mX12_about [.inr (.inr t), .inl x0, .inl x1] h Q := fun k => call_of (by decide) rfl rfl rfl (G_run n _ _ _ _ k)
theorem eX12_who (n d : Nat) (t : Nat) (x0 : Int) (x1 : Int) (h : iH) (Q : Option iV → iH → Prop) : G sp sc [] d mX12_who n 0 [some (.inr (.inr t)), some (.inl x0), some (.inl x1), none] [] h Q → Call sp sc d mX12_who [.inr (.inr t), .inl x0, .inl x1] h Q := fun k => call_of (by decide) rfl rfl rfl (G_run n _ _ _ _ k)
theorem eX12_slip (n d : Nat) (t : Nat) (x0 : Int) (h : iH) (Q : Option iV → iH → Prop) : G sp sc [] d mX12_slip n 0 [some (.inr (.inr t)), some (.inl x0), none] [] h Q → Call sp sc d mX12_slip [.inr (.inr t), .inl x0] h Q := fun k => call_of (by decide) rfl rfl rfl (G_run n _ _ _ _ k)
theorem eX12_days (n d : Nat) (t : Nat) (x0 : Int) (h : iH) (Q : Option iV → iH → Prop) : G sp sc [35] d mX12_days n 0 [some (.inr (.inr t)), some (.inl x0), none] [] h Q → Call sp sc d mX12_days [.inr (.inr t), .inl x0] h Q := fun k => call_of (by decide) rfl rfl rfl (G_run n _ _ _ _ k)
theorem eX12_fate (n d : Nat) (t : Nat) (x0 : Int) (x1 : Int) (x2 : Int) (h : iH) (Q : Option iV → iH → Prop) : G sp sc [] d mX12_fate n 0 [some (.inr (.inr t)), some (.inl x0), some (.inl x1), some (.inl x2)] [] h Q → Call sp sc d mX12_fate [.inr (.inr t), .inl x0, .inl x1, .inl x2] h Q := fun k => call_of (by decide) rfl rfl rfl (G_run n _ _ _ _ k)
theorem eX12_then (n d : Nat) (t : Nat) (x0 : Int) (x1 : Int) (x2 : Int) (x3 : Int) (h : iH) (Q : Option iV → iH → Prop) : G sp sc [] d mX12_then n 0 [some (.inr (.inr t)), some (.inl x0), some (.inl x1), some (.inl x2), some (.inl x3)] [] h Q → Call sp sc d mX12_then [.inr (.inr t), .inl x0, .inl x1, .inl x2, .inl x3] h Q := fun k => call_of (by decide) rfl rfl rfl (G_run n _ _ _ _ k)
theorem eX12_bound (n d : Nat) (t : Nat) (x0 : Int) (x1 : Int) (x2 : Int) (h : iH) (Q : Option iV → iH → Prop) : G sp sc [] d mX12_bound n 0 [some (.inr (.inr t)), some (.inl x0), some (.inl x1), some (.inl x2)] [] h Q → Call sp sc d mX12_bound [.inr (.inr t), .inl x0, .inl x1, .inl x2] h Q := fun k => call_of (by decide) rfl rfl rfl (G_run n _ _ _ _ k)
theorem eX12_slips (n d : Nat) (t : Nat) (x0 : Int) (x1 : Int) (h : iH) (Q : Option iV → iH → Prop) : G sp sc [] d mX12_slips n 0 [some (.inr (.inr t)), some (.inl x0), some (.inl x1)] [] h Q → Call sp sc d mX12_slips [.inr (.inr t), .inl x0, .inl x1] h Q := fun k => call_of (by decide) rfl rfl rfl (G_run n _ _ _ _ k)
theorem eX12_soonest (n d : Nat) (t : Nat) (h : iH) (Q : Option iV → iH → Prop) : G sp sc [7] d mX12_soonest n 0 [some (.inr (.inr t)), none] [] h Q → Call sp sc d mX12_soonest [.inr (.inr t)] h Q := fun k => call_of (by decide) rfl rfl rfl (G_run n _ _ _ _ k)
theorem eX12_daysTillWed (n d : Nat) (t : Nat) (x0 : Int) (h : iH) (Q : Option iV → iH → Prop) : G sp sc [] d mX12_daysTillWed n 0 [some (.inr (.inr t)), some (.inl x0)] [] h Q → Call sp sc d mX12_daysTillWed [.inr (.inr t), .inl x0] h Q := fun k => call_of (by decide) rfl rfl rfl (G_run n _ _ _ _ k)
theorem eX12_eachOrder (n d : Nat) (t : Nat) (x0 : Int) (x1 : Int) (x2 : Int) (h : iH) (Q : Option iV → iH → Prop) : G sp sc [32, 65, 92, 145] d mX12_eachOrder n 0 [some (.inr (.inr t)), some (.inl x0), some (.inl x1), some (.inl x2), none, none, none] [] h Q → Call sp sc d mX12_eachOrder [.inr (.inr t), .inl x0, .inl x1, .inl x2] h Q := fun k => call_of (by decide) rfl rfl rfl (G_run n _ _ _ _ k)
theorem eX12_orders (n d : Nat) (t : Nat) (x0 : Int) (h : iH) (Q : Option iV → iH → Prop) : G sp sc [] d mX12_orders n 0 [some (.inr (.inr t)), some (.inl x0)] [] h Q → Call sp sc d mX12_orders [.inr (.inr t), .inl x0] h Q := fun k => call_of (by decide) rfl rfl rfl (G_run n _ _ _ _ k)
theorem eX12_deputies (n d : Nat) (t : Nat) (x0 : Int) (x1 : Int) (h : iH) (Q : Option iV → iH → Prop) : G sp sc [94, 108] d mX12_deputies n 0 [some (.inr (.inr t)), some (.inl x0), some (.inl x1), none, none, none, none, none, none, none, none] [] h Q → Call sp sc d mX12_deputies [.inr (.inr t), .inl x0, .inl x1] h Q := fun k => call_of (by decide) rfl rfl rfl (G_run n _ _ _ _ k)
theorem eX12_bestWho (n d : Nat) (t : Nat) (x0 : Int) (h : iH) (Q : Option iV → iH → Prop) : G sp sc [28] d mX12_bestWho n 0 [some (.inr (.inr t)), some (.inl x0), none, none, none, none] [] h Q → Call sp sc d mX12_bestWho [.inr (.inr t), .inl x0] h Q := fun k => call_of (by decide) rfl rfl rfl (G_run n _ _ _ _ k)
theorem eX12_manOf (n d : Nat) (t : Nat) (x0 : Int) (h : iH) (Q : Option iV → iH → Prop) : G sp sc [2] d mX12_manOf n 0 [some (.inr (.inr t)), some (.inl x0), none] [] h Q → Call sp sc d mX12_manOf [.inr (.inr t), .inl x0] h Q := fun k => call_of (by decide) rfl rfl rfl (G_run n _ _ _ _ k)
theorem eX12_leaving (n d : Nat) (t : Nat) (h : iH) (Q : Option iV → iH → Prop) : G sp sc [2, 14] d mX12_leaving n 0 [some (.inr (.inr t)), none, none, none, none, none] [] h Q → Call sp sc d mX12_leaving [.inr (.inr t)] h Q := fun k => call_of (by decide) rfl rfl rfl (G_run n _ _ _ _ k)
theorem eX12_leave (n d : Nat) (t : Nat) (x0 : Int) (h : iH) (Q : Option iV → iH → Prop) : G sp sc [36] d mX12_leave n 0 [some (.inr (.inr t)), some (.inl x0), none, none, none, none] [] h Q → Call sp sc d mX12_leave [.inr (.inr t), .inl x0] h Q := fun k => call_of (by decide) rfl rfl rfl (G_run n _ _ _ _ k)
theorem eX12_nextOf (n d : Nat) (t : Nat) (x0 : Int) (x1 : Int) (h : iH) (Q : Option iV → iH → Prop) : G sp sc [6] d mX12_nextOf n 0 [some (.inr (.inr t)), some (.inl x0), some (.inl x1), none, none] [] h Q → Call sp sc d mX12_nextOf [.inr (.inr t), .inl x0, .inl x1] h Q := fun k => call_of (by decide) rfl rfl rfl (G_run n _ _ _ _ k)
theorem eX12_keepsMore (n d : Nat) (t : Nat) (x0 : Int) (x1 : Int) (x2 : Int) (h : iH) (Q : Option iV → iH → Prop) : G sp sc [] d mX12_keepsMore n 0 [some (.inr (.inr t)), some (.inl x0), some (.inl x1), some (.inl x2), none, none] [] h Q → Call sp sc d mX12_keepsMore [.inr (.inr t), .inl x0, .inl x1, .inl x2] h Q := fun k => call_of (by decide) rfl rfl rfl (G_run n _ _ _ _ k)
theorem eX12_asksOnce (n d : Nat) (t : Nat) (h : iH) (Q : Option iV → iH → Prop) : G sp sc [2] d mX12_asksOnce n 0 [some (.inr (.inr t)), none, none, none] [] h Q → Call sp sc d mX12_asksOnce [.inr (.inr t)] h Q := fun k => call_of (by decide) rfl rfl rfl (G_run n _ _ _ _ k)
theorem eX12_stable (n d : Nat) (t : Nat) (x0 : Int) (h : iH) (Q : Option iV → iH → Prop) : G sp sc [13, 41] d mX12_stable n 0 [some (.inr (.inr t)), some (.inl x0), none] [] h Q → Call sp sc d mX12_stable [.inr (.inr t), .inl x0] h Q := fun k => call_of (by decide) rfl rfl rfl (G_run n _ _ _ _ k)
theorem eX12_looksAtMatching (n d : Nat) (t : Nat) (h : iH) (Q : Option iV → iH → Prop) : G sp sc [25, 106] d mX12_looksAtMatching n 0 [some (.inr (.inr t)), none, none] [] h Q → Call sp sc d mX12_looksAtMatching [.inr (.inr t)] h Q := fun k => call_of (by decide) rfl rfl rfl (G_run n _ _ _ _ k)
theorem eX12_eachMatching (n d : Nat) (t : Nat) (x0 : Int) (x1 : Int) (x2 : Int) (h : iH) (Q : Option iV → iH → Prop) : G sp sc [22] d mX12_eachMatching n 0 [some (.inr (.inr t)), some (.inl x0), some (.inl x1), some (.inl x2), none] [] h Q → Call sp sc d mX12_eachMatching [.inr (.inr t), .inl x0, .inl x1, .inl x2] h Q := fun k => call_of (by decide) rfl rfl rfl (G_run n _ _ _ _ k)
theorem eX12_allMatchings (n d : Nat) (t : Nat) (h : iH) (Q : Option iV → iH → Prop) : G sp sc [2] d mX12_allMatchings n 0 [some (.inr (.inr t)), none] [] h Q → Call sp sc d mX12_allMatchings [.inr (.inr t)] h Q := fun k => call_of (by decide) rfl rfl rfl (G_run n _ _ _ _ k)
theorem eX12_allStable (n d : Nat) (t : Nat) (h : iH) (Q : Option iV → iH → Prop) : G sp sc [] d mX12_allStable n 0 [some (.inr (.inr t))] [] h Q → Call sp sc d mX12_allStable [.inr (.inr t)] h Q := fun k => call_of (by decide) rfl rfl rfl (G_run n _ _ _ _ k)
theorem eX12_most (n d : Nat) (t : Nat) (h : iH) (Q : Option iV → iH → Prop) : G sp sc [] d mX12_most n 0 [some (.inr (.inr t))] [] h Q → Call sp sc d mX12_most [.inr (.inr t)] h Q := fun k => call_of (by decide) rfl rfl rfl (G_run n _ _ _ _ k)
theorem eX12_mostOf (n d : Nat) (t : Nat) (x0 : Int) (h : iH) (Q : Option iV → iH → Prop) : G sp sc [] d mX12_mostOf n 0 [some (.inr (.inr t)), some (.inl x0)] [] h Q → Call sp sc d mX12_mostOf [.inr (.inr t), .inl x0] h Q := fun k => call_of (by decide) rfl rfl rfl (G_run n _ _ _ _ k)
theorem eX12_told (n d : Nat) (t : Nat) (x0 : Int) (x1 : Int) (x2 : Int) (h : iH) (Q : Option iV → iH → Prop) : G sp sc [19] d mX12_told n 0 [some (.inr (.inr t)), some (.inl x0), some (.inl x1), some (.inl x2), none, none, none] [] h Q → Call sp sc d mX12_told [.inr (.inr t), .inl x0, .inl x1, .inl x2] h Q := fun k => call_of (by decide) rfl rfl rfl (G_run n _ _ _ _ k)
theorem eX12_report (n d : Nat) (t : Nat) (x0 : Int) (x1 : Int) (x2 : Int) (h : iH) (Q : Option iV → iH → Prop) : G sp sc [] d mX12_report n 0 [some (.inr (.inr t)), some (.inl x0), some (.inl x1), some (.inl x2)] [] h Q → Call sp sc d mX12_report [.inr (.inr t), .inl x0, .inl x1, .inl x2] h Q := fun k => call_of (by decide) rfl rfl rfl (G_run n _ _ _ _ k)
theorem eX12_said (n d : Nat) (t : Nat) (x0 : Int) (x1 : Int) (x2 : Int) (x3 : Int) (h : iH) (Q : Option iV → iH → Prop) : G sp sc [43] d mX12_said n 0 [some (.inr (.inr t)), some (.inl x0), some (.inl x1), some (.inl x2), some (.inl x3), none, none, none] [] h Q → Call sp sc d mX12_said [.inr (.inr t), .inl x0, .inl x1, .inl x2, .inl x3] h Q := fun k => call_of (by decide) rfl rfl rfl (G_run n _ _ _ _ k)
theorem eX12_isLearnt (n d : Nat) (t : Nat) (x0 : Int) (x1 : Int) (x2 : Int) (h : iH) (Q : Option iV → iH → Prop) : G sp sc [3] d mX12_isLearnt n 0 [some (.inr (.inr t)), some (.inl x0), some (.inl x1), some (.inl x2), none] [] h Q → Call sp sc d mX12_isLearnt [.inr (.inr t), .inl x0, .inl x1, .inl x2] h Q := fun k => call_of (by decide) rfl rfl rfl (G_run n _ _ _ _ k)
theorem eX12_learnt (n d : Nat) (t : Nat) (x0 : Int) (x1 : Int) (h : iH) (Q : Option iV → iH → Prop) : G sp sc [33] d mX12_learnt n 0 [some (.inr (.inr t)), some (.inl x0), some (.inl x1), none, none, none, none] [] h Q → Call sp sc d mX12_learnt [.inr (.inr t), .inl x0, .inl x1] h Q := fun k => call_of (by decide) rfl rfl rfl (G_run n _ _ _ _ k)
theorem eX12_chain (n d : Nat) (t : Nat) (x0 : Int) (x1 : Int) (x2 : Int) (h : iH) (Q : Option iV → iH → Prop) : G sp sc [41] d mX12_chain n 0 [some (.inr (.inr t)), some (.inl x0), some (.inl x1), some (.inl x2), none, none, none] [] h Q → Call sp sc d mX12_chain [.inr (.inr t), .inl x0, .inl x1, .inl x2] h Q := fun k => call_of (by decide) rfl rfl rfl (G_run n _ _ _ _ k)
theorem eX12_digitOf (n d : Nat) (t : Nat) (x0 : Int) (x1 : Int) (h : iH) (Q : Option iV → iH → Prop) : G sp sc [6] d mX12_digitOf n 0 [some (.inr (.inr t)), some (.inr (.inl x0)), none, some (.inl x1), none, none, none] [] h Q → Call sp sc d mX12_digitOf [.inr (.inr t), .inr (.inl x0), .inl x1] h Q := fun k => call_of (by decide) rfl rfl rfl (G_run n _ _ _ _ k)
theorem eX12_ways (n d : Nat) (t : Nat) (x0 : Int) (h : iH) (Q : Option iV → iH → Prop) : G sp sc [15, 44] d mX12_ways n 0 [some (.inr (.inr t)), some (.inl x0), none, none, none, none, none] [] h Q → Call sp sc d mX12_ways [.inr (.inr t), .inl x0] h Q := fun k => call_of (by decide) rfl rfl rfl (G_run n _ _ _ _ k)
theorem eX12_thaws (n d : Nat) (t : Nat) (x0 : Int) (x1 : Int) (x2 : Int) (h : iH) (Q : Option iV → iH → Prop) : G sp sc [6] d mX12_thaws n 0 [some (.inr (.inr t)), some (.inl x0), some (.inl x1), some (.inl x2), none, none, none] [] h Q → Call sp sc d mX12_thaws [.inr (.inr t), .inl x0, .inl x1, .inl x2] h Q := fun k => call_of (by decide) rfl rfl rfl (G_run n _ _ _ _ k)
theorem eX12_thaw (n d : Nat) (t : Nat) (x0 : Int) (x1 : Int) (x2 : Int) (x3 : Int) (h : iH) (Q : Option iV → iH → Prop) : G sp sc [68, 100, 109, 148, 220] d mX12_thaw n 0 [some (.inr (.inr t)), some (.inl x0), some (.inl x1), some (.inl x2), some (.inl x3), none, none, none] [] h Q → Call sp sc d mX12_thaw [.inr (.inr t), .inl x0, .inl x1, .inl x2, .inl x3] h Q := fun k => call_of (by decide) rfl rfl rfl (G_run n _ _ _ _ k)
theorem eX12_judge (n d : Nat) (t : Nat) (x0 : Int) (x1 : Int) (x2 : Int) (x3 : Int) (h : iH) (Q : Option iV → iH → Prop) : G sp sc [47] d mX12_judge n 0 [some (.inr (.inr t)), some (.inl x0), some (.inl x1), some (.inl x2), some (.inl x3), none, none, none, none] [] h Q → Call sp sc d mX12_judge [.inr (.inr t), .inl x0, .inl x1, .inl x2, .inl x3] h Q := fun k => call_of (by decide) rfl rfl rfl (G_run n _ _ _ _ k)
theorem eX12_drawn (n d : Nat) (t : Nat) (x0 : Int) (h : iH) (Q : Option iV → iH → Prop) : G sp sc [] d mX12_drawn n 0 [some (.inr (.inr t)), some (.inl x0)] [] h Q → Call sp sc d mX12_drawn [.inr (.inr t), .inl x0] h Q := fun k => call_of (by decide) rfl rfl rfl (G_run n _ _ _ _ k)
theorem eX12_seeds (n d : Nat) (t : Nat) (x0 : Int) (x1 : Int) (x2 : Int) (h : iH) (Q : Option iV → iH → Prop) : G sp sc [35, 49, 58, 75, 130] d mX12_seeds n 0 [some (.inr (.inr t)), some (.inl x0), some (.inl x1), some (.inl x2), none, none, none, none, none, none] [] h Q → Call sp sc d mX12_seeds [.inr (.inr t), .inl x0, .inl x1, .inl x2] h Q := fun k => call_of (by decide) rfl rfl rfl (G_run n _ _ _ _ k)
theorem eX12_image (n d : Nat) (t : Nat) (h : iH) (Q : Option iV → iH → Prop) : G sp sc [] d mX12_image n 0 [some (.inr (.inr t))] [] h Q → Call sp sc d mX12_image [.inr (.inr t)] h Q := fun k => call_of (by decide) rfl rfl rfl (G_run n _ _ _ _ k)
theorem eX12_restore (n d : Nat) (t : Nat) (h : iH) (Q : Option iV → iH → Prop) : G sp sc [] d mX12_restore n 0 [some (.inr (.inr t))] [] h Q → Call sp sc d mX12_restore [.inr (.inr t)] h Q := fun k => call_of (by decide) rfl rfl rfl (G_run n _ _ _ _ k)
theorem eX12_count (n d : Nat) (t : Nat) (x0 : Int) (h : iH) (Q : Option iV → iH → Prop) : G sp sc [] d mX12_count n 0 [some (.inr (.inr t)), some (.inl x0)] [] h Q → Call sp sc d mX12_count [.inr (.inr t), .inl x0] h Q := fun k => call_of (by decide) rfl rfl rfl (G_run n _ _ _ _ k)
theorem eX12_thrown (n d : Nat) (t : Nat) (h : iH) (Q : Option iV → iH → Prop) : G sp sc [] d mX12_thrown n 0 [some (.inr (.inr t))] [] h Q → Call sp sc d mX12_thrown [.inr (.inr t)] h Q := fun k => call_of (by decide) rfl rfl rfl (G_run n _ _ _ _ k)
theorem eX12_isShelf (n d : Nat) (x0 : Int) (h : iH) (Q : Option iV → iH → Prop) : G sp sc [] d mX12_isShelf n 0 [some (.inl x0)] [] h Q → Call sp sc d mX12_isShelf [.inl x0] h Q := fun k => call_of (by decide) rfl rfl rfl (G_run n _ _ _ _ k)
theorem eX12_wrongRow (n d : Nat) (t : Nat) (x0 : Int) (x1 : Int) (h : iH) (Q : Option iV → iH → Prop) : G sp sc [] d mX12_wrongRow n 0 [some (.inr (.inr t)), some (.inl x0), some (.inl x1)] [] h Q → Call sp sc d mX12_wrongRow [.inr (.inr t), .inl x0, .inl x1] h Q := fun k => call_of (by decide) rfl rfl rfl (G_run n _ _ _ _ k)
theorem eX12_wrongKept (n d : Nat) (t : Nat) (x0 : Int) (h : iH) (Q : Option iV → iH → Prop) : G sp sc [] d mX12_wrongKept n 0 [some (.inr (.inr t)), some (.inl x0)] [] h Q → Call sp sc d mX12_wrongKept [.inr (.inr t), .inl x0] h Q := fun k => call_of (by decide) rfl rfl rfl (G_run n _ _ _ _ k)
theorem eX12_keep (n d : Nat) (t : Nat) (x0 : Int) (x1 : Int) (x2 : Int) (x3 : Int) (h : iH) (Q : Option iV → iH → Prop) : G sp sc [] d mX12_keep n 0 [some (.inr (.inr t)), some (.inl x0), some (.inl x1), some (.inl x2), some (.inl x3)] [] h Q → Call sp sc d mX12_keep [.inr (.inr t), .inl x0, .inl x1, .inl x2, .inl x3] h Q := fun k => call_of (by decide) rfl rfl rfl (G_run n _ _ _ _ k)
theorem eX12_row (n d : Nat) (t : Nat) (x0 : Int) (x1 : Int) (x2 : Int) (h : iH) (Q : Option iV → iH → Prop) : G sp sc [55] d mX12_row n 0 [some (.inr (.inr t)), some (.inl x0), some (.inl x1), some (.inl x2), none] [] h Q → Call sp sc d mX12_row [.inr (.inr t), .inl x0, .inl x1, .inl x2] h Q := fun k => call_of (by decide) rfl rfl rfl (G_run n _ _ _ _ k)
theorem eX12_put (n d : Nat) (t : Nat) (x0 : Int) (x1 : Int) (x2 : Int) (h : iH) (Q : Option iV → iH → Prop) : G sp sc [] d mX12_put n 0 [some (.inr (.inr t)), some (.inl x0), some (.inl x1), some (.inl x2), none] [] h Q → Call sp sc d mX12_put [.inr (.inr t), .inl x0, .inl x1, .inl x2] h Q := fun k => call_of (by decide) rfl rfl rfl (G_run n _ _ _ _ k)
theorem eX12_element (n d : Nat) (t : Nat) (x0 : Int) (x1 : Int) (h : iH) (Q : Option iV → iH → Prop) : G sp sc [] d mX12_element n 0 [some (.inr (.inr t)), some (.inl x0), some (.inl x1)] [] h Q → Call sp sc d mX12_element [.inr (.inr t), .inl x0, .inl x1] h Q := fun k => call_of (by decide) rfl rfl rfl (G_run n _ _ _ _ k)
theorem eX12_copy (n d : Nat) (t : Nat) (x0 : Int) (x1 : Int) (x2 : Int) (x3 : Int) (x4 : Int) (h : iH) (Q : Option iV → iH → Prop) : G sp sc [122] d mX12_copy n 0 [some (.inr (.inr t)), some (.inl x0), some (.inl x1), some (.inl x2), some (.inl x3), some (.inl x4), none, none] [] h Q → Call sp sc d mX12_copy [.inr (.inr t), .inl x0, .inl x1, .inl x2, .inl x3, .inl x4] h Q := fun k => call_of (by decide) rfl rfl rfl (G_run n _ _ _ _ k)
theorem eX12_costBy (n d : Nat) (x0 : Int) (x1 : Int) (h : iH) (Q : Option iV → iH → Prop) : G sp sc [] d mX12_costBy n 0 [some (.inl x0), some (.inl x1)] [] h Q → Call sp sc d mX12_costBy [.inl x0, .inl x1] h Q := fun k => call_of (by decide) rfl rfl rfl (G_run n _ _ _ _ k)
theorem eX12_cost (n d : Nat) (t : Nat) (x0 : Int) (h : iH) (Q : Option iV → iH → Prop) : G sp sc [] d mX12_cost n 0 [some (.inr (.inr t)), some (.inl x0), none] [] h Q → Call sp sc d mX12_cost [.inr (.inr t), .inl x0] h Q := fun k => call_of (by decide) rfl rfl rfl (G_run n _ _ _ _ k)
theorem eX12_toss (n d : Nat) (t : Nat) (x0 : Int) (h : iH) (Q : Option iV → iH → Prop) : G sp sc [] d mX12_toss n 0 [some (.inr (.inr t)), some (.inl x0), none, none, none] [] h Q → Call sp sc d mX12_toss [.inr (.inr t), .inl x0] h Q := fun k => call_of (by decide) rfl rfl rfl (G_run n _ _ _ _ k)
end GG
