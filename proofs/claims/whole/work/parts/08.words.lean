set_option maxRecDepth 20000 in
theorem tX3_init : z_Mt mX3_init := ⟨z_mem 49 rfl rfl, z_mem 36 rfl rfl, by decide +kernel, by decide +kernel, by decide +kernel, by decide⟩
set_option maxRecDepth 20000 in
theorem pnX3_init : z_Pn mX3_init 0 := by unfold z_Pn; decide +kernel
set_option maxRecDepth 20000 in
theorem tX0_init : z_Mt mX0_init := ⟨z_mem 57 rfl rfl, z_mem 37 rfl rfl, by decide +kernel, by decide +kernel, by decide +kernel, by decide⟩
set_option maxRecDepth 20000 in
theorem pnX0_init : z_Pn mX0_init 0 := by unfold z_Pn; decide +kernel
set_option maxRecDepth 20000 in
theorem tX2_init : z_Mt mX2_init := ⟨z_mem 103 rfl rfl, z_mem 38 rfl rfl, by decide +kernel, by decide +kernel, by decide +kernel, by decide⟩
set_option maxRecDepth 20000 in
theorem pnX2_init : z_Pn mX2_init 0 := by unfold z_Pn; decide +kernel
set_option maxRecDepth 20000 in
theorem tX1_init : z_Mt mX1_init := ⟨z_mem 123 rfl rfl, z_mem 39 rfl rfl, by decide +kernel, by decide +kernel, by decide +kernel, by decide⟩
set_option maxRecDepth 20000 in
theorem pnX1_init : z_Pn mX1_init 0 := by unfold z_Pn; decide +kernel
set_option maxRecDepth 20000 in
theorem tJ7_fill_53178 : z_Mt mJ7_fill_53178 := ⟨z_mem 147 rfl rfl, z_mem 40 rfl rfl, by decide +kernel, by decide +kernel, by decide +kernel, by decide⟩
set_option maxRecDepth 20000 in
theorem pnJ7_fill_53178 : z_Pn mJ7_fill_53178 2 := by unfold z_Pn; decide +kernel
set_option maxRecDepth 20000 in
theorem tX3_walk : z_Mt mX3_walk := ⟨z_mem 191 rfl rfl, z_mem 36 rfl rfl, by decide +kernel, by decide +kernel, by decide +kernel, by decide⟩
set_option maxRecDepth 20000 in
theorem pnX3_walk : z_Pn mX3_walk 3 := by unfold z_Pn; decide +kernel
set_option maxRecDepth 20000 in
theorem tX3_isPlace : z_Mt mX3_isPlace := ⟨z_mem 194 rfl rfl, z_mem 36 rfl rfl, by decide +kernel, by decide +kernel, by decide +kernel, by decide⟩
set_option maxRecDepth 20000 in
theorem pnX3_isPlace : z_Pn mX3_isPlace 1 := by unfold z_Pn; decide +kernel
set_option maxRecDepth 20000 in
theorem tX0_joins : z_Mt mX0_joins := ⟨z_mem 198 rfl rfl, z_mem 37 rfl rfl, by decide +kernel, by decide +kernel, by decide +kernel, by decide⟩
set_option maxRecDepth 20000 in
theorem pnX0_joins : z_Pn mX0_joins 2 := by unfold z_Pn; decide +kernel
set_option maxRecDepth 20000 in
theorem tX0_add : z_Mt mX0_add := ⟨z_mem 208 rfl rfl, z_mem 37 rfl rfl, by decide +kernel, by decide +kernel, by decide +kernel, by decide⟩
set_option maxRecDepth 20000 in
theorem pnX0_add : z_Pn mX0_add 3 := by unfold z_Pn; decide +kernel
set_option maxRecDepth 20000 in
theorem tX0_turn : z_Mt mX0_turn := ⟨z_mem 212 rfl rfl, z_mem 37 rfl rfl, by decide +kernel, by decide +kernel, by decide +kernel, by decide⟩
set_option maxRecDepth 20000 in
theorem pnX0_turn : z_Pn mX0_turn 2 := by unfold z_Pn; decide +kernel
set_option maxRecDepth 20000 in
theorem tX3_unwalk : z_Mt mX3_unwalk := ⟨z_mem 216 rfl rfl, z_mem 36 rfl rfl, by decide +kernel, by decide +kernel, by decide +kernel, by decide⟩
set_option maxRecDepth 20000 in
theorem pnX3_unwalk : z_Pn mX3_unwalk 0 := by unfold z_Pn; decide +kernel
set_option maxRecDepth 20000 in
theorem tX0_removeLast : z_Mt mX0_removeLast := ⟨z_mem 220 rfl rfl, z_mem 37 rfl rfl, by decide +kernel, by decide +kernel, by decide +kernel, by decide⟩
set_option maxRecDepth 20000 in
theorem pnX0_removeLast : z_Pn mX0_removeLast 0 := by unfold z_Pn; decide +kernel
set_option maxRecDepth 20000 in
theorem tX3_open : z_Mt mX3_open := ⟨z_mem 224 rfl rfl, z_mem 36 rfl rfl, by decide +kernel, by decide +kernel, by decide +kernel, by decide⟩
set_option maxRecDepth 20000 in
theorem pnX3_open : z_Pn mX3_open 2 := by unfold z_Pn; decide +kernel
set_option maxRecDepth 20000 in
theorem tX0_has : z_Mt mX0_has := ⟨z_mem 228 rfl rfl, z_mem 37 rfl rfl, by decide +kernel, by decide +kernel, by decide +kernel, by decide⟩
set_option maxRecDepth 20000 in
theorem pnX0_has : z_Pn mX0_has 1 := by unfold z_Pn; decide +kernel
set_option maxRecDepth 20000 in
theorem tX3_ofWalk : z_Mt mX3_ofWalk := ⟨z_mem 233 rfl rfl, z_mem 36 rfl rfl, by decide +kernel, by decide +kernel, by decide +kernel, by decide⟩
set_option maxRecDepth 20000 in
theorem pnX3_ofWalk : z_Pn mX3_ofWalk 2 := by unfold z_Pn; decide +kernel
set_option maxRecDepth 20000 in
theorem tX3_name : z_Mt mX3_name := ⟨z_mem 237 rfl rfl, z_mem 36 rfl rfl, by decide +kernel, by decide +kernel, by decide +kernel, by decide⟩
set_option maxRecDepth 20000 in
theorem pnX3_name : z_Pn mX3_name 1 := by unfold z_Pn; decide +kernel
set_option maxRecDepth 20000 in
theorem tX3_moves : z_Mt mX3_moves := ⟨z_mem 241 rfl rfl, z_mem 36 rfl rfl, by decide +kernel, by decide +kernel, by decide +kernel, by decide⟩
set_option maxRecDepth 20000 in
theorem pnX3_moves : z_Pn mX3_moves 2 := by unfold z_Pn; decide +kernel
set_option maxRecDepth 20000 in
theorem tX3_isName : z_Mt mX3_isName := ⟨z_mem 245 rfl rfl, z_mem 36 rfl rfl, by decide +kernel, by decide +kernel, by decide +kernel, by decide⟩
set_option maxRecDepth 20000 in
theorem pnX3_isName : z_Pn mX3_isName 1 := by unfold z_Pn; decide +kernel
set_option maxRecDepth 20000 in
theorem tX3_entrance : z_Mt mX3_entrance := ⟨z_mem 249 rfl rfl, z_mem 36 rfl rfl, by decide +kernel, by decide +kernel, by decide +kernel, by decide⟩
set_option maxRecDepth 20000 in
theorem pnX3_entrance : z_Pn mX3_entrance 2 := by unfold z_Pn; decide +kernel
set_option maxRecDepth 20000 in
theorem tX3_holds : z_Mt mX3_holds := ⟨z_mem 252 rfl rfl, z_mem 36 rfl rfl, by decide +kernel, by decide +kernel, by decide +kernel, by decide⟩
set_option maxRecDepth 20000 in
theorem pnX3_holds : z_Pn mX3_holds 2 := by unfold z_Pn; decide +kernel
set_option maxRecDepth 20000 in
theorem tX3_detour : z_Mt mX3_detour := ⟨z_mem 256 rfl rfl, z_mem 36 rfl rfl, by decide +kernel, by decide +kernel, by decide +kernel, by decide⟩
set_option maxRecDepth 20000 in
theorem pnX3_detour : z_Pn mX3_detour 1 := by unfold z_Pn; decide +kernel
set_option maxRecDepth 20000 in
theorem tX3_board : z_Mt mX3_board := ⟨z_mem 260 rfl rfl, z_mem 36 rfl rfl, by decide +kernel, by decide +kernel, by decide +kernel, by decide⟩
set_option maxRecDepth 20000 in
theorem pnX3_board : z_Pn mX3_board 3 := by unfold z_Pn; decide +kernel
set_option maxRecDepth 20000 in
theorem tX3_unboard : z_Mt mX3_unboard := ⟨z_mem 264 rfl rfl, z_mem 36 rfl rfl, by decide +kernel, by decide +kernel, by decide +kernel, by decide⟩
set_option maxRecDepth 20000 in
theorem pnX3_unboard : z_Pn mX3_unboard 2 := by unfold z_Pn; decide +kernel
set_option maxRecDepth 20000 in
theorem tX3_arrow : z_Mt mX3_arrow := ⟨z_mem 268 rfl rfl, z_mem 36 rfl rfl, by decide +kernel, by decide +kernel, by decide +kernel, by decide⟩
set_option maxRecDepth 20000 in
theorem pnX3_arrow : z_Pn mX3_arrow 2 := by unfold z_Pn; decide +kernel
set_option maxRecDepth 20000 in
theorem tX3_far : z_Mt mX3_far := ⟨z_mem 272 rfl rfl, z_mem 36 rfl rfl, by decide +kernel, by decide +kernel, by decide +kernel, by decide⟩
set_option maxRecDepth 20000 in
theorem pnX3_far : z_Pn mX3_far 3 := by unfold z_Pn; decide +kernel
set_option maxRecDepth 20000 in
theorem tX2_draw : z_Mt mX2_draw := ⟨z_mem 276 rfl rfl, z_mem 38 rfl rfl, by decide +kernel, by decide +kernel, by decide +kernel, by decide⟩
set_option maxRecDepth 20000 in
theorem pnX2_draw : z_Pn mX2_draw 3 := by unfold z_Pn; decide +kernel
set_option maxRecDepth 20000 in
theorem tX2_measure : z_Mt mX2_measure := ⟨z_mem 279 rfl rfl, z_mem 38 rfl rfl, by decide +kernel, by decide +kernel, by decide +kernel, by decide⟩
set_option maxRecDepth 20000 in
theorem pnX2_measure : z_Pn mX2_measure 3 := by unfold z_Pn; decide +kernel
set_option maxRecDepth 20000 in
theorem tX2_shorten : z_Mt mX2_shorten := ⟨z_mem 283 rfl rfl, z_mem 38 rfl rfl, by decide +kernel, by decide +kernel, by decide +kernel, by decide⟩
set_option maxRecDepth 20000 in
theorem pnX2_shorten : z_Pn mX2_shorten 4 := by unfold z_Pn; decide +kernel
set_option maxRecDepth 20000 in
theorem tX2_bestAt : z_Mt mX2_bestAt := ⟨z_mem 286 rfl rfl, z_mem 38 rfl rfl, by decide +kernel, by decide +kernel, by decide +kernel, by decide⟩
set_option maxRecDepth 20000 in
theorem pnX2_bestAt : z_Pn mX2_bestAt 3 := by unfold z_Pn; decide +kernel
set_option maxRecDepth 20000 in
theorem tX3_from : z_Mt mX3_from := ⟨z_mem 290 rfl rfl, z_mem 36 rfl rfl, by decide +kernel, by decide +kernel, by decide +kernel, by decide⟩
set_option maxRecDepth 20000 in
theorem pnX3_from : z_Pn mX3_from 1 := by unfold z_Pn; decide +kernel
set_option maxRecDepth 20000 in
theorem tX3_follow : z_Mt mX3_follow := ⟨z_mem 294 rfl rfl, z_mem 36 rfl rfl, by decide +kernel, by decide +kernel, by decide +kernel, by decide⟩
set_option maxRecDepth 20000 in
theorem pnX3_follow : z_Pn mX3_follow 3 := by unfold z_Pn; decide +kernel
set_option maxRecDepth 20000 in
theorem tX1_go : z_Mt mX1_go := ⟨z_mem 298 rfl rfl, z_mem 39 rfl rfl, by decide +kernel, by decide +kernel, by decide +kernel, by decide⟩
set_option maxRecDepth 20000 in
theorem pnX1_go : z_Pn mX1_go 4 := by unfold z_Pn; decide +kernel
set_option maxRecDepth 20000 in
theorem tX1_nextFrom : z_Mt mX1_nextFrom := ⟨z_mem 302 rfl rfl, z_mem 39 rfl rfl, by decide +kernel, by decide +kernel, by decide +kernel, by decide⟩
set_option maxRecDepth 20000 in
theorem pnX1_nextFrom : z_Pn mX1_nextFrom 4 := by unfold z_Pn; decide +kernel
set_option maxRecDepth 20000 in
theorem tJ6_bitCount_0f7a4 : z_Mt mJ6_bitCount_0f7a4 := ⟨z_mem 306 rfl rfl, z_mem 43 rfl rfl, by decide +kernel, by decide +kernel, by decide +kernel, by decide⟩
set_option maxRecDepth 20000 in
theorem pnJ6_bitCount_0f7a4 : z_Pn mJ6_bitCount_0f7a4 1 := by unfold z_Pn; decide +kernel
set_option maxRecDepth 20000 in
theorem tX1_placeAt : z_Mt mX1_placeAt := ⟨z_mem 313 rfl rfl, z_mem 39 rfl rfl, by decide +kernel, by decide +kernel, by decide +kernel, by decide⟩
set_option maxRecDepth 20000 in
theorem pnX1_placeAt : z_Pn mX1_placeAt 1 := by unfold z_Pn; decide +kernel
set_option maxRecDepth 20000 in
theorem tX3_ends : z_Mt mX3_ends := ⟨z_mem 317 rfl rfl, z_mem 36 rfl rfl, by decide +kernel, by decide +kernel, by decide +kernel, by decide⟩
set_option maxRecDepth 20000 in
theorem pnX3_ends : z_Pn mX3_ends 1 := by unfold z_Pn; decide +kernel
set_option maxRecDepth 20000 in
theorem tX3_isEnding : z_Mt mX3_isEnding := ⟨z_mem 320 rfl rfl, z_mem 36 rfl rfl, by decide +kernel, by decide +kernel, by decide +kernel, by decide⟩
set_option maxRecDepth 20000 in
theorem pnX3_isEnding : z_Pn mX3_isEnding 1 := by unfold z_Pn; decide +kernel
set_option maxRecDepth 20000 in
theorem tX3_countEndings : z_Mt mX3_countEndings := ⟨z_mem 324 rfl rfl, z_mem 36 rfl rfl, by decide +kernel, by decide +kernel, by decide +kernel, by decide⟩
set_option maxRecDepth 20000 in
theorem pnX3_countEndings : z_Pn mX3_countEndings 3 := by unfold z_Pn; decide +kernel
set_option maxRecDepth 20000 in
theorem tX3_those : z_Mt mX3_those := ⟨z_mem 328 rfl rfl, z_mem 36 rfl rfl, by decide +kernel, by decide +kernel, by decide +kernel, by decide⟩
set_option maxRecDepth 20000 in
theorem pnX3_those : z_Pn mX3_those 2 := by unfold z_Pn; decide +kernel
set_option maxRecDepth 20000 in
theorem tX3_idle : z_Mt mX3_idle := ⟨z_mem 332 rfl rfl, z_mem 36 rfl rfl, by decide +kernel, by decide +kernel, by decide +kernel, by decide⟩
set_option maxRecDepth 20000 in
theorem pnX3_idle : z_Pn mX3_idle 1 := by unfold z_Pn; decide +kernel
set_option maxRecDepth 20000 in
theorem tX3_isIdle : z_Mt mX3_isIdle := ⟨z_mem 336 rfl rfl, z_mem 36 rfl rfl, by decide +kernel, by decide +kernel, by decide +kernel, by decide⟩
set_option maxRecDepth 20000 in
theorem pnX3_isIdle : z_Pn mX3_isIdle 2 := by unfold z_Pn; decide +kernel
set_option maxRecDepth 20000 in
theorem tX1_wentLike : z_Mt mX1_wentLike := ⟨z_mem 343 rfl rfl, z_mem 39 rfl rfl, by decide +kernel, by decide +kernel, by decide +kernel, by decide⟩
set_option maxRecDepth 20000 in
theorem pnX1_wentLike : z_Pn mX1_wentLike 1 := by unfold z_Pn; decide +kernel
set_option maxRecDepth 20000 in
theorem tX3_mend : z_Mt mX3_mend := ⟨z_mem 347 rfl rfl, z_mem 36 rfl rfl, by decide +kernel, by decide +kernel, by decide +kernel, by decide⟩
set_option maxRecDepth 20000 in
theorem pnX3_mend : z_Pn mX3_mend 1 := by unfold z_Pn; decide +kernel
set_option maxRecDepth 20000 in
theorem tX3_findMend : z_Mt mX3_findMend := ⟨z_mem 351 rfl rfl, z_mem 36 rfl rfl, by decide +kernel, by decide +kernel, by decide +kernel, by decide⟩
set_option maxRecDepth 20000 in
theorem pnX3_findMend : z_Pn mX3_findMend 0 := by unfold z_Pn; decide +kernel
set_option maxRecDepth 20000 in
theorem tX3_offerMend : z_Mt mX3_offerMend := ⟨z_mem 356 rfl rfl, z_mem 36 rfl rfl, by decide +kernel, by decide +kernel, by decide +kernel, by decide⟩
set_option maxRecDepth 20000 in
theorem pnX3_offerMend : z_Pn mX3_offerMend 3 := by unfold z_Pn; decide +kernel
set_option maxRecDepth 20000 in
theorem tX3_leads : z_Mt mX3_leads := ⟨z_mem 360 rfl rfl, z_mem 36 rfl rfl, by decide +kernel, by decide +kernel, by decide +kernel, by decide⟩
set_option maxRecDepth 20000 in
theorem pnX3_leads : z_Pn mX3_leads 2 := by unfold z_Pn; decide +kernel
set_option maxRecDepth 20000 in
theorem tX3_wouldLead : z_Mt mX3_wouldLead := ⟨z_mem 364 rfl rfl, z_mem 36 rfl rfl, by decide +kernel, by decide +kernel, by decide +kernel, by decide⟩
set_option maxRecDepth 20000 in
theorem pnX3_wouldLead : z_Pn mX3_wouldLead 2 := by unfold z_Pn; decide +kernel
set_option maxRecDepth 20000 in
theorem tX3_fewest : z_Mt mX3_fewest := ⟨z_mem 368 rfl rfl, z_mem 36 rfl rfl, by decide +kernel, by decide +kernel, by decide +kernel, by decide⟩
set_option maxRecDepth 20000 in
theorem pnX3_fewest : z_Pn mX3_fewest 1 := by unfold z_Pn; decide +kernel
set_option maxRecDepth 20000 in
theorem tX3_leastSet : z_Mt mX3_leastSet := ⟨z_mem 372 rfl rfl, z_mem 36 rfl rfl, by decide +kernel, by decide +kernel, by decide +kernel, by decide⟩
set_option maxRecDepth 20000 in
theorem pnX3_leastSet : z_Pn mX3_leastSet 2 := by unfold z_Pn; decide +kernel
set_option maxRecDepth 20000 in
theorem tX3_choicesOnBestWays : z_Mt mX3_choicesOnBestWays := ⟨z_mem 376 rfl rfl, z_mem 36 rfl rfl, by decide +kernel, by decide +kernel, by decide +kernel, by decide⟩
set_option maxRecDepth 20000 in
theorem pnX3_choicesOnBestWays : z_Pn mX3_choicesOnBestWays 1 := by unfold z_Pn; decide +kernel
set_option maxRecDepth 20000 in
theorem tX3_choicesFrom : z_Mt mX3_choicesFrom := ⟨z_mem 380 rfl rfl, z_mem 36 rfl rfl, by decide +kernel, by decide +kernel, by decide +kernel, by decide⟩
set_option maxRecDepth 20000 in
theorem pnX3_choicesFrom : z_Pn mX3_choicesFrom 2 := by unfold z_Pn; decide +kernel
set_option maxRecDepth 20000 in
theorem tX3_posts : z_Mt mX3_posts := ⟨z_mem 385 rfl rfl, z_mem 36 rfl rfl, by decide +kernel, by decide +kernel, by decide +kernel, by decide⟩
set_option maxRecDepth 20000 in
theorem pnX3_posts : z_Pn mX3_posts 0 := by unfold z_Pn; decide +kernel
set_option maxRecDepth 20000 in
theorem tX3_many : z_Mt mX3_many := ⟨z_mem 389 rfl rfl, z_mem 36 rfl rfl, by decide +kernel, by decide +kernel, by decide +kernel, by decide⟩
set_option maxRecDepth 20000 in
theorem pnX3_many : z_Pn mX3_many 1 := by unfold z_Pn; decide +kernel
set_option maxRecDepth 20000 in
theorem tX0_countOpen : z_Mt mX0_countOpen := ⟨z_mem 393 rfl rfl, z_mem 37 rfl rfl, by decide +kernel, by decide +kernel, by decide +kernel, by decide⟩
set_option maxRecDepth 20000 in
theorem pnX0_countOpen : z_Pn mX0_countOpen 0 := by unfold z_Pn; decide +kernel
set_option maxRecDepth 20000 in
theorem tX3_countBoards : z_Mt mX3_countBoards := ⟨z_mem 397 rfl rfl, z_mem 36 rfl rfl, by decide +kernel, by decide +kernel, by decide +kernel, by decide⟩
set_option maxRecDepth 20000 in
theorem pnX3_countBoards : z_Pn mX3_countBoards 0 := by unfold z_Pn; decide +kernel
set_option maxRecDepth 20000 in
theorem tX3_boardedFor : z_Mt mX3_boardedFor := ⟨z_mem 401 rfl rfl, z_mem 36 rfl rfl, by decide +kernel, by decide +kernel, by decide +kernel, by decide⟩
set_option maxRecDepth 20000 in
theorem pnX3_boardedFor : z_Pn mX3_boardedFor 1 := by unfold z_Pn; decide +kernel
set_option maxRecDepth 20000 in
theorem tX3_boardedPlaces : z_Mt mX3_boardedPlaces := ⟨z_mem 405 rfl rfl, z_mem 36 rfl rfl, by decide +kernel, by decide +kernel, by decide +kernel, by decide⟩
set_option maxRecDepth 20000 in
theorem pnX3_boardedPlaces : z_Pn mX3_boardedPlaces 0 := by unfold z_Pn; decide +kernel
set_option maxRecDepth 20000 in
theorem tX4_init : z_Mt mX4_init := ⟨z_mem 410 rfl rfl, z_mem 41 rfl rfl, by decide +kernel, by decide +kernel, by decide +kernel, by decide⟩
set_option maxRecDepth 20000 in
theorem pnX4_init : z_Pn mX4_init 0 := by unfold z_Pn; decide +kernel
set_option maxRecDepth 20000 in
theorem tX4_walk : z_Mt mX4_walk := ⟨z_mem 479 rfl rfl, z_mem 41 rfl rfl, by decide +kernel, by decide +kernel, by decide +kernel, by decide⟩
set_option maxRecDepth 20000 in
theorem pnX4_walk : z_Pn mX4_walk 3 := by unfold z_Pn; decide +kernel
set_option maxRecDepth 20000 in
theorem tX4_isPlace : z_Mt mX4_isPlace := ⟨z_mem 482 rfl rfl, z_mem 41 rfl rfl, by decide +kernel, by decide +kernel, by decide +kernel, by decide⟩
set_option maxRecDepth 20000 in
theorem pnX4_isPlace : z_Pn mX4_isPlace 1 := by unfold z_Pn; decide +kernel
set_option maxRecDepth 20000 in
theorem tX4_within : z_Mt mX4_within := ⟨z_mem 485 rfl rfl, z_mem 41 rfl rfl, by decide +kernel, by decide +kernel, by decide +kernel, by decide⟩
set_option maxRecDepth 20000 in
theorem pnX4_within : z_Pn mX4_within 3 := by unfold z_Pn; decide +kernel
set_option maxRecDepth 20000 in
theorem tX4_walkBetween : z_Mt mX4_walkBetween := ⟨z_mem 489 rfl rfl, z_mem 41 rfl rfl, by decide +kernel, by decide +kernel, by decide +kernel, by decide⟩
set_option maxRecDepth 20000 in
theorem pnX4_walkBetween : z_Pn mX4_walkBetween 2 := by unfold z_Pn; decide +kernel
set_option maxRecDepth 20000 in
theorem tX4_unwalk : z_Mt mX4_unwalk := ⟨z_mem 493 rfl rfl, z_mem 41 rfl rfl, by decide +kernel, by decide +kernel, by decide +kernel, by decide⟩
set_option maxRecDepth 20000 in
theorem pnX4_unwalk : z_Pn mX4_unwalk 0 := by unfold z_Pn; decide +kernel
set_option maxRecDepth 20000 in
theorem tX4_open : z_Mt mX4_open := ⟨z_mem 497 rfl rfl, z_mem 41 rfl rfl, by decide +kernel, by decide +kernel, by decide +kernel, by decide⟩
set_option maxRecDepth 20000 in
theorem pnX4_open : z_Pn mX4_open 2 := by unfold z_Pn; decide +kernel
set_option maxRecDepth 20000 in
theorem tX4_isWalk : z_Mt mX4_isWalk := ⟨z_mem 501 rfl rfl, z_mem 41 rfl rfl, by decide +kernel, by decide +kernel, by decide +kernel, by decide⟩
set_option maxRecDepth 20000 in
theorem pnX4_isWalk : z_Pn mX4_isWalk 1 := by unfold z_Pn; decide +kernel
set_option maxRecDepth 20000 in
theorem tX4_ofWalk : z_Mt mX4_ofWalk := ⟨z_mem 505 rfl rfl, z_mem 41 rfl rfl, by decide +kernel, by decide +kernel, by decide +kernel, by decide⟩
set_option maxRecDepth 20000 in
theorem pnX4_ofWalk : z_Pn mX4_ofWalk 2 := by unfold z_Pn; decide +kernel
set_option maxRecDepth 20000 in
theorem tX4_name : z_Mt mX4_name := ⟨z_mem 509 rfl rfl, z_mem 41 rfl rfl, by decide +kernel, by decide +kernel, by decide +kernel, by decide⟩
set_option maxRecDepth 20000 in
theorem pnX4_name : z_Pn mX4_name 1 := by unfold z_Pn; decide +kernel
set_option maxRecDepth 20000 in
theorem tX4_moves : z_Mt mX4_moves := ⟨z_mem 513 rfl rfl, z_mem 41 rfl rfl, by decide +kernel, by decide +kernel, by decide +kernel, by decide⟩
set_option maxRecDepth 20000 in
theorem pnX4_moves : z_Pn mX4_moves 2 := by unfold z_Pn; decide +kernel
set_option maxRecDepth 20000 in
theorem tX4_isName : z_Mt mX4_isName := ⟨z_mem 517 rfl rfl, z_mem 41 rfl rfl, by decide +kernel, by decide +kernel, by decide +kernel, by decide⟩
set_option maxRecDepth 20000 in
theorem pnX4_isName : z_Pn mX4_isName 1 := by unfold z_Pn; decide +kernel
set_option maxRecDepth 20000 in
theorem tX4_entrance : z_Mt mX4_entrance := ⟨z_mem 521 rfl rfl, z_mem 41 rfl rfl, by decide +kernel, by decide +kernel, by decide +kernel, by decide⟩
set_option maxRecDepth 20000 in
theorem pnX4_entrance : z_Pn mX4_entrance 2 := by unfold z_Pn; decide +kernel
set_option maxRecDepth 20000 in
theorem tX4_isIn : z_Mt mX4_isIn := ⟨z_mem 524 rfl rfl, z_mem 41 rfl rfl, by decide +kernel, by decide +kernel, by decide +kernel, by decide⟩
set_option maxRecDepth 20000 in
theorem pnX4_isIn : z_Pn mX4_isIn 2 := by unfold z_Pn; decide +kernel
set_option maxRecDepth 20000 in
theorem tX4_detour : z_Mt mX4_detour := ⟨z_mem 528 rfl rfl, z_mem 41 rfl rfl, by decide +kernel, by decide +kernel, by decide +kernel, by decide⟩
set_option maxRecDepth 20000 in
theorem pnX4_detour : z_Pn mX4_detour 1 := by unfold z_Pn; decide +kernel
set_option maxRecDepth 20000 in
theorem tX4_board : z_Mt mX4_board := ⟨z_mem 532 rfl rfl, z_mem 41 rfl rfl, by decide +kernel, by decide +kernel, by decide +kernel, by decide⟩
set_option maxRecDepth 20000 in
theorem pnX4_board : z_Pn mX4_board 3 := by unfold z_Pn; decide +kernel
set_option maxRecDepth 20000 in
theorem tX4_unboard : z_Mt mX4_unboard := ⟨z_mem 536 rfl rfl, z_mem 41 rfl rfl, by decide +kernel, by decide +kernel, by decide +kernel, by decide⟩
set_option maxRecDepth 20000 in
theorem pnX4_unboard : z_Pn mX4_unboard 2 := by unfold z_Pn; decide +kernel
set_option maxRecDepth 20000 in
theorem tX4_arrow : z_Mt mX4_arrow := ⟨z_mem 540 rfl rfl, z_mem 41 rfl rfl, by decide +kernel, by decide +kernel, by decide +kernel, by decide⟩
set_option maxRecDepth 20000 in
theorem pnX4_arrow : z_Pn mX4_arrow 2 := by unfold z_Pn; decide +kernel
set_option maxRecDepth 20000 in
theorem tX4_far : z_Mt mX4_far := ⟨z_mem 544 rfl rfl, z_mem 41 rfl rfl, by decide +kernel, by decide +kernel, by decide +kernel, by decide⟩
set_option maxRecDepth 20000 in
theorem pnX4_far : z_Pn mX4_far 3 := by unfold z_Pn; decide +kernel
set_option maxRecDepth 20000 in
theorem tX4_findFar : z_Mt mX4_findFar := ⟨z_mem 548 rfl rfl, z_mem 41 rfl rfl, by decide +kernel, by decide +kernel, by decide +kernel, by decide⟩
set_option maxRecDepth 20000 in
theorem pnX4_findFar : z_Pn mX4_findFar 1 := by unfold z_Pn; decide +kernel
set_option maxRecDepth 20000 in
theorem tX4_draws : z_Mt mX4_draws := ⟨z_mem 553 rfl rfl, z_mem 41 rfl rfl, by decide +kernel, by decide +kernel, by decide +kernel, by decide⟩
set_option maxRecDepth 20000 in
theorem pnX4_draws : z_Pn mX4_draws 3 := by unfold z_Pn; decide +kernel
set_option maxRecDepth 20000 in
theorem tX4_bestAt : z_Mt mX4_bestAt := ⟨z_mem 557 rfl rfl, z_mem 41 rfl rfl, by decide +kernel, by decide +kernel, by decide +kernel, by decide⟩
set_option maxRecDepth 20000 in
theorem pnX4_bestAt : z_Pn mX4_bestAt 1 := by unfold z_Pn; decide +kernel
set_option maxRecDepth 20000 in
theorem tX4_openBetween : z_Mt mX4_openBetween := ⟨z_mem 561 rfl rfl, z_mem 41 rfl rfl, by decide +kernel, by decide +kernel, by decide +kernel, by decide⟩
set_option maxRecDepth 20000 in
theorem pnX4_openBetween : z_Pn mX4_openBetween 2 := by unfold z_Pn; decide +kernel
set_option maxRecDepth 20000 in
theorem tX4_from : z_Mt mX4_from := ⟨z_mem 565 rfl rfl, z_mem 41 rfl rfl, by decide +kernel, by decide +kernel, by decide +kernel, by decide⟩
set_option maxRecDepth 20000 in
theorem pnX4_from : z_Pn mX4_from 1 := by unfold z_Pn; decide +kernel
set_option maxRecDepth 20000 in
theorem tX4_follow : z_Mt mX4_follow := ⟨z_mem 569 rfl rfl, z_mem 41 rfl rfl, by decide +kernel, by decide +kernel, by decide +kernel, by decide⟩
set_option maxRecDepth 20000 in
theorem pnX4_follow : z_Pn mX4_follow 3 := by unfold z_Pn; decide +kernel
set_option maxRecDepth 20000 in
theorem tX4_laysArrows : z_Mt mX4_laysArrows := ⟨z_mem 573 rfl rfl, z_mem 41 rfl rfl, by decide +kernel, by decide +kernel, by decide +kernel, by decide⟩
set_option maxRecDepth 20000 in
theorem pnX4_laysArrows : z_Pn mX4_laysArrows 1 := by unfold z_Pn; decide +kernel
set_option maxRecDepth 20000 in
theorem tX4_follows : z_Mt mX4_follows := ⟨z_mem 577 rfl rfl, z_mem 41 rfl rfl, by decide +kernel, by decide +kernel, by decide +kernel, by decide⟩
set_option maxRecDepth 20000 in
theorem pnX4_follows : z_Pn mX4_follows 2 := by unfold z_Pn; decide +kernel
set_option maxRecDepth 20000 in
theorem tX4_nextWalk : z_Mt mX4_nextWalk := ⟨z_mem 581 rfl rfl, z_mem 41 rfl rfl, by decide +kernel, by decide +kernel, by decide +kernel, by decide⟩
set_option maxRecDepth 20000 in
theorem pnX4_nextWalk : z_Pn mX4_nextWalk 2 := by unfold z_Pn; decide +kernel
set_option maxRecDepth 20000 in
theorem tX4_onlyWalk : z_Mt mX4_onlyWalk := ⟨z_mem 585 rfl rfl, z_mem 41 rfl rfl, by decide +kernel, by decide +kernel, by decide +kernel, by decide⟩
set_option maxRecDepth 20000 in
theorem pnX4_onlyWalk : z_Pn mX4_onlyWalk 2 := by unfold z_Pn; decide +kernel
set_option maxRecDepth 20000 in
theorem tX4_touches : z_Mt mX4_touches := ⟨z_mem 589 rfl rfl, z_mem 41 rfl rfl, by decide +kernel, by decide +kernel, by decide +kernel, by decide⟩
set_option maxRecDepth 20000 in
theorem pnX4_touches : z_Pn mX4_touches 2 := by unfold z_Pn; decide +kernel
set_option maxRecDepth 20000 in
theorem tX4_ends : z_Mt mX4_ends := ⟨z_mem 593 rfl rfl, z_mem 41 rfl rfl, by decide +kernel, by decide +kernel, by decide +kernel, by decide⟩
set_option maxRecDepth 20000 in
theorem pnX4_ends : z_Pn mX4_ends 1 := by unfold z_Pn; decide +kernel
set_option maxRecDepth 20000 in
theorem tX4_manyEnd : z_Mt mX4_manyEnd := ⟨z_mem 597 rfl rfl, z_mem 41 rfl rfl, by decide +kernel, by decide +kernel, by decide +kernel, by decide⟩
set_option maxRecDepth 20000 in
theorem pnX4_manyEnd : z_Pn mX4_manyEnd 2 := by unfold z_Pn; decide +kernel
set_option maxRecDepth 20000 in
theorem tX4_those : z_Mt mX4_those := ⟨z_mem 601 rfl rfl, z_mem 41 rfl rfl, by decide +kernel, by decide +kernel, by decide +kernel, by decide⟩
set_option maxRecDepth 20000 in
theorem pnX4_those : z_Pn mX4_those 2 := by unfold z_Pn; decide +kernel
set_option maxRecDepth 20000 in
theorem tX4_idle : z_Mt mX4_idle := ⟨z_mem 605 rfl rfl, z_mem 41 rfl rfl, by decide +kernel, by decide +kernel, by decide +kernel, by decide⟩
set_option maxRecDepth 20000 in
theorem pnX4_idle : z_Pn mX4_idle 1 := by unfold z_Pn; decide +kernel
set_option maxRecDepth 20000 in
theorem tX4_isIdle : z_Mt mX4_isIdle := ⟨z_mem 609 rfl rfl, z_mem 41 rfl rfl, by decide +kernel, by decide +kernel, by decide +kernel, by decide⟩
set_option maxRecDepth 20000 in
theorem pnX4_isIdle : z_Pn mX4_isIdle 2 := by unfold z_Pn; decide +kernel
set_option maxRecDepth 20000 in
theorem tX4_keeps : z_Mt mX4_keeps := ⟨z_mem 613 rfl rfl, z_mem 41 rfl rfl, by decide +kernel, by decide +kernel, by decide +kernel, by decide⟩
set_option maxRecDepth 20000 in
theorem pnX4_keeps : z_Pn mX4_keeps 0 := by unfold z_Pn; decide +kernel
set_option maxRecDepth 20000 in
theorem tX4_isAsKept : z_Mt mX4_isAsKept := ⟨z_mem 617 rfl rfl, z_mem 41 rfl rfl, by decide +kernel, by decide +kernel, by decide +kernel, by decide⟩
set_option maxRecDepth 20000 in
theorem pnX4_isAsKept : z_Pn mX4_isAsKept 0 := by unfold z_Pn; decide +kernel
set_option maxRecDepth 20000 in
theorem tX4_mend : z_Mt mX4_mend := ⟨z_mem 621 rfl rfl, z_mem 41 rfl rfl, by decide +kernel, by decide +kernel, by decide +kernel, by decide⟩
set_option maxRecDepth 20000 in
theorem pnX4_mend : z_Pn mX4_mend 1 := by unfold z_Pn; decide +kernel
set_option maxRecDepth 20000 in
theorem tX4_moreBy : z_Mt mX4_moreBy := ⟨z_mem 626 rfl rfl, z_mem 41 rfl rfl, by decide +kernel, by decide +kernel, by decide +kernel, by decide⟩
set_option maxRecDepth 20000 in
theorem pnX4_moreBy : z_Pn mX4_moreBy 2 := by unfold z_Pn; decide +kernel
set_option maxRecDepth 20000 in
theorem tX4_leads : z_Mt mX4_leads := ⟨z_mem 630 rfl rfl, z_mem 41 rfl rfl, by decide +kernel, by decide +kernel, by decide +kernel, by decide⟩
set_option maxRecDepth 20000 in
theorem pnX4_leads : z_Pn mX4_leads 2 := by unfold z_Pn; decide +kernel
set_option maxRecDepth 20000 in
theorem tX4_leadsTo : z_Mt mX4_leadsTo := ⟨z_mem 634 rfl rfl, z_mem 41 rfl rfl, by decide +kernel, by decide +kernel, by decide +kernel, by decide⟩
set_option maxRecDepth 20000 in
theorem pnX4_leadsTo : z_Pn mX4_leadsTo 2 := by unfold z_Pn; decide +kernel
set_option maxRecDepth 20000 in
theorem tX4_haveBest : z_Mt mX4_haveBest := ⟨z_mem 638 rfl rfl, z_mem 41 rfl rfl, by decide +kernel, by decide +kernel, by decide +kernel, by decide⟩
set_option maxRecDepth 20000 in
theorem pnX4_haveBest : z_Pn mX4_haveBest 1 := by unfold z_Pn; decide +kernel
set_option maxRecDepth 20000 in
theorem tX4_doLead : z_Mt mX4_doLead := ⟨z_mem 642 rfl rfl, z_mem 41 rfl rfl, by decide +kernel, by decide +kernel, by decide +kernel, by decide⟩
set_option maxRecDepth 20000 in
theorem pnX4_doLead : z_Pn mX4_doLead 2 := by unfold z_Pn; decide +kernel
set_option maxRecDepth 20000 in
theorem tX4_fewest : z_Mt mX4_fewest := ⟨z_mem 646 rfl rfl, z_mem 41 rfl rfl, by decide +kernel, by decide +kernel, by decide +kernel, by decide⟩
set_option maxRecDepth 20000 in
theorem pnX4_fewest : z_Pn mX4_fewest 1 := by unfold z_Pn; decide +kernel
set_option maxRecDepth 20000 in
theorem tX4_manyOf : z_Mt mX4_manyOf := ⟨z_mem 649 rfl rfl, z_mem 41 rfl rfl, by decide +kernel, by decide +kernel, by decide +kernel, by decide⟩
set_option maxRecDepth 20000 in
theorem pnX4_manyOf : z_Pn mX4_manyOf 1 := by unfold z_Pn; decide +kernel
set_option maxRecDepth 20000 in
theorem tX4_posts : z_Mt mX4_posts := ⟨z_mem 653 rfl rfl, z_mem 41 rfl rfl, by decide +kernel, by decide +kernel, by decide +kernel, by decide⟩
set_option maxRecDepth 20000 in
theorem pnX4_posts : z_Pn mX4_posts 0 := by unfold z_Pn; decide +kernel
set_option maxRecDepth 20000 in
theorem tX4_many : z_Mt mX4_many := ⟨z_mem 657 rfl rfl, z_mem 41 rfl rfl, by decide +kernel, by decide +kernel, by decide +kernel, by decide⟩
set_option maxRecDepth 20000 in
theorem pnX4_many : z_Pn mX4_many 1 := by unfold z_Pn; decide +kernel
set_option maxRecDepth 20000 in
theorem tX4_manyOpen : z_Mt mX4_manyOpen := ⟨z_mem 661 rfl rfl, z_mem 41 rfl rfl, by decide +kernel, by decide +kernel, by decide +kernel, by decide⟩
set_option maxRecDepth 20000 in
theorem pnX4_manyOpen : z_Pn mX4_manyOpen 0 := by unfold z_Pn; decide +kernel
set_option maxRecDepth 20000 in
theorem tX4_allBoards : z_Mt mX4_allBoards := ⟨z_mem 665 rfl rfl, z_mem 41 rfl rfl, by decide +kernel, by decide +kernel, by decide +kernel, by decide⟩
set_option maxRecDepth 20000 in
theorem pnX4_allBoards : z_Pn mX4_allBoards 1 := by unfold z_Pn; decide +kernel
set_option maxRecDepth 20000 in
theorem tX4_manyBoards : z_Mt mX4_manyBoards := ⟨z_mem 669 rfl rfl, z_mem 41 rfl rfl, by decide +kernel, by decide +kernel, by decide +kernel, by decide⟩
set_option maxRecDepth 20000 in
theorem pnX4_manyBoards : z_Pn mX4_manyBoards 1 := by unfold z_Pn; decide +kernel
set_option maxRecDepth 20000 in
theorem wsX0 : ∀ w ∈ u_ws RX0 TX0 7, w ∈ z_T := by decide +kernel
set_option maxRecDepth 20000 in
theorem wsX1 : ∀ w ∈ u_ws RX1 TX1 5, w ∈ z_T := by decide +kernel
set_option maxRecDepth 20000 in
theorem wsX2 : ∀ w ∈ u_ws RX2 TX2 3, w ∈ z_T := by decide +kernel
set_option maxRecDepth 20000 in
theorem wsX3 : ∀ w ∈ u_ws RX3 TX3 13, w ∈ z_T := by decide +kernel
set_option maxRecDepth 20000 in
theorem wsX4 : ∀ w ∈ u_ws RX4 TX4 21, w ∈ z_T := by decide +kernel
set_option maxRecDepth 20000 in
theorem kRX3_42 : Cond.methodLink RX3 42 yJ7_fill_53178 ∈ z_T ∧ Cond.static yJ7_fill_53178 ∈ z_T := ⟨z_mem 145 rfl rfl, z_mem 146 rfl rfl⟩
set_option maxRecDepth 20000 in
theorem kRL_13 : Cond.methodLink RL 13 yX3_walk ∈ z_T ∧ Cond.instanceMethod yX3_walk ∈ z_T ∧ Cond.selects yX3_walk.cls yX3_walk yX3_walk ∈ z_T := ⟨z_mem 188 rfl rfl, z_mem 189 rfl rfl, z_mem 190 rfl rfl⟩
set_option maxRecDepth 20000 in
theorem kRX3_70 : Cond.methodLink RX3 70 yX3_isPlace ∈ z_T ∧ Cond.static yX3_isPlace ∈ z_T := ⟨z_mem 192 rfl rfl, z_mem 193 rfl rfl⟩
set_option maxRecDepth 20000 in
theorem kRX3_74 : Cond.methodLink RX3 74 yX0_joins ∈ z_T ∧ Cond.instanceMethod yX0_joins ∈ z_T ∧ Cond.selects yX0_joins.cls yX0_joins yX0_joins ∈ z_T := ⟨z_mem 195 rfl rfl, z_mem 196 rfl rfl, z_mem 197 rfl rfl⟩
set_option maxRecDepth 20000 in
theorem kRX0_37 : Cond.methodLink RX0 37 Lib.Math.min.name ∈ z_T ∧ Cond.static Lib.Math.min.name ∈ z_T ∧ Cond.initialized "java/lang/Math" ∈ z_T ∧ Cond.code Lib.Math.min.name Lib.Math.min.code 2 (some .int) ∈ z_T := ⟨z_mem 199 rfl rfl, z_mem 200 rfl rfl, z_mem 42 rfl rfl, z_mem 201 rfl rfl⟩
set_option maxRecDepth 20000 in
theorem kRX0_43 : Cond.methodLink RX0 43 Lib.Math.max.name ∈ z_T ∧ Cond.static Lib.Math.max.name ∈ z_T ∧ Cond.initialized "java/lang/Math" ∈ z_T ∧ Cond.code Lib.Math.max.name Lib.Math.max.code 2 (some .int) ∈ z_T := ⟨z_mem 202 rfl rfl, z_mem 203 rfl rfl, z_mem 42 rfl rfl, z_mem 204 rfl rfl⟩
set_option maxRecDepth 20000 in
theorem kRX3_81 : Cond.methodLink RX3 81 yX0_add ∈ z_T ∧ Cond.instanceMethod yX0_add ∈ z_T ∧ Cond.selects yX0_add.cls yX0_add yX0_add ∈ z_T := ⟨z_mem 205 rfl rfl, z_mem 206 rfl rfl, z_mem 207 rfl rfl⟩
set_option maxRecDepth 20000 in
theorem kRX0_46 : Cond.methodLink RX0 46 yX0_turn ∈ z_T ∧ Cond.instanceMethod yX0_turn ∈ z_T ∧ Cond.selects yX0_turn.cls yX0_turn yX0_turn ∈ z_T := ⟨z_mem 209 rfl rfl, z_mem 210 rfl rfl, z_mem 211 rfl rfl⟩
set_option maxRecDepth 20000 in
theorem kRL_18 : Cond.methodLink RL 18 yX3_unwalk ∈ z_T ∧ Cond.instanceMethod yX3_unwalk ∈ z_T ∧ Cond.selects yX3_unwalk.cls yX3_unwalk yX3_unwalk ∈ z_T := ⟨z_mem 213 rfl rfl, z_mem 214 rfl rfl, z_mem 215 rfl rfl⟩
set_option maxRecDepth 20000 in
theorem kRX3_85 : Cond.methodLink RX3 85 yX0_removeLast ∈ z_T ∧ Cond.instanceMethod yX0_removeLast ∈ z_T ∧ Cond.selects yX0_removeLast.cls yX0_removeLast yX0_removeLast ∈ z_T := ⟨z_mem 217 rfl rfl, z_mem 218 rfl rfl, z_mem 219 rfl rfl⟩
set_option maxRecDepth 20000 in
theorem kRL_23 : Cond.methodLink RL 23 yX3_open ∈ z_T ∧ Cond.instanceMethod yX3_open ∈ z_T ∧ Cond.selects yX3_open.cls yX3_open yX3_open ∈ z_T := ⟨z_mem 221 rfl rfl, z_mem 222 rfl rfl, z_mem 223 rfl rfl⟩
set_option maxRecDepth 20000 in
theorem kRX3_89 : Cond.methodLink RX3 89 yX0_has ∈ z_T ∧ Cond.instanceMethod yX0_has ∈ z_T ∧ Cond.selects yX0_has.cls yX0_has yX0_has ∈ z_T := ⟨z_mem 225 rfl rfl, z_mem 226 rfl rfl, z_mem 227 rfl rfl⟩
set_option maxRecDepth 20000 in
theorem kRX3_92 : Cond.methodLink RX3 92 yX0_turn ∈ z_T ∧ Cond.instanceMethod yX0_turn ∈ z_T ∧ Cond.selects yX0_turn.cls yX0_turn yX0_turn ∈ z_T := ⟨z_mem 229 rfl rfl, z_mem 210 rfl rfl, z_mem 211 rfl rfl⟩
set_option maxRecDepth 20000 in
theorem kRL_28 : Cond.methodLink RL 28 yX3_ofWalk ∈ z_T ∧ Cond.instanceMethod yX3_ofWalk ∈ z_T ∧ Cond.selects yX3_ofWalk.cls yX3_ofWalk yX3_ofWalk ∈ z_T := ⟨z_mem 230 rfl rfl, z_mem 231 rfl rfl, z_mem 232 rfl rfl⟩
set_option maxRecDepth 20000 in
theorem kRL_33 : Cond.methodLink RL 33 yX3_name ∈ z_T ∧ Cond.instanceMethod yX3_name ∈ z_T ∧ Cond.selects yX3_name.cls yX3_name yX3_name ∈ z_T := ⟨z_mem 234 rfl rfl, z_mem 235 rfl rfl, z_mem 236 rfl rfl⟩
set_option maxRecDepth 20000 in
theorem kRL_38 : Cond.methodLink RL 38 yX3_moves ∈ z_T ∧ Cond.instanceMethod yX3_moves ∈ z_T ∧ Cond.selects yX3_moves.cls yX3_moves yX3_moves ∈ z_T := ⟨z_mem 238 rfl rfl, z_mem 239 rfl rfl, z_mem 240 rfl rfl⟩
set_option maxRecDepth 20000 in
theorem kRX3_109 : Cond.methodLink RX3 109 yX3_isName ∈ z_T ∧ Cond.instanceMethod yX3_isName ∈ z_T ∧ Cond.selects yX3_isName.cls yX3_isName yX3_isName ∈ z_T := ⟨z_mem 242 rfl rfl, z_mem 244 rfl rfl, z_mem 0 rfl rfl⟩
set_option maxRecDepth 20000 in
theorem kRL_42 : Cond.methodLink RL 42 yX3_entrance ∈ z_T ∧ Cond.instanceMethod yX3_entrance ∈ z_T ∧ Cond.selects yX3_entrance.cls yX3_entrance yX3_entrance ∈ z_T := ⟨z_mem 246 rfl rfl, z_mem 247 rfl rfl, z_mem 248 rfl rfl⟩
set_option maxRecDepth 20000 in
theorem kRX3_112 : Cond.methodLink RX3 112 yX3_holds ∈ z_T ∧ Cond.static yX3_holds ∈ z_T := ⟨z_mem 250 rfl rfl, z_mem 251 rfl rfl⟩
set_option maxRecDepth 20000 in
theorem kRL_46 : Cond.methodLink RL 46 yX3_detour ∈ z_T ∧ Cond.instanceMethod yX3_detour ∈ z_T ∧ Cond.selects yX3_detour.cls yX3_detour yX3_detour ∈ z_T := ⟨z_mem 253 rfl rfl, z_mem 254 rfl rfl, z_mem 255 rfl rfl⟩
set_option maxRecDepth 20000 in
theorem kRL_50 : Cond.methodLink RL 50 yX3_board ∈ z_T ∧ Cond.instanceMethod yX3_board ∈ z_T ∧ Cond.selects yX3_board.cls yX3_board yX3_board ∈ z_T := ⟨z_mem 257 rfl rfl, z_mem 258 rfl rfl, z_mem 259 rfl rfl⟩
set_option maxRecDepth 20000 in
theorem kRL_54 : Cond.methodLink RL 54 yX3_unboard ∈ z_T ∧ Cond.instanceMethod yX3_unboard ∈ z_T ∧ Cond.selects yX3_unboard.cls yX3_unboard yX3_unboard ∈ z_T := ⟨z_mem 261 rfl rfl, z_mem 262 rfl rfl, z_mem 263 rfl rfl⟩
set_option maxRecDepth 20000 in
theorem kRL_58 : Cond.methodLink RL 58 yX3_arrow ∈ z_T ∧ Cond.instanceMethod yX3_arrow ∈ z_T ∧ Cond.selects yX3_arrow.cls yX3_arrow yX3_arrow ∈ z_T := ⟨z_mem 265 rfl rfl, z_mem 266 rfl rfl, z_mem 267 rfl rfl⟩
set_option maxRecDepth 20000 in
theorem kRL_62 : Cond.methodLink RL 62 yX3_far ∈ z_T ∧ Cond.instanceMethod yX3_far ∈ z_T ∧ Cond.selects yX3_far.cls yX3_far yX3_far ∈ z_T := ⟨z_mem 269 rfl rfl, z_mem 270 rfl rfl, z_mem 271 rfl rfl⟩
set_option maxRecDepth 20000 in
theorem kRX3_115 : Cond.methodLink RX3 115 yX2_draw ∈ z_T ∧ Cond.instanceMethod yX2_draw ∈ z_T ∧ Cond.selects yX2_draw.cls yX2_draw yX2_draw ∈ z_T := ⟨z_mem 273 rfl rfl, z_mem 274 rfl rfl, z_mem 275 rfl rfl⟩
set_option maxRecDepth 20000 in
theorem kRX2_23 : Cond.methodLink RX2 23 yX2_measure ∈ z_T ∧ Cond.static yX2_measure ∈ z_T := ⟨z_mem 277 rfl rfl, z_mem 278 rfl rfl⟩
set_option maxRecDepth 20000 in
theorem kRX2_31 : Cond.methodLink RX2 31 yJ7_fill_53178 ∈ z_T ∧ Cond.static yJ7_fill_53178 ∈ z_T := ⟨z_mem 280 rfl rfl, z_mem 146 rfl rfl⟩
set_option maxRecDepth 20000 in
theorem kRX2_56 : Cond.methodLink RX2 56 yX2_shorten ∈ z_T ∧ Cond.static yX2_shorten ∈ z_T := ⟨z_mem 281 rfl rfl, z_mem 282 rfl rfl⟩
set_option maxRecDepth 20000 in
theorem kRX2_27 : Cond.methodLink RX2 27 yX2_bestAt ∈ z_T ∧ Cond.static yX2_bestAt ∈ z_T := ⟨z_mem 284 rfl rfl, z_mem 285 rfl rfl⟩
set_option maxRecDepth 20000 in
theorem kRL_66 : Cond.methodLink RL 66 yX3_from ∈ z_T ∧ Cond.instanceMethod yX3_from ∈ z_T ∧ Cond.selects yX3_from.cls yX3_from yX3_from ∈ z_T := ⟨z_mem 287 rfl rfl, z_mem 288 rfl rfl, z_mem 289 rfl rfl⟩
set_option maxRecDepth 20000 in
theorem kRL_70 : Cond.methodLink RL 70 yX3_follow ∈ z_T ∧ Cond.instanceMethod yX3_follow ∈ z_T ∧ Cond.selects yX3_follow.cls yX3_follow yX3_follow ∈ z_T := ⟨z_mem 291 rfl rfl, z_mem 292 rfl rfl, z_mem 293 rfl rfl⟩
set_option maxRecDepth 20000 in
theorem kRX3_128 : Cond.methodLink RX3 128 yX1_go ∈ z_T ∧ Cond.instanceMethod yX1_go ∈ z_T ∧ Cond.selects yX1_go.cls yX1_go yX1_go ∈ z_T := ⟨z_mem 295 rfl rfl, z_mem 296 rfl rfl, z_mem 297 rfl rfl⟩
set_option maxRecDepth 20000 in
theorem kRX1_28 : Cond.methodLink RX1 28 yJ7_fill_53178 ∈ z_T ∧ Cond.static yJ7_fill_53178 ∈ z_T := ⟨z_mem 299 rfl rfl, z_mem 146 rfl rfl⟩
set_option maxRecDepth 20000 in
theorem kRX1_34 : Cond.methodLink RX1 34 yX1_nextFrom ∈ z_T ∧ Cond.static yX1_nextFrom ∈ z_T := ⟨z_mem 300 rfl rfl, z_mem 301 rfl rfl⟩
set_option maxRecDepth 20000 in
theorem kRX1_51 : Cond.methodLink RX1 51 yJ6_bitCount_0f7a4 ∈ z_T ∧ Cond.static yJ6_bitCount_0f7a4 ∈ z_T := ⟨z_mem 304 rfl rfl, z_mem 305 rfl rfl⟩
set_option maxRecDepth 20000 in
theorem kRX3_141 : Cond.methodLink RX3 141 yX1_placeAt ∈ z_T ∧ Cond.instanceMethod yX1_placeAt ∈ z_T ∧ Cond.selects yX1_placeAt.cls yX1_placeAt yX1_placeAt ∈ z_T := ⟨z_mem 310 rfl rfl, z_mem 311 rfl rfl, z_mem 312 rfl rfl⟩
set_option maxRecDepth 20000 in
theorem kRL_74 : Cond.methodLink RL 74 yX3_ends ∈ z_T ∧ Cond.instanceMethod yX3_ends ∈ z_T ∧ Cond.selects yX3_ends.cls yX3_ends yX3_ends ∈ z_T := ⟨z_mem 314 rfl rfl, z_mem 315 rfl rfl, z_mem 316 rfl rfl⟩
set_option maxRecDepth 20000 in
theorem kRX3_145 : Cond.methodLink RX3 145 yX3_isEnding ∈ z_T ∧ Cond.static yX3_isEnding ∈ z_T := ⟨z_mem 318 rfl rfl, z_mem 319 rfl rfl⟩
set_option maxRecDepth 20000 in
theorem kRX3_148 : Cond.methodLink RX3 148 yX3_countEndings ∈ z_T ∧ Cond.instanceMethod yX3_countEndings ∈ z_T ∧ Cond.selects yX3_countEndings.cls yX3_countEndings yX3_countEndings ∈ z_T := ⟨z_mem 321 rfl rfl, z_mem 323 rfl rfl, z_mem 1 rfl rfl⟩
set_option maxRecDepth 20000 in
theorem kRL_78 : Cond.methodLink RL 78 yX3_those ∈ z_T ∧ Cond.instanceMethod yX3_those ∈ z_T ∧ Cond.selects yX3_those.cls yX3_those yX3_those ∈ z_T := ⟨z_mem 325 rfl rfl, z_mem 326 rfl rfl, z_mem 327 rfl rfl⟩
set_option maxRecDepth 20000 in
theorem kRL_82 : Cond.methodLink RL 82 yX3_idle ∈ z_T ∧ Cond.instanceMethod yX3_idle ∈ z_T ∧ Cond.selects yX3_idle.cls yX3_idle yX3_idle ∈ z_T := ⟨z_mem 329 rfl rfl, z_mem 330 rfl rfl, z_mem 331 rfl rfl⟩
set_option maxRecDepth 20000 in
theorem kRX3_152 : Cond.methodLink RX3 152 yX3_isIdle ∈ z_T ∧ Cond.instanceMethod yX3_isIdle ∈ z_T ∧ Cond.selects yX3_isIdle.cls yX3_isIdle yX3_isIdle ∈ z_T := ⟨z_mem 333 rfl rfl, z_mem 335 rfl rfl, z_mem 2 rfl rfl⟩
set_option maxRecDepth 20000 in
theorem kRX3_188 : Cond.methodLink RX3 188 yX1_wentLike ∈ z_T ∧ Cond.instanceMethod yX1_wentLike ∈ z_T ∧ Cond.selects yX1_wentLike.cls yX1_wentLike yX1_wentLike ∈ z_T := ⟨z_mem 340 rfl rfl, z_mem 341 rfl rfl, z_mem 342 rfl rfl⟩
set_option maxRecDepth 20000 in
theorem kRL_86 : Cond.methodLink RL 86 yX3_mend ∈ z_T ∧ Cond.instanceMethod yX3_mend ∈ z_T ∧ Cond.selects yX3_mend.cls yX3_mend yX3_mend ∈ z_T := ⟨z_mem 344 rfl rfl, z_mem 345 rfl rfl, z_mem 346 rfl rfl⟩
set_option maxRecDepth 20000 in
theorem kRX3_155 : Cond.methodLink RX3 155 yX3_findMend ∈ z_T ∧ Cond.instanceMethod yX3_findMend ∈ z_T ∧ Cond.selects yX3_findMend.cls yX3_findMend yX3_findMend ∈ z_T := ⟨z_mem 348 rfl rfl, z_mem 350 rfl rfl, z_mem 3 rfl rfl⟩
set_option maxRecDepth 20000 in
theorem kRX3_192 : Cond.methodLink RX3 192 yX3_ends ∈ z_T ∧ Cond.instanceMethod yX3_ends ∈ z_T ∧ Cond.selects yX3_ends.cls yX3_ends yX3_ends ∈ z_T := ⟨z_mem 352 rfl rfl, z_mem 315 rfl rfl, z_mem 316 rfl rfl⟩
set_option maxRecDepth 20000 in
theorem kRX3_198 : Cond.methodLink RX3 198 yX3_offerMend ∈ z_T ∧ Cond.instanceMethod yX3_offerMend ∈ z_T ∧ Cond.selects yX3_offerMend.cls yX3_offerMend yX3_offerMend ∈ z_T := ⟨z_mem 353 rfl rfl, z_mem 355 rfl rfl, z_mem 4 rfl rfl⟩
set_option maxRecDepth 20000 in
theorem kRL_90 : Cond.methodLink RL 90 yX3_leads ∈ z_T ∧ Cond.instanceMethod yX3_leads ∈ z_T ∧ Cond.selects yX3_leads.cls yX3_leads yX3_leads ∈ z_T := ⟨z_mem 357 rfl rfl, z_mem 358 rfl rfl, z_mem 359 rfl rfl⟩
set_option maxRecDepth 20000 in
theorem kRX3_158 : Cond.methodLink RX3 158 yX3_wouldLead ∈ z_T ∧ Cond.instanceMethod yX3_wouldLead ∈ z_T ∧ Cond.selects yX3_wouldLead.cls yX3_wouldLead yX3_wouldLead ∈ z_T := ⟨z_mem 361 rfl rfl, z_mem 363 rfl rfl, z_mem 5 rfl rfl⟩
set_option maxRecDepth 20000 in
theorem kRL_94 : Cond.methodLink RL 94 yX3_fewest ∈ z_T ∧ Cond.instanceMethod yX3_fewest ∈ z_T ∧ Cond.selects yX3_fewest.cls yX3_fewest yX3_fewest ∈ z_T := ⟨z_mem 365 rfl rfl, z_mem 366 rfl rfl, z_mem 367 rfl rfl⟩
set_option maxRecDepth 20000 in
theorem kRX3_161 : Cond.methodLink RX3 161 yX3_leastSet ∈ z_T ∧ Cond.instanceMethod yX3_leastSet ∈ z_T ∧ Cond.selects yX3_leastSet.cls yX3_leastSet yX3_leastSet ∈ z_T := ⟨z_mem 369 rfl rfl, z_mem 371 rfl rfl, z_mem 6 rfl rfl⟩
set_option maxRecDepth 20000 in
theorem kRX3_202 : Cond.methodLink RX3 202 yX3_choicesOnBestWays ∈ z_T ∧ Cond.instanceMethod yX3_choicesOnBestWays ∈ z_T ∧ Cond.selects yX3_choicesOnBestWays.cls yX3_choicesOnBestWays yX3_choicesOnBestWays ∈ z_T := ⟨z_mem 373 rfl rfl, z_mem 375 rfl rfl, z_mem 7 rfl rfl⟩
set_option maxRecDepth 20000 in
theorem kRX3_205 : Cond.methodLink RX3 205 yX3_choicesFrom ∈ z_T ∧ Cond.instanceMethod yX3_choicesFrom ∈ z_T ∧ Cond.selects yX3_choicesFrom.cls yX3_choicesFrom yX3_choicesFrom ∈ z_T := ⟨z_mem 377 rfl rfl, z_mem 379 rfl rfl, z_mem 8 rfl rfl⟩
set_option maxRecDepth 20000 in
theorem kRX3_168 : Cond.methodLink RX3 168 yJ6_bitCount_0f7a4 ∈ z_T ∧ Cond.static yJ6_bitCount_0f7a4 ∈ z_T := ⟨z_mem 381 rfl rfl, z_mem 305 rfl rfl⟩
set_option maxRecDepth 20000 in
theorem kRL_98 : Cond.methodLink RL 98 yX3_posts ∈ z_T ∧ Cond.instanceMethod yX3_posts ∈ z_T ∧ Cond.selects yX3_posts.cls yX3_posts yX3_posts ∈ z_T := ⟨z_mem 382 rfl rfl, z_mem 383 rfl rfl, z_mem 384 rfl rfl⟩
set_option maxRecDepth 20000 in
theorem kRL_102 : Cond.methodLink RL 102 yX3_many ∈ z_T ∧ Cond.instanceMethod yX3_many ∈ z_T ∧ Cond.selects yX3_many.cls yX3_many yX3_many ∈ z_T := ⟨z_mem 386 rfl rfl, z_mem 387 rfl rfl, z_mem 388 rfl rfl⟩
set_option maxRecDepth 20000 in
theorem kRX3_165 : Cond.methodLink RX3 165 yX0_countOpen ∈ z_T ∧ Cond.instanceMethod yX0_countOpen ∈ z_T ∧ Cond.selects yX0_countOpen.cls yX0_countOpen yX0_countOpen ∈ z_T := ⟨z_mem 390 rfl rfl, z_mem 391 rfl rfl, z_mem 392 rfl rfl⟩
set_option maxRecDepth 20000 in
theorem kRX3_173 : Cond.methodLink RX3 173 yX3_countBoards ∈ z_T ∧ Cond.instanceMethod yX3_countBoards ∈ z_T ∧ Cond.selects yX3_countBoards.cls yX3_countBoards yX3_countBoards ∈ z_T := ⟨z_mem 394 rfl rfl, z_mem 396 rfl rfl, z_mem 9 rfl rfl⟩
set_option maxRecDepth 20000 in
theorem kRX3_179 : Cond.methodLink RX3 179 yX3_boardedFor ∈ z_T ∧ Cond.instanceMethod yX3_boardedFor ∈ z_T ∧ Cond.selects yX3_boardedFor.cls yX3_boardedFor yX3_boardedFor ∈ z_T := ⟨z_mem 398 rfl rfl, z_mem 400 rfl rfl, z_mem 10 rfl rfl⟩
set_option maxRecDepth 20000 in
theorem kRX3_176 : Cond.methodLink RX3 176 yX3_boardedPlaces ∈ z_T ∧ Cond.instanceMethod yX3_boardedPlaces ∈ z_T ∧ Cond.selects yX3_boardedPlaces.cls yX3_boardedPlaces yX3_boardedPlaces ∈ z_T := ⟨z_mem 402 rfl rfl, z_mem 404 rfl rfl, z_mem 11 rfl rfl⟩
set_option maxRecDepth 20000 in
theorem kRL_17 : Cond.methodLink RL 17 yX4_walk ∈ z_T ∧ Cond.instanceMethod yX4_walk ∈ z_T ∧ Cond.selects yX4_walk.cls yX4_walk yX4_walk ∈ z_T := ⟨z_mem 476 rfl rfl, z_mem 477 rfl rfl, z_mem 478 rfl rfl⟩
set_option maxRecDepth 20000 in
theorem kRX4_62 : Cond.methodLink RX4 62 yX4_isPlace ∈ z_T ∧ Cond.static yX4_isPlace ∈ z_T := ⟨z_mem 480 rfl rfl, z_mem 481 rfl rfl⟩
set_option maxRecDepth 20000 in
theorem kRX4_47 : Cond.methodLink RX4 47 yX4_within ∈ z_T ∧ Cond.static yX4_within ∈ z_T := ⟨z_mem 483 rfl rfl, z_mem 484 rfl rfl⟩
set_option maxRecDepth 20000 in
theorem kRX4_58 : Cond.methodLink RX4 58 yX4_walkBetween ∈ z_T ∧ Cond.instanceMethod yX4_walkBetween ∈ z_T ∧ Cond.selects yX4_walkBetween.cls yX4_walkBetween yX4_walkBetween ∈ z_T := ⟨z_mem 486 rfl rfl, z_mem 488 rfl rfl, z_mem 12 rfl rfl⟩
set_option maxRecDepth 20000 in
theorem kRL_22 : Cond.methodLink RL 22 yX4_unwalk ∈ z_T ∧ Cond.instanceMethod yX4_unwalk ∈ z_T ∧ Cond.selects yX4_unwalk.cls yX4_unwalk yX4_unwalk ∈ z_T := ⟨z_mem 490 rfl rfl, z_mem 491 rfl rfl, z_mem 492 rfl rfl⟩
set_option maxRecDepth 20000 in
theorem kRL_27 : Cond.methodLink RL 27 yX4_open ∈ z_T ∧ Cond.instanceMethod yX4_open ∈ z_T ∧ Cond.selects yX4_open.cls yX4_open yX4_open ∈ z_T := ⟨z_mem 494 rfl rfl, z_mem 495 rfl rfl, z_mem 496 rfl rfl⟩
set_option maxRecDepth 20000 in
theorem kRX4_66 : Cond.methodLink RX4 66 yX4_isWalk ∈ z_T ∧ Cond.instanceMethod yX4_isWalk ∈ z_T ∧ Cond.selects yX4_isWalk.cls yX4_isWalk yX4_isWalk ∈ z_T := ⟨z_mem 498 rfl rfl, z_mem 500 rfl rfl, z_mem 13 rfl rfl⟩
set_option maxRecDepth 20000 in
theorem kRL_32 : Cond.methodLink RL 32 yX4_ofWalk ∈ z_T ∧ Cond.instanceMethod yX4_ofWalk ∈ z_T ∧ Cond.selects yX4_ofWalk.cls yX4_ofWalk yX4_ofWalk ∈ z_T := ⟨z_mem 502 rfl rfl, z_mem 503 rfl rfl, z_mem 504 rfl rfl⟩
set_option maxRecDepth 20000 in
theorem kRL_37 : Cond.methodLink RL 37 yX4_name ∈ z_T ∧ Cond.instanceMethod yX4_name ∈ z_T ∧ Cond.selects yX4_name.cls yX4_name yX4_name ∈ z_T := ⟨z_mem 506 rfl rfl, z_mem 507 rfl rfl, z_mem 508 rfl rfl⟩
set_option maxRecDepth 20000 in
theorem kRL_41 : Cond.methodLink RL 41 yX4_moves ∈ z_T ∧ Cond.instanceMethod yX4_moves ∈ z_T ∧ Cond.selects yX4_moves.cls yX4_moves yX4_moves ∈ z_T := ⟨z_mem 510 rfl rfl, z_mem 511 rfl rfl, z_mem 512 rfl rfl⟩
set_option maxRecDepth 20000 in
theorem kRX4_69 : Cond.methodLink RX4 69 yX4_isName ∈ z_T ∧ Cond.instanceMethod yX4_isName ∈ z_T ∧ Cond.selects yX4_isName.cls yX4_isName yX4_isName ∈ z_T := ⟨z_mem 514 rfl rfl, z_mem 516 rfl rfl, z_mem 14 rfl rfl⟩
set_option maxRecDepth 20000 in
theorem kRL_45 : Cond.methodLink RL 45 yX4_entrance ∈ z_T ∧ Cond.instanceMethod yX4_entrance ∈ z_T ∧ Cond.selects yX4_entrance.cls yX4_entrance yX4_entrance ∈ z_T := ⟨z_mem 518 rfl rfl, z_mem 519 rfl rfl, z_mem 520 rfl rfl⟩
set_option maxRecDepth 20000 in
theorem kRX4_75 : Cond.methodLink RX4 75 yX4_isIn ∈ z_T ∧ Cond.static yX4_isIn ∈ z_T := ⟨z_mem 522 rfl rfl, z_mem 523 rfl rfl⟩
set_option maxRecDepth 20000 in
theorem kRL_49 : Cond.methodLink RL 49 yX4_detour ∈ z_T ∧ Cond.instanceMethod yX4_detour ∈ z_T ∧ Cond.selects yX4_detour.cls yX4_detour yX4_detour ∈ z_T := ⟨z_mem 525 rfl rfl, z_mem 526 rfl rfl, z_mem 527 rfl rfl⟩
set_option maxRecDepth 20000 in
theorem kRL_53 : Cond.methodLink RL 53 yX4_board ∈ z_T ∧ Cond.instanceMethod yX4_board ∈ z_T ∧ Cond.selects yX4_board.cls yX4_board yX4_board ∈ z_T := ⟨z_mem 529 rfl rfl, z_mem 530 rfl rfl, z_mem 531 rfl rfl⟩
set_option maxRecDepth 20000 in
theorem kRL_57 : Cond.methodLink RL 57 yX4_unboard ∈ z_T ∧ Cond.instanceMethod yX4_unboard ∈ z_T ∧ Cond.selects yX4_unboard.cls yX4_unboard yX4_unboard ∈ z_T := ⟨z_mem 533 rfl rfl, z_mem 534 rfl rfl, z_mem 535 rfl rfl⟩
set_option maxRecDepth 20000 in
theorem kRL_61 : Cond.methodLink RL 61 yX4_arrow ∈ z_T ∧ Cond.instanceMethod yX4_arrow ∈ z_T ∧ Cond.selects yX4_arrow.cls yX4_arrow yX4_arrow ∈ z_T := ⟨z_mem 537 rfl rfl, z_mem 538 rfl rfl, z_mem 539 rfl rfl⟩
set_option maxRecDepth 20000 in
theorem kRL_65 : Cond.methodLink RL 65 yX4_far ∈ z_T ∧ Cond.instanceMethod yX4_far ∈ z_T ∧ Cond.selects yX4_far.cls yX4_far yX4_far ∈ z_T := ⟨z_mem 541 rfl rfl, z_mem 542 rfl rfl, z_mem 543 rfl rfl⟩
set_option maxRecDepth 20000 in
theorem kRX4_90 : Cond.methodLink RX4 90 yX4_findFar ∈ z_T ∧ Cond.instanceMethod yX4_findFar ∈ z_T ∧ Cond.selects yX4_findFar.cls yX4_findFar yX4_findFar ∈ z_T := ⟨z_mem 545 rfl rfl, z_mem 547 rfl rfl, z_mem 15 rfl rfl⟩
set_option maxRecDepth 20000 in
theorem kRX4_83 : Cond.methodLink RX4 83 yX4_draws ∈ z_T ∧ Cond.instanceMethod yX4_draws ∈ z_T ∧ Cond.selects yX4_draws.cls yX4_draws yX4_draws ∈ z_T := ⟨z_mem 550 rfl rfl, z_mem 552 rfl rfl, z_mem 16 rfl rfl⟩
set_option maxRecDepth 20000 in
theorem kRX4_94 : Cond.methodLink RX4 94 yX4_bestAt ∈ z_T ∧ Cond.instanceMethod yX4_bestAt ∈ z_T ∧ Cond.selects yX4_bestAt.cls yX4_bestAt yX4_bestAt ∈ z_T := ⟨z_mem 554 rfl rfl, z_mem 556 rfl rfl, z_mem 17 rfl rfl⟩
set_option maxRecDepth 20000 in
theorem kRX4_87 : Cond.methodLink RX4 87 yX4_openBetween ∈ z_T ∧ Cond.instanceMethod yX4_openBetween ∈ z_T ∧ Cond.selects yX4_openBetween.cls yX4_openBetween yX4_openBetween ∈ z_T := ⟨z_mem 558 rfl rfl, z_mem 560 rfl rfl, z_mem 18 rfl rfl⟩
set_option maxRecDepth 20000 in
theorem kRL_69 : Cond.methodLink RL 69 yX4_from ∈ z_T ∧ Cond.instanceMethod yX4_from ∈ z_T ∧ Cond.selects yX4_from.cls yX4_from yX4_from ∈ z_T := ⟨z_mem 562 rfl rfl, z_mem 563 rfl rfl, z_mem 564 rfl rfl⟩
set_option maxRecDepth 20000 in
theorem kRL_73 : Cond.methodLink RL 73 yX4_follow ∈ z_T ∧ Cond.instanceMethod yX4_follow ∈ z_T ∧ Cond.selects yX4_follow.cls yX4_follow yX4_follow ∈ z_T := ⟨z_mem 566 rfl rfl, z_mem 567 rfl rfl, z_mem 568 rfl rfl⟩
set_option maxRecDepth 20000 in
theorem kRX4_116 : Cond.methodLink RX4 116 yX4_laysArrows ∈ z_T ∧ Cond.instanceMethod yX4_laysArrows ∈ z_T ∧ Cond.selects yX4_laysArrows.cls yX4_laysArrows yX4_laysArrows ∈ z_T := ⟨z_mem 570 rfl rfl, z_mem 572 rfl rfl, z_mem 19 rfl rfl⟩
set_option maxRecDepth 20000 in
theorem kRX4_119 : Cond.methodLink RX4 119 yX4_follows ∈ z_T ∧ Cond.instanceMethod yX4_follows ∈ z_T ∧ Cond.selects yX4_follows.cls yX4_follows yX4_follows ∈ z_T := ⟨z_mem 574 rfl rfl, z_mem 576 rfl rfl, z_mem 20 rfl rfl⟩
set_option maxRecDepth 20000 in
theorem kRX4_113 : Cond.methodLink RX4 113 yX4_nextWalk ∈ z_T ∧ Cond.instanceMethod yX4_nextWalk ∈ z_T ∧ Cond.selects yX4_nextWalk.cls yX4_nextWalk yX4_nextWalk ∈ z_T := ⟨z_mem 578 rfl rfl, z_mem 580 rfl rfl, z_mem 21 rfl rfl⟩
set_option maxRecDepth 20000 in
theorem kRX4_104 : Cond.methodLink RX4 104 yX4_onlyWalk ∈ z_T ∧ Cond.instanceMethod yX4_onlyWalk ∈ z_T ∧ Cond.selects yX4_onlyWalk.cls yX4_onlyWalk yX4_onlyWalk ∈ z_T := ⟨z_mem 582 rfl rfl, z_mem 584 rfl rfl, z_mem 22 rfl rfl⟩
set_option maxRecDepth 20000 in
theorem kRX4_98 : Cond.methodLink RX4 98 yX4_touches ∈ z_T ∧ Cond.instanceMethod yX4_touches ∈ z_T ∧ Cond.selects yX4_touches.cls yX4_touches yX4_touches ∈ z_T := ⟨z_mem 586 rfl rfl, z_mem 588 rfl rfl, z_mem 23 rfl rfl⟩
set_option maxRecDepth 20000 in
theorem kRL_77 : Cond.methodLink RL 77 yX4_ends ∈ z_T ∧ Cond.instanceMethod yX4_ends ∈ z_T ∧ Cond.selects yX4_ends.cls yX4_ends yX4_ends ∈ z_T := ⟨z_mem 590 rfl rfl, z_mem 591 rfl rfl, z_mem 592 rfl rfl⟩
set_option maxRecDepth 20000 in
theorem kRX4_123 : Cond.methodLink RX4 123 yX4_manyEnd ∈ z_T ∧ Cond.instanceMethod yX4_manyEnd ∈ z_T ∧ Cond.selects yX4_manyEnd.cls yX4_manyEnd yX4_manyEnd ∈ z_T := ⟨z_mem 594 rfl rfl, z_mem 596 rfl rfl, z_mem 24 rfl rfl⟩
set_option maxRecDepth 20000 in
theorem kRL_81 : Cond.methodLink RL 81 yX4_those ∈ z_T ∧ Cond.instanceMethod yX4_those ∈ z_T ∧ Cond.selects yX4_those.cls yX4_those yX4_those ∈ z_T := ⟨z_mem 598 rfl rfl, z_mem 599 rfl rfl, z_mem 600 rfl rfl⟩
set_option maxRecDepth 20000 in
theorem kRL_85 : Cond.methodLink RL 85 yX4_idle ∈ z_T ∧ Cond.instanceMethod yX4_idle ∈ z_T ∧ Cond.selects yX4_idle.cls yX4_idle yX4_idle ∈ z_T := ⟨z_mem 602 rfl rfl, z_mem 603 rfl rfl, z_mem 604 rfl rfl⟩
set_option maxRecDepth 20000 in
theorem kRX4_139 : Cond.methodLink RX4 139 yX4_isIdle ∈ z_T ∧ Cond.instanceMethod yX4_isIdle ∈ z_T ∧ Cond.selects yX4_isIdle.cls yX4_isIdle yX4_isIdle ∈ z_T := ⟨z_mem 606 rfl rfl, z_mem 608 rfl rfl, z_mem 25 rfl rfl⟩
set_option maxRecDepth 20000 in
theorem kRX4_132 : Cond.methodLink RX4 132 yX4_keeps ∈ z_T ∧ Cond.instanceMethod yX4_keeps ∈ z_T ∧ Cond.selects yX4_keeps.cls yX4_keeps yX4_keeps ∈ z_T := ⟨z_mem 610 rfl rfl, z_mem 612 rfl rfl, z_mem 26 rfl rfl⟩
set_option maxRecDepth 20000 in
theorem kRX4_135 : Cond.methodLink RX4 135 yX4_isAsKept ∈ z_T ∧ Cond.instanceMethod yX4_isAsKept ∈ z_T ∧ Cond.selects yX4_isAsKept.cls yX4_isAsKept yX4_isAsKept ∈ z_T := ⟨z_mem 614 rfl rfl, z_mem 616 rfl rfl, z_mem 27 rfl rfl⟩
set_option maxRecDepth 20000 in
theorem kRL_89 : Cond.methodLink RL 89 yX4_mend ∈ z_T ∧ Cond.instanceMethod yX4_mend ∈ z_T ∧ Cond.selects yX4_mend.cls yX4_mend yX4_mend ∈ z_T := ⟨z_mem 618 rfl rfl, z_mem 619 rfl rfl, z_mem 620 rfl rfl⟩
set_option maxRecDepth 20000 in
theorem kRX4_142 : Cond.methodLink RX4 142 yX4_ends ∈ z_T ∧ Cond.instanceMethod yX4_ends ∈ z_T ∧ Cond.selects yX4_ends.cls yX4_ends yX4_ends ∈ z_T := ⟨z_mem 622 rfl rfl, z_mem 591 rfl rfl, z_mem 592 rfl rfl⟩
set_option maxRecDepth 20000 in
theorem kRX4_145 : Cond.methodLink RX4 145 yX4_moreBy ∈ z_T ∧ Cond.instanceMethod yX4_moreBy ∈ z_T ∧ Cond.selects yX4_moreBy.cls yX4_moreBy yX4_moreBy ∈ z_T := ⟨z_mem 623 rfl rfl, z_mem 625 rfl rfl, z_mem 28 rfl rfl⟩
set_option maxRecDepth 20000 in
theorem kRL_93 : Cond.methodLink RL 93 yX4_leads ∈ z_T ∧ Cond.instanceMethod yX4_leads ∈ z_T ∧ Cond.selects yX4_leads.cls yX4_leads yX4_leads ∈ z_T := ⟨z_mem 627 rfl rfl, z_mem 628 rfl rfl, z_mem 629 rfl rfl⟩
set_option maxRecDepth 20000 in
theorem kRX4_154 : Cond.methodLink RX4 154 yX4_leadsTo ∈ z_T ∧ Cond.instanceMethod yX4_leadsTo ∈ z_T ∧ Cond.selects yX4_leadsTo.cls yX4_leadsTo yX4_leadsTo ∈ z_T := ⟨z_mem 631 rfl rfl, z_mem 633 rfl rfl, z_mem 29 rfl rfl⟩
set_option maxRecDepth 20000 in
theorem kRX4_148 : Cond.methodLink RX4 148 yX4_haveBest ∈ z_T ∧ Cond.instanceMethod yX4_haveBest ∈ z_T ∧ Cond.selects yX4_haveBest.cls yX4_haveBest yX4_haveBest ∈ z_T := ⟨z_mem 635 rfl rfl, z_mem 637 rfl rfl, z_mem 30 rfl rfl⟩
set_option maxRecDepth 20000 in
theorem kRX4_151 : Cond.methodLink RX4 151 yX4_doLead ∈ z_T ∧ Cond.instanceMethod yX4_doLead ∈ z_T ∧ Cond.selects yX4_doLead.cls yX4_doLead yX4_doLead ∈ z_T := ⟨z_mem 639 rfl rfl, z_mem 641 rfl rfl, z_mem 31 rfl rfl⟩
set_option maxRecDepth 20000 in
theorem kRL_97 : Cond.methodLink RL 97 yX4_fewest ∈ z_T ∧ Cond.instanceMethod yX4_fewest ∈ z_T ∧ Cond.selects yX4_fewest.cls yX4_fewest yX4_fewest ∈ z_T := ⟨z_mem 643 rfl rfl, z_mem 644 rfl rfl, z_mem 645 rfl rfl⟩
set_option maxRecDepth 20000 in
theorem kRX4_157 : Cond.methodLink RX4 157 yX4_manyOf ∈ z_T ∧ Cond.static yX4_manyOf ∈ z_T := ⟨z_mem 647 rfl rfl, z_mem 648 rfl rfl⟩
set_option maxRecDepth 20000 in
theorem kRL_101 : Cond.methodLink RL 101 yX4_posts ∈ z_T ∧ Cond.instanceMethod yX4_posts ∈ z_T ∧ Cond.selects yX4_posts.cls yX4_posts yX4_posts ∈ z_T := ⟨z_mem 650 rfl rfl, z_mem 651 rfl rfl, z_mem 652 rfl rfl⟩
set_option maxRecDepth 20000 in
theorem kRL_105 : Cond.methodLink RL 105 yX4_many ∈ z_T ∧ Cond.instanceMethod yX4_many ∈ z_T ∧ Cond.selects yX4_many.cls yX4_many yX4_many ∈ z_T := ⟨z_mem 654 rfl rfl, z_mem 655 rfl rfl, z_mem 656 rfl rfl⟩
set_option maxRecDepth 20000 in
theorem kRX4_163 : Cond.methodLink RX4 163 yX4_manyOpen ∈ z_T ∧ Cond.instanceMethod yX4_manyOpen ∈ z_T ∧ Cond.selects yX4_manyOpen.cls yX4_manyOpen yX4_manyOpen ∈ z_T := ⟨z_mem 658 rfl rfl, z_mem 660 rfl rfl, z_mem 32 rfl rfl⟩
set_option maxRecDepth 20000 in
theorem kRX4_167 : Cond.methodLink RX4 167 yX4_allBoards ∈ z_T ∧ Cond.instanceMethod yX4_allBoards ∈ z_T ∧ Cond.selects yX4_allBoards.cls yX4_allBoards yX4_allBoards ∈ z_T := ⟨z_mem 662 rfl rfl, z_mem 664 rfl rfl, z_mem 33 rfl rfl⟩
set_option maxRecDepth 20000 in
theorem kRX4_160 : Cond.methodLink RX4 160 yX4_manyBoards ∈ z_T ∧ Cond.instanceMethod yX4_manyBoards ∈ z_T ∧ Cond.selects yX4_manyBoards.cls yX4_manyBoards yX4_manyBoards ∈ z_T := ⟨z_mem 666 rfl rfl, z_mem 668 rfl rfl, z_mem 34 rfl rfl⟩
set_option maxRecDepth 20000 in
theorem kRX3_182 : Cond.methodLink RX3 182 arraycopyName ∈ z_T ∧ Cond.native arraycopyName ∈ z_T ∧ Cond.static arraycopyName ∈ z_T ∧ Cond.initialized "java/lang/System" ∈ z_T := ⟨z_mem 337 rfl rfl, z_mem 339 rfl rfl, z_mem 338 rfl rfl, z_mem 44 rfl rfl⟩
set_option maxRecDepth 20000 in
theorem kRX1_47 : Cond.static yX3_holds ∈ z_T := z_mem 251 rfl rfl
set_option maxRecDepth 20000 in
theorem fRX0_9 : z_F RX0 9 0 0 := ⟨_, _, _, rfl, by decide, wsX0, z_mem 61 rfl rfl⟩
set_option maxRecDepth 20000 in
theorem fRX2_47 : z_F RX2 47 0 0 := ⟨_, _, _, rfl, by decide, wsX0, z_mem 62 rfl rfl⟩
set_option maxRecDepth 20000 in
theorem fRX3_96 : z_F RX3 96 0 0 := ⟨_, _, _, rfl, by decide, wsX0, z_mem 63 rfl rfl⟩
set_option maxRecDepth 20000 in
theorem fRX0_15 : z_F RX0 15 0 1 := ⟨_, _, _, rfl, by decide, wsX0, z_mem 64 rfl rfl⟩
set_option maxRecDepth 20000 in
theorem fRX2_50 : z_F RX2 50 0 1 := ⟨_, _, _, rfl, by decide, wsX0, z_mem 65 rfl rfl⟩
set_option maxRecDepth 20000 in
theorem fRX3_99 : z_F RX3 99 0 1 := ⟨_, _, _, rfl, by decide, wsX0, z_mem 66 rfl rfl⟩
set_option maxRecDepth 20000 in
theorem fRX0_18 : z_F RX0 18 0 2 := ⟨_, _, _, rfl, by decide, wsX0, z_mem 67 rfl rfl⟩
set_option maxRecDepth 20000 in
theorem fRX2_53 : z_F RX2 53 0 2 := ⟨_, _, _, rfl, by decide, wsX0, z_mem 68 rfl rfl⟩
set_option maxRecDepth 20000 in
theorem fRX3_102 : z_F RX3 102 0 2 := ⟨_, _, _, rfl, by decide, wsX0, z_mem 69 rfl rfl⟩
set_option maxRecDepth 20000 in
theorem fRX0_21 : z_F RX0 21 0 3 := ⟨_, _, _, rfl, by decide, wsX0, z_mem 70 rfl rfl⟩
set_option maxRecDepth 20000 in
theorem fRX2_43 : z_F RX2 43 0 3 := ⟨_, _, _, rfl, by decide, wsX0, z_mem 71 rfl rfl⟩
set_option maxRecDepth 20000 in
theorem fRX3_105 : z_F RX3 105 0 3 := ⟨_, _, _, rfl, by decide, wsX0, z_mem 72 rfl rfl⟩
set_option maxRecDepth 20000 in
theorem fRX0_25 : z_F RX0 25 0 4 := ⟨_, _, _, rfl, by decide, wsX0, z_mem 73 rfl rfl⟩
set_option maxRecDepth 20000 in
theorem fRX1_44 : z_F RX1 44 0 4 := ⟨_, _, _, rfl, by decide, wsX0, z_mem 74 rfl rfl⟩
set_option maxRecDepth 20000 in
theorem fRX3_125 : z_F RX3 125 0 4 := ⟨_, _, _, rfl, by decide, wsX0, z_mem 75 rfl rfl⟩
set_option maxRecDepth 20000 in
theorem fRX0_30 : z_F RX0 30 0 5 := ⟨_, _, _, rfl, by decide, wsX0, z_mem 76 rfl rfl⟩
set_option maxRecDepth 20000 in
theorem fRX1_38 : z_F RX1 38 0 5 := ⟨_, _, _, rfl, by decide, wsX0, z_mem 77 rfl rfl⟩
set_option maxRecDepth 20000 in
theorem fRX2_60 : z_F RX2 60 0 5 := ⟨_, _, _, rfl, by decide, wsX0, z_mem 78 rfl rfl⟩
set_option maxRecDepth 20000 in
theorem fRX0_33 : z_F RX0 33 0 6 := ⟨_, _, _, rfl, by decide, wsX0, z_mem 79 rfl rfl⟩
set_option maxRecDepth 20000 in
theorem pRX0_33 : z_P RX0 33 0 6 := ⟨_, _, _, tyX0, rfl, by decide, wsX0, z_mem 79 rfl rfl, tyX0_ok, nmX0, rfl, rfl⟩
set_option maxRecDepth 20000 in
theorem fRX3_78 : z_F RX3 78 0 6 := ⟨_, _, _, rfl, by decide, wsX0, z_mem 80 rfl rfl⟩
set_option maxRecDepth 20000 in
theorem pRX3_78 : z_P RX3 78 0 6 := ⟨_, _, _, tyX0, rfl, by decide, wsX0, z_mem 80 rfl rfl, tyX0_ok, nmX0, rfl, rfl⟩
set_option maxRecDepth 20000 in
theorem fRX2_37 : z_F RX2 37 0 6 := ⟨_, _, _, rfl, by decide, wsX0, z_mem 81 rfl rfl⟩
set_option maxRecDepth 20000 in
theorem pRX2_37 : z_P RX2 37 0 6 := ⟨_, _, _, tyX0, rfl, by decide, wsX0, z_mem 81 rfl rfl, tyX0_ok, nmX0, rfl, rfl⟩
set_option maxRecDepth 20000 in
theorem fRX2_11 : z_F RX2 11 2 0 := ⟨_, _, _, rfl, by decide, wsX2, z_mem 106 rfl rfl⟩
set_option maxRecDepth 20000 in
theorem fRX3_119 : z_F RX3 119 2 0 := ⟨_, _, _, rfl, by decide, wsX2, z_mem 107 rfl rfl⟩
set_option maxRecDepth 20000 in
theorem fRX2_16 : z_F RX2 16 2 1 := ⟨_, _, _, rfl, by decide, wsX2, z_mem 108 rfl rfl⟩
set_option maxRecDepth 20000 in
theorem fRX3_122 : z_F RX3 122 2 1 := ⟨_, _, _, rfl, by decide, wsX2, z_mem 109 rfl rfl⟩
set_option maxRecDepth 20000 in
theorem fRX2_19 : z_F RX2 19 2 2 := ⟨_, _, _, rfl, by decide, wsX2, z_mem 110 rfl rfl⟩
set_option maxRecDepth 20000 in
theorem fRX3_195 : z_F RX3 195 2 2 := ⟨_, _, _, rfl, by decide, wsX2, z_mem 111 rfl rfl⟩
set_option maxRecDepth 20000 in
theorem fRX1_9 : z_F RX1 9 1 0 := ⟨_, _, _, rfl, by decide, wsX1, z_mem 125 rfl rfl⟩
set_option maxRecDepth 20000 in
theorem fRX1_15 : z_F RX1 15 1 1 := ⟨_, _, _, rfl, by decide, wsX1, z_mem 126 rfl rfl⟩
set_option maxRecDepth 20000 in
theorem fRX1_18 : z_F RX1 18 1 2 := ⟨_, _, _, rfl, by decide, wsX1, z_mem 127 rfl rfl⟩
set_option maxRecDepth 20000 in
theorem pRX1_18 : z_P RX1 18 1 2 := ⟨_, _, _, tyX1, rfl, by decide, wsX1, z_mem 127 rfl rfl, tyX1_ok, nmX1, rfl, rfl⟩
set_option maxRecDepth 20000 in
theorem fRX3_135 : z_F RX3 135 1 2 := ⟨_, _, _, rfl, by decide, wsX1, z_mem 128 rfl rfl⟩
set_option maxRecDepth 20000 in
theorem pRX3_135 : z_P RX3 135 1 2 := ⟨_, _, _, tyX1, rfl, by decide, wsX1, z_mem 128 rfl rfl, tyX1_ok, nmX1, rfl, rfl⟩
set_option maxRecDepth 20000 in
theorem fRX1_22 : z_F RX1 22 1 3 := ⟨_, _, _, rfl, by decide, wsX1, z_mem 129 rfl rfl⟩
set_option maxRecDepth 20000 in
theorem pRX1_22 : z_P RX1 22 1 3 := ⟨_, _, _, tyX1, rfl, by decide, wsX1, z_mem 129 rfl rfl, tyX1_ok, nmX1, rfl, rfl⟩
set_option maxRecDepth 20000 in
theorem fRX3_138 : z_F RX3 138 1 3 := ⟨_, _, _, rfl, by decide, wsX1, z_mem 130 rfl rfl⟩
set_option maxRecDepth 20000 in
theorem pRX3_138 : z_P RX3 138 1 3 := ⟨_, _, _, tyX1, rfl, by decide, wsX1, z_mem 130 rfl rfl, tyX1_ok, nmX1, rfl, rfl⟩
set_option maxRecDepth 20000 in
theorem fRX1_25 : z_F RX1 25 1 4 := ⟨_, _, _, rfl, by decide, wsX1, z_mem 131 rfl rfl⟩
set_option maxRecDepth 20000 in
theorem pRX1_25 : z_P RX1 25 1 4 := ⟨_, _, _, tyX1, rfl, by decide, wsX1, z_mem 131 rfl rfl, tyX1_ok, nmX1, rfl, rfl⟩
set_option maxRecDepth 20000 in
theorem fRX3_132 : z_F RX3 132 1 4 := ⟨_, _, _, rfl, by decide, wsX1, z_mem 132 rfl rfl⟩
set_option maxRecDepth 20000 in
theorem pRX3_132 : z_P RX3 132 1 4 := ⟨_, _, _, tyX1, rfl, by decide, wsX1, z_mem 132 rfl rfl, tyX1_ok, nmX1, rfl, rfl⟩
set_option maxRecDepth 20000 in
theorem fRX3_12 : z_F RX3 12 3 0 := ⟨_, _, _, rfl, by decide, wsX3, z_mem 148 rfl rfl⟩
set_option maxRecDepth 20000 in
theorem fRX3_19 : z_F RX3 19 3 1 := ⟨_, _, _, rfl, by decide, wsX3, z_mem 149 rfl rfl⟩
set_option maxRecDepth 20000 in
theorem fRX3_26 : z_F RX3 26 3 2 := ⟨_, _, _, rfl, by decide, wsX3, z_mem 150 rfl rfl⟩
set_option maxRecDepth 20000 in
theorem fRX3_30 : z_F RX3 30 3 3 := ⟨_, _, _, rfl, by decide, wsX3, z_mem 151 rfl rfl⟩
set_option maxRecDepth 20000 in
theorem fRX3_33 : z_F RX3 33 3 4 := ⟨_, _, _, rfl, by decide, wsX3, z_mem 152 rfl rfl⟩
set_option maxRecDepth 20000 in
theorem fRX3_39 : z_F RX3 39 3 5 := ⟨_, _, _, rfl, by decide, wsX3, z_mem 153 rfl rfl⟩
set_option maxRecDepth 20000 in
theorem fRX3_48 : z_F RX3 48 3 6 := ⟨_, _, _, rfl, by decide, wsX3, z_mem 154 rfl rfl⟩
set_option maxRecDepth 20000 in
theorem fRX3_51 : z_F RX3 51 3 7 := ⟨_, _, _, rfl, by decide, wsX3, z_mem 155 rfl rfl⟩
set_option maxRecDepth 20000 in
theorem pRX3_51 : z_P RX3 51 3 7 := ⟨_, _, _, tyX3, rfl, by decide, wsX3, z_mem 155 rfl rfl, tyX3_ok, nmX3, rfl, rfl⟩
set_option maxRecDepth 20000 in
theorem fRX3_55 : z_F RX3 55 3 8 := ⟨_, _, _, rfl, by decide, wsX3, z_mem 156 rfl rfl⟩
set_option maxRecDepth 20000 in
theorem pRX3_55 : z_P RX3 55 3 8 := ⟨_, _, _, tyX3, rfl, by decide, wsX3, z_mem 156 rfl rfl, tyX3_ok, nmX3, rfl, rfl⟩
set_option maxRecDepth 20000 in
theorem fRX3_58 : z_F RX3 58 3 9 := ⟨_, _, _, rfl, by decide, wsX3, z_mem 157 rfl rfl⟩
set_option maxRecDepth 20000 in
theorem pRX3_58 : z_P RX3 58 3 9 := ⟨_, _, _, tyX3, rfl, by decide, wsX3, z_mem 157 rfl rfl, tyX3_ok, nmX3, rfl, rfl⟩
set_option maxRecDepth 20000 in
theorem fRX3_61 : z_F RX3 61 3 10 := ⟨_, _, _, rfl, by decide, wsX3, z_mem 158 rfl rfl⟩
set_option maxRecDepth 20000 in
theorem pRX3_61 : z_P RX3 61 3 10 := ⟨_, _, _, tyX3, rfl, by decide, wsX3, z_mem 158 rfl rfl, tyX3_ok, nmX3, rfl, rfl⟩
set_option maxRecDepth 20000 in
theorem fRX3_64 : z_F RX3 64 3 11 := ⟨_, _, _, rfl, by decide, wsX3, z_mem 159 rfl rfl⟩
set_option maxRecDepth 20000 in
theorem pRX3_64 : z_P RX3 64 3 11 := ⟨_, _, _, tyX3, rfl, by decide, wsX3, z_mem 159 rfl rfl, tyX3_ok, nmX3, rfl, rfl⟩
set_option maxRecDepth 20000 in
theorem fRX3_67 : z_F RX3 67 3 12 := ⟨_, _, _, rfl, by decide, wsX3, z_mem 160 rfl rfl⟩
set_option maxRecDepth 20000 in
theorem pRX3_67 : z_P RX3 67 3 12 := ⟨_, _, _, tyX3, rfl, by decide, wsX3, z_mem 160 rfl rfl, tyX3_ok, nmX3, rfl, rfl⟩
set_option maxRecDepth 20000 in
theorem fRX4_51 : z_F RX4 51 4 0 := ⟨_, _, _, rfl, by decide, wsX4, z_mem 412 rfl rfl⟩
set_option maxRecDepth 20000 in
theorem pRX4_51 : z_P RX4 51 4 0 := ⟨_, _, _, tyX4, rfl, by decide, wsX4, z_mem 412 rfl rfl, tyX4_ok, nmX4, rfl, rfl⟩
set_option maxRecDepth 20000 in
theorem fRX4_7 : z_F RX4 7 4 1 := ⟨_, _, _, rfl, by decide, wsX4, z_mem 413 rfl rfl⟩
set_option maxRecDepth 20000 in
theorem fRX4_13 : z_F RX4 13 4 2 := ⟨_, _, _, rfl, by decide, wsX4, z_mem 414 rfl rfl⟩
set_option maxRecDepth 20000 in
theorem fRX4_16 : z_F RX4 16 4 3 := ⟨_, _, _, rfl, by decide, wsX4, z_mem 415 rfl rfl⟩
set_option maxRecDepth 20000 in
theorem fRX4_19 : z_F RX4 19 4 4 := ⟨_, _, _, rfl, by decide, wsX4, z_mem 416 rfl rfl⟩
set_option maxRecDepth 20000 in
theorem fRX4_55 : z_F RX4 55 4 5 := ⟨_, _, _, rfl, by decide, wsX4, z_mem 417 rfl rfl⟩
set_option maxRecDepth 20000 in
theorem pRX4_55 : z_P RX4 55 4 5 := ⟨_, _, _, tyX4, rfl, by decide, wsX4, z_mem 417 rfl rfl, tyX4_ok, nmX4, rfl, rfl⟩
set_option maxRecDepth 20000 in
theorem fRX4_23 : z_F RX4 23 4 6 := ⟨_, _, _, rfl, by decide, wsX4, z_mem 418 rfl rfl⟩
set_option maxRecDepth 20000 in
theorem fRX4_72 : z_F RX4 72 4 7 := ⟨_, _, _, rfl, by decide, wsX4, z_mem 419 rfl rfl⟩
set_option maxRecDepth 20000 in
theorem pRX4_72 : z_P RX4 72 4 7 := ⟨_, _, _, tyX4, rfl, by decide, wsX4, z_mem 419 rfl rfl, tyX4_ok, nmX4, rfl, rfl⟩
set_option maxRecDepth 20000 in
theorem fRX4_79 : z_F RX4 79 4 8 := ⟨_, _, _, rfl, by decide, wsX4, z_mem 420 rfl rfl⟩
set_option maxRecDepth 20000 in
theorem pRX4_79 : z_P RX4 79 4 8 := ⟨_, _, _, tyX4, rfl, by decide, wsX4, z_mem 420 rfl rfl, tyX4_ok, nmX4, rfl, rfl⟩
set_option maxRecDepth 20000 in
theorem fRX4_26 : z_F RX4 26 4 9 := ⟨_, _, _, rfl, by decide, wsX4, z_mem 421 rfl rfl⟩
set_option maxRecDepth 20000 in
theorem fRX4_29 : z_F RX4 29 4 10 := ⟨_, _, _, rfl, by decide, wsX4, z_mem 422 rfl rfl⟩
set_option maxRecDepth 20000 in
theorem fRX4_32 : z_F RX4 32 4 11 := ⟨_, _, _, rfl, by decide, wsX4, z_mem 423 rfl rfl⟩
set_option maxRecDepth 20000 in
theorem fRX4_35 : z_F RX4 35 4 12 := ⟨_, _, _, rfl, by decide, wsX4, z_mem 424 rfl rfl⟩
set_option maxRecDepth 20000 in
theorem fRX4_101 : z_F RX4 101 4 13 := ⟨_, _, _, rfl, by decide, wsX4, z_mem 425 rfl rfl⟩
set_option maxRecDepth 20000 in
theorem pRX4_101 : z_P RX4 101 4 13 := ⟨_, _, _, tyX4, rfl, by decide, wsX4, z_mem 425 rfl rfl, tyX4_ok, nmX4, rfl, rfl⟩
set_option maxRecDepth 20000 in
theorem fRX4_107 : z_F RX4 107 4 14 := ⟨_, _, _, rfl, by decide, wsX4, z_mem 426 rfl rfl⟩
set_option maxRecDepth 20000 in
theorem pRX4_107 : z_P RX4 107 4 14 := ⟨_, _, _, tyX4, rfl, by decide, wsX4, z_mem 426 rfl rfl, tyX4_ok, nmX4, rfl, rfl⟩
set_option maxRecDepth 20000 in
theorem fRX4_110 : z_F RX4 110 4 15 := ⟨_, _, _, rfl, by decide, wsX4, z_mem 427 rfl rfl⟩
set_option maxRecDepth 20000 in
theorem pRX4_110 : z_P RX4 110 4 15 := ⟨_, _, _, tyX4, rfl, by decide, wsX4, z_mem 427 rfl rfl, tyX4_ok, nmX4, rfl, rfl⟩
set_option maxRecDepth 20000 in
theorem fRX4_38 : z_F RX4 38 4 16 := ⟨_, _, _, rfl, by decide, wsX4, z_mem 428 rfl rfl⟩
set_option maxRecDepth 20000 in
theorem fRX4_126 : z_F RX4 126 4 17 := ⟨_, _, _, rfl, by decide, wsX4, z_mem 429 rfl rfl⟩
set_option maxRecDepth 20000 in
theorem pRX4_126 : z_P RX4 126 4 17 := ⟨_, _, _, tyX4, rfl, by decide, wsX4, z_mem 429 rfl rfl, tyX4_ok, nmX4, rfl, rfl⟩
set_option maxRecDepth 20000 in
theorem fRX4_129 : z_F RX4 129 4 18 := ⟨_, _, _, rfl, by decide, wsX4, z_mem 430 rfl rfl⟩
set_option maxRecDepth 20000 in
theorem pRX4_129 : z_P RX4 129 4 18 := ⟨_, _, _, tyX4, rfl, by decide, wsX4, z_mem 430 rfl rfl, tyX4_ok, nmX4, rfl, rfl⟩
set_option maxRecDepth 20000 in
theorem fRX4_41 : z_F RX4 41 4 19 := ⟨_, _, _, rfl, by decide, wsX4, z_mem 431 rfl rfl⟩
set_option maxRecDepth 20000 in
theorem fRX4_44 : z_F RX4 44 4 20 := ⟨_, _, _, rfl, by decide, wsX4, z_mem 432 rfl rfl⟩
set_option maxRecDepth 20000 in
theorem qRJ6_265 : Cond.constant RJ6 265 1431655765 ∈ z_T := z_mem 307 rfl rfl
set_option maxRecDepth 20000 in
theorem qRJ6_266 : Cond.constant RJ6 266 858993459 ∈ z_T := z_mem 308 rfl rfl
set_option maxRecDepth 20000 in
theorem qRJ6_267 : Cond.constant RJ6 267 252645135 ∈ z_T := z_mem 309 rfl rfl
set_option maxRecDepth 20000 in
theorem qRX4_82 : Cond.constant RX4 82 100000 ∈ z_T := z_mem 549 rfl rfl
