def mX4_get : MT := (RX4, cX4_get, 3, (some (.object "SheepChess$Meadow")), 1)
def mX2_copyFrom : MT := (RX2, cX2_copyFrom, 2, none, 1)
def mX2_occupant : MT := (RX2, cX2_occupant, 3, (some .int), 1)
def mX1_hasBeast : MT := (RX1, cX1_hasBeast, 2, (some .boolean), 1)
def mX2_kindOf : MT := (RX2, cX2_kindOf, 2, (some .int), 1)
def mX1_villageOf : MT := (RX1, cX1_villageOf, 2, (some .int), 1)
def mX1_turnsPawn : MT := (RX1, cX1_turnsPawn, 3, (some .boolean), 1)
def mX2_put : MT := (RX2, cX2_put, 4, none, 2)
def mX2_move : MT := (RX2, cX2_move, 5, none, 3)
def mX2_graze : MT := (RX2, cX2_graze, 3, none, 1)
def mX2_beginNextDay : MT := (RX2, cX2_beginNextDay, 2, none, 2)
def mX2_passDay : MT := (RX2, cX2_passDay, 1, none, 3)
def mX0_pass : MT := (RX0, cX0_pass, 5, (some (.object "SheepChess$Meadow")), 4)
def mX2_ramOnWell : MT := (RX2, cX2_ramOnWell, 3, (some .boolean), 2)
def mX2_lost : MT := (RX2, cX2_lost, 5, (some .int), 2)
def mX2_staying : MT := (RX2, cX2_staying, 4, (some .int), 2)
def mX2_turn : MT := (RX2, cX2_turn, 1, (some .int), 1)
def mX1_snowsOn : MT := (RX1, cX1_snowsOn, 2, (some .boolean), 1)
def mX2_snowing : MT := (RX2, cX2_snowing, 1, (some .boolean), 2)
def mX2_placeOf : MT := (RX2, cX2_placeOf, 2, (some .int), 1)
def mX2_isOff : MT := (RX2, cX2_isOff, 2, (some .boolean), 2)
def mX1_beside : MT := (RX1, cX1_beside, 3, (some .int), 1)
def mX2_grassOn : MT := (RX2, cX2_grassOn, 2, (some .int), 1)
def mX2_ramBeside : MT := (RX2, cX2_ramBeside, 7, (some .boolean), 1)
def mX2_isOpen : MT := (RX2, cX2_isOpen, 6, (some .boolean), 2)
def mX2_reach : MT := (RX2, cX2_reach, 8, (some .int), 3)
def mX2_driven : MT := (RX2, cX2_driven, 3, (some .int), 4)
def mX0_note : MT := (RX0, cX0_note, 3, none, 1)
def mX0_comesToWell (n : Nat) : MT := (RX0, cX0_comesToWell, 11, (some .boolean), 5 + n)
def mX0_daysToWell : MT := (RX0, cX0_daysToWell, 4, (some .int), 18)
def mX0_onOwnDay : MT := (RX0, cX0_onOwnDay, 2, (some .int), 1)
def mX2_worth : MT := (RX2, cX2_worth, 4, (some .int), 2)
def mX0_worthFrom (n : Nat) : MT := (RX0, cX0_worthFrom, 10, (some .int), 5 + n)
def mX0_worthBehind : MT := (RX0, cX0_worthBehind, 3, (some .int), 18)
def mX2_bogBeside : MT := (RX2, cX2_bogBeside, 4, (some .boolean), 2)
def mX2_wolfComes : MT := (RX2, cX2_wolfComes, 2, none, 3)
def mX0_stayingFrom (n : Nat) : MT := (RX0, cX0_stayingFrom, 9, (some .long), 4 + n)
def mX0_staying : MT := (RX0, cX0_staying, 5, (some .long), 17)
def mX1_clear : MT := (RX1, cX1_clear, 1, none, 1)
def mX1_copyFrom : MT := (RX1, cX1_copyFrom, 2, none, 1)
def mX1_hasSquare : MT := (RX1, cX1_hasSquare, 2, (some .boolean), 1)
def mX2_hungerOf : MT := (RX2, cX2_hungerOf, 2, (some .int), 1)
def mX2_live : MT := (RX2, cX2_live, 4, none, 5)
def mX2_allGrass : MT := (RX2, cX2_allGrass, 3, (some .int), 1)
def mJM_floorMod : MT := ("java/lang/Math", cJ9_floorMod_7cf53, 3, (some .int), 1)
def mX3_slot : MT := (RX3, cX3_slot, 2, (some .int), 2)
def mX3_before : MT := (RX3, cX3_before, 2, (some (.object "SheepChess$Meadow")), 3)
def mX3_add : MT := (RX3, cX3_add, 4, none, 3)
def mX3_otherwiseIs : MT := (RX3, cX3_otherwiseIs, 8, (some .boolean), 6)
def mX5_add : MT := (RX5, cX5_add, 2, (some .boolean), 1)
def mX5_letterAtHead : MT := (RX5, cX5_letterAtHead, 1, (some .int), 1)
def mX5_readFigure : MT := (RX5, cX5_readFigure, 2, (some .int), 1)
def mX5_passes : MT := (RX5, cX5_passes, 2, (some .boolean), 2)
def mX5_readRow : MT := (RX5, cX5_readRow, 5, (some .boolean), 3)
def mX5_readNumber : MT := (RX5, cX5_readNumber, 3, (some .int), 2)
def mX7_isVillage : MT := (RX7, cX7_isVillage, 1, (some .boolean), 1)
def mX5_readBeast : MT := (RX5, cX5_readBeast, 6, (some .boolean), 3)
def mX5_readWell : MT := (RX5, cX5_readWell, 2, (some .boolean), 3)
def mX5_readHunger : MT := (RX5, cX5_readHunger, 2, (some .boolean), 3)
def mX5_readSnow : MT := (RX5, cX5_readSnow, 2, (some .boolean), 3)
def mX5_readItem : MT := (RX5, cX5_readItem, 2, (some .boolean), 4)
def mX5_firstFault : MT := (RX5, cX5_firstFault, 3, (some .int), 5)
def mX6_add : MT := (RX6, cX6_add, 7, none, 2)
def mX6_from : MT := (RX6, cX6_from, 6, none, 4)
def mX6_first : MT := (RX6, cX6_first, 3, (some .int), 1)
def mX6_drivesTo : MT := (RX6, cX6_drivesTo, 2, (some .int), 1)
def mX6_wayTo : MT := (RX6, cX6_wayTo, 5, (some .int), 1)
def mX6_squaresWithin : MT := (RX6, cX6_squaresWithin, 5, (some .int), 2)
def mX7_write : MT := (RX7, cX7_write, 2, (some .int), 2)
def mX7_wipe : MT := (RX7, cX7_wipe, 2, (some .int), 1)
def mX7_fault : MT := (RX7, cX7_fault, 1, (some .int), 6)
def mX7_begin : MT := (RX7, cX7_begin, 1, (some .boolean), 6)
def mX7_lay : MT := (RX7, cX7_lay, 1, (some .int), 7)
def mX7_square : MT := (RX7, cX7_square, 3, (some .int), 2)
def mX7_beast : MT := (RX7, cX7_beast, 3, (some .int), 2)
def mX7_isWay : MT := (RX7, cX7_isWay, 1, (some .boolean), 1)
def mX7_goes : MT := (RX7, cX7_goes, 3, (some .int), 4)
def mX7_takes : MT := (RX7, cX7_takes, 3, (some .int), 4)
def mX7_drive : MT := (RX7, cX7_drive, 4, (some .int), 5)
def mX7_rest : MT := (RX7, cX7_rest, 1, (some .int), 4)
def mX7_undo : MT := (RX7, cX7_undo, 1, (some .int), 4)
def mX7_fewest : MT := (RX7, cX7_fewest, 5, (some .int), 5)
def mX7_stray : MT := (RX7, cX7_stray, 3, (some .int), 5)
def mX7_summer : MT := (RX7, cX7_summer, 4, (some .int), 19)
def mX7_game : MT := (RX7, cX7_game, 4, (some .int), 19)
def mX7_again : MT := (RX7, cX7_again, 3, (some .int), 4)
def mX7_starves : MT := (RX7, cX7_starves, 3, (some .int), 4)
def mX7_otherwise : MT := (RX7, cX7_otherwise, 8, (some .int), 7)
def mX7_commonPart : MT := (RX7, cX7_commonPart, 11, (some .long), 1)
def mX7_wolves : MT := (RX7, cX7_wolves, 12, (some .int), 18)
def mX7_draw : MT := (RX7, cX7_draw, 4, (some .int), 1)
def mX7_season : MT := (RX7, cX7_season, 7, (some .int), 6)
def mX7_keep : MT := (RX7, cX7_keep, 1, (some .int), 2)
def mX7_back : MT := (RX7, cX7_back, 1, (some .int), 2)
def mX7_count : MT := (RX7, cX7_count, 2, (some .int), 3)
def mX8_tellsRow : MT := (RX8, cX8_tellsRow, 4, none, 1)
def mX8_tellsBeast : MT := (RX8, cX8_tellsBeast, 4, none, 1)
def mX8_in : MT := (RX8, cX8_in, 3, (some .boolean), 1)
def mX8_has : MT := (RX8, cX8_has, 2, (some .boolean), 1)
def mX8_isBeast : MT := (RX8, cX8_isBeast, 2, (some .boolean), 2)
def mX8_isSquare : MT := (RX8, cX8_isSquare, 2, (some .boolean), 2)
def mX8_write : MT := (RX8, cX8_write, 2, (some .int), 2)
def mX8_wipe : MT := (RX8, cX8_wipe, 2, (some .int), 1)
def mX8_letterAt : MT := (RX8, cX8_letterAt, 2, (some .int), 1)
def mX8_isFigure : MT := (RX8, cX8_isFigure, 1, (some .boolean), 2)
def mX8_readNumbers : MT := (RX8, cX8_readNumbers, 3, (some .boolean), 3)
def mX8_isTold : MT := (RX8, cX8_isTold, 4, (some .boolean), 2)
def mX8_clearTold : MT := (RX8, cX8_clearTold, 2, none, 1)
def mX8_readRow : MT := (RX8, cX8_readRow, 3, (some .boolean), 3)
def mX8_isDry : MT := (RX8, cX8_isDry, 2, (some .boolean), 3)
def mX8_readBeastItem : MT := (RX8, cX8_readBeastItem, 3, (some .boolean), 4)
def mX8_readItem : MT := (RX8, cX8_readItem, 2, (some .boolean), 5)
def mX8_fault : MT := (RX8, cX8_fault, 2, (some .int), 6)
def mX8_copies : MT := (RX8, cX8_copies, 6, none, 1)
def mX8_settles : MT := (RX8, cX8_settles, 2, none, 2)
def mX8_lay : MT := (RX8, cX8_lay, 1, (some .int), 7)
def mX8_asItIs : MT := (RX8, cX8_asItIs, 1, none, 2)
def mX8_kindOf : MT := (RX8, cX8_kindOf, 2, (some .int), 2)
def mX8_nextTo : MT := (RX8, cX8_nextTo, 3, (some .int), 1)
def mX8_onIt : MT := (RX8, cX8_onIt, 4, (some .int), 1)
def mX8_isSnow : MT := (RX8, cX8_isSnow, 1, (some .boolean), 1)
def mX8_isNearRam : MT := (RX8, cX8_isNearRam, 7, (some .boolean), 3)
def mX8_stepTo : MT := (RX8, cX8_stepTo, 7, (some .int), 4)
def mX8_comesTo : MT := (RX8, cX8_comesTo, 9, (some .int), 5)
def mX8_stands : MT := (RX8, cX8_stands, 4, none, 1)
def mX8_grazes : MT := (RX8, cX8_grazes, 3, none, 1)
def mX8_nextDay : MT := (RX8, cX8_nextDay, 2, none, 2)
def mX8_goesBy : MT := (RX8, cX8_goesBy, 4, none, 6)
def mX8_lost : MT := (RX8, cX8_lost, 4, (some .int), 1)
def mX8_canDrive : MT := (RX8, cX8_canDrive, 3, (some .boolean), 6)
def mX8_worth : MT := (RX8, cX8_worth, 5, (some .int), 3)
def mX8_onMeadow : MT := (RX8, cX8_onMeadow, 4, (some .int), 1)
def mX8_orNone : MT := (RX8, cX8_orNone, 1, (some .int), 1)
def mX8_square : MT := (RX8, cX8_square, 3, (some .int), 3)
def mX8_beast : MT := (RX8, cX8_beast, 3, (some .int), 3)
def mX8_looksAt : MT := (RX8, cX8_looksAt, 3, (some .int), 3)
def mX8_goes : MT := (RX8, cX8_goes, 4, (some .int), 6)
def mX8_takes : MT := (RX8, cX8_takes, 5, (some .int), 6)
def mX8_does : MT := (RX8, cX8_does, 3, none, 7)
def mX8_drive : MT := (RX8, cX8_drive, 4, (some .int), 8)
def mX8_rest : MT := (RX8, cX8_rest, 1, (some .int), 8)
def mX8_undo : MT := (RX8, cX8_undo, 1, (some .int), 2)
def mX8_reaches : MT := (RX8, cX8_reaches, 4, none, 1)
def mX8_nowOne : MT := (RX8, cX8_nowOne, 2, (some .int), 2)
def mX8_strays : MT := (RX8, cX8_strays, 8, none, 6)
def mX8_fewest : MT := (RX8, cX8_fewest, 6, (some .int), 7)
def mX8_stray : MT := (RX8, cX8_stray, 5, (some .int), 7)
def mX8_nextDrive : MT := (RX8, cX8_nextDrive, 3, (some .int), 7)
def mX8_isWatered : MT := (RX8, cX8_isWatered, 4, (some .boolean), 1)
def mX8_isSummer : MT := (RX8, cX8_isSummer, 7, (some .boolean), 8)
def mX8_summer : MT := (RX8, cX8_summer, 5, (some .int), 9)
def mX8_isFirstOf : MT := (RX8, cX8_isFirstOf, 2, (some .boolean), 8)
def mX8_plays : MT := (RX8, cX8_plays, 9, (some .int), 9)
def mX8_game : MT := (RX8, cX8_game, 4, (some .int), 10)
def mX8_again : MT := (RX8, cX8_again, 3, (some .int), 7)
def mX8_starves : MT := (RX8, cX8_starves, 3, (some .int), 7)
def mX8_isOtherwise : MT := (RX8, cX8_isOtherwise, 6, (some .boolean), 7)
def mX8_otherwise : MT := (RX8, cX8_otherwise, 8, (some .int), 8)
def mX8_isNearBog : MT := (RX8, cX8_isNearBog, 5, (some .boolean), 2)
def mX8_wolf : MT := (RX8, cX8_wolf, 2, none, 3)
def mX8_lowest : MT := (RX8, cX8_lowest, 6, (some .int), 1)
def mX8_wolves : MT := (RX8, cX8_wolves, 10, (some .int), 4)
def mX8_season : MT := (RX8, cX8_season, 9, (some .int), 7)
def mX8_keep : MT := (RX8, cX8_keep, 1, (some .int), 2)
def mX8_back : MT := (RX8, cX8_back, 1, (some .int), 2)
def mX8_count : MT := (RX8, cX8_count, 4, (some .int), 4)
set_option maxRecDepth 100000 in
theorem co_X2_isOff : Cond.code yX2_isOff cX2_isOff 2 (some .boolean) ∈ wT := (wTi 524 rfl rfl)
set_option maxRecDepth 100000 in
theorem ini_2 : Cond.initialized RX2 ∈ wT := (wTi 67 rfl rfl)
set_option maxRecDepth 100000 in
theorem im_X2_isOff : Cond.instanceMethod yX2_isOff ∈ wT := (wTi 522 rfl rfl)
set_option maxRecDepth 100000 in
theorem se_X2_isOff : Cond.selects RX2 yX2_isOff yX2_isOff ∈ wT := (wTi 523 rfl rfl)
set_option maxRecDepth 100000 in
theorem lk0_103 : LV RX0 103 yX2_isOff mX2_isOff 1 2 := ⟨LV5 (wTi 767 rfl rfl) im_X2_isOff se_X2_isOff ini_2 co_X2_isOff, ⟨ne_0.1, ne_0.2, pd_0⟩, _, _, rfl⟩
set_option maxRecDepth 100000 in
theorem co_X2_graze : Cond.code yX2_graze cX2_graze 3 none ∈ wT := (wTi 612 rfl rfl)
set_option maxRecDepth 100000 in
theorem im_X2_graze : Cond.instanceMethod yX2_graze ∈ wT := (wTi 610 rfl rfl)
set_option maxRecDepth 100000 in
theorem se_X2_graze : Cond.selects RX2 yX2_graze yX2_graze ∈ wT := (wTi 611 rfl rfl)
set_option maxRecDepth 100000 in
theorem lk0_106 : LV RX0 106 yX2_graze mX2_graze 0 2 := ⟨LV5 (wTi 768 rfl rfl) im_X2_graze se_X2_graze ini_2 co_X2_graze, ⟨ne_0.1, ne_0.2, pd_1⟩, _, _, rfl⟩
set_option maxRecDepth 100000 in
theorem co_X2_wolfComes : Cond.code yX2_wolfComes cX2_wolfComes 2 none ∈ wT := (wTi 772 rfl rfl)
set_option maxRecDepth 100000 in
theorem im_X2_wolfComes : Cond.instanceMethod yX2_wolfComes ∈ wT := (wTi 770 rfl rfl)
set_option maxRecDepth 100000 in
theorem se_X2_wolfComes : Cond.selects RX2 yX2_wolfComes yX2_wolfComes ∈ wT := (wTi 771 rfl rfl)
set_option maxRecDepth 100000 in
theorem lk0_109 : LV RX0 109 yX2_wolfComes mX2_wolfComes 0 2 := ⟨LV5 (wTi 769 rfl rfl) im_X2_wolfComes se_X2_wolfComes ini_2 co_X2_wolfComes, ⟨ne_0.1, ne_0.2, pd_1⟩, _, _, rfl⟩
set_option maxRecDepth 100000 in
theorem co_X2_beginNextDay : Cond.code yX2_beginNextDay cX2_beginNextDay 2 none ∈ wT := (wTi 616 rfl rfl)
set_option maxRecDepth 100000 in
theorem im_X2_beginNextDay : Cond.instanceMethod yX2_beginNextDay ∈ wT := (wTi 614 rfl rfl)
set_option maxRecDepth 100000 in
theorem se_X2_beginNextDay : Cond.selects RX2 yX2_beginNextDay yX2_beginNextDay ∈ wT := (wTi 615 rfl rfl)
set_option maxRecDepth 100000 in
theorem lk0_112 : LV RX0 112 yX2_beginNextDay mX2_beginNextDay 0 2 := ⟨LV5 (wTi 777 rfl rfl) im_X2_beginNextDay se_X2_beginNextDay ini_2 co_X2_beginNextDay, ⟨ne_0.1, ne_0.2, pd_1⟩, _, _, rfl⟩
set_option maxRecDepth 100000 in
theorem co_X4_get : Cond.code yX4_get cX4_get 3 (some (.object "SheepChess$Meadow")) ∈ wT := (wTi 594 rfl rfl)
set_option maxRecDepth 100000 in
theorem ini_4 : Cond.initialized RX4 ∈ wT := (wTi 69 rfl rfl)
set_option maxRecDepth 100000 in
theorem im_X4_get : Cond.instanceMethod yX4_get ∈ wT := (wTi 592 rfl rfl)
set_option maxRecDepth 100000 in
theorem se_X4_get : Cond.selects RX4 yX4_get yX4_get ∈ wT := (wTi 593 rfl rfl)
set_option maxRecDepth 100000 in
theorem lk0_35 : LV RX0 35 yX4_get mX4_get 1 4 := ⟨LV5 (wTi 678 rfl rfl) im_X4_get se_X4_get ini_4 co_X4_get, ⟨ne_1.1, ne_1.2, pd_2⟩, _, _, rfl⟩
set_option maxRecDepth 100000 in
theorem co_X2_copyFrom : Cond.code yX2_copyFrom cX2_copyFrom 2 none ∈ wT := (wTi 436 rfl rfl)
set_option maxRecDepth 100000 in
theorem im_X2_copyFrom : Cond.instanceMethod yX2_copyFrom ∈ wT := (wTi 434 rfl rfl)
set_option maxRecDepth 100000 in
theorem se_X2_copyFrom : Cond.selects RX2 yX2_copyFrom yX2_copyFrom ∈ wT := (wTi 435 rfl rfl)
set_option maxRecDepth 100000 in
theorem lk0_39 : LV RX0 39 yX2_copyFrom mX2_copyFrom 1 2 := ⟨LV5 (wTi 679 rfl rfl) im_X2_copyFrom se_X2_copyFrom ini_2 co_X2_copyFrom, ⟨ne_0.1, ne_0.2, pd_3⟩, _, _, rfl⟩
set_option maxRecDepth 100000 in
theorem co_X2_move : Cond.code yX2_move cX2_move 5 none ∈ wT := (wTi 599 rfl rfl)
set_option maxRecDepth 100000 in
theorem im_X2_move : Cond.instanceMethod yX2_move ∈ wT := (wTi 597 rfl rfl)
set_option maxRecDepth 100000 in
theorem se_X2_move : Cond.selects RX2 yX2_move yX2_move ∈ wT := (wTi 598 rfl rfl)
set_option maxRecDepth 100000 in
theorem lk0_45 : LV RX0 45 yX2_move mX2_move 2 2 := ⟨LV5 (wTi 698 rfl rfl) im_X2_move se_X2_move ini_2 co_X2_move, ⟨ne_0.1, ne_0.2, pd_4⟩, _, _, rfl⟩
set_option maxRecDepth 100000 in
theorem co_X2_passDay : Cond.code yX2_passDay cX2_passDay 1 none ∈ wT := (wTi 608 rfl rfl)
set_option maxRecDepth 100000 in
theorem im_X2_passDay : Cond.instanceMethod yX2_passDay ∈ wT := (wTi 606 rfl rfl)
set_option maxRecDepth 100000 in
theorem se_X2_passDay : Cond.selects RX2 yX2_passDay yX2_passDay ∈ wT := (wTi 607 rfl rfl)
set_option maxRecDepth 100000 in
theorem lk0_49 : LV RX0 49 yX2_passDay mX2_passDay 0 2 := ⟨LV5 (wTi 699 rfl rfl) im_X2_passDay se_X2_passDay ini_2 co_X2_passDay, ⟨ne_0.1, ne_0.2, pd_1⟩, _, _, rfl⟩
set_option maxRecDepth 100000 in
theorem co_X0_comesToWell : Cond.code yX0_comesToWell cX0_comesToWell 11 (some .boolean) ∈ wT := (wTi 683 rfl rfl)
set_option maxRecDepth 100000 in
theorem ini_0 : Cond.initialized RX0 ∈ wT := (wTi 71 rfl rfl)
set_option maxRecDepth 100000 in
theorem im_X0_comesToWell : Cond.instanceMethod yX0_comesToWell ∈ wT := (wTi 682 rfl rfl)
set_option maxRecDepth 100000 in
theorem se_X0_comesToWell : Cond.selects RX0 yX0_comesToWell yX0_comesToWell ∈ wT := (wTi 15 rfl rfl)
set_option maxRecDepth 100000 in
theorem lk0_52 : LV RX0 52 yX0_comesToWell (mX0_comesToWell 0) 4 0 := ⟨LV5 (wTi 680 rfl rfl) im_X0_comesToWell se_X0_comesToWell ini_0 co_X0_comesToWell, ⟨ne_2.1, ne_2.2, pd_5⟩, _, _, rfl⟩
set_option maxRecDepth 100000 in
theorem co_X2_ramOnWell : Cond.code yX2_ramOnWell cX2_ramOnWell 3 (some .boolean) ∈ wT := (wTi 687 rfl rfl)
set_option maxRecDepth 100000 in
theorem im_X2_ramOnWell : Cond.instanceMethod yX2_ramOnWell ∈ wT := (wTi 685 rfl rfl)
set_option maxRecDepth 100000 in
theorem se_X2_ramOnWell : Cond.selects RX2 yX2_ramOnWell yX2_ramOnWell ∈ wT := (wTi 686 rfl rfl)
set_option maxRecDepth 100000 in
theorem lk0_56 : LV RX0 56 yX2_ramOnWell mX2_ramOnWell 1 2 := ⟨LV5 (wTi 684 rfl rfl) im_X2_ramOnWell se_X2_ramOnWell ini_2 co_X2_ramOnWell, ⟨ne_0.1, ne_0.2, pd_0⟩, _, _, rfl⟩
set_option maxRecDepth 100000 in
theorem co_X2_lost : Cond.code yX2_lost cX2_lost 5 (some .int) ∈ wT := (wTi 579 rfl rfl)
set_option maxRecDepth 100000 in
theorem im_X2_lost : Cond.instanceMethod yX2_lost ∈ wT := (wTi 577 rfl rfl)
set_option maxRecDepth 100000 in
theorem se_X2_lost : Cond.selects RX2 yX2_lost yX2_lost ∈ wT := (wTi 578 rfl rfl)
set_option maxRecDepth 100000 in
theorem lk0_60 : LV RX0 60 yX2_lost mX2_lost 0 2 := ⟨LV5 (wTi 688 rfl rfl) im_X2_lost se_X2_lost ini_2 co_X2_lost, ⟨ne_0.1, ne_0.2, pd_6⟩, _, _, rfl⟩
set_option maxRecDepth 100000 in
theorem co_X2_staying : Cond.code yX2_staying cX2_staying 4 (some .int) ∈ wT := (wTi 692 rfl rfl)
set_option maxRecDepth 100000 in
theorem im_X2_staying : Cond.instanceMethod yX2_staying ∈ wT := (wTi 690 rfl rfl)
set_option maxRecDepth 100000 in
theorem se_X2_staying : Cond.selects RX2 yX2_staying yX2_staying ∈ wT := (wTi 691 rfl rfl)
set_option maxRecDepth 100000 in
theorem lk0_64 : LV RX0 64 yX2_staying mX2_staying 1 2 := ⟨LV5 (wTi 689 rfl rfl) im_X2_staying se_X2_staying ini_2 co_X2_staying, ⟨ne_0.1, ne_0.2, pd_7⟩, _, _, rfl⟩
set_option maxRecDepth 100000 in
theorem co_X2_turn : Cond.code yX2_turn cX2_turn 1 (some .int) ∈ wT := (wTi 573 rfl rfl)
set_option maxRecDepth 100000 in
theorem im_X2_turn : Cond.instanceMethod yX2_turn ∈ wT := (wTi 571 rfl rfl)
set_option maxRecDepth 100000 in
theorem se_X2_turn : Cond.selects RX2 yX2_turn yX2_turn ∈ wT := (wTi 572 rfl rfl)
set_option maxRecDepth 100000 in
theorem lk0_68 : LV RX0 68 yX2_turn mX2_turn 0 2 := ⟨LV5 (wTi 693 rfl rfl) im_X2_turn se_X2_turn ini_2 co_X2_turn, ⟨ne_0.1, ne_0.2, pd_6⟩, _, _, rfl⟩
set_option maxRecDepth 100000 in
theorem co_X0_pass : Cond.code yX0_pass cX0_pass 5 (some (.object "SheepChess$Meadow")) ∈ wT := (wTi 697 rfl rfl)
set_option maxRecDepth 100000 in
theorem im_X0_pass : Cond.instanceMethod yX0_pass ∈ wT := (wTi 696 rfl rfl)
set_option maxRecDepth 100000 in
theorem se_X0_pass : Cond.selects RX0 yX0_pass yX0_pass ∈ wT := (wTi 16 rfl rfl)
set_option maxRecDepth 100000 in
theorem lk0_71 : LV RX0 71 yX0_pass mX0_pass 3 0 := ⟨LV5 (wTi 694 rfl rfl) im_X0_pass se_X0_pass ini_0 co_X0_pass, ⟨ne_2.1, ne_2.2, pd_8⟩, _, _, rfl⟩
set_option maxRecDepth 100000 in
theorem co_X2_driven : Cond.code yX2_driven cX2_driven 3 (some .int) ∈ wT := (wTi 569 rfl rfl)
set_option maxRecDepth 100000 in
theorem im_X2_driven : Cond.instanceMethod yX2_driven ∈ wT := (wTi 567 rfl rfl)
set_option maxRecDepth 100000 in
theorem se_X2_driven : Cond.selects RX2 yX2_driven yX2_driven ∈ wT := (wTi 568 rfl rfl)
set_option maxRecDepth 100000 in
theorem lk0_80 : LV RX0 80 yX2_driven mX2_driven 2 2 := ⟨LV5 (wTi 700 rfl rfl) im_X2_driven se_X2_driven ini_2 co_X2_driven, ⟨ne_0.1, ne_0.2, pd_9⟩, _, _, rfl⟩
set_option maxRecDepth 100000 in
theorem co_X2_kindOf : Cond.code yX2_kindOf cX2_kindOf 2 (some .int) ∈ wT := (wTi 501 rfl rfl)
set_option maxRecDepth 100000 in
theorem im_X2_kindOf : Cond.instanceMethod yX2_kindOf ∈ wT := (wTi 499 rfl rfl)
set_option maxRecDepth 100000 in
theorem se_X2_kindOf : Cond.selects RX2 yX2_kindOf yX2_kindOf ∈ wT := (wTi 500 rfl rfl)
set_option maxRecDepth 100000 in
theorem lk0_87 : LV RX0 87 yX2_kindOf mX2_kindOf 1 2 := ⟨LV5 (wTi 701 rfl rfl) im_X2_kindOf se_X2_kindOf ini_2 co_X2_kindOf, ⟨ne_0.1, ne_0.2, pd_7⟩, _, _, rfl⟩
set_option maxRecDepth 100000 in
theorem co_X0_note : Cond.code yX0_note cX0_note 3 none ∈ wT := (wTi 705 rfl rfl)
set_option maxRecDepth 100000 in
theorem im_X0_note : Cond.instanceMethod yX0_note ∈ wT := (wTi 704 rfl rfl)
set_option maxRecDepth 100000 in
theorem se_X0_note : Cond.selects RX0 yX0_note yX0_note ∈ wT := (wTi 17 rfl rfl)
set_option maxRecDepth 100000 in
theorem lk0_90 : LV RX0 90 yX0_note mX0_note 2 0 := ⟨LV5 (wTi 702 rfl rfl) im_X0_note se_X0_note ini_0 co_X0_note, ⟨ne_2.1, ne_2.2, pd_4⟩, _, _, rfl⟩
set_option maxRecDepth 100000 in
theorem co_X0_worthFrom : Cond.code yX0_worthFrom cX0_worthFrom 10 (some .int) ∈ wT := (wTi 721 rfl rfl)
set_option maxRecDepth 100000 in
theorem im_X0_worthFrom : Cond.instanceMethod yX0_worthFrom ∈ wT := (wTi 720 rfl rfl)
set_option maxRecDepth 100000 in
theorem se_X0_worthFrom : Cond.selects RX0 yX0_worthFrom yX0_worthFrom ∈ wT := (wTi 18 rfl rfl)
set_option maxRecDepth 100000 in
theorem lk0_93 : LV RX0 93 yX0_worthFrom (mX0_worthFrom 0) 2 0 := ⟨LV5 (wTi 718 rfl rfl) im_X0_worthFrom se_X0_worthFrom ini_0 co_X0_worthFrom, ⟨ne_2.1, ne_2.2, pd_9⟩, _, _, rfl⟩
set_option maxRecDepth 100000 in
theorem co_X2_worth : Cond.code yX2_worth cX2_worth 4 (some .int) ∈ wT := (wTi 725 rfl rfl)
set_option maxRecDepth 100000 in
theorem im_X2_worth : Cond.instanceMethod yX2_worth ∈ wT := (wTi 723 rfl rfl)
set_option maxRecDepth 100000 in
theorem se_X2_worth : Cond.selects RX2 yX2_worth yX2_worth ∈ wT := (wTi 724 rfl rfl)
set_option maxRecDepth 100000 in
theorem lk0_96 : LV RX0 96 yX2_worth mX2_worth 0 2 := ⟨LV5 (wTi 722 rfl rfl) im_X2_worth se_X2_worth ini_2 co_X2_worth, ⟨ne_0.1, ne_0.2, pd_6⟩, _, _, rfl⟩
set_option maxRecDepth 100000 in
theorem co_X0_stayingFrom : Cond.code yX0_stayingFrom cX0_stayingFrom 9 (some .long) ∈ wT := (wTi 766 rfl rfl)
set_option maxRecDepth 100000 in
theorem im_X0_stayingFrom : Cond.instanceMethod yX0_stayingFrom ∈ wT := (wTi 765 rfl rfl)
set_option maxRecDepth 100000 in
theorem se_X0_stayingFrom : Cond.selects RX0 yX0_stayingFrom yX0_stayingFrom ∈ wT := (wTi 19 rfl rfl)
set_option maxRecDepth 100000 in
theorem lk0_99 : LV RX0 99 yX0_stayingFrom (mX0_stayingFrom 0) 4 0 := ⟨LV5 (wTi 763 rfl rfl) im_X0_stayingFrom se_X0_stayingFrom ini_0 co_X0_stayingFrom, ⟨ne_2.1, ne_2.2, pd_10⟩, _, _, rfl⟩
set_option maxRecDepth 100000 in
theorem co_X2_reach : Cond.code yX2_reach cX2_reach 8 (some .int) ∈ wT := (wTi 537 rfl rfl)
set_option maxRecDepth 100000 in
theorem im_X2_reach : Cond.instanceMethod yX2_reach ∈ wT := (wTi 535 rfl rfl)
set_option maxRecDepth 100000 in
theorem se_X2_reach : Cond.selects RX2 yX2_reach yX2_reach ∈ wT := (wTi 536 rfl rfl)
set_option maxRecDepth 100000 in
theorem lk2_103 : LV RX2 103 yX2_reach mX2_reach 3 2 := ⟨LV5 (wTi 575 rfl rfl) im_X2_reach se_X2_reach ini_2 co_X2_reach, ⟨ne_0.1, ne_0.2, pd_11⟩, _, _, rfl⟩
set_option maxRecDepth 100000 in
theorem co_X1_turnsPawn : Cond.code yX1_turnsPawn cX1_turnsPawn 3 (some .boolean) ∈ wT := (wTi 603 rfl rfl)
set_option maxRecDepth 100000 in
theorem ini_1 : Cond.initialized RX1 ∈ wT := (wTi 65 rfl rfl)
set_option maxRecDepth 100000 in
theorem im_X1_turnsPawn : Cond.instanceMethod yX1_turnsPawn ∈ wT := (wTi 601 rfl rfl)
set_option maxRecDepth 100000 in
theorem se_X1_turnsPawn : Cond.selects RX1 yX1_turnsPawn yX1_turnsPawn ∈ wT := (wTi 602 rfl rfl)
set_option maxRecDepth 100000 in
theorem lk2_107 : LV RX2 107 yX1_turnsPawn mX1_turnsPawn 2 1 := ⟨LV5 (wTi 600 rfl rfl) im_X1_turnsPawn se_X1_turnsPawn ini_1 co_X1_turnsPawn, ⟨ne_3.1, ne_3.2, pd_12⟩, _, _, rfl⟩
set_option maxRecDepth 100000 in
theorem co_X2_put : Cond.code yX2_put cX2_put 4 none ∈ wT := (wTi 409 rfl rfl)
set_option maxRecDepth 100000 in
theorem im_X2_put : Cond.instanceMethod yX2_put ∈ wT := (wTi 407 rfl rfl)
set_option maxRecDepth 100000 in
theorem se_X2_put : Cond.selects RX2 yX2_put yX2_put ∈ wT := (wTi 408 rfl rfl)
set_option maxRecDepth 100000 in
theorem lk2_110 : LV RX2 110 yX2_put mX2_put 3 2 := ⟨LV5 (wTi 604 rfl rfl) im_X2_put se_X2_put ini_2 co_X2_put, ⟨ne_0.1, ne_0.2, pd_13⟩, _, _, rfl⟩
set_option maxRecDepth 100000 in
theorem lk2_114 : LV RX2 114 yX2_driven mX2_driven 2 2 := ⟨LV5 (wTi 750 rfl rfl) im_X2_driven se_X2_driven ini_2 co_X2_driven, ⟨ne_0.1, ne_0.2, pd_9⟩, _, _, rfl⟩
set_option maxRecDepth 100000 in
theorem lk2_117 : LV RX2 117 yX2_move mX2_move 2 2 := ⟨LV5 (wTi 751 rfl rfl) im_X2_move se_X2_move ini_2 co_X2_move, ⟨ne_0.1, ne_0.2, pd_4⟩, _, _, rfl⟩
set_option maxRecDepth 100000 in
theorem lk2_121 : LV RX2 121 yX2_passDay mX2_passDay 0 2 := ⟨LV5 (wTi 752 rfl rfl) im_X2_passDay se_X2_passDay ini_2 co_X2_passDay, ⟨ne_0.1, ne_0.2, pd_1⟩, _, _, rfl⟩
set_option maxRecDepth 100000 in
theorem lk2_124 : LV RX2 124 yX2_graze mX2_graze 0 2 := ⟨LV5 (wTi 609 rfl rfl) im_X2_graze se_X2_graze ini_2 co_X2_graze, ⟨ne_0.1, ne_0.2, pd_1⟩, _, _, rfl⟩
set_option maxRecDepth 100000 in
theorem lk2_127 : LV RX2 127 yX2_beginNextDay mX2_beginNextDay 0 2 := ⟨LV5 (wTi 613 rfl rfl) im_X2_beginNextDay se_X2_beginNextDay ini_2 co_X2_beginNextDay, ⟨ne_0.1, ne_0.2, pd_1⟩, _, _, rfl⟩
set_option maxRecDepth 100000 in
theorem co_X2_bogBeside : Cond.code yX2_bogBeside cX2_bogBeside 4 (some .boolean) ∈ wT := (wTi 776 rfl rfl)
set_option maxRecDepth 100000 in
theorem im_X2_bogBeside : Cond.instanceMethod yX2_bogBeside ∈ wT := (wTi 775 rfl rfl)
set_option maxRecDepth 100000 in
theorem se_X2_bogBeside : Cond.selects RX2 yX2_bogBeside yX2_bogBeside ∈ wT := (wTi 20 rfl rfl)
set_option maxRecDepth 100000 in
theorem lk2_133 : LV RX2 133 yX2_bogBeside mX2_bogBeside 1 2 := ⟨LV5 (wTi 773 rfl rfl) im_X2_bogBeside se_X2_bogBeside ini_2 co_X2_bogBeside, ⟨ne_0.1, ne_0.2, pd_0⟩, _, _, rfl⟩
set_option maxRecDepth 100000 in
theorem co_X2_placeOf : Cond.code yX2_placeOf cX2_placeOf 2 (some .int) ∈ wT := (wTi 509 rfl rfl)
set_option maxRecDepth 100000 in
theorem im_X2_placeOf : Cond.instanceMethod yX2_placeOf ∈ wT := (wTi 507 rfl rfl)
set_option maxRecDepth 100000 in
theorem se_X2_placeOf : Cond.selects RX2 yX2_placeOf yX2_placeOf ∈ wT := (wTi 508 rfl rfl)
set_option maxRecDepth 100000 in
theorem lk2_46 : LV RX2 46 yX2_placeOf mX2_placeOf 1 2 := ⟨LV5 (wTi 525 rfl rfl) im_X2_placeOf se_X2_placeOf ini_2 co_X2_placeOf, ⟨ne_0.1, ne_0.2, pd_7⟩, _, _, rfl⟩
set_option maxRecDepth 100000 in
theorem co_X1_snowsOn : Cond.code yX1_snowsOn cX1_snowsOn 2 (some .boolean) ∈ wT := (wTi 533 rfl rfl)
set_option maxRecDepth 100000 in
theorem im_X1_snowsOn : Cond.instanceMethod yX1_snowsOn ∈ wT := (wTi 531 rfl rfl)
set_option maxRecDepth 100000 in
theorem se_X1_snowsOn : Cond.selects RX1 yX1_snowsOn yX1_snowsOn ∈ wT := (wTi 532 rfl rfl)
set_option maxRecDepth 100000 in
theorem lk2_50 : LV RX2 50 yX1_snowsOn mX1_snowsOn 1 1 := ⟨LV5 (wTi 530 rfl rfl) im_X1_snowsOn se_X1_snowsOn ini_1 co_X1_snowsOn, ⟨ne_3.1, ne_3.2, pd_0⟩, _, _, rfl⟩
set_option maxRecDepth 100000 in
theorem co_X1_hasBeast : Cond.code yX1_hasBeast cX1_hasBeast 2 (some .boolean) ∈ wT := (wTi 413 rfl rfl)
set_option maxRecDepth 100000 in
theorem im_X1_hasBeast : Cond.instanceMethod yX1_hasBeast ∈ wT := (wTi 411 rfl rfl)
set_option maxRecDepth 100000 in
theorem se_X1_hasBeast : Cond.selects RX1 yX1_hasBeast yX1_hasBeast ∈ wT := (wTi 412 rfl rfl)
set_option maxRecDepth 100000 in
theorem lk2_54 : LV RX2 54 yX1_hasBeast mX1_hasBeast 1 1 := ⟨LV5 (wTi 410 rfl rfl) im_X1_hasBeast se_X1_hasBeast ini_1 co_X1_hasBeast, ⟨ne_3.1, ne_3.2, pd_0⟩, _, _, rfl⟩
set_option maxRecDepth 100000 in
theorem lk2_57 : LV RX2 57 yX2_kindOf mX2_kindOf 1 2 := ⟨LV5 (wTi 538 rfl rfl) im_X2_kindOf se_X2_kindOf ini_2 co_X2_kindOf, ⟨ne_0.1, ne_0.2, pd_7⟩, _, _, rfl⟩
set_option maxRecDepth 100000 in
theorem lk2_60 : LV RX2 60 yX2_isOff mX2_isOff 1 2 := ⟨LV5 (wTi 539 rfl rfl) im_X2_isOff se_X2_isOff ini_2 co_X2_isOff, ⟨ne_0.1, ne_0.2, pd_0⟩, _, _, rfl⟩
set_option maxRecDepth 100000 in
theorem co_X1_villageOf : Cond.code yX1_villageOf cX1_villageOf 2 (some .int) ∈ wT := (wTi 505 rfl rfl)
set_option maxRecDepth 100000 in
theorem im_X1_villageOf : Cond.instanceMethod yX1_villageOf ∈ wT := (wTi 503 rfl rfl)
set_option maxRecDepth 100000 in
theorem se_X1_villageOf : Cond.selects RX1 yX1_villageOf yX1_villageOf ∈ wT := (wTi 504 rfl rfl)
set_option maxRecDepth 100000 in
theorem lk2_63 : LV RX2 63 yX1_villageOf mX1_villageOf 1 1 := ⟨LV5 (wTi 540 rfl rfl) im_X1_villageOf se_X1_villageOf ini_1 co_X1_villageOf, ⟨ne_3.1, ne_3.2, pd_7⟩, _, _, rfl⟩
set_option maxRecDepth 100000 in
theorem co_X1_beside : Cond.code yX1_beside cX1_beside 3 (some .int) ∈ wT := (wTi 544 rfl rfl)
set_option maxRecDepth 100000 in
theorem im_X1_beside : Cond.instanceMethod yX1_beside ∈ wT := (wTi 542 rfl rfl)
set_option maxRecDepth 100000 in
theorem se_X1_beside : Cond.selects RX1 yX1_beside yX1_beside ∈ wT := (wTi 543 rfl rfl)
set_option maxRecDepth 100000 in
theorem lk2_66 : LV RX2 66 yX1_beside mX1_beside 2 1 := ⟨LV5 (wTi 541 rfl rfl) im_X1_beside se_X1_beside ini_1 co_X1_beside, ⟨ne_3.1, ne_3.2, pd_9⟩, _, _, rfl⟩
set_option maxRecDepth 100000 in
theorem co_X2_isOpen : Cond.code yX2_isOpen cX2_isOpen 6 (some .boolean) ∈ wT := (wTi 548 rfl rfl)
set_option maxRecDepth 100000 in
theorem im_X2_isOpen : Cond.instanceMethod yX2_isOpen ∈ wT := (wTi 547 rfl rfl)
set_option maxRecDepth 100000 in
theorem se_X2_isOpen : Cond.selects RX2 yX2_isOpen yX2_isOpen ∈ wT := (wTi 11 rfl rfl)
set_option maxRecDepth 100000 in
theorem lk2_70 : LV RX2 70 yX2_isOpen mX2_isOpen 3 2 := ⟨LV5 (wTi 545 rfl rfl) im_X2_isOpen se_X2_isOpen ini_2 co_X2_isOpen, ⟨ne_0.1, ne_0.2, pd_14⟩, _, _, rfl⟩
set_option maxRecDepth 100000 in
theorem co_X2_grassOn : Cond.code yX2_grassOn cX2_grassOn 2 (some .int) ∈ wT := (wTi 401 rfl rfl)
set_option maxRecDepth 100000 in
theorem im_X2_grassOn : Cond.instanceMethod yX2_grassOn ∈ wT := (wTi 399 rfl rfl)
set_option maxRecDepth 100000 in
theorem se_X2_grassOn : Cond.selects RX2 yX2_grassOn yX2_grassOn ∈ wT := (wTi 400 rfl rfl)
set_option maxRecDepth 100000 in
theorem lk2_74 : LV RX2 74 yX2_grassOn mX2_grassOn 1 2 := ⟨LV5 (wTi 549 rfl rfl) im_X2_grassOn se_X2_grassOn ini_2 co_X2_grassOn, ⟨ne_0.1, ne_0.2, pd_7⟩, _, _, rfl⟩
set_option maxRecDepth 100000 in
theorem co_X2_occupant : Cond.code yX2_occupant cX2_occupant 3 (some .int) ∈ wT := (wTi 405 rfl rfl)
set_option maxRecDepth 100000 in
theorem im_X2_occupant : Cond.instanceMethod yX2_occupant ∈ wT := (wTi 403 rfl rfl)
set_option maxRecDepth 100000 in
theorem se_X2_occupant : Cond.selects RX2 yX2_occupant yX2_occupant ∈ wT := (wTi 404 rfl rfl)
set_option maxRecDepth 100000 in
theorem lk2_77 : LV RX2 77 yX2_occupant mX2_occupant 1 2 := ⟨LV5 (wTi 550 rfl rfl) im_X2_occupant se_X2_occupant ini_2 co_X2_occupant, ⟨ne_0.1, ne_0.2, pd_7⟩, _, _, rfl⟩
set_option maxRecDepth 100000 in
theorem co_X2_ramBeside : Cond.code yX2_ramBeside cX2_ramBeside 7 (some .boolean) ∈ wT := (wTi 554 rfl rfl)
set_option maxRecDepth 100000 in
theorem im_X2_ramBeside : Cond.instanceMethod yX2_ramBeside ∈ wT := (wTi 553 rfl rfl)
set_option maxRecDepth 100000 in
theorem se_X2_ramBeside : Cond.selects RX2 yX2_ramBeside yX2_ramBeside ∈ wT := (wTi 12 rfl rfl)
set_option maxRecDepth 100000 in
theorem lk2_80 : LV RX2 80 yX2_ramBeside mX2_ramBeside 2 2 := ⟨LV5 (wTi 551 rfl rfl) im_X2_ramBeside se_X2_ramBeside ini_2 co_X2_ramBeside, ⟨ne_0.1, ne_0.2, pd_12⟩, _, _, rfl⟩
set_option maxRecDepth 100000 in
theorem lk2_95 : LV RX2 95 yX2_turn mX2_turn 0 2 := ⟨LV5 (wTi 570 rfl rfl) im_X2_turn se_X2_turn ini_2 co_X2_turn, ⟨ne_0.1, ne_0.2, pd_6⟩, _, _, rfl⟩
set_option maxRecDepth 100000 in
theorem co_X2_snowing : Cond.code yX2_snowing cX2_snowing 1 (some .boolean) ∈ wT := (wTi 529 rfl rfl)
set_option maxRecDepth 100000 in
theorem im_X2_snowing : Cond.instanceMethod yX2_snowing ∈ wT := (wTi 527 rfl rfl)
set_option maxRecDepth 100000 in
theorem se_X2_snowing : Cond.selects RX2 yX2_snowing yX2_snowing ∈ wT := (wTi 528 rfl rfl)
set_option maxRecDepth 100000 in
theorem lk2_99 : LV RX2 99 yX2_snowing mX2_snowing 0 2 := ⟨LV5 (wTi 574 rfl rfl) im_X2_snowing se_X2_snowing ini_2 co_X2_snowing, ⟨ne_0.1, ne_0.2, pd_15⟩, _, _, rfl⟩
set_option maxRecDepth 100000 in
theorem co_JM_floorMod : Cond.code yJ9_floorMod_7cf53 cJ9_floorMod_7cf53 3 (some .int) ∈ wT := (wTi 590 rfl rfl)
set_option maxRecDepth 100000 in
theorem ini_JM : Cond.initialized "java/lang/Math" ∈ wT := (wTi 78 rfl rfl)
set_option maxRecDepth 100000 in
theorem sm_JM_floorMod : Cond.static yJ9_floorMod_7cf53 ∈ wT := (wTi 589 rfl rfl)
set_option maxRecDepth 100000 in
theorem lk3_35 : LVS RX3 35 yJ9_floorMod_7cf53 mJM_floorMod 2 := ⟨LS4 (wTi 588 rfl rfl) sm_JM_floorMod ini_JM co_JM_floorMod, ⟨ne_4.1, ne_4.2, pd_9⟩⟩
set_option maxRecDepth 100000 in
theorem co_X3_slot : Cond.code yX3_slot cX3_slot 2 (some .int) ∈ wT := (wTi 587 rfl rfl)
set_option maxRecDepth 100000 in
theorem ini_3 : Cond.initialized RX3 ∈ wT := (wTi 68 rfl rfl)
set_option maxRecDepth 100000 in
theorem im_X3_slot : Cond.instanceMethod yX3_slot ∈ wT := (wTi 586 rfl rfl)
set_option maxRecDepth 100000 in
theorem se_X3_slot : Cond.selects RX3 yX3_slot yX3_slot ∈ wT := (wTi 13 rfl rfl)
set_option maxRecDepth 100000 in
theorem lk3_41 : LV RX3 41 yX3_slot mX3_slot 1 3 := ⟨LV5 (wTi 584 rfl rfl) im_X3_slot se_X3_slot ini_3 co_X3_slot, ⟨ne_5.1, ne_5.2, pd_7⟩, _, _, rfl⟩
set_option maxRecDepth 100000 in
theorem lk3_45 : LV RX3 45 yX4_get mX4_get 1 4 := ⟨LV5 (wTi 591 rfl rfl) im_X4_get se_X4_get ini_4 co_X4_get, ⟨ne_1.1, ne_1.2, pd_2⟩, _, _, rfl⟩
set_option maxRecDepth 100000 in
theorem lk3_49 : LV RX3 49 yX2_copyFrom mX2_copyFrom 1 2 := ⟨LV5 (wTi 595 rfl rfl) im_X2_copyFrom se_X2_copyFrom ini_2 co_X2_copyFrom, ⟨ne_0.1, ne_0.2, pd_3⟩, _, _, rfl⟩
set_option maxRecDepth 100000 in
theorem co_X3_before : Cond.code yX3_before cX3_before 2 (some (.object "SheepChess$Meadow")) ∈ wT := (wTi 628 rfl rfl)
set_option maxRecDepth 100000 in
theorem im_X3_before : Cond.instanceMethod yX3_before ∈ wT := (wTi 626 rfl rfl)
set_option maxRecDepth 100000 in
theorem se_X3_before : Cond.selects RX3 yX3_before yX3_before ∈ wT := (wTi 627 rfl rfl)
set_option maxRecDepth 100000 in
theorem lk3_55 : LV RX3 55 yX3_before mX3_before 1 3 := ⟨LV5 (wTi 744 rfl rfl) im_X3_before se_X3_before ini_3 co_X3_before, ⟨ne_5.1, ne_5.2, pd_2⟩, _, _, rfl⟩
set_option maxRecDepth 100000 in
theorem lk3_58 : LV RX3 58 yX2_driven mX2_driven 2 2 := ⟨LV5 (wTi 745 rfl rfl) im_X2_driven se_X2_driven ini_2 co_X2_driven, ⟨ne_0.1, ne_0.2, pd_9⟩, _, _, rfl⟩
set_option maxRecDepth 100000 in
theorem co_X2_live : Cond.code yX2_live cX2_live 4 none ∈ wT := (wTi 749 rfl rfl)
set_option maxRecDepth 100000 in
theorem im_X2_live : Cond.instanceMethod yX2_live ∈ wT := (wTi 747 rfl rfl)
set_option maxRecDepth 100000 in
theorem se_X2_live : Cond.selects RX2 yX2_live yX2_live ∈ wT := (wTi 748 rfl rfl)
set_option maxRecDepth 100000 in
theorem lk3_61 : LV RX3 61 yX2_live mX2_live 1 2 := ⟨LV5 (wTi 746 rfl rfl) im_X2_live se_X2_live ini_2 co_X2_live, ⟨ne_0.1, ne_0.2, pd_16⟩, _, _, rfl⟩
set_option maxRecDepth 100000 in
theorem lk3_65 : LV RX3 65 yX2_lost mX2_lost 0 2 := ⟨LV5 (wTi 753 rfl rfl) im_X2_lost se_X2_lost ini_2 co_X2_lost, ⟨ne_0.1, ne_0.2, pd_6⟩, _, _, rfl⟩
set_option maxRecDepth 100000 in
theorem lk5_108 : LV RX5 108 yX2_put mX2_put 3 2 := ⟨LV5 (wTi 406 rfl rfl) im_X2_put se_X2_put ini_2 co_X2_put, ⟨ne_0.1, ne_0.2, pd_13⟩, _, _, rfl⟩
set_option maxRecDepth 100000 in
theorem co_X1_clear : Cond.code yX1_clear cX1_clear 1 none ∈ wT := (wTi 366 rfl rfl)
set_option maxRecDepth 100000 in
theorem im_X1_clear : Cond.instanceMethod yX1_clear ∈ wT := (wTi 364 rfl rfl)
set_option maxRecDepth 100000 in
theorem se_X1_clear : Cond.selects RX1 yX1_clear yX1_clear ∈ wT := (wTi 365 rfl rfl)
set_option maxRecDepth 100000 in
theorem lk5_38 : LV RX5 38 yX1_clear mX1_clear 0 1 := ⟨LV5 (wTi 363 rfl rfl) im_X1_clear se_X1_clear ini_1 co_X1_clear, ⟨ne_3.1, ne_3.2, pd_1⟩, _, _, rfl⟩
set_option maxRecDepth 100000 in
theorem co_X5_readItem : Cond.code yX5_readItem cX5_readItem 2 (some .boolean) ∈ wT := (wTi 370 rfl rfl)
set_option maxRecDepth 100000 in
theorem ini_5 : Cond.initialized RX5 ∈ wT := (wTi 66 rfl rfl)
set_option maxRecDepth 100000 in
theorem im_X5_readItem : Cond.instanceMethod yX5_readItem ∈ wT := (wTi 369 rfl rfl)
set_option maxRecDepth 100000 in
theorem se_X5_readItem : Cond.selects RX5 yX5_readItem yX5_readItem ∈ wT := (wTi 1 rfl rfl)
set_option maxRecDepth 100000 in
theorem lk5_44 : LV RX5 44 yX5_readItem mX5_readItem 0 5 := ⟨LV5 (wTi 367 rfl rfl) im_X5_readItem se_X5_readItem ini_5 co_X5_readItem, ⟨ne_6.1, ne_6.2, pd_15⟩, _, _, rfl⟩
set_option maxRecDepth 100000 in
theorem co_X5_letterAtHead : Cond.code yX5_letterAtHead cX5_letterAtHead 1 (some .int) ∈ wT := (wTi 374 rfl rfl)
set_option maxRecDepth 100000 in
theorem im_X5_letterAtHead : Cond.instanceMethod yX5_letterAtHead ∈ wT := (wTi 373 rfl rfl)
set_option maxRecDepth 100000 in
theorem se_X5_letterAtHead : Cond.selects RX5 yX5_letterAtHead yX5_letterAtHead ∈ wT := (wTi 2 rfl rfl)
set_option maxRecDepth 100000 in
theorem lk5_48 : LV RX5 48 yX5_letterAtHead mX5_letterAtHead 0 5 := ⟨LV5 (wTi 371 rfl rfl) im_X5_letterAtHead se_X5_letterAtHead ini_5 co_X5_letterAtHead, ⟨ne_6.1, ne_6.2, pd_6⟩, _, _, rfl⟩
set_option maxRecDepth 100000 in
theorem co_X5_readRow : Cond.code yX5_readRow cX5_readRow 5 (some .boolean) ∈ wT := (wTi 378 rfl rfl)
set_option maxRecDepth 100000 in
theorem im_X5_readRow : Cond.instanceMethod yX5_readRow ∈ wT := (wTi 377 rfl rfl)
set_option maxRecDepth 100000 in
theorem se_X5_readRow : Cond.selects RX5 yX5_readRow yX5_readRow ∈ wT := (wTi 3 rfl rfl)
set_option maxRecDepth 100000 in
theorem lk5_52 : LV RX5 52 yX5_readRow mX5_readRow 0 5 := ⟨LV5 (wTi 375 rfl rfl) im_X5_readRow se_X5_readRow ini_5 co_X5_readRow, ⟨ne_6.1, ne_6.2, pd_15⟩, _, _, rfl⟩
set_option maxRecDepth 100000 in
theorem co_X5_readBeast : Cond.code yX5_readBeast cX5_readBeast 6 (some .boolean) ∈ wT := (wTi 390 rfl rfl)
set_option maxRecDepth 100000 in
theorem im_X5_readBeast : Cond.instanceMethod yX5_readBeast ∈ wT := (wTi 389 rfl rfl)
set_option maxRecDepth 100000 in
theorem se_X5_readBeast : Cond.selects RX5 yX5_readBeast yX5_readBeast ∈ wT := (wTi 6 rfl rfl)
set_option maxRecDepth 100000 in
theorem lk5_55 : LV RX5 55 yX5_readBeast mX5_readBeast 0 5 := ⟨LV5 (wTi 387 rfl rfl) im_X5_readBeast se_X5_readBeast ini_5 co_X5_readBeast, ⟨ne_6.1, ne_6.2, pd_15⟩, _, _, rfl⟩
set_option maxRecDepth 100000 in
theorem co_X5_readWell : Cond.code yX5_readWell cX5_readWell 2 (some .boolean) ∈ wT := (wTi 417 rfl rfl)
set_option maxRecDepth 100000 in
theorem im_X5_readWell : Cond.instanceMethod yX5_readWell ∈ wT := (wTi 416 rfl rfl)
set_option maxRecDepth 100000 in
theorem se_X5_readWell : Cond.selects RX5 yX5_readWell yX5_readWell ∈ wT := (wTi 8 rfl rfl)
set_option maxRecDepth 100000 in
theorem lk5_58 : LV RX5 58 yX5_readWell mX5_readWell 0 5 := ⟨LV5 (wTi 414 rfl rfl) im_X5_readWell se_X5_readWell ini_5 co_X5_readWell, ⟨ne_6.1, ne_6.2, pd_15⟩, _, _, rfl⟩
set_option maxRecDepth 100000 in
theorem co_X5_readHunger : Cond.code yX5_readHunger cX5_readHunger 2 (some .boolean) ∈ wT := (wTi 421 rfl rfl)
set_option maxRecDepth 100000 in
theorem im_X5_readHunger : Cond.instanceMethod yX5_readHunger ∈ wT := (wTi 420 rfl rfl)
set_option maxRecDepth 100000 in
theorem se_X5_readHunger : Cond.selects RX5 yX5_readHunger yX5_readHunger ∈ wT := (wTi 9 rfl rfl)
set_option maxRecDepth 100000 in
theorem lk5_61 : LV RX5 61 yX5_readHunger mX5_readHunger 0 5 := ⟨LV5 (wTi 418 rfl rfl) im_X5_readHunger se_X5_readHunger ini_5 co_X5_readHunger, ⟨ne_6.1, ne_6.2, pd_15⟩, _, _, rfl⟩
set_option maxRecDepth 100000 in
theorem co_X5_readSnow : Cond.code yX5_readSnow cX5_readSnow 2 (some .boolean) ∈ wT := (wTi 425 rfl rfl)
set_option maxRecDepth 100000 in
theorem im_X5_readSnow : Cond.instanceMethod yX5_readSnow ∈ wT := (wTi 424 rfl rfl)
set_option maxRecDepth 100000 in
theorem se_X5_readSnow : Cond.selects RX5 yX5_readSnow yX5_readSnow ∈ wT := (wTi 10 rfl rfl)
set_option maxRecDepth 100000 in
theorem lk5_64 : LV RX5 64 yX5_readSnow mX5_readSnow 0 5 := ⟨LV5 (wTi 422 rfl rfl) im_X5_readSnow se_X5_readSnow ini_5 co_X5_readSnow, ⟨ne_6.1, ne_6.2, pd_15⟩, _, _, rfl⟩
set_option maxRecDepth 100000 in
theorem co_X5_readFigure : Cond.code yX5_readFigure cX5_readFigure 2 (some .int) ∈ wT := (wTi 382 rfl rfl)
set_option maxRecDepth 100000 in
theorem im_X5_readFigure : Cond.instanceMethod yX5_readFigure ∈ wT := (wTi 381 rfl rfl)
set_option maxRecDepth 100000 in
theorem se_X5_readFigure : Cond.selects RX5 yX5_readFigure yX5_readFigure ∈ wT := (wTi 4 rfl rfl)
set_option maxRecDepth 100000 in
theorem lk5_67 : LV RX5 67 yX5_readFigure mX5_readFigure 0 5 := ⟨LV5 (wTi 379 rfl rfl) im_X5_readFigure se_X5_readFigure ini_5 co_X5_readFigure, ⟨ne_6.1, ne_6.2, pd_6⟩, _, _, rfl⟩
set_option maxRecDepth 100000 in
theorem co_X5_passes : Cond.code yX5_passes cX5_passes 2 (some .boolean) ∈ wT := (wTi 386 rfl rfl)
set_option maxRecDepth 100000 in
theorem im_X5_passes : Cond.instanceMethod yX5_passes ∈ wT := (wTi 385 rfl rfl)
set_option maxRecDepth 100000 in
theorem se_X5_passes : Cond.selects RX5 yX5_passes yX5_passes ∈ wT := (wTi 5 rfl rfl)
set_option maxRecDepth 100000 in
theorem lk5_82 : LV RX5 82 yX5_passes mX5_passes 1 5 := ⟨LV5 (wTi 383 rfl rfl) im_X5_passes se_X5_passes ini_5 co_X5_passes, ⟨ne_6.1, ne_6.2, pd_0⟩, _, _, rfl⟩
set_option maxRecDepth 100000 in
theorem co_X5_readNumber : Cond.code yX5_readNumber cX5_readNumber 3 (some .int) ∈ wT := (wTi 394 rfl rfl)
set_option maxRecDepth 100000 in
theorem im_X5_readNumber : Cond.instanceMethod yX5_readNumber ∈ wT := (wTi 393 rfl rfl)
set_option maxRecDepth 100000 in
theorem se_X5_readNumber : Cond.selects RX5 yX5_readNumber yX5_readNumber ∈ wT := (wTi 7 rfl rfl)
set_option maxRecDepth 100000 in
theorem lk5_86 : LV RX5 86 yX5_readNumber mX5_readNumber 0 5 := ⟨LV5 (wTi 391 rfl rfl) im_X5_readNumber se_X5_readNumber ini_5 co_X5_readNumber, ⟨ne_6.1, ne_6.2, pd_6⟩, _, _, rfl⟩
set_option maxRecDepth 100000 in
theorem co_X7_isVillage : Cond.code yX7_isVillage cX7_isVillage 1 (some .boolean) ∈ wT := (wTi 397 rfl rfl)
set_option maxRecDepth 100000 in
theorem ini_7 : Cond.initialized RX7 ∈ wT := (wTi 64 rfl rfl)
theorem lk5_89 : LN RX5 89 yX7_isVillage mX7_isVillage 1 := ⟨by decide +kernel, by decide +kernel, "SheepChess", by decide +kernel⟩
set_option maxRecDepth 100000 in
theorem lk5_95 : LV RX5 95 yX2_grassOn mX2_grassOn 1 2 := ⟨LV5 (wTi 398 rfl rfl) im_X2_grassOn se_X2_grassOn ini_2 co_X2_grassOn, ⟨ne_0.1, ne_0.2, pd_7⟩, _, _, rfl⟩
set_option maxRecDepth 100000 in
theorem lk5_99 : LV RX5 99 yX2_occupant mX2_occupant 1 2 := ⟨LV5 (wTi 402 rfl rfl) im_X2_occupant se_X2_occupant ini_2 co_X2_occupant, ⟨ne_0.1, ne_0.2, pd_7⟩, _, _, rfl⟩
set_option maxRecDepth 100000 in
theorem lk6_44 : LV RX6 44 yX2_copyFrom mX2_copyFrom 1 2 := ⟨LV5 (wTi 637 rfl rfl) im_X2_copyFrom se_X2_copyFrom ini_2 co_X2_copyFrom, ⟨ne_0.1, ne_0.2, pd_3⟩, _, _, rfl⟩
set_option maxRecDepth 100000 in
theorem co_X6_add : Cond.code yX6_add cX6_add 7 none ∈ wT := (wTi 641 rfl rfl)
set_option maxRecDepth 100000 in
theorem ini_6 : Cond.initialized RX6 ∈ wT := (wTi 70 rfl rfl)
set_option maxRecDepth 100000 in
theorem im_X6_add : Cond.instanceMethod yX6_add ∈ wT := (wTi 640 rfl rfl)
set_option maxRecDepth 100000 in
theorem se_X6_add : Cond.selects RX6 yX6_add yX6_add ∈ wT := (wTi 14 rfl rfl)
set_option maxRecDepth 100000 in
theorem lk6_48 : LV RX6 48 yX6_add mX6_add 4 6 := ⟨LV5 (wTi 638 rfl rfl) im_X6_add se_X6_add ini_6 co_X6_add, ⟨ne_8.1, ne_8.2, pd_17⟩, _, _, rfl⟩
set_option maxRecDepth 100000 in
theorem lk6_52 : LV RX6 52 yX2_put mX2_put 3 2 := ⟨LV5 (wTi 644 rfl rfl) im_X2_put se_X2_put ini_2 co_X2_put, ⟨ne_0.1, ne_0.2, pd_13⟩, _, _, rfl⟩
set_option maxRecDepth 100000 in
theorem lk6_56 : LV RX6 56 yX2_reach mX2_reach 3 2 := ⟨LV5 (wTi 645 rfl rfl) im_X2_reach se_X2_reach ini_2 co_X2_reach, ⟨ne_0.1, ne_0.2, pd_11⟩, _, _, rfl⟩
set_option maxRecDepth 100000 in
theorem lk6_60 : LV RX6 60 yX2_move mX2_move 2 2 := ⟨LV5 (wTi 646 rfl rfl) im_X2_move se_X2_move ini_2 co_X2_move, ⟨ne_0.1, ne_0.2, pd_4⟩, _, _, rfl⟩
set_option maxRecDepth 100000 in
theorem lk6_64 : LV RX6 64 yX2_placeOf mX2_placeOf 1 2 := ⟨LV5 (wTi 642 rfl rfl) im_X2_placeOf se_X2_placeOf ini_2 co_X2_placeOf, ⟨ne_0.1, ne_0.2, pd_7⟩, _, _, rfl⟩
set_option maxRecDepth 100000 in
theorem lk6_68 : LV RX6 68 yX2_kindOf mX2_kindOf 1 2 := ⟨LV5 (wTi 643 rfl rfl) im_X2_kindOf se_X2_kindOf ini_2 co_X2_kindOf, ⟨ne_0.1, ne_0.2, pd_7⟩, _, _, rfl⟩
set_option maxRecDepth 100000 in
theorem co_X6_first : Cond.code yX6_first cX6_first 3 (some .int) ∈ wT := (wTi 650 rfl rfl)
set_option maxRecDepth 100000 in
theorem im_X6_first : Cond.instanceMethod yX6_first ∈ wT := (wTi 648 rfl rfl)
set_option maxRecDepth 100000 in
theorem se_X6_first : Cond.selects RX6 yX6_first yX6_first ∈ wT := (wTi 649 rfl rfl)
set_option maxRecDepth 100000 in
theorem lk6_71 : LV RX6 71 yX6_first mX6_first 1 6 := ⟨LV5 (wTi 667 rfl rfl) im_X6_first se_X6_first ini_6 co_X6_first, ⟨ne_8.1, ne_8.2, pd_7⟩, _, _, rfl⟩
set_option maxRecDepth 100000 in
theorem co_X6_drivesTo : Cond.code yX6_drivesTo cX6_drivesTo 2 (some .int) ∈ wT := (wTi 654 rfl rfl)
set_option maxRecDepth 100000 in
theorem im_X6_drivesTo : Cond.instanceMethod yX6_drivesTo ∈ wT := (wTi 652 rfl rfl)
set_option maxRecDepth 100000 in
theorem se_X6_drivesTo : Cond.selects RX6 yX6_drivesTo yX6_drivesTo ∈ wT := (wTi 653 rfl rfl)
set_option maxRecDepth 100000 in
theorem lk6_74 : LV RX6 74 yX6_drivesTo mX6_drivesTo 1 6 := ⟨LV5 (wTi 668 rfl rfl) im_X6_drivesTo se_X6_drivesTo ini_6 co_X6_drivesTo, ⟨ne_8.1, ne_8.2, pd_7⟩, _, _, rfl⟩
set_option maxRecDepth 100000 in
theorem lk7_100 : LV RX7 100 yX2_grassOn mX2_grassOn 1 2 := ⟨LV5 (wTi 491 rfl rfl) im_X2_grassOn se_X2_grassOn ini_2 co_X2_grassOn, ⟨ne_0.1, ne_0.2, pd_7⟩, _, _, rfl⟩
set_option maxRecDepth 100000 in
theorem lk7_104 : LV RX7 104 yX2_occupant mX2_occupant 1 2 := ⟨LV5 (wTi 492 rfl rfl) im_X2_occupant se_X2_occupant ini_2 co_X2_occupant, ⟨ne_0.1, ne_0.2, pd_7⟩, _, _, rfl⟩
set_option maxRecDepth 100000 in
theorem lk7_107 : LV RX7 107 yX1_hasBeast mX1_hasBeast 1 1 := ⟨LV5 (wTi 497 rfl rfl) im_X1_hasBeast se_X1_hasBeast ini_1 co_X1_hasBeast, ⟨ne_3.1, ne_3.2, pd_0⟩, _, _, rfl⟩
set_option maxRecDepth 100000 in
theorem lk7_110 : LV RX7 110 yX2_kindOf mX2_kindOf 1 2 := ⟨LV5 (wTi 498 rfl rfl) im_X2_kindOf se_X2_kindOf ini_2 co_X2_kindOf, ⟨ne_0.1, ne_0.2, pd_7⟩, _, _, rfl⟩
set_option maxRecDepth 100000 in
theorem lk7_113 : LV RX7 113 yX1_villageOf mX1_villageOf 1 1 := ⟨LV5 (wTi 502 rfl rfl) im_X1_villageOf se_X1_villageOf ini_1 co_X1_villageOf, ⟨ne_3.1, ne_3.2, pd_7⟩, _, _, rfl⟩
set_option maxRecDepth 100000 in
theorem lk7_116 : LV RX7 116 yX2_placeOf mX2_placeOf 1 2 := ⟨LV5 (wTi 506 rfl rfl) im_X2_placeOf se_X2_placeOf ini_2 co_X2_placeOf, ⟨ne_0.1, ne_0.2, pd_7⟩, _, _, rfl⟩
set_option maxRecDepth 100000 in
theorem co_X2_hungerOf : Cond.code yX2_hungerOf cX2_hungerOf 2 (some .int) ∈ wT := (wTi 513 rfl rfl)
set_option maxRecDepth 100000 in
theorem im_X2_hungerOf : Cond.instanceMethod yX2_hungerOf ∈ wT := (wTi 511 rfl rfl)
set_option maxRecDepth 100000 in
theorem se_X2_hungerOf : Cond.selects RX2 yX2_hungerOf yX2_hungerOf ∈ wT := (wTi 512 rfl rfl)
set_option maxRecDepth 100000 in
theorem lk7_119 : LV RX7 119 yX2_hungerOf mX2_hungerOf 1 2 := ⟨LV5 (wTi 510 rfl rfl) im_X2_hungerOf se_X2_hungerOf ini_2 co_X2_hungerOf, ⟨ne_0.1, ne_0.2, pd_7⟩, _, _, rfl⟩
set_option maxRecDepth 100000 in
theorem co_X7_isWay : Cond.code yX7_isWay cX7_isWay 1 (some .boolean) ∈ wT := (wTi 520 rfl rfl)
set_option maxRecDepth 100000 in
theorem sm_X7_isWay : Cond.static yX7_isWay ∈ wT := (wTi 519 rfl rfl)
set_option maxRecDepth 100000 in
theorem lk7_122 : LVS RX7 122 yX7_isWay mX7_isWay 1 := ⟨LS4 (wTi 518 rfl rfl) sm_X7_isWay ini_7 co_X7_isWay, ⟨ne_7.1, ne_7.2, pd_0⟩⟩
set_option maxRecDepth 100000 in
theorem lk7_125 : LV RX7 125 yX2_isOff mX2_isOff 1 2 := ⟨LV5 (wTi 521 rfl rfl) im_X2_isOff se_X2_isOff ini_2 co_X2_isOff, ⟨ne_0.1, ne_0.2, pd_0⟩, _, _, rfl⟩
set_option maxRecDepth 100000 in
theorem lk7_128 : LV RX7 128 yX2_snowing mX2_snowing 0 2 := ⟨LV5 (wTi 526 rfl rfl) im_X2_snowing se_X2_snowing ini_2 co_X2_snowing, ⟨ne_0.1, ne_0.2, pd_15⟩, _, _, rfl⟩
set_option maxRecDepth 100000 in
theorem lk7_131 : LV RX7 131 yX2_reach mX2_reach 3 2 := ⟨LV5 (wTi 534 rfl rfl) im_X2_reach se_X2_reach ini_2 co_X2_reach, ⟨ne_0.1, ne_0.2, pd_11⟩, _, _, rfl⟩
set_option maxRecDepth 100000 in
theorem lk7_135 : LV RX7 135 yX2_driven mX2_driven 2 2 := ⟨LV5 (wTi 566 rfl rfl) im_X2_driven se_X2_driven ini_2 co_X2_driven, ⟨ne_0.1, ne_0.2, pd_9⟩, _, _, rfl⟩
set_option maxRecDepth 100000 in
theorem lk7_139 : LV RX7 139 yX2_lost mX2_lost 0 2 := ⟨LV5 (wTi 576 rfl rfl) im_X2_lost se_X2_lost ini_2 co_X2_lost, ⟨ne_0.1, ne_0.2, pd_6⟩, _, _, rfl⟩
set_option maxRecDepth 100000 in
theorem co_X3_add : Cond.code yX3_add cX3_add 4 none ∈ wT := (wTi 583 rfl rfl)
set_option maxRecDepth 100000 in
theorem im_X3_add : Cond.instanceMethod yX3_add ∈ wT := (wTi 581 rfl rfl)
set_option maxRecDepth 100000 in
theorem se_X3_add : Cond.selects RX3 yX3_add yX3_add ∈ wT := (wTi 582 rfl rfl)
set_option maxRecDepth 100000 in
theorem lk7_142 : LV RX7 142 yX3_add mX3_add 2 3 := ⟨LV5 (wTi 580 rfl rfl) im_X3_add se_X3_add ini_3 co_X3_add, ⟨ne_5.1, ne_5.2, pd_18⟩, _, _, rfl⟩
set_option maxRecDepth 100000 in
theorem lk7_145 : LV RX7 145 yX2_move mX2_move 2 2 := ⟨LV5 (wTi 596 rfl rfl) im_X2_move se_X2_move ini_2 co_X2_move, ⟨ne_0.1, ne_0.2, pd_4⟩, _, _, rfl⟩
set_option maxRecDepth 100000 in
theorem lk7_149 : LV RX7 149 yX2_passDay mX2_passDay 0 2 := ⟨LV5 (wTi 605 rfl rfl) im_X2_passDay se_X2_passDay ini_2 co_X2_passDay, ⟨ne_0.1, ne_0.2, pd_1⟩, _, _, rfl⟩
set_option maxRecDepth 100000 in
theorem lk7_158 : LV RX7 158 yX3_before mX3_before 1 3 := ⟨LV5 (wTi 625 rfl rfl) im_X3_before se_X3_before ini_3 co_X3_before, ⟨ne_5.1, ne_5.2, pd_2⟩, _, _, rfl⟩
set_option maxRecDepth 100000 in
theorem lk7_162 : LV RX7 162 yX2_copyFrom mX2_copyFrom 1 2 := ⟨LV5 (wTi 433 rfl rfl) im_X2_copyFrom se_X2_copyFrom ini_2 co_X2_copyFrom, ⟨ne_0.1, ne_0.2, pd_3⟩, _, _, rfl⟩
set_option maxRecDepth 100000 in
theorem co_X6_from : Cond.code yX6_from cX6_from 6 none ∈ wT := (wTi 636 rfl rfl)
set_option maxRecDepth 100000 in
theorem im_X6_from : Cond.instanceMethod yX6_from ∈ wT := (wTi 634 rfl rfl)
set_option maxRecDepth 100000 in
theorem se_X6_from : Cond.selects RX6 yX6_from yX6_from ∈ wT := (wTi 635 rfl rfl)
set_option maxRecDepth 100000 in
theorem lk7_166 : LV RX7 166 yX6_from mX6_from 2 6 := ⟨LV5 (wTi 633 rfl rfl) im_X6_from se_X6_from ini_6 co_X6_from, ⟨ne_8.1, ne_8.2, pd_18⟩, _, _, rfl⟩
set_option maxRecDepth 100000 in
theorem lk7_169 : LV RX7 169 yX6_first mX6_first 1 6 := ⟨LV5 (wTi 647 rfl rfl) im_X6_first se_X6_first ini_6 co_X6_first, ⟨ne_8.1, ne_8.2, pd_7⟩, _, _, rfl⟩
set_option maxRecDepth 100000 in
theorem lk7_172 : LV RX7 172 yX6_drivesTo mX6_drivesTo 1 6 := ⟨LV5 (wTi 651 rfl rfl) im_X6_drivesTo se_X6_drivesTo ini_6 co_X6_drivesTo, ⟨ne_8.1, ne_8.2, pd_7⟩, _, _, rfl⟩
set_option maxRecDepth 100000 in
theorem co_X6_wayTo : Cond.code yX6_wayTo cX6_wayTo 5 (some .int) ∈ wT := (wTi 658 rfl rfl)
set_option maxRecDepth 100000 in
theorem im_X6_wayTo : Cond.instanceMethod yX6_wayTo ∈ wT := (wTi 656 rfl rfl)
set_option maxRecDepth 100000 in
theorem se_X6_wayTo : Cond.selects RX6 yX6_wayTo yX6_wayTo ∈ wT := (wTi 657 rfl rfl)
set_option maxRecDepth 100000 in
theorem lk7_175 : LV RX7 175 yX6_wayTo mX6_wayTo 2 6 := ⟨LV5 (wTi 655 rfl rfl) im_X6_wayTo se_X6_wayTo ini_6 co_X6_wayTo, ⟨ne_8.1, ne_8.2, pd_9⟩, _, _, rfl⟩
set_option maxRecDepth 100000 in
theorem co_X6_squaresWithin : Cond.code yX6_squaresWithin cX6_squaresWithin 5 (some .int) ∈ wT := (wTi 666 rfl rfl)
set_option maxRecDepth 100000 in
theorem im_X6_squaresWithin : Cond.instanceMethod yX6_squaresWithin ∈ wT := (wTi 664 rfl rfl)
set_option maxRecDepth 100000 in
theorem se_X6_squaresWithin : Cond.selects RX6 yX6_squaresWithin yX6_squaresWithin ∈ wT := (wTi 665 rfl rfl)
set_option maxRecDepth 100000 in
theorem lk7_178 : LV RX7 178 yX6_squaresWithin mX6_squaresWithin 1 6 := ⟨LV5 (wTi 663 rfl rfl) im_X6_squaresWithin se_X6_squaresWithin ini_6 co_X6_squaresWithin, ⟨ne_8.1, ne_8.2, pd_7⟩, _, _, rfl⟩
set_option maxRecDepth 100000 in
theorem sm_X7_isVillage : Cond.static yX7_isVillage ∈ wT := (wTi 396 rfl rfl)
set_option maxRecDepth 100000 in
theorem lk7_181 : LVS RX7 181 yX7_isVillage mX7_isVillage 1 := ⟨LS4 (wTi 673 rfl rfl) sm_X7_isVillage ini_7 co_X7_isVillage, ⟨ne_7.1, ne_7.2, pd_0⟩⟩
set_option maxRecDepth 100000 in
theorem co_X0_daysToWell : Cond.code yX0_daysToWell cX0_daysToWell 4 (some .int) ∈ wT := (wTi 677 rfl rfl)
set_option maxRecDepth 100000 in
theorem im_X0_daysToWell : Cond.instanceMethod yX0_daysToWell ∈ wT := (wTi 675 rfl rfl)
set_option maxRecDepth 100000 in
theorem se_X0_daysToWell : Cond.selects RX0 yX0_daysToWell yX0_daysToWell ∈ wT := (wTi 676 rfl rfl)
set_option maxRecDepth 100000 in
theorem lk7_187 : LV RX7 187 yX0_daysToWell mX0_daysToWell 2 0 := ⟨LV5 (wTi 674 rfl rfl) im_X0_daysToWell se_X0_daysToWell ini_0 co_X0_daysToWell, ⟨ne_2.1, ne_2.2, pd_19⟩, _, _, rfl⟩
set_option maxRecDepth 100000 in
theorem co_X0_onOwnDay : Cond.code yX0_onOwnDay cX0_onOwnDay 2 (some .int) ∈ wT := (wTi 709 rfl rfl)
set_option maxRecDepth 100000 in
theorem im_X0_onOwnDay : Cond.instanceMethod yX0_onOwnDay ∈ wT := (wTi 707 rfl rfl)
set_option maxRecDepth 100000 in
theorem se_X0_onOwnDay : Cond.selects RX0 yX0_onOwnDay yX0_onOwnDay ∈ wT := (wTi 708 rfl rfl)
set_option maxRecDepth 100000 in
theorem lk7_191 : LV RX7 191 yX0_onOwnDay mX0_onOwnDay 1 0 := ⟨LV5 (wTi 706 rfl rfl) im_X0_onOwnDay se_X0_onOwnDay ini_0 co_X0_onOwnDay, ⟨ne_2.1, ne_2.2, pd_7⟩, _, _, rfl⟩
set_option maxRecDepth 100000 in
theorem co_X0_worthBehind : Cond.code yX0_worthBehind cX0_worthBehind 3 (some .int) ∈ wT := (wTi 717 rfl rfl)
set_option maxRecDepth 100000 in
theorem im_X0_worthBehind : Cond.instanceMethod yX0_worthBehind ∈ wT := (wTi 715 rfl rfl)
set_option maxRecDepth 100000 in
theorem se_X0_worthBehind : Cond.selects RX0 yX0_worthBehind yX0_worthBehind ∈ wT := (wTi 716 rfl rfl)
set_option maxRecDepth 100000 in
theorem lk7_194 : LV RX7 194 yX0_worthBehind mX0_worthBehind 2 0 := ⟨LV5 (wTi 714 rfl rfl) im_X0_worthBehind se_X0_worthBehind ini_0 co_X0_worthBehind, ⟨ne_2.1, ne_2.2, pd_19⟩, _, _, rfl⟩
set_option maxRecDepth 100000 in
theorem co_X3_otherwiseIs : Cond.code yX3_otherwiseIs cX3_otherwiseIs 8 (some .boolean) ∈ wT := (wTi 743 rfl rfl)
set_option maxRecDepth 100000 in
theorem im_X3_otherwiseIs : Cond.instanceMethod yX3_otherwiseIs ∈ wT := (wTi 741 rfl rfl)
set_option maxRecDepth 100000 in
theorem se_X3_otherwiseIs : Cond.selects RX3 yX3_otherwiseIs yX3_otherwiseIs ∈ wT := (wTi 742 rfl rfl)
set_option maxRecDepth 100000 in
theorem lk7_200 : LV RX7 200 yX3_otherwiseIs mX3_otherwiseIs 3 3 := ⟨LV5 (wTi 740 rfl rfl) im_X3_otherwiseIs se_X3_otherwiseIs ini_3 co_X3_otherwiseIs, ⟨ne_5.1, ne_5.2, pd_20⟩, _, _, rfl⟩
set_option maxRecDepth 100000 in
theorem co_X0_staying : Cond.code yX0_staying cX0_staying 5 (some .long) ∈ wT := (wTi 762 rfl rfl)
set_option maxRecDepth 100000 in
theorem im_X0_staying : Cond.instanceMethod yX0_staying ∈ wT := (wTi 760 rfl rfl)
set_option maxRecDepth 100000 in
theorem se_X0_staying : Cond.selects RX0 yX0_staying yX0_staying ∈ wT := (wTi 761 rfl rfl)
set_option maxRecDepth 100000 in
theorem lk7_206 : LV RX7 206 yX0_staying mX0_staying 4 0 := ⟨LV5 (wTi 759 rfl rfl) im_X0_staying se_X0_staying ini_0 co_X0_staying, ⟨ne_2.1, ne_2.2, pd_21⟩, _, _, rfl⟩
set_option maxRecDepth 100000 in
theorem co_X7_commonPart : Cond.code yX7_commonPart cX7_commonPart 11 (some .long) ∈ wT := (wTi 780 rfl rfl)
set_option maxRecDepth 100000 in
theorem sm_X7_commonPart : Cond.static yX7_commonPart ∈ wT := (wTi 779 rfl rfl)
set_option maxRecDepth 100000 in
theorem lk7_210 : LVS RX7 210 yX7_commonPart mX7_commonPart 2 := ⟨LS4 (wTi 778 rfl rfl) sm_X7_commonPart ini_7 co_X7_commonPart, ⟨ne_7.1, ne_7.2, pd_22⟩⟩
set_option maxRecDepth 100000 in
theorem co_X7_draw : Cond.code yX7_draw cX7_draw 4 (some .int) ∈ wT := (wTi 787 rfl rfl)
set_option maxRecDepth 100000 in
theorem sm_X7_draw : Cond.static yX7_draw ∈ wT := (wTi 786 rfl rfl)
set_option maxRecDepth 100000 in
theorem lk7_214 : LVS RX7 214 yX7_draw mX7_draw 2 := ⟨LS4 (wTi 785 rfl rfl) sm_X7_draw ini_7 co_X7_draw, ⟨ne_7.1, ne_7.2, pd_9⟩⟩
set_option maxRecDepth 100000 in
theorem lk7_217 : LV RX7 217 yX2_live mX2_live 1 2 := ⟨LV5 (wTi 791 rfl rfl) im_X2_live se_X2_live ini_2 co_X2_live, ⟨ne_0.1, ne_0.2, pd_16⟩, _, _, rfl⟩
set_option maxRecDepth 100000 in
theorem lk7_221 : LV RX7 221 yX2_worth mX2_worth 0 2 := ⟨LV5 (wTi 792 rfl rfl) im_X2_worth se_X2_worth ini_2 co_X2_worth, ⟨ne_0.1, ne_0.2, pd_6⟩, _, _, rfl⟩
set_option maxRecDepth 100000 in
theorem lk7_224 : LV RX7 224 yX2_staying mX2_staying 1 2 := ⟨LV5 (wTi 793 rfl rfl) im_X2_staying se_X2_staying ini_2 co_X2_staying, ⟨ne_0.1, ne_0.2, pd_7⟩, _, _, rfl⟩
set_option maxRecDepth 100000 in
theorem lk7_226 : LV RX7 226 yX4_get mX4_get 1 4 := ⟨LV5 (wTi 798 rfl rfl) im_X4_get se_X4_get ini_4 co_X4_get, ⟨ne_1.1, ne_1.2, pd_2⟩, _, _, rfl⟩
set_option maxRecDepth 100000 in
theorem co_X2_allGrass : Cond.code yX2_allGrass cX2_allGrass 3 (some .int) ∈ wT := (wTi 810 rfl rfl)
set_option maxRecDepth 100000 in
theorem im_X2_allGrass : Cond.instanceMethod yX2_allGrass ∈ wT := (wTi 808 rfl rfl)
set_option maxRecDepth 100000 in
theorem se_X2_allGrass : Cond.selects RX2 yX2_allGrass yX2_allGrass ∈ wT := (wTi 809 rfl rfl)
set_option maxRecDepth 100000 in
theorem lk7_235 : LV RX7 235 yX2_allGrass mX2_allGrass 0 2 := ⟨LV5 (wTi 807 rfl rfl) im_X2_allGrass se_X2_allGrass ini_2 co_X2_allGrass, ⟨ne_0.1, ne_0.2, pd_6⟩, _, _, rfl⟩
set_option maxRecDepth 100000 in
theorem co_X1_copyFrom : Cond.code yX1_copyFrom cX1_copyFrom 2 none ∈ wT := (wTi 429 rfl rfl)
set_option maxRecDepth 100000 in
theorem im_X1_copyFrom : Cond.instanceMethod yX1_copyFrom ∈ wT := (wTi 427 rfl rfl)
set_option maxRecDepth 100000 in
theorem se_X1_copyFrom : Cond.selects RX1 yX1_copyFrom yX1_copyFrom ∈ wT := (wTi 428 rfl rfl)
set_option maxRecDepth 100000 in
theorem lk7_242 : LV RX7 242 yX1_copyFrom mX1_copyFrom 1 1 := ⟨LV5 (wTi 426 rfl rfl) im_X1_copyFrom se_X1_copyFrom ini_1 co_X1_copyFrom, ⟨ne_3.1, ne_3.2, pd_23⟩, _, _, rfl⟩
set_option maxRecDepth 100000 in
theorem co_X5_add : Cond.code yX5_add cX5_add 2 (some .boolean) ∈ wT := (wTi 354 rfl rfl)
set_option maxRecDepth 100000 in
theorem im_X5_add : Cond.instanceMethod yX5_add ∈ wT := (wTi 352 rfl rfl)
set_option maxRecDepth 100000 in
theorem se_X5_add : Cond.selects RX5 yX5_add yX5_add ∈ wT := (wTi 353 rfl rfl)
set_option maxRecDepth 100000 in
theorem lk7_81 : LV RX7 81 yX5_add mX5_add 1 5 := ⟨LV5 (wTi 351 rfl rfl) im_X5_add se_X5_add ini_5 co_X5_add, ⟨ne_6.1, ne_6.2, pd_0⟩, _, _, rfl⟩
set_option maxRecDepth 100000 in
theorem co_X7_begin : Cond.code yX7_begin cX7_begin 1 (some .boolean) ∈ wT := (wTi 358 rfl rfl)
set_option maxRecDepth 100000 in
theorem im_X7_begin : Cond.instanceMethod yX7_begin ∈ wT := (wTi 357 rfl rfl)
set_option maxRecDepth 100000 in
theorem se_X7_begin : Cond.selects RX7 yX7_begin yX7_begin ∈ wT := (wTi 0 rfl rfl)
set_option maxRecDepth 100000 in
theorem lk7_85 : LV RX7 85 yX7_begin mX7_begin 0 7 := ⟨LV5 (wTi 355 rfl rfl) im_X7_begin se_X7_begin ini_7 co_X7_begin, ⟨ne_7.1, ne_7.2, pd_15⟩, _, _, rfl⟩
set_option maxRecDepth 100000 in
theorem co_X5_firstFault : Cond.code yX5_firstFault cX5_firstFault 3 (some .int) ∈ wT := (wTi 362 rfl rfl)
set_option maxRecDepth 100000 in
theorem im_X5_firstFault : Cond.instanceMethod yX5_firstFault ∈ wT := (wTi 360 rfl rfl)
set_option maxRecDepth 100000 in
theorem se_X5_firstFault : Cond.selects RX5 yX5_firstFault yX5_firstFault ∈ wT := (wTi 361 rfl rfl)
set_option maxRecDepth 100000 in
theorem lk7_91 : LV RX7 91 yX5_firstFault mX5_firstFault 0 5 := ⟨LV5 (wTi 359 rfl rfl) im_X5_firstFault se_X5_firstFault ini_5 co_X5_firstFault, ⟨ne_6.1, ne_6.2, pd_6⟩, _, _, rfl⟩
set_option maxRecDepth 100000 in
theorem co_X1_hasSquare : Cond.code yX1_hasSquare cX1_hasSquare 2 (some .boolean) ∈ wT := (wTi 490 rfl rfl)
set_option maxRecDepth 100000 in
theorem im_X1_hasSquare : Cond.instanceMethod yX1_hasSquare ∈ wT := (wTi 488 rfl rfl)
set_option maxRecDepth 100000 in
theorem se_X1_hasSquare : Cond.selects RX1 yX1_hasSquare yX1_hasSquare ∈ wT := (wTi 489 rfl rfl)
set_option maxRecDepth 100000 in
theorem lk7_97 : LV RX7 97 yX1_hasSquare mX1_hasSquare 1 1 := ⟨LV5 (wTi 487 rfl rfl) im_X1_hasSquare se_X1_hasSquare ini_1 co_X1_hasSquare, ⟨ne_3.1, ne_3.2, pd_0⟩, _, _, rfl⟩
set_option maxRecDepth 100000 in
theorem co_X8_settles : Cond.code yX8_settles cX8_settles 2 none ∈ wT := (wTi 832 rfl rfl)
set_option maxRecDepth 100000 in
theorem ini_8 : Cond.initialized RX8 ∈ wT := (wTi 77 rfl rfl)
set_option maxRecDepth 100000 in
theorem im_X8_settles : Cond.instanceMethod yX8_settles ∈ wT := (wTi 831 rfl rfl)
set_option maxRecDepth 100000 in
theorem se_X8_settles : Cond.selects RX8 yX8_settles yX8_settles ∈ wT := (wTi 24 rfl rfl)
set_option maxRecDepth 100000 in
theorem lk8_100 : LV RX8 100 yX8_settles mX8_settles 0 8 := ⟨LV5 (wTi 829 rfl rfl) im_X8_settles se_X8_settles ini_8 co_X8_settles, ⟨ne_9.1, ne_9.2, pd_1⟩, _, _, rfl⟩
set_option maxRecDepth 100000 in
theorem co_X8_in : Cond.code yX8_in cX8_in 3 (some .boolean) ∈ wT := (wTi 966 rfl rfl)
set_option maxRecDepth 100000 in
theorem sm_X8_in : Cond.static yX8_in ∈ wT := (wTi 965 rfl rfl)
set_option maxRecDepth 100000 in
theorem lk8_115 : LVS RX8 115 yX8_in mX8_in 3 := ⟨LS4 (wTi 964 rfl rfl) sm_X8_in ini_8 co_X8_in, ⟨ne_9.1, ne_9.2, pd_24⟩⟩
set_option maxRecDepth 100000 in
theorem co_X8_letterAt : Cond.code yX8_letterAt cX8_letterAt 2 (some .int) ∈ wT := (wTi 982 rfl rfl)
set_option maxRecDepth 100000 in
theorem im_X8_letterAt : Cond.instanceMethod yX8_letterAt ∈ wT := (wTi 981 rfl rfl)
set_option maxRecDepth 100000 in
theorem se_X8_letterAt : Cond.selects RX8 yX8_letterAt yX8_letterAt ∈ wT := (wTi 26 rfl rfl)
set_option maxRecDepth 100000 in
theorem lk8_128 : LV RX8 128 yX8_letterAt mX8_letterAt 1 8 := ⟨LV5 (wTi 979 rfl rfl) im_X8_letterAt se_X8_letterAt ini_8 co_X8_letterAt, ⟨ne_9.1, ne_9.2, pd_7⟩, _, _, rfl⟩
set_option maxRecDepth 100000 in
theorem co_X8_isFigure : Cond.code yX8_isFigure cX8_isFigure 1 (some .boolean) ∈ wT := (wTi 989 rfl rfl)
set_option maxRecDepth 100000 in
theorem sm_X8_isFigure : Cond.static yX8_isFigure ∈ wT := (wTi 988 rfl rfl)
set_option maxRecDepth 100000 in
theorem lk8_132 : LVS RX8 132 yX8_isFigure mX8_isFigure 1 := ⟨LS4 (wTi 987 rfl rfl) sm_X8_isFigure ini_8 co_X8_isFigure, ⟨ne_9.1, ne_9.2, pd_0⟩⟩
set_option maxRecDepth 100000 in
theorem co_X8_isTold : Cond.code yX8_isTold cX8_isTold 4 (some .boolean) ∈ wT := (wTi 1001 rfl rfl)
set_option maxRecDepth 100000 in
theorem im_X8_isTold : Cond.instanceMethod yX8_isTold ∈ wT := (wTi 1000 rfl rfl)
set_option maxRecDepth 100000 in
theorem se_X8_isTold : Cond.selects RX8 yX8_isTold yX8_isTold ∈ wT := (wTi 30 rfl rfl)
set_option maxRecDepth 100000 in
theorem lk8_136 : LV RX8 136 yX8_isTold mX8_isTold 3 8 := ⟨LV5 (wTi 998 rfl rfl) im_X8_isTold se_X8_isTold ini_8 co_X8_isTold, ⟨ne_9.1, ne_9.2, pd_24⟩, _, _, rfl⟩
set_option maxRecDepth 100000 in
theorem co_X8_readNumbers : Cond.code yX8_readNumbers cX8_readNumbers 3 (some .boolean) ∈ wT := (wTi 997 rfl rfl)
set_option maxRecDepth 100000 in
theorem im_X8_readNumbers : Cond.instanceMethod yX8_readNumbers ∈ wT := (wTi 996 rfl rfl)
set_option maxRecDepth 100000 in
theorem se_X8_readNumbers : Cond.selects RX8 yX8_readNumbers yX8_readNumbers ∈ wT := (wTi 29 rfl rfl)
set_option maxRecDepth 100000 in
theorem lk8_139 : LV RX8 139 yX8_readNumbers mX8_readNumbers 1 8 := ⟨LV5 (wTi 994 rfl rfl) im_X8_readNumbers se_X8_readNumbers ini_8 co_X8_readNumbers, ⟨ne_9.1, ne_9.2, pd_0⟩, _, _, rfl⟩
set_option maxRecDepth 100000 in
theorem co_X8_isDry : Cond.code yX8_isDry cX8_isDry 2 (some .boolean) ∈ wT := (wTi 1005 rfl rfl)
set_option maxRecDepth 100000 in
theorem im_X8_isDry : Cond.instanceMethod yX8_isDry ∈ wT := (wTi 1004 rfl rfl)
set_option maxRecDepth 100000 in
theorem se_X8_isDry : Cond.selects RX8 yX8_isDry yX8_isDry ∈ wT := (wTi 31 rfl rfl)
set_option maxRecDepth 100000 in
theorem lk8_142 : LV RX8 142 yX8_isDry mX8_isDry 1 8 := ⟨LV5 (wTi 1002 rfl rfl) im_X8_isDry se_X8_isDry ini_8 co_X8_isDry, ⟨ne_9.1, ne_9.2, pd_0⟩, _, _, rfl⟩
set_option maxRecDepth 100000 in
theorem co_X8_readRow : Cond.code yX8_readRow cX8_readRow 3 (some .boolean) ∈ wT := (wTi 986 rfl rfl)
set_option maxRecDepth 100000 in
theorem im_X8_readRow : Cond.instanceMethod yX8_readRow ∈ wT := (wTi 985 rfl rfl)
set_option maxRecDepth 100000 in
theorem se_X8_readRow : Cond.selects RX8 yX8_readRow yX8_readRow ∈ wT := (wTi 27 rfl rfl)
set_option maxRecDepth 100000 in
theorem lk8_145 : LV RX8 145 yX8_readRow mX8_readRow 0 8 := ⟨LV5 (wTi 983 rfl rfl) im_X8_readRow se_X8_readRow ini_8 co_X8_readRow, ⟨ne_9.1, ne_9.2, pd_15⟩, _, _, rfl⟩
set_option maxRecDepth 100000 in
theorem co_X8_readBeastItem : Cond.code yX8_readBeastItem cX8_readBeastItem 3 (some .boolean) ∈ wT := (wTi 993 rfl rfl)
set_option maxRecDepth 100000 in
theorem im_X8_readBeastItem : Cond.instanceMethod yX8_readBeastItem ∈ wT := (wTi 992 rfl rfl)
set_option maxRecDepth 100000 in
theorem se_X8_readBeastItem : Cond.selects RX8 yX8_readBeastItem yX8_readBeastItem ∈ wT := (wTi 28 rfl rfl)
set_option maxRecDepth 100000 in
theorem lk8_149 : LV RX8 149 yX8_readBeastItem mX8_readBeastItem 0 8 := ⟨LV5 (wTi 990 rfl rfl) im_X8_readBeastItem se_X8_readBeastItem ini_8 co_X8_readBeastItem, ⟨ne_9.1, ne_9.2, pd_15⟩, _, _, rfl⟩
set_option maxRecDepth 100000 in
theorem co_X8_readItem : Cond.code yX8_readItem cX8_readItem 2 (some .boolean) ∈ wT := (wTi 978 rfl rfl)
set_option maxRecDepth 100000 in
theorem im_X8_readItem : Cond.instanceMethod yX8_readItem ∈ wT := (wTi 977 rfl rfl)
set_option maxRecDepth 100000 in
theorem se_X8_readItem : Cond.selects RX8 yX8_readItem yX8_readItem ∈ wT := (wTi 25 rfl rfl)
set_option maxRecDepth 100000 in
theorem lk8_152 : LV RX8 152 yX8_readItem mX8_readItem 0 8 := ⟨LV5 (wTi 975 rfl rfl) im_X8_readItem se_X8_readItem ini_8 co_X8_readItem, ⟨ne_9.1, ne_9.2, pd_15⟩, _, _, rfl⟩
set_option maxRecDepth 100000 in
theorem co_X8_fault : Cond.code yX8_fault cX8_fault 2 (some .int) ∈ wT := (wTi 974 rfl rfl)
set_option maxRecDepth 100000 in
theorem im_X8_fault : Cond.instanceMethod yX8_fault ∈ wT := (wTi 972 rfl rfl)
set_option maxRecDepth 100000 in
theorem se_X8_fault : Cond.selects RX8 yX8_fault yX8_fault ∈ wT := (wTi 973 rfl rfl)
set_option maxRecDepth 100000 in
theorem lk8_155 : LV RX8 155 yX8_fault mX8_fault 0 8 := ⟨LV5 (wTi 1010 rfl rfl) im_X8_fault se_X8_fault ini_8 co_X8_fault, ⟨ne_9.1, ne_9.2, pd_6⟩, _, _, rfl⟩
set_option maxRecDepth 100000 in
theorem co_X8_copies : Cond.code yX8_copies cX8_copies 6 none ∈ wT := (wTi 835 rfl rfl)
set_option maxRecDepth 100000 in
theorem sm_X8_copies : Cond.static yX8_copies ∈ wT := (wTi 834 rfl rfl)
set_option maxRecDepth 100000 in
theorem lk8_162 : LVS RX8 162 yX8_copies mX8_copies 5 := ⟨LS4 (wTi 833 rfl rfl) sm_X8_copies ini_8 co_X8_copies, ⟨ne_9.1, ne_9.2, pd_25⟩⟩
set_option maxRecDepth 100000 in
theorem co_X8_has : Cond.code yX8_has cX8_has 2 (some .boolean) ∈ wT := (wTi 1041 rfl rfl)
set_option maxRecDepth 100000 in
theorem sm_X8_has : Cond.static yX8_has ∈ wT := (wTi 1040 rfl rfl)
set_option maxRecDepth 100000 in
theorem lk8_181 : LVS RX8 181 yX8_has mX8_has 2 := ⟨LS4 (wTi 1039 rfl rfl) sm_X8_has ini_8 co_X8_has, ⟨ne_9.1, ne_9.2, pd_12⟩⟩
set_option maxRecDepth 100000 in
theorem co_X8_nextTo : Cond.code yX8_nextTo cX8_nextTo 3 (some .int) ∈ wT := (wTi 1068 rfl rfl)
set_option maxRecDepth 100000 in
theorem im_X8_nextTo : Cond.instanceMethod yX8_nextTo ∈ wT := (wTi 1067 rfl rfl)
set_option maxRecDepth 100000 in
theorem se_X8_nextTo : Cond.selects RX8 yX8_nextTo yX8_nextTo ∈ wT := (wTi 41 rfl rfl)
set_option maxRecDepth 100000 in
theorem lk8_185 : LV RX8 185 yX8_nextTo mX8_nextTo 2 8 := ⟨LV5 (wTi 1065 rfl rfl) im_X8_nextTo se_X8_nextTo ini_8 co_X8_nextTo, ⟨ne_9.1, ne_9.2, pd_9⟩, _, _, rfl⟩
set_option maxRecDepth 100000 in
theorem co_X8_onIt : Cond.code yX8_onIt cX8_onIt 4 (some .int) ∈ wT := (wTi 1026 rfl rfl)
set_option maxRecDepth 100000 in
theorem im_X8_onIt : Cond.instanceMethod yX8_onIt ∈ wT := (wTi 1025 rfl rfl)
set_option maxRecDepth 100000 in
theorem se_X8_onIt : Cond.selects RX8 yX8_onIt yX8_onIt ∈ wT := (wTi 34 rfl rfl)
set_option maxRecDepth 100000 in
theorem lk8_189 : LV RX8 189 yX8_onIt mX8_onIt 1 8 := ⟨LV5 (wTi 1023 rfl rfl) im_X8_onIt se_X8_onIt ini_8 co_X8_onIt, ⟨ne_9.1, ne_9.2, pd_7⟩, _, _, rfl⟩
set_option maxRecDepth 100000 in
theorem co_X8_kindOf : Cond.code yX8_kindOf cX8_kindOf 2 (some .int) ∈ wT := (wTi 1038 rfl rfl)
set_option maxRecDepth 100000 in
theorem im_X8_kindOf : Cond.instanceMethod yX8_kindOf ∈ wT := (wTi 1037 rfl rfl)
set_option maxRecDepth 100000 in
theorem se_X8_kindOf : Cond.selects RX8 yX8_kindOf yX8_kindOf ∈ wT := (wTi 36 rfl rfl)
set_option maxRecDepth 100000 in
theorem lk8_192 : LV RX8 192 yX8_kindOf mX8_kindOf 1 8 := ⟨LV5 (wTi 1035 rfl rfl) im_X8_kindOf se_X8_kindOf ini_8 co_X8_kindOf, ⟨ne_9.1, ne_9.2, pd_7⟩, _, _, rfl⟩
set_option maxRecDepth 100000 in
theorem co_X8_isNearRam : Cond.code yX8_isNearRam cX8_isNearRam 7 (some .boolean) ∈ wT := (wTi 1072 rfl rfl)
set_option maxRecDepth 100000 in
theorem im_X8_isNearRam : Cond.instanceMethod yX8_isNearRam ∈ wT := (wTi 1071 rfl rfl)
set_option maxRecDepth 100000 in
theorem se_X8_isNearRam : Cond.selects RX8 yX8_isNearRam yX8_isNearRam ∈ wT := (wTi 42 rfl rfl)
set_option maxRecDepth 100000 in
theorem lk8_195 : LV RX8 195 yX8_isNearRam mX8_isNearRam 2 8 := ⟨LV5 (wTi 1069 rfl rfl) im_X8_isNearRam se_X8_isNearRam ini_8 co_X8_isNearRam, ⟨ne_9.1, ne_9.2, pd_12⟩, _, _, rfl⟩
set_option maxRecDepth 100000 in
theorem co_X8_isSnow : Cond.code yX8_isSnow cX8_isSnow 1 (some .boolean) ∈ wT := (wTi 1060 rfl rfl)
set_option maxRecDepth 100000 in
theorem im_X8_isSnow : Cond.instanceMethod yX8_isSnow ∈ wT := (wTi 1059 rfl rfl)
set_option maxRecDepth 100000 in
theorem se_X8_isSnow : Cond.selects RX8 yX8_isSnow yX8_isSnow ∈ wT := (wTi 39 rfl rfl)
set_option maxRecDepth 100000 in
theorem lk8_201 : LV RX8 201 yX8_isSnow mX8_isSnow 0 8 := ⟨LV5 (wTi 1057 rfl rfl) im_X8_isSnow se_X8_isSnow ini_8 co_X8_isSnow, ⟨ne_9.1, ne_9.2, pd_15⟩, _, _, rfl⟩
set_option maxRecDepth 100000 in
theorem co_X8_stepTo : Cond.code yX8_stepTo cX8_stepTo 7 (some .int) ∈ wT := (wTi 1064 rfl rfl)
set_option maxRecDepth 100000 in
theorem im_X8_stepTo : Cond.instanceMethod yX8_stepTo ∈ wT := (wTi 1063 rfl rfl)
set_option maxRecDepth 100000 in
theorem se_X8_stepTo : Cond.selects RX8 yX8_stepTo yX8_stepTo ∈ wT := (wTi 40 rfl rfl)
set_option maxRecDepth 100000 in
theorem lk8_204 : LV RX8 204 yX8_stepTo mX8_stepTo 4 8 := ⟨LV5 (wTi 1061 rfl rfl) im_X8_stepTo se_X8_stepTo ini_8 co_X8_stepTo, ⟨ne_9.1, ne_9.2, pd_26⟩, _, _, rfl⟩
set_option maxRecDepth 100000 in
theorem co_X8_comesTo : Cond.code yX8_comesTo cX8_comesTo 9 (some .int) ∈ wT := (wTi 1056 rfl rfl)
set_option maxRecDepth 100000 in
theorem im_X8_comesTo : Cond.instanceMethod yX8_comesTo ∈ wT := (wTi 1055 rfl rfl)
set_option maxRecDepth 100000 in
theorem se_X8_comesTo : Cond.selects RX8 yX8_comesTo yX8_comesTo ∈ wT := (wTi 38 rfl rfl)
set_option maxRecDepth 100000 in
theorem lk8_208 : LV RX8 208 yX8_comesTo mX8_comesTo 3 8 := ⟨LV5 (wTi 1053 rfl rfl) im_X8_comesTo se_X8_comesTo ini_8 co_X8_comesTo, ⟨ne_9.1, ne_9.2, pd_11⟩, _, _, rfl⟩
set_option maxRecDepth 100000 in
theorem co_X8_stands : Cond.code yX8_stands cX8_stands 4 none ∈ wT := (wTi 1100 rfl rfl)
set_option maxRecDepth 100000 in
theorem im_X8_stands : Cond.instanceMethod yX8_stands ∈ wT := (wTi 1099 rfl rfl)
set_option maxRecDepth 100000 in
theorem se_X8_stands : Cond.selects RX8 yX8_stands yX8_stands ∈ wT := (wTi 47 rfl rfl)
set_option maxRecDepth 100000 in
theorem lk8_212 : LV RX8 212 yX8_stands mX8_stands 2 8 := ⟨LV5 (wTi 1097 rfl rfl) im_X8_stands se_X8_stands ini_8 co_X8_stands, ⟨ne_9.1, ne_9.2, pd_4⟩, _, _, rfl⟩
set_option maxRecDepth 100000 in
theorem co_X8_grazes : Cond.code yX8_grazes cX8_grazes 3 none ∈ wT := (wTi 1104 rfl rfl)
set_option maxRecDepth 100000 in
theorem im_X8_grazes : Cond.instanceMethod yX8_grazes ∈ wT := (wTi 1103 rfl rfl)
set_option maxRecDepth 100000 in
theorem se_X8_grazes : Cond.selects RX8 yX8_grazes yX8_grazes ∈ wT := (wTi 48 rfl rfl)
set_option maxRecDepth 100000 in
theorem lk8_216 : LV RX8 216 yX8_grazes mX8_grazes 0 8 := ⟨LV5 (wTi 1101 rfl rfl) im_X8_grazes se_X8_grazes ini_8 co_X8_grazes, ⟨ne_9.1, ne_9.2, pd_1⟩, _, _, rfl⟩
set_option maxRecDepth 100000 in
theorem co_X8_nextDay : Cond.code yX8_nextDay cX8_nextDay 2 none ∈ wT := (wTi 1108 rfl rfl)
set_option maxRecDepth 100000 in
theorem im_X8_nextDay : Cond.instanceMethod yX8_nextDay ∈ wT := (wTi 1107 rfl rfl)
set_option maxRecDepth 100000 in
theorem se_X8_nextDay : Cond.selects RX8 yX8_nextDay yX8_nextDay ∈ wT := (wTi 49 rfl rfl)
set_option maxRecDepth 100000 in
theorem lk8_219 : LV RX8 219 yX8_nextDay mX8_nextDay 0 8 := ⟨LV5 (wTi 1105 rfl rfl) im_X8_nextDay se_X8_nextDay ini_8 co_X8_nextDay, ⟨ne_9.1, ne_9.2, pd_1⟩, _, _, rfl⟩
set_option maxRecDepth 100000 in
theorem co_X8_lost : Cond.code yX8_lost cX8_lost 4 (some .int) ∈ wT := (wTi 1088 rfl rfl)
set_option maxRecDepth 100000 in
theorem im_X8_lost : Cond.instanceMethod yX8_lost ∈ wT := (wTi 1087 rfl rfl)
set_option maxRecDepth 100000 in
theorem se_X8_lost : Cond.selects RX8 yX8_lost yX8_lost ∈ wT := (wTi 44 rfl rfl)
set_option maxRecDepth 100000 in
theorem lk8_222 : LV RX8 222 yX8_lost mX8_lost 0 8 := ⟨LV5 (wTi 1085 rfl rfl) im_X8_lost se_X8_lost ini_8 co_X8_lost, ⟨ne_9.1, ne_9.2, pd_6⟩, _, _, rfl⟩
set_option maxRecDepth 100000 in
theorem co_X8_isSquare : Cond.code yX8_isSquare cX8_isSquare 2 (some .boolean) ∈ wT := (wTi 1018 rfl rfl)
set_option maxRecDepth 100000 in
theorem im_X8_isSquare : Cond.instanceMethod yX8_isSquare ∈ wT := (wTi 1017 rfl rfl)
set_option maxRecDepth 100000 in
theorem se_X8_isSquare : Cond.selects RX8 yX8_isSquare yX8_isSquare ∈ wT := (wTi 32 rfl rfl)
set_option maxRecDepth 100000 in
theorem lk8_225 : LV RX8 225 yX8_isSquare mX8_isSquare 1 8 := ⟨LV5 (wTi 1015 rfl rfl) im_X8_isSquare se_X8_isSquare ini_8 co_X8_isSquare, ⟨ne_9.1, ne_9.2, pd_0⟩, _, _, rfl⟩
set_option maxRecDepth 100000 in
theorem co_X8_asItIs : Cond.code yX8_asItIs cX8_asItIs 1 none ∈ wT := (wTi 1022 rfl rfl)
set_option maxRecDepth 100000 in
theorem im_X8_asItIs : Cond.instanceMethod yX8_asItIs ∈ wT := (wTi 1021 rfl rfl)
set_option maxRecDepth 100000 in
theorem se_X8_asItIs : Cond.selects RX8 yX8_asItIs yX8_asItIs ∈ wT := (wTi 33 rfl rfl)
set_option maxRecDepth 100000 in
theorem lk8_228 : LV RX8 228 yX8_asItIs mX8_asItIs 0 8 := ⟨LV5 (wTi 1019 rfl rfl) im_X8_asItIs se_X8_asItIs ini_8 co_X8_asItIs, ⟨ne_9.1, ne_9.2, pd_1⟩, _, _, rfl⟩
set_option maxRecDepth 100000 in
theorem co_X8_isBeast : Cond.code yX8_isBeast cX8_isBeast 2 (some .boolean) ∈ wT := (wTi 1034 rfl rfl)
set_option maxRecDepth 100000 in
theorem im_X8_isBeast : Cond.instanceMethod yX8_isBeast ∈ wT := (wTi 1033 rfl rfl)
set_option maxRecDepth 100000 in
theorem se_X8_isBeast : Cond.selects RX8 yX8_isBeast yX8_isBeast ∈ wT := (wTi 35 rfl rfl)
set_option maxRecDepth 100000 in
theorem lk8_231 : LV RX8 231 yX8_isBeast mX8_isBeast 1 8 := ⟨LV5 (wTi 1031 rfl rfl) im_X8_isBeast se_X8_isBeast ini_8 co_X8_isBeast, ⟨ne_9.1, ne_9.2, pd_0⟩, _, _, rfl⟩
set_option maxRecDepth 100000 in
theorem co_X8_orNone : Cond.code yX8_orNone cX8_orNone 1 (some .int) ∈ wT := (wTi 1044 rfl rfl)
set_option maxRecDepth 100000 in
theorem sm_X8_orNone : Cond.static yX8_orNone ∈ wT := (wTi 1043 rfl rfl)
set_option maxRecDepth 100000 in
theorem lk8_234 : LVS RX8 234 yX8_orNone mX8_orNone 1 := ⟨LS4 (wTi 1042 rfl rfl) sm_X8_orNone ini_8 co_X8_orNone, ⟨ne_9.1, ne_9.2, pd_7⟩⟩
set_option maxRecDepth 100000 in
theorem co_X8_looksAt : Cond.code yX8_looksAt cX8_looksAt 3 (some .int) ∈ wT := (wTi 1052 rfl rfl)
set_option maxRecDepth 100000 in
theorem im_X8_looksAt : Cond.instanceMethod yX8_looksAt ∈ wT := (wTi 1051 rfl rfl)
set_option maxRecDepth 100000 in
theorem se_X8_looksAt : Cond.selects RX8 yX8_looksAt yX8_looksAt ∈ wT := (wTi 37 rfl rfl)
set_option maxRecDepth 100000 in
theorem lk8_237 : LV RX8 237 yX8_looksAt mX8_looksAt 2 8 := ⟨LV5 (wTi 1049 rfl rfl) im_X8_looksAt se_X8_looksAt ini_8 co_X8_looksAt, ⟨ne_9.1, ne_9.2, pd_9⟩, _, _, rfl⟩
set_option maxRecDepth 100000 in
theorem co_X8_goesBy : Cond.code yX8_goesBy cX8_goesBy 4 none ∈ wT := (wTi 1096 rfl rfl)
set_option maxRecDepth 100000 in
theorem im_X8_goesBy : Cond.instanceMethod yX8_goesBy ∈ wT := (wTi 1095 rfl rfl)
set_option maxRecDepth 100000 in
theorem se_X8_goesBy : Cond.selects RX8 yX8_goesBy yX8_goesBy ∈ wT := (wTi 46 rfl rfl)
set_option maxRecDepth 100000 in
theorem lk8_240 : LV RX8 240 yX8_goesBy mX8_goesBy 1 8 := ⟨LV5 (wTi 1093 rfl rfl) im_X8_goesBy se_X8_goesBy ini_8 co_X8_goesBy, ⟨ne_9.1, ne_9.2, pd_16⟩, _, _, rfl⟩
set_option maxRecDepth 100000 in
theorem co_X8_canDrive : Cond.code yX8_canDrive cX8_canDrive 3 (some .boolean) ∈ wT := (wTi 1084 rfl rfl)
set_option maxRecDepth 100000 in
theorem im_X8_canDrive : Cond.instanceMethod yX8_canDrive ∈ wT := (wTi 1083 rfl rfl)
set_option maxRecDepth 100000 in
theorem se_X8_canDrive : Cond.selects RX8 yX8_canDrive yX8_canDrive ∈ wT := (wTi 43 rfl rfl)
set_option maxRecDepth 100000 in
theorem lk8_243 : LV RX8 243 yX8_canDrive mX8_canDrive 1 8 := ⟨LV5 (wTi 1081 rfl rfl) im_X8_canDrive se_X8_canDrive ini_8 co_X8_canDrive, ⟨ne_9.1, ne_9.2, pd_0⟩, _, _, rfl⟩
set_option maxRecDepth 100000 in
theorem co_X8_does : Cond.code yX8_does cX8_does 3 none ∈ wT := (wTi 1092 rfl rfl)
set_option maxRecDepth 100000 in
theorem im_X8_does : Cond.instanceMethod yX8_does ∈ wT := (wTi 1091 rfl rfl)
set_option maxRecDepth 100000 in
theorem se_X8_does : Cond.selects RX8 yX8_does yX8_does ∈ wT := (wTi 45 rfl rfl)
set_option maxRecDepth 100000 in
theorem lk8_246 : LV RX8 246 yX8_does mX8_does 1 8 := ⟨LV5 (wTi 1089 rfl rfl) im_X8_does se_X8_does ini_8 co_X8_does, ⟨ne_9.1, ne_9.2, pd_16⟩, _, _, rfl⟩
set_option maxRecDepth 100000 in
theorem co_X8_nowOne : Cond.code yX8_nowOne cX8_nowOne 2 (some .int) ∈ wT := (wTi 1128 rfl rfl)
set_option maxRecDepth 100000 in
theorem im_X8_nowOne : Cond.instanceMethod yX8_nowOne ∈ wT := (wTi 1127 rfl rfl)
set_option maxRecDepth 100000 in
theorem se_X8_nowOne : Cond.selects RX8 yX8_nowOne yX8_nowOne ∈ wT := (wTi 51 rfl rfl)
set_option maxRecDepth 100000 in
theorem lk8_252 : LV RX8 252 yX8_nowOne mX8_nowOne 1 8 := ⟨LV5 (wTi 1125 rfl rfl) im_X8_nowOne se_X8_nowOne ini_8 co_X8_nowOne, ⟨ne_9.1, ne_9.2, pd_7⟩, _, _, rfl⟩
set_option maxRecDepth 100000 in
theorem co_X8_reaches : Cond.code yX8_reaches cX8_reaches 4 none ∈ wT := (wTi 1132 rfl rfl)
set_option maxRecDepth 100000 in
theorem im_X8_reaches : Cond.instanceMethod yX8_reaches ∈ wT := (wTi 1131 rfl rfl)
set_option maxRecDepth 100000 in
theorem se_X8_reaches : Cond.selects RX8 yX8_reaches yX8_reaches ∈ wT := (wTi 52 rfl rfl)
set_option maxRecDepth 100000 in
theorem lk8_255 : LV RX8 255 yX8_reaches mX8_reaches 3 8 := ⟨LV5 (wTi 1129 rfl rfl) im_X8_reaches se_X8_reaches ini_8 co_X8_reaches, ⟨ne_9.1, ne_9.2, pd_13⟩, _, _, rfl⟩
set_option maxRecDepth 100000 in
theorem co_X8_strays : Cond.code yX8_strays cX8_strays 8 none ∈ wT := (wTi 1124 rfl rfl)
set_option maxRecDepth 100000 in
theorem im_X8_strays : Cond.instanceMethod yX8_strays ∈ wT := (wTi 1123 rfl rfl)
set_option maxRecDepth 100000 in
theorem se_X8_strays : Cond.selects RX8 yX8_strays yX8_strays ∈ wT := (wTi 50 rfl rfl)
set_option maxRecDepth 100000 in
theorem lk8_258 : LV RX8 258 yX8_strays mX8_strays 2 8 := ⟨LV5 (wTi 1121 rfl rfl) im_X8_strays se_X8_strays ini_8 co_X8_strays, ⟨ne_9.1, ne_9.2, pd_4⟩, _, _, rfl⟩
set_option maxRecDepth 100000 in
theorem co_X8_isWatered : Cond.code yX8_isWatered cX8_isWatered 4 (some .boolean) ∈ wT := (wTi 1148 rfl rfl)
set_option maxRecDepth 100000 in
theorem im_X8_isWatered : Cond.instanceMethod yX8_isWatered ∈ wT := (wTi 1147 rfl rfl)
set_option maxRecDepth 100000 in
theorem se_X8_isWatered : Cond.selects RX8 yX8_isWatered yX8_isWatered ∈ wT := (wTi 54 rfl rfl)
set_option maxRecDepth 100000 in
theorem lk8_261 : LV RX8 261 yX8_isWatered mX8_isWatered 1 8 := ⟨LV5 (wTi 1145 rfl rfl) im_X8_isWatered se_X8_isWatered ini_8 co_X8_isWatered, ⟨ne_9.1, ne_9.2, pd_0⟩, _, _, rfl⟩
set_option maxRecDepth 100000 in
theorem co_X8_nextDrive : Cond.code yX8_nextDrive cX8_nextDrive 3 (some .int) ∈ wT := (wTi 1152 rfl rfl)
set_option maxRecDepth 100000 in
theorem im_X8_nextDrive : Cond.instanceMethod yX8_nextDrive ∈ wT := (wTi 1151 rfl rfl)
set_option maxRecDepth 100000 in
theorem se_X8_nextDrive : Cond.selects RX8 yX8_nextDrive yX8_nextDrive ∈ wT := (wTi 55 rfl rfl)
set_option maxRecDepth 100000 in
theorem lk8_264 : LV RX8 264 yX8_nextDrive mX8_nextDrive 1 8 := ⟨LV5 (wTi 1149 rfl rfl) im_X8_nextDrive se_X8_nextDrive ini_8 co_X8_nextDrive, ⟨ne_9.1, ne_9.2, pd_7⟩, _, _, rfl⟩
set_option maxRecDepth 100000 in
theorem co_X8_onMeadow : Cond.code yX8_onMeadow cX8_onMeadow 4 (some .int) ∈ wT := (wTi 1156 rfl rfl)
set_option maxRecDepth 100000 in
theorem im_X8_onMeadow : Cond.instanceMethod yX8_onMeadow ∈ wT := (wTi 1155 rfl rfl)
set_option maxRecDepth 100000 in
theorem se_X8_onMeadow : Cond.selects RX8 yX8_onMeadow yX8_onMeadow ∈ wT := (wTi 56 rfl rfl)
set_option maxRecDepth 100000 in
theorem lk8_267 : LV RX8 267 yX8_onMeadow mX8_onMeadow 1 8 := ⟨LV5 (wTi 1153 rfl rfl) im_X8_onMeadow se_X8_onMeadow ini_8 co_X8_onMeadow, ⟨ne_9.1, ne_9.2, pd_7⟩, _, _, rfl⟩
set_option maxRecDepth 100000 in
theorem co_X8_isSummer : Cond.code yX8_isSummer cX8_isSummer 7 (some .boolean) ∈ wT := (wTi 1144 rfl rfl)
set_option maxRecDepth 100000 in
theorem im_X8_isSummer : Cond.instanceMethod yX8_isSummer ∈ wT := (wTi 1143 rfl rfl)
set_option maxRecDepth 100000 in
theorem se_X8_isSummer : Cond.selects RX8 yX8_isSummer yX8_isSummer ∈ wT := (wTi 53 rfl rfl)
set_option maxRecDepth 100000 in
theorem lk8_270 : LV RX8 270 yX8_isSummer mX8_isSummer 2 8 := ⟨LV5 (wTi 1141 rfl rfl) im_X8_isSummer se_X8_isSummer ini_8 co_X8_isSummer, ⟨ne_9.1, ne_9.2, pd_12⟩, _, _, rfl⟩
set_option maxRecDepth 100000 in
theorem co_X8_worth : Cond.code yX8_worth cX8_worth 5 (some .int) ∈ wT := (wTi 1168 rfl rfl)
set_option maxRecDepth 100000 in
theorem im_X8_worth : Cond.instanceMethod yX8_worth ∈ wT := (wTi 1167 rfl rfl)
set_option maxRecDepth 100000 in
theorem se_X8_worth : Cond.selects RX8 yX8_worth yX8_worth ∈ wT := (wTi 58 rfl rfl)
set_option maxRecDepth 100000 in
theorem lk8_273 : LV RX8 273 yX8_worth mX8_worth 0 8 := ⟨LV5 (wTi 1165 rfl rfl) im_X8_worth se_X8_worth ini_8 co_X8_worth, ⟨ne_9.1, ne_9.2, pd_6⟩, _, _, rfl⟩
set_option maxRecDepth 100000 in
theorem co_X8_isFirstOf : Cond.code yX8_isFirstOf cX8_isFirstOf 2 (some .boolean) ∈ wT := (wTi 1172 rfl rfl)
set_option maxRecDepth 100000 in
theorem im_X8_isFirstOf : Cond.instanceMethod yX8_isFirstOf ∈ wT := (wTi 1171 rfl rfl)
set_option maxRecDepth 100000 in
theorem se_X8_isFirstOf : Cond.selects RX8 yX8_isFirstOf yX8_isFirstOf ∈ wT := (wTi 59 rfl rfl)
set_option maxRecDepth 100000 in
theorem lk8_276 : LV RX8 276 yX8_isFirstOf mX8_isFirstOf 1 8 := ⟨LV5 (wTi 1169 rfl rfl) im_X8_isFirstOf se_X8_isFirstOf ini_8 co_X8_isFirstOf, ⟨ne_9.1, ne_9.2, pd_0⟩, _, _, rfl⟩
set_option maxRecDepth 100000 in
theorem co_X8_plays : Cond.code yX8_plays cX8_plays 9 (some .int) ∈ wT := (wTi 1164 rfl rfl)
set_option maxRecDepth 100000 in
theorem im_X8_plays : Cond.instanceMethod yX8_plays ∈ wT := (wTi 1163 rfl rfl)
set_option maxRecDepth 100000 in
theorem se_X8_plays : Cond.selects RX8 yX8_plays yX8_plays ∈ wT := (wTi 57 rfl rfl)
set_option maxRecDepth 100000 in
theorem lk8_279 : LV RX8 279 yX8_plays mX8_plays 1 8 := ⟨LV5 (wTi 1161 rfl rfl) im_X8_plays se_X8_plays ini_8 co_X8_plays, ⟨ne_9.1, ne_9.2, pd_7⟩, _, _, rfl⟩
set_option maxRecDepth 100000 in
theorem co_X8_isOtherwise : Cond.code yX8_isOtherwise cX8_isOtherwise 6 (some .boolean) ∈ wT := (wTi 1188 rfl rfl)
set_option maxRecDepth 100000 in
theorem im_X8_isOtherwise : Cond.instanceMethod yX8_isOtherwise ∈ wT := (wTi 1187 rfl rfl)
set_option maxRecDepth 100000 in
theorem se_X8_isOtherwise : Cond.selects RX8 yX8_isOtherwise yX8_isOtherwise ∈ wT := (wTi 60 rfl rfl)
set_option maxRecDepth 100000 in
theorem lk8_282 : LV RX8 282 yX8_isOtherwise mX8_isOtherwise 4 8 := ⟨LV5 (wTi 1185 rfl rfl) im_X8_isOtherwise se_X8_isOtherwise ini_8 co_X8_isOtherwise, ⟨ne_9.1, ne_9.2, pd_5⟩, _, _, rfl⟩
set_option maxRecDepth 100000 in
theorem co_X8_isNearBog : Cond.code yX8_isNearBog cX8_isNearBog 5 (some .boolean) ∈ wT := (wTi 1200 rfl rfl)
set_option maxRecDepth 100000 in
theorem im_X8_isNearBog : Cond.instanceMethod yX8_isNearBog ∈ wT := (wTi 1199 rfl rfl)
set_option maxRecDepth 100000 in
theorem se_X8_isNearBog : Cond.selects RX8 yX8_isNearBog yX8_isNearBog ∈ wT := (wTi 62 rfl rfl)
set_option maxRecDepth 100000 in
theorem lk8_286 : LV RX8 286 yX8_isNearBog mX8_isNearBog 1 8 := ⟨LV5 (wTi 1197 rfl rfl) im_X8_isNearBog se_X8_isNearBog ini_8 co_X8_isNearBog, ⟨ne_9.1, ne_9.2, pd_0⟩, _, _, rfl⟩
set_option maxRecDepth 100000 in
theorem co_X8_wolf : Cond.code yX8_wolf cX8_wolf 2 none ∈ wT := (wTi 1196 rfl rfl)
set_option maxRecDepth 100000 in
theorem im_X8_wolf : Cond.instanceMethod yX8_wolf ∈ wT := (wTi 1195 rfl rfl)
set_option maxRecDepth 100000 in
theorem se_X8_wolf : Cond.selects RX8 yX8_wolf yX8_wolf ∈ wT := (wTi 61 rfl rfl)
set_option maxRecDepth 100000 in
theorem lk8_289 : LV RX8 289 yX8_wolf mX8_wolf 0 8 := ⟨LV5 (wTi 1193 rfl rfl) im_X8_wolf se_X8_wolf ini_8 co_X8_wolf, ⟨ne_9.1, ne_9.2, pd_1⟩, _, _, rfl⟩
set_option maxRecDepth 100000 in
theorem co_X8_lowest : Cond.code yX8_lowest cX8_lowest 6 (some .int) ∈ wT := (wTi 1203 rfl rfl)
set_option maxRecDepth 100000 in
theorem sm_X8_lowest : Cond.static yX8_lowest ∈ wT := (wTi 1202 rfl rfl)
set_option maxRecDepth 100000 in
theorem lk8_292 : LVS RX8 292 yX8_lowest mX8_lowest 3 := ⟨LS4 (wTi 1201 rfl rfl) sm_X8_lowest ini_8 co_X8_lowest, ⟨ne_9.1, ne_9.2, pd_27⟩⟩
set_option maxRecDepth 100000 in
theorem co_X8_clearTold : Cond.code yX8_clearTold cX8_clearTold 2 none ∈ wT := (wTi 820 rfl rfl)
set_option maxRecDepth 100000 in
theorem im_X8_clearTold : Cond.instanceMethod yX8_clearTold ∈ wT := (wTi 819 rfl rfl)
set_option maxRecDepth 100000 in
theorem se_X8_clearTold : Cond.selects RX8 yX8_clearTold yX8_clearTold ∈ wT := (wTi 21 rfl rfl)
set_option maxRecDepth 100000 in
theorem lk8_79 : LV RX8 79 yX8_clearTold mX8_clearTold 0 8 := ⟨LV5 (wTi 817 rfl rfl) im_X8_clearTold se_X8_clearTold ini_8 co_X8_clearTold, ⟨ne_9.1, ne_9.2, pd_1⟩, _, _, rfl⟩
set_option maxRecDepth 100000 in
theorem co_X8_tellsBeast : Cond.code yX8_tellsBeast cX8_tellsBeast 4 none ∈ wT := (wTi 828 rfl rfl)
set_option maxRecDepth 100000 in
theorem im_X8_tellsBeast : Cond.instanceMethod yX8_tellsBeast ∈ wT := (wTi 827 rfl rfl)
set_option maxRecDepth 100000 in
theorem se_X8_tellsBeast : Cond.selects RX8 yX8_tellsBeast yX8_tellsBeast ∈ wT := (wTi 23 rfl rfl)
set_option maxRecDepth 100000 in
theorem lk8_86 : LV RX8 86 yX8_tellsBeast mX8_tellsBeast 3 8 := ⟨LV5 (wTi 825 rfl rfl) im_X8_tellsBeast se_X8_tellsBeast ini_8 co_X8_tellsBeast, ⟨ne_9.1, ne_9.2, pd_13⟩, _, _, rfl⟩
