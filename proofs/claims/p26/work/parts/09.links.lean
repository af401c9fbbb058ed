def mX4_get : MT := (RX4, cX4_get, 3, (some (.object "SheepChess$Meadow")), 1)
def mX2_copyFrom : MT := (RX2, cX2_copyFrom, 2, none, 1)
def mX2_occupant : MT := (RX2, cX2_occupant, 3, (some .int), 1)
def mX1_hasBeast : MT := (RX1, cX1_hasBeast, 2, (some .boolean), 1)
def mX2_kindOf : MT := (RX2, cX2_kindOf, 2, (some .int), 1)
def mX1_villageOf : MT := (RX1, cX1_villageOf, 2, (some .int), 1)
def mX1_turnsPawn : MT := (RX1, cX1_turnsPawn, 3, (some .boolean), 1)
def mX2_put : MT := (RX2, cX2_put, 4, none, 2)
def mX2_move : MT := (RX2, cX2_move, 5, none, 3)
def mX2_graze : MT := (RX2, cX2_graze, 3, none, 1)
def mX2_beginNextDay : MT := (RX2, cX2_beginNextDay, 2, none, 2)
def mX2_passDay : MT := (RX2, cX2_passDay, 1, none, 3)
def mX0_pass : MT := (RX0, cX0_pass, 5, (some (.object "SheepChess$Meadow")), 4)
def mX2_ramOnWell : MT := (RX2, cX2_ramOnWell, 3, (some .boolean), 2)
def mX2_lost : MT := (RX2, cX2_lost, 5, (some .int), 2)
def mX2_staying : MT := (RX2, cX2_staying, 4, (some .int), 2)
def mX2_turn : MT := (RX2, cX2_turn, 1, (some .int), 1)
def mX1_snowsOn : MT := (RX1, cX1_snowsOn, 2, (some .boolean), 1)
def mX2_snowing : MT := (RX2, cX2_snowing, 1, (some .boolean), 2)
def mX2_placeOf : MT := (RX2, cX2_placeOf, 2, (some .int), 1)
def mX2_isOff : MT := (RX2, cX2_isOff, 2, (some .boolean), 2)
def mX1_beside : MT := (RX1, cX1_beside, 3, (some .int), 1)
def mX2_grassOn : MT := (RX2, cX2_grassOn, 2, (some .int), 1)
def mX2_ramBeside : MT := (RX2, cX2_ramBeside, 7, (some .boolean), 1)
def mX2_isOpen : MT := (RX2, cX2_isOpen, 6, (some .boolean), 2)
def mX2_reach : MT := (RX2, cX2_reach, 8, (some .int), 3)
def mX2_driven : MT := (RX2, cX2_driven, 3, (some .int), 4)
def mX0_note : MT := (RX0, cX0_note, 3, none, 1)
def mX0_comesToWell (n : Nat) : MT := (RX0, cX0_comesToWell, 11, (some .boolean), 5 + n)
def mX0_daysToWell : MT := (RX0, cX0_daysToWell, 4, (some .int), 18)
def mX0_onOwnDay : MT := (RX0, cX0_onOwnDay, 2, (some .int), 1)
def mX2_worth : MT := (RX2, cX2_worth, 4, (some .int), 2)
def mX0_worthFrom (n : Nat) : MT := (RX0, cX0_worthFrom, 10, (some .int), 5 + n)
def mX0_worthBehind : MT := (RX0, cX0_worthBehind, 3, (some .int), 18)
def mX2_bogBeside : MT := (RX2, cX2_bogBeside, 4, (some .boolean), 2)
def mX2_wolfComes : MT := (RX2, cX2_wolfComes, 2, none, 3)
def mX0_stayingFrom (n : Nat) : MT := (RX0, cX0_stayingFrom, 9, (some .long), 4 + n)
def mX0_staying : MT := (RX0, cX0_staying, 5, (some .long), 17)
def mX1_clear : MT := (RX1, cX1_clear, 1, none, 1)
def mX1_copyFrom : MT := (RX1, cX1_copyFrom, 2, none, 1)
def mX1_hasSquare : MT := (RX1, cX1_hasSquare, 2, (some .boolean), 1)
def mX2_hungerOf : MT := (RX2, cX2_hungerOf, 2, (some .int), 1)
def mX2_live : MT := (RX2, cX2_live, 4, none, 5)
def mX2_allGrass : MT := (RX2, cX2_allGrass, 3, (some .int), 1)
def mJM_floorMod : MT := ("java/lang/Math", cJ9_floorMod_7cf53, 3, (some .int), 1)
def mX3_slot : MT := (RX3, cX3_slot, 2, (some .int), 2)
def mX3_before : MT := (RX3, cX3_before, 2, (some (.object "SheepChess$Meadow")), 3)
def mX3_add : MT := (RX3, cX3_add, 4, none, 3)
def mX3_otherwiseIs : MT := (RX3, cX3_otherwiseIs, 8, (some .boolean), 6)
def mX5_add : MT := (RX5, cX5_add, 2, (some .boolean), 1)
def mX5_letterAtHead : MT := (RX5, cX5_letterAtHead, 1, (some .int), 1)
def mX5_readFigure : MT := (RX5, cX5_readFigure, 2, (some .int), 1)
def mX5_passes : MT := (RX5, cX5_passes, 2, (some .boolean), 2)
def mX5_readRow : MT := (RX5, cX5_readRow, 5, (some .boolean), 3)
def mX5_readNumber : MT := (RX5, cX5_readNumber, 3, (some .int), 2)
def mX7_isVillage : MT := (RX7, cX7_isVillage, 1, (some .boolean), 1)
def mX5_readBeast : MT := (RX5, cX5_readBeast, 6, (some .boolean), 3)
def mX5_readWell : MT := (RX5, cX5_readWell, 2, (some .boolean), 3)
def mX5_readHunger : MT := (RX5, cX5_readHunger, 2, (some .boolean), 3)
def mX5_readSnow : MT := (RX5, cX5_readSnow, 2, (some .boolean), 3)
def mX5_readItem : MT := (RX5, cX5_readItem, 2, (some .boolean), 4)
def mX5_firstFault : MT := (RX5, cX5_firstFault, 3, (some .int), 5)
def mX6_add : MT := (RX6, cX6_add, 7, none, 2)
def mX6_from : MT := (RX6, cX6_from, 6, none, 4)
def mX6_first : MT := (RX6, cX6_first, 3, (some .int), 1)
def mX6_drivesTo : MT := (RX6, cX6_drivesTo, 2, (some .int), 1)
def mX6_wayTo : MT := (RX6, cX6_wayTo, 5, (some .int), 1)
def mX6_squaresWithin : MT := (RX6, cX6_squaresWithin, 5, (some .int), 2)
def mX7_write : MT := (RX7, cX7_write, 2, (some .int), 2)
def mX7_wipe : MT := (RX7, cX7_wipe, 2, (some .int), 1)
def mX7_fault : MT := (RX7, cX7_fault, 1, (some .int), 6)
def mX7_begin : MT := (RX7, cX7_begin, 1, (some .boolean), 6)
def mX7_lay : MT := (RX7, cX7_lay, 1, (some .int), 7)
def mX7_square : MT := (RX7, cX7_square, 3, (some .int), 2)
def mX7_beast : MT := (RX7, cX7_beast, 3, (some .int), 2)
def mX7_isWay : MT := (RX7, cX7_isWay, 1, (some .boolean), 1)
def mX7_goes : MT := (RX7, cX7_goes, 3, (some .int), 4)
def mX7_takes : MT := (RX7, cX7_takes, 3, (some .int), 4)
def mX7_drive : MT := (RX7, cX7_drive, 4, (some .int), 5)
def mX7_rest : MT := (RX7, cX7_rest, 1, (some .int), 4)
def mX7_undo : MT := (RX7, cX7_undo, 1, (some .int), 4)
def mX7_fewest : MT := (RX7, cX7_fewest, 5, (some .int), 5)
def mX7_stray : MT := (RX7, cX7_stray, 3, (some .int), 5)
def mX7_summer : MT := (RX7, cX7_summer, 4, (some .int), 19)
def mX7_game : MT := (RX7, cX7_game, 4, (some .int), 19)
def mX7_again : MT := (RX7, cX7_again, 3, (some .int), 4)
def mX7_starves : MT := (RX7, cX7_starves, 3, (some .int), 4)
def mX7_otherwise : MT := (RX7, cX7_otherwise, 8, (some .int), 7)
def mX7_commonPart : MT := (RX7, cX7_commonPart, 11, (some .long), 1)
def mX7_wolves : MT := (RX7, cX7_wolves, 12, (some .int), 18)
def mX7_draw : MT := (RX7, cX7_draw, 4, (some .int), 1)
def mX7_season : MT := (RX7, cX7_season, 7, (some .int), 6)
def mX7_keep : MT := (RX7, cX7_keep, 1, (some .int), 2)
def mX7_back : MT := (RX7, cX7_back, 1, (some .int), 2)
def mX7_count : MT := (RX7, cX7_count, 2, (some .int), 3)
def mL_cell : MT := (RL, cL_cell, 2, (some .int), 1)
def mL_low : MT := (RL, cL_low, 2, (some .int), 1)
def mL_number : MT := (RL, cL_number, 3, (some .boolean), 3)
def mL_one : MT := (RL, cL_one, 3, (some .boolean), 4)
def mL_bog : MT := (RL, cL_bog, 2, (some .boolean), 1)
def mL_make : MT := (RL, cL_make, 16, (some .boolean), 8)
def mL_agrees : MT := (RL, cL_agrees, 14, (some .boolean), 4)
def mL_drives : MT := (RL, cL_drives, 14, (some .boolean), 6)
def mL_strays : MT := (RL, cL_strays, 9, (some .boolean), 6)
def mL_games : MT := (RL, cL_games, 6, (some .boolean), 20)
def mL_summers : MT := (RL, cL_summers, 11, (some .boolean), 21)
def mL_rests : MT := (RL, cL_rests, 17, (some .boolean), 19)
set_option maxRecDepth 100000 in
theorem co_X7_season : Cond.code yX7_season cX7_season 7 (some .int) ∈ wT := (wTi 799 rfl rfl)
set_option maxRecDepth 100000 in
theorem ini_7 : Cond.initialized RX7 ∈ wT := (wTi 22 rfl rfl)
set_option maxRecDepth 100000 in
theorem im_X7_season : Cond.instanceMethod yX7_season ∈ wT := (wTi 797 rfl rfl)
set_option maxRecDepth 100000 in
theorem se_X7_season : Cond.selects RX7 yX7_season yX7_season ∈ wT := (wTi 798 rfl rfl)
set_option maxRecDepth 100000 in
theorem lkL_105 : LV RL 105 yX7_season mX7_season 3 7 := ⟨LV5 (wTi 796 rfl rfl) im_X7_season se_X7_season ini_7 co_X7_season, ⟨ne_0.1, ne_0.2, pd_0⟩, _, _, rfl⟩
set_option maxRecDepth 100000 in
theorem co_L_make : Cond.code yL_make cL_make 16 (some .boolean) ∈ wT := (wTi 584 rfl rfl)
set_option maxRecDepth 100000 in
theorem ini_L : Cond.initialized RL ∈ wT := (wTi 21 rfl rfl)
set_option maxRecDepth 100000 in
theorem sm_L_make : Cond.static yL_make ∈ wT := (wTi 583 rfl rfl)
set_option maxRecDepth 100000 in
theorem lkL_109 : LVS RL 109 yL_make mL_make 6 := ⟨LS4 (wTi 582 rfl rfl) sm_L_make ini_L co_L_make, ⟨ne_1.1, ne_1.2, pd_1⟩⟩
set_option maxRecDepth 100000 in
theorem co_L_agrees : Cond.code yL_agrees cL_agrees 14 (some .boolean) ∈ wT := (wTi 612 rfl rfl)
set_option maxRecDepth 100000 in
theorem sm_L_agrees : Cond.static yL_agrees ∈ wT := (wTi 611 rfl rfl)
set_option maxRecDepth 100000 in
theorem lkL_113 : LVS RL 113 yL_agrees mL_agrees 2 := ⟨LS4 (wTi 610 rfl rfl) sm_L_agrees ini_L co_L_agrees, ⟨ne_1.1, ne_1.2, pd_2⟩⟩
set_option maxRecDepth 100000 in
theorem co_L_drives : Cond.code yL_drives cL_drives 14 (some .boolean) ∈ wT := (wTi 631 rfl rfl)
set_option maxRecDepth 100000 in
theorem sm_L_drives : Cond.static yL_drives ∈ wT := (wTi 630 rfl rfl)
set_option maxRecDepth 100000 in
theorem lkL_117 : LVS RL 117 yL_drives mL_drives 4 := ⟨LS4 (wTi 629 rfl rfl) sm_L_drives ini_L co_L_drives, ⟨ne_1.1, ne_1.2, pd_3⟩⟩
set_option maxRecDepth 100000 in
theorem co_L_strays : Cond.code yL_strays cL_strays 9 (some .boolean) ∈ wT := (wTi 650 rfl rfl)
set_option maxRecDepth 100000 in
theorem sm_L_strays : Cond.static yL_strays ∈ wT := (wTi 649 rfl rfl)
set_option maxRecDepth 100000 in
theorem lkL_121 : LVS RL 121 yL_strays mL_strays 3 := ⟨LS4 (wTi 648 rfl rfl) sm_L_strays ini_L co_L_strays, ⟨ne_1.1, ne_1.2, pd_4⟩⟩
set_option maxRecDepth 100000 in
theorem co_L_summers : Cond.code yL_summers cL_summers 11 (some .boolean) ∈ wT := (wTi 693 rfl rfl)
set_option maxRecDepth 100000 in
theorem sm_L_summers : Cond.static yL_summers ∈ wT := (wTi 692 rfl rfl)
set_option maxRecDepth 100000 in
theorem lkL_125 : LVS RL 125 yL_summers mL_summers 3 := ⟨LS4 (wTi 691 rfl rfl) sm_L_summers ini_L co_L_summers, ⟨ne_1.1, ne_1.2, pd_4⟩⟩
set_option maxRecDepth 100000 in
theorem co_L_rests : Cond.code yL_rests cL_rests 17 (some .boolean) ∈ wT := (wTi 759 rfl rfl)
set_option maxRecDepth 100000 in
theorem sm_L_rests : Cond.static yL_rests ∈ wT := (wTi 758 rfl rfl)
set_option maxRecDepth 100000 in
theorem lkL_128 : LVS RL 128 yL_rests mL_rests 3 := ⟨LS4 (wTi 757 rfl rfl) sm_L_rests ini_L co_L_rests, ⟨ne_1.1, ne_1.2, pd_4⟩⟩
set_option maxRecDepth 100000 in
theorem co_X7_otherwise : Cond.code yX7_otherwise cX7_otherwise 8 (some .int) ∈ wT := (wTi 533 rfl rfl)
set_option maxRecDepth 100000 in
theorem im_X7_otherwise : Cond.instanceMethod yX7_otherwise ∈ wT := (wTi 531 rfl rfl)
set_option maxRecDepth 100000 in
theorem se_X7_otherwise : Cond.selects RX7 yX7_otherwise yX7_otherwise ∈ wT := (wTi 532 rfl rfl)
set_option maxRecDepth 100000 in
theorem lkL_131 : LV RL 131 yX7_otherwise mX7_otherwise 3 7 := ⟨LV5 (wTi 530 rfl rfl) im_X7_otherwise se_X7_otherwise ini_7 co_X7_otherwise, ⟨ne_0.1, ne_0.2, pd_0⟩, _, _, rfl⟩
set_option maxRecDepth 100000 in
theorem co_L_number : Cond.code yL_number cL_number 3 (some .boolean) ∈ wT := (wTi 598 rfl rfl)
set_option maxRecDepth 100000 in
theorem sm_L_number : Cond.static yL_number ∈ wT := (wTi 597 rfl rfl)
set_option maxRecDepth 100000 in
theorem lkL_15 : LVS RL 15 yL_number mL_number 3 := ⟨LS4 (wTi 596 rfl rfl) sm_L_number ini_L co_L_number, ⟨ne_1.1, ne_1.2, pd_5⟩⟩
set_option maxRecDepth 100000 in
theorem co_L_cell : Cond.code yL_cell cL_cell 2 (some .int) ∈ wT := (wTi 576 rfl rfl)
set_option maxRecDepth 100000 in
theorem sm_L_cell : Cond.static yL_cell ∈ wT := (wTi 575 rfl rfl)
set_option maxRecDepth 100000 in
theorem lkL_21 : LVS RL 21 yL_cell mL_cell 2 := ⟨LS4 (wTi 574 rfl rfl) sm_L_cell ini_L co_L_cell, ⟨ne_1.1, ne_1.2, pd_6⟩⟩
set_option maxRecDepth 100000 in
theorem co_X7_wipe : Cond.code yX7_wipe cX7_wipe 2 (some .int) ∈ wT := (wTi 588 rfl rfl)
set_option maxRecDepth 100000 in
theorem im_X7_wipe : Cond.instanceMethod yX7_wipe ∈ wT := (wTi 586 rfl rfl)
set_option maxRecDepth 100000 in
theorem se_X7_wipe : Cond.selects RX7 yX7_wipe yX7_wipe ∈ wT := (wTi 587 rfl rfl)
set_option maxRecDepth 100000 in
theorem lkL_25 : LV RL 25 yX7_wipe mX7_wipe 0 7 := ⟨LV5 (wTi 585 rfl rfl) im_X7_wipe se_X7_wipe ini_7 co_X7_wipe, ⟨ne_0.1, ne_0.2, pd_7⟩, _, _, rfl⟩
set_option maxRecDepth 100000 in
theorem co_L_low : Cond.code yL_low cL_low 2 (some .int) ∈ wT := (wTi 580 rfl rfl)
set_option maxRecDepth 100000 in
theorem sm_L_low : Cond.static yL_low ∈ wT := (wTi 579 rfl rfl)
set_option maxRecDepth 100000 in
theorem lkL_29 : LVS RL 29 yL_low mL_low 2 := ⟨LS4 (wTi 578 rfl rfl) sm_L_low ini_L co_L_low, ⟨ne_1.1, ne_1.2, pd_8⟩⟩
set_option maxRecDepth 100000 in
theorem co_L_bog : Cond.code yL_bog cL_bog 2 (some .boolean) ∈ wT := (wTi 595 rfl rfl)
set_option maxRecDepth 100000 in
theorem sm_L_bog : Cond.static yL_bog ∈ wT := (wTi 594 rfl rfl)
set_option maxRecDepth 100000 in
theorem lkL_33 : LVS RL 33 yL_bog mL_bog 2 := ⟨LS4 (wTi 593 rfl rfl) sm_L_bog ini_L co_L_bog, ⟨ne_1.1, ne_1.2, pd_9⟩⟩
set_option maxRecDepth 100000 in
theorem co_L_one : Cond.code yL_one cL_one 3 (some .boolean) ∈ wT := (wTi 601 rfl rfl)
set_option maxRecDepth 100000 in
theorem sm_L_one : Cond.static yL_one ∈ wT := (wTi 600 rfl rfl)
set_option maxRecDepth 100000 in
theorem lkL_37 : LVS RL 37 yL_one mL_one 3 := ⟨LS4 (wTi 599 rfl rfl) sm_L_one ini_L co_L_one, ⟨ne_1.1, ne_1.2, pd_5⟩⟩
set_option maxRecDepth 100000 in
theorem co_X7_fault : Cond.code yX7_fault cX7_fault 1 (some .int) ∈ wT := (wTi 605 rfl rfl)
set_option maxRecDepth 100000 in
theorem im_X7_fault : Cond.instanceMethod yX7_fault ∈ wT := (wTi 603 rfl rfl)
set_option maxRecDepth 100000 in
theorem se_X7_fault : Cond.selects RX7 yX7_fault yX7_fault ∈ wT := (wTi 604 rfl rfl)
set_option maxRecDepth 100000 in
theorem lkL_40 : LV RL 40 yX7_fault mX7_fault 0 7 := ⟨LV5 (wTi 602 rfl rfl) im_X7_fault se_X7_fault ini_7 co_X7_fault, ⟨ne_0.1, ne_0.2, pd_7⟩, _, _, rfl⟩
set_option maxRecDepth 100000 in
theorem co_X7_lay : Cond.code yX7_lay cX7_lay 1 (some .int) ∈ wT := (wTi 609 rfl rfl)
set_option maxRecDepth 100000 in
theorem im_X7_lay : Cond.instanceMethod yX7_lay ∈ wT := (wTi 607 rfl rfl)
set_option maxRecDepth 100000 in
theorem se_X7_lay : Cond.selects RX7 yX7_lay yX7_lay ∈ wT := (wTi 608 rfl rfl)
set_option maxRecDepth 100000 in
theorem lkL_43 : LV RL 43 yX7_lay mX7_lay 0 7 := ⟨LV5 (wTi 606 rfl rfl) im_X7_lay se_X7_lay ini_7 co_X7_lay, ⟨ne_0.1, ne_0.2, pd_7⟩, _, _, rfl⟩
set_option maxRecDepth 100000 in
theorem co_X7_square : Cond.code yX7_square cX7_square 3 (some .int) ∈ wT := (wTi 616 rfl rfl)
set_option maxRecDepth 100000 in
theorem im_X7_square : Cond.instanceMethod yX7_square ∈ wT := (wTi 614 rfl rfl)
set_option maxRecDepth 100000 in
theorem se_X7_square : Cond.selects RX7 yX7_square yX7_square ∈ wT := (wTi 615 rfl rfl)
set_option maxRecDepth 100000 in
theorem lkL_46 : LV RL 46 yX7_square mX7_square 2 7 := ⟨LV5 (wTi 613 rfl rfl) im_X7_square se_X7_square ini_7 co_X7_square, ⟨ne_0.1, ne_0.2, pd_8⟩, _, _, rfl⟩
set_option maxRecDepth 100000 in
theorem co_X7_beast : Cond.code yX7_beast cX7_beast 3 (some .int) ∈ wT := (wTi 622 rfl rfl)
set_option maxRecDepth 100000 in
theorem im_X7_beast : Cond.instanceMethod yX7_beast ∈ wT := (wTi 620 rfl rfl)
set_option maxRecDepth 100000 in
theorem se_X7_beast : Cond.selects RX7 yX7_beast yX7_beast ∈ wT := (wTi 621 rfl rfl)
set_option maxRecDepth 100000 in
theorem lkL_49 : LV RL 49 yX7_beast mX7_beast 2 7 := ⟨LV5 (wTi 619 rfl rfl) im_X7_beast se_X7_beast ini_7 co_X7_beast, ⟨ne_0.1, ne_0.2, pd_8⟩, _, _, rfl⟩
set_option maxRecDepth 100000 in
theorem co_X7_count : Cond.code yX7_count cX7_count 2 (some .int) ∈ wT := (wTi 559 rfl rfl)
set_option maxRecDepth 100000 in
theorem im_X7_count : Cond.instanceMethod yX7_count ∈ wT := (wTi 557 rfl rfl)
set_option maxRecDepth 100000 in
theorem se_X7_count : Cond.selects RX7 yX7_count yX7_count ∈ wT := (wTi 558 rfl rfl)
set_option maxRecDepth 100000 in
theorem lkL_52 : LV RL 52 yX7_count mX7_count 1 7 := ⟨LV5 (wTi 556 rfl rfl) im_X7_count se_X7_count ini_7 co_X7_count, ⟨ne_0.1, ne_0.2, pd_10⟩, _, _, rfl⟩
set_option maxRecDepth 100000 in
theorem co_X7_goes : Cond.code yX7_goes cX7_goes 3 (some .int) ∈ wT := (wTi 635 rfl rfl)
set_option maxRecDepth 100000 in
theorem im_X7_goes : Cond.instanceMethod yX7_goes ∈ wT := (wTi 633 rfl rfl)
set_option maxRecDepth 100000 in
theorem se_X7_goes : Cond.selects RX7 yX7_goes yX7_goes ∈ wT := (wTi 634 rfl rfl)
set_option maxRecDepth 100000 in
theorem lkL_55 : LV RL 55 yX7_goes mX7_goes 2 7 := ⟨LV5 (wTi 632 rfl rfl) im_X7_goes se_X7_goes ini_7 co_X7_goes, ⟨ne_0.1, ne_0.2, pd_8⟩, _, _, rfl⟩
set_option maxRecDepth 100000 in
theorem co_X7_takes : Cond.code yX7_takes cX7_takes 3 (some .int) ∈ wT := (wTi 642 rfl rfl)
set_option maxRecDepth 100000 in
theorem im_X7_takes : Cond.instanceMethod yX7_takes ∈ wT := (wTi 640 rfl rfl)
set_option maxRecDepth 100000 in
theorem se_X7_takes : Cond.selects RX7 yX7_takes yX7_takes ∈ wT := (wTi 641 rfl rfl)
set_option maxRecDepth 100000 in
theorem lkL_58 : LV RL 58 yX7_takes mX7_takes 2 7 := ⟨LV5 (wTi 639 rfl rfl) im_X7_takes se_X7_takes ini_7 co_X7_takes, ⟨ne_0.1, ne_0.2, pd_8⟩, _, _, rfl⟩
set_option maxRecDepth 100000 in
theorem co_X7_drive : Cond.code yX7_drive cX7_drive 4 (some .int) ∈ wT := (wTi 427 rfl rfl)
set_option maxRecDepth 100000 in
theorem im_X7_drive : Cond.instanceMethod yX7_drive ∈ wT := (wTi 425 rfl rfl)
set_option maxRecDepth 100000 in
theorem se_X7_drive : Cond.selects RX7 yX7_drive yX7_drive ∈ wT := (wTi 426 rfl rfl)
set_option maxRecDepth 100000 in
theorem lkL_61 : LV RL 61 yX7_drive mX7_drive 2 7 := ⟨LV5 (wTi 424 rfl rfl) im_X7_drive se_X7_drive ini_7 co_X7_drive, ⟨ne_0.1, ne_0.2, pd_8⟩, _, _, rfl⟩
set_option maxRecDepth 100000 in
theorem co_X7_undo : Cond.code yX7_undo cX7_undo 1 (some .int) ∈ wT := (wTi 646 rfl rfl)
set_option maxRecDepth 100000 in
theorem im_X7_undo : Cond.instanceMethod yX7_undo ∈ wT := (wTi 644 rfl rfl)
set_option maxRecDepth 100000 in
theorem se_X7_undo : Cond.selects RX7 yX7_undo yX7_undo ∈ wT := (wTi 645 rfl rfl)
set_option maxRecDepth 100000 in
theorem lkL_64 : LV RL 64 yX7_undo mX7_undo 0 7 := ⟨LV5 (wTi 643 rfl rfl) im_X7_undo se_X7_undo ini_7 co_X7_undo, ⟨ne_0.1, ne_0.2, pd_7⟩, _, _, rfl⟩
set_option maxRecDepth 100000 in
theorem co_X7_stray : Cond.code yX7_stray cX7_stray 3 (some .int) ∈ wT := (wTi 654 rfl rfl)
set_option maxRecDepth 100000 in
theorem im_X7_stray : Cond.instanceMethod yX7_stray ∈ wT := (wTi 652 rfl rfl)
set_option maxRecDepth 100000 in
theorem se_X7_stray : Cond.selects RX7 yX7_stray yX7_stray ∈ wT := (wTi 653 rfl rfl)
set_option maxRecDepth 100000 in
theorem lkL_67 : LV RL 67 yX7_stray mX7_stray 2 7 := ⟨LV5 (wTi 651 rfl rfl) im_X7_stray se_X7_stray ini_7 co_X7_stray, ⟨ne_0.1, ne_0.2, pd_8⟩, _, _, rfl⟩
set_option maxRecDepth 100000 in
theorem co_X7_fewest : Cond.code yX7_fewest cX7_fewest 5 (some .int) ∈ wT := (wTi 684 rfl rfl)
set_option maxRecDepth 100000 in
theorem im_X7_fewest : Cond.instanceMethod yX7_fewest ∈ wT := (wTi 682 rfl rfl)
set_option maxRecDepth 100000 in
theorem se_X7_fewest : Cond.selects RX7 yX7_fewest yX7_fewest ∈ wT := (wTi 683 rfl rfl)
set_option maxRecDepth 100000 in
theorem lkL_70 : LV RL 70 yX7_fewest mX7_fewest 3 7 := ⟨LV5 (wTi 681 rfl rfl) im_X7_fewest se_X7_fewest ini_7 co_X7_fewest, ⟨ne_0.1, ne_0.2, pd_0⟩, _, _, rfl⟩
set_option maxRecDepth 100000 in
theorem co_X7_summer : Cond.code yX7_summer cX7_summer 4 (some .int) ∈ wT := (wTi 697 rfl rfl)
set_option maxRecDepth 100000 in
theorem im_X7_summer : Cond.instanceMethod yX7_summer ∈ wT := (wTi 695 rfl rfl)
set_option maxRecDepth 100000 in
theorem se_X7_summer : Cond.selects RX7 yX7_summer yX7_summer ∈ wT := (wTi 696 rfl rfl)
set_option maxRecDepth 100000 in
theorem lkL_74 : LV RL 74 yX7_summer mX7_summer 2 7 := ⟨LV5 (wTi 694 rfl rfl) im_X7_summer se_X7_summer ini_7 co_X7_summer, ⟨ne_0.1, ne_0.2, pd_8⟩, _, _, rfl⟩
set_option maxRecDepth 100000 in
theorem co_L_games : Cond.code yL_games cL_games 6 (some .boolean) ∈ wT := (wTi 734 rfl rfl)
set_option maxRecDepth 100000 in
theorem sm_L_games : Cond.static yL_games ∈ wT := (wTi 733 rfl rfl)
set_option maxRecDepth 100000 in
theorem lkL_77 : LVS RL 77 yL_games mL_games 1 := ⟨LS4 (wTi 732 rfl rfl) sm_L_games ini_L co_L_games, ⟨ne_1.1, ne_1.2, pd_11⟩⟩
set_option maxRecDepth 100000 in
theorem co_X7_keep : Cond.code yX7_keep cX7_keep 1 (some .int) ∈ wT := (wTi 751 rfl rfl)
set_option maxRecDepth 100000 in
theorem im_X7_keep : Cond.instanceMethod yX7_keep ∈ wT := (wTi 749 rfl rfl)
set_option maxRecDepth 100000 in
theorem se_X7_keep : Cond.selects RX7 yX7_keep yX7_keep ∈ wT := (wTi 750 rfl rfl)
set_option maxRecDepth 100000 in
theorem lkL_81 : LV RL 81 yX7_keep mX7_keep 0 7 := ⟨LV5 (wTi 748 rfl rfl) im_X7_keep se_X7_keep ini_7 co_X7_keep, ⟨ne_0.1, ne_0.2, pd_7⟩, _, _, rfl⟩
set_option maxRecDepth 100000 in
theorem co_X7_rest : Cond.code yX7_rest cX7_rest 1 (some .int) ∈ wT := (wTi 529 rfl rfl)
set_option maxRecDepth 100000 in
theorem im_X7_rest : Cond.instanceMethod yX7_rest ∈ wT := (wTi 527 rfl rfl)
set_option maxRecDepth 100000 in
theorem se_X7_rest : Cond.selects RX7 yX7_rest yX7_rest ∈ wT := (wTi 528 rfl rfl)
set_option maxRecDepth 100000 in
theorem lkL_84 : LV RL 84 yX7_rest mX7_rest 0 7 := ⟨LV5 (wTi 526 rfl rfl) im_X7_rest se_X7_rest ini_7 co_X7_rest, ⟨ne_0.1, ne_0.2, pd_7⟩, _, _, rfl⟩
set_option maxRecDepth 100000 in
theorem co_X7_back : Cond.code yX7_back cX7_back 1 (some .int) ∈ wT := (wTi 756 rfl rfl)
set_option maxRecDepth 100000 in
theorem im_X7_back : Cond.instanceMethod yX7_back ∈ wT := (wTi 754 rfl rfl)
set_option maxRecDepth 100000 in
theorem se_X7_back : Cond.selects RX7 yX7_back yX7_back ∈ wT := (wTi 755 rfl rfl)
set_option maxRecDepth 100000 in
theorem lkL_87 : LV RL 87 yX7_back mX7_back 0 7 := ⟨LV5 (wTi 753 rfl rfl) im_X7_back se_X7_back ini_7 co_X7_back, ⟨ne_0.1, ne_0.2, pd_7⟩, _, _, rfl⟩
set_option maxRecDepth 100000 in
theorem co_X7_write : Cond.code yX7_write cX7_write 2 (some .int) ∈ wT := (wTi 592 rfl rfl)
set_option maxRecDepth 100000 in
theorem im_X7_write : Cond.instanceMethod yX7_write ∈ wT := (wTi 590 rfl rfl)
set_option maxRecDepth 100000 in
theorem se_X7_write : Cond.selects RX7 yX7_write yX7_write ∈ wT := (wTi 591 rfl rfl)
set_option maxRecDepth 100000 in
theorem lkL_9 : LV RL 9 yX7_write mX7_write 1 7 := ⟨LV5 (wTi 589 rfl rfl) im_X7_write se_X7_write ini_7 co_X7_write, ⟨ne_0.1, ne_0.2, pd_10⟩, _, _, rfl⟩
set_option maxRecDepth 100000 in
theorem co_X7_game : Cond.code yX7_game cX7_game 4 (some .int) ∈ wT := (wTi 738 rfl rfl)
set_option maxRecDepth 100000 in
theorem im_X7_game : Cond.instanceMethod yX7_game ∈ wT := (wTi 736 rfl rfl)
set_option maxRecDepth 100000 in
theorem se_X7_game : Cond.selects RX7 yX7_game yX7_game ∈ wT := (wTi 737 rfl rfl)
set_option maxRecDepth 100000 in
theorem lkL_90 : LV RL 90 yX7_game mX7_game 2 7 := ⟨LV5 (wTi 735 rfl rfl) im_X7_game se_X7_game ini_7 co_X7_game, ⟨ne_0.1, ne_0.2, pd_8⟩, _, _, rfl⟩
set_option maxRecDepth 100000 in
theorem co_X7_again : Cond.code yX7_again cX7_again 3 (some .int) ∈ wT := (wTi 763 rfl rfl)
set_option maxRecDepth 100000 in
theorem im_X7_again : Cond.instanceMethod yX7_again ∈ wT := (wTi 761 rfl rfl)
set_option maxRecDepth 100000 in
theorem se_X7_again : Cond.selects RX7 yX7_again yX7_again ∈ wT := (wTi 762 rfl rfl)
set_option maxRecDepth 100000 in
theorem lkL_93 : LV RL 93 yX7_again mX7_again 1 7 := ⟨LV5 (wTi 760 rfl rfl) im_X7_again se_X7_again ini_7 co_X7_again, ⟨ne_0.1, ne_0.2, pd_10⟩, _, _, rfl⟩
set_option maxRecDepth 100000 in
theorem co_X7_starves : Cond.code yX7_starves cX7_starves 3 (some .int) ∈ wT := (wTi 767 rfl rfl)
set_option maxRecDepth 100000 in
theorem im_X7_starves : Cond.instanceMethod yX7_starves ∈ wT := (wTi 765 rfl rfl)
set_option maxRecDepth 100000 in
theorem se_X7_starves : Cond.selects RX7 yX7_starves yX7_starves ∈ wT := (wTi 766 rfl rfl)
set_option maxRecDepth 100000 in
theorem lkL_96 : LV RL 96 yX7_starves mX7_starves 1 7 := ⟨LV5 (wTi 764 rfl rfl) im_X7_starves se_X7_starves ini_7 co_X7_starves, ⟨ne_0.1, ne_0.2, pd_10⟩, _, _, rfl⟩
set_option maxRecDepth 100000 in
theorem co_X7_wolves : Cond.code yX7_wolves cX7_wolves 12 (some .int) ∈ wT := (wTi 771 rfl rfl)
set_option maxRecDepth 100000 in
theorem im_X7_wolves : Cond.instanceMethod yX7_wolves ∈ wT := (wTi 769 rfl rfl)
set_option maxRecDepth 100000 in
theorem se_X7_wolves : Cond.selects RX7 yX7_wolves yX7_wolves ∈ wT := (wTi 770 rfl rfl)
set_option maxRecDepth 100000 in
theorem lkL_99 : LV RL 99 yX7_wolves mX7_wolves 4 7 := ⟨LV5 (wTi 768 rfl rfl) im_X7_wolves se_X7_wolves ini_7 co_X7_wolves, ⟨ne_0.1, ne_0.2, pd_12⟩, _, _, rfl⟩
set_option maxRecDepth 100000 in
theorem co_X2_isOff : Cond.code yX2_isOff cX2_isOff 2 (some .boolean) ∈ wT := (wTi 463 rfl rfl)
set_option maxRecDepth 100000 in
theorem ini_2 : Cond.initialized RX2 ∈ wT := (wTi 25 rfl rfl)
set_option maxRecDepth 100000 in
theorem im_X2_isOff : Cond.instanceMethod yX2_isOff ∈ wT := (wTi 461 rfl rfl)
set_option maxRecDepth 100000 in
theorem se_X2_isOff : Cond.selects RX2 yX2_isOff yX2_isOff ∈ wT := (wTi 462 rfl rfl)
set_option maxRecDepth 100000 in
theorem lk0_103 : LV RX0 103 yX2_isOff mX2_isOff 1 2 := ⟨LV5 (wTi 781 rfl rfl) im_X2_isOff se_X2_isOff ini_2 co_X2_isOff, ⟨ne_2.1, ne_2.2, pd_13⟩, _, _, rfl⟩
set_option maxRecDepth 100000 in
theorem co_X2_graze : Cond.code yX2_graze cX2_graze 3 none ∈ wT := (wTi 521 rfl rfl)
set_option maxRecDepth 100000 in
theorem im_X2_graze : Cond.instanceMethod yX2_graze ∈ wT := (wTi 519 rfl rfl)
set_option maxRecDepth 100000 in
theorem se_X2_graze : Cond.selects RX2 yX2_graze yX2_graze ∈ wT := (wTi 520 rfl rfl)
set_option maxRecDepth 100000 in
theorem lk0_106 : LV RX0 106 yX2_graze mX2_graze 0 2 := ⟨LV5 (wTi 782 rfl rfl) im_X2_graze se_X2_graze ini_2 co_X2_graze, ⟨ne_2.1, ne_2.2, pd_14⟩, _, _, rfl⟩
set_option maxRecDepth 100000 in
theorem co_X2_wolfComes : Cond.code yX2_wolfComes cX2_wolfComes 2 none ∈ wT := (wTi 786 rfl rfl)
set_option maxRecDepth 100000 in
theorem im_X2_wolfComes : Cond.instanceMethod yX2_wolfComes ∈ wT := (wTi 784 rfl rfl)
set_option maxRecDepth 100000 in
theorem se_X2_wolfComes : Cond.selects RX2 yX2_wolfComes yX2_wolfComes ∈ wT := (wTi 785 rfl rfl)
set_option maxRecDepth 100000 in
theorem lk0_109 : LV RX0 109 yX2_wolfComes mX2_wolfComes 0 2 := ⟨LV5 (wTi 783 rfl rfl) im_X2_wolfComes se_X2_wolfComes ini_2 co_X2_wolfComes, ⟨ne_2.1, ne_2.2, pd_14⟩, _, _, rfl⟩
set_option maxRecDepth 100000 in
theorem co_X2_beginNextDay : Cond.code yX2_beginNextDay cX2_beginNextDay 2 none ∈ wT := (wTi 525 rfl rfl)
set_option maxRecDepth 100000 in
theorem im_X2_beginNextDay : Cond.instanceMethod yX2_beginNextDay ∈ wT := (wTi 523 rfl rfl)
set_option maxRecDepth 100000 in
theorem se_X2_beginNextDay : Cond.selects RX2 yX2_beginNextDay yX2_beginNextDay ∈ wT := (wTi 524 rfl rfl)
set_option maxRecDepth 100000 in
theorem lk0_112 : LV RX0 112 yX2_beginNextDay mX2_beginNextDay 0 2 := ⟨LV5 (wTi 791 rfl rfl) im_X2_beginNextDay se_X2_beginNextDay ini_2 co_X2_beginNextDay, ⟨ne_2.1, ne_2.2, pd_14⟩, _, _, rfl⟩
set_option maxRecDepth 100000 in
theorem co_X4_get : Cond.code yX4_get cX4_get 3 (some (.object "SheepChess$Meadow")) ∈ wT := (wTi 503 rfl rfl)
set_option maxRecDepth 100000 in
theorem ini_4 : Cond.initialized RX4 ∈ wT := (wTi 27 rfl rfl)
set_option maxRecDepth 100000 in
theorem im_X4_get : Cond.instanceMethod yX4_get ∈ wT := (wTi 501 rfl rfl)
set_option maxRecDepth 100000 in
theorem se_X4_get : Cond.selects RX4 yX4_get yX4_get ∈ wT := (wTi 502 rfl rfl)
set_option maxRecDepth 100000 in
theorem lk0_35 : LV RX0 35 yX4_get mX4_get 1 4 := ⟨LV5 (wTi 703 rfl rfl) im_X4_get se_X4_get ini_4 co_X4_get, ⟨ne_3.1, ne_3.2, pd_15⟩, _, _, rfl⟩
set_option maxRecDepth 100000 in
theorem co_X2_copyFrom : Cond.code yX2_copyFrom cX2_copyFrom 2 none ∈ wT := (wTi 393 rfl rfl)
set_option maxRecDepth 100000 in
theorem im_X2_copyFrom : Cond.instanceMethod yX2_copyFrom ∈ wT := (wTi 391 rfl rfl)
set_option maxRecDepth 100000 in
theorem se_X2_copyFrom : Cond.selects RX2 yX2_copyFrom yX2_copyFrom ∈ wT := (wTi 392 rfl rfl)
set_option maxRecDepth 100000 in
theorem lk0_39 : LV RX0 39 yX2_copyFrom mX2_copyFrom 1 2 := ⟨LV5 (wTi 704 rfl rfl) im_X2_copyFrom se_X2_copyFrom ini_2 co_X2_copyFrom, ⟨ne_2.1, ne_2.2, pd_16⟩, _, _, rfl⟩
set_option maxRecDepth 100000 in
theorem co_X2_move : Cond.code yX2_move cX2_move 5 none ∈ wT := (wTi 508 rfl rfl)
set_option maxRecDepth 100000 in
theorem im_X2_move : Cond.instanceMethod yX2_move ∈ wT := (wTi 506 rfl rfl)
set_option maxRecDepth 100000 in
theorem se_X2_move : Cond.selects RX2 yX2_move yX2_move ∈ wT := (wTi 507 rfl rfl)
set_option maxRecDepth 100000 in
theorem lk0_45 : LV RX0 45 yX2_move mX2_move 2 2 := ⟨LV5 (wTi 720 rfl rfl) im_X2_move se_X2_move ini_2 co_X2_move, ⟨ne_2.1, ne_2.2, pd_17⟩, _, _, rfl⟩
set_option maxRecDepth 100000 in
theorem co_X2_passDay : Cond.code yX2_passDay cX2_passDay 1 none ∈ wT := (wTi 517 rfl rfl)
set_option maxRecDepth 100000 in
theorem im_X2_passDay : Cond.instanceMethod yX2_passDay ∈ wT := (wTi 515 rfl rfl)
set_option maxRecDepth 100000 in
theorem se_X2_passDay : Cond.selects RX2 yX2_passDay yX2_passDay ∈ wT := (wTi 516 rfl rfl)
set_option maxRecDepth 100000 in
theorem lk0_49 : LV RX0 49 yX2_passDay mX2_passDay 0 2 := ⟨LV5 (wTi 721 rfl rfl) im_X2_passDay se_X2_passDay ini_2 co_X2_passDay, ⟨ne_2.1, ne_2.2, pd_14⟩, _, _, rfl⟩
set_option maxRecDepth 100000 in
theorem co_X0_comesToWell : Cond.code yX0_comesToWell cX0_comesToWell 11 (some .boolean) ∈ wT := (wTi 708 rfl rfl)
set_option maxRecDepth 100000 in
theorem ini_0 : Cond.initialized RX0 ∈ wT := (wTi 29 rfl rfl)
set_option maxRecDepth 100000 in
theorem im_X0_comesToWell : Cond.instanceMethod yX0_comesToWell ∈ wT := (wTi 707 rfl rfl)
set_option maxRecDepth 100000 in
theorem se_X0_comesToWell : Cond.selects RX0 yX0_comesToWell yX0_comesToWell ∈ wT := (wTi 15 rfl rfl)
set_option maxRecDepth 100000 in
theorem lk0_52 : LV RX0 52 yX0_comesToWell (mX0_comesToWell 0) 4 0 := ⟨LV5 (wTi 705 rfl rfl) im_X0_comesToWell se_X0_comesToWell ini_0 co_X0_comesToWell, ⟨ne_4.1, ne_4.2, pd_18⟩, _, _, rfl⟩
set_option maxRecDepth 100000 in
theorem co_X2_ramOnWell : Cond.code yX2_ramOnWell cX2_ramOnWell 3 (some .boolean) ∈ wT := (wTi 712 rfl rfl)
set_option maxRecDepth 100000 in
theorem im_X2_ramOnWell : Cond.instanceMethod yX2_ramOnWell ∈ wT := (wTi 710 rfl rfl)
set_option maxRecDepth 100000 in
theorem se_X2_ramOnWell : Cond.selects RX2 yX2_ramOnWell yX2_ramOnWell ∈ wT := (wTi 711 rfl rfl)
set_option maxRecDepth 100000 in
theorem lk0_56 : LV RX0 56 yX2_ramOnWell mX2_ramOnWell 1 2 := ⟨LV5 (wTi 709 rfl rfl) im_X2_ramOnWell se_X2_ramOnWell ini_2 co_X2_ramOnWell, ⟨ne_2.1, ne_2.2, pd_13⟩, _, _, rfl⟩
set_option maxRecDepth 100000 in
theorem co_X2_lost : Cond.code yX2_lost cX2_lost 5 (some .int) ∈ wT := (wTi 488 rfl rfl)
set_option maxRecDepth 100000 in
theorem im_X2_lost : Cond.instanceMethod yX2_lost ∈ wT := (wTi 486 rfl rfl)
set_option maxRecDepth 100000 in
theorem se_X2_lost : Cond.selects RX2 yX2_lost yX2_lost ∈ wT := (wTi 487 rfl rfl)
set_option maxRecDepth 100000 in
theorem lk0_60 : LV RX0 60 yX2_lost mX2_lost 0 2 := ⟨LV5 (wTi 713 rfl rfl) im_X2_lost se_X2_lost ini_2 co_X2_lost, ⟨ne_2.1, ne_2.2, pd_7⟩, _, _, rfl⟩
set_option maxRecDepth 100000 in
theorem co_X2_staying : Cond.code yX2_staying cX2_staying 4 (some .int) ∈ wT := (wTi 563 rfl rfl)
set_option maxRecDepth 100000 in
theorem im_X2_staying : Cond.instanceMethod yX2_staying ∈ wT := (wTi 561 rfl rfl)
set_option maxRecDepth 100000 in
theorem se_X2_staying : Cond.selects RX2 yX2_staying yX2_staying ∈ wT := (wTi 562 rfl rfl)
set_option maxRecDepth 100000 in
theorem lk0_64 : LV RX0 64 yX2_staying mX2_staying 1 2 := ⟨LV5 (wTi 714 rfl rfl) im_X2_staying se_X2_staying ini_2 co_X2_staying, ⟨ne_2.1, ne_2.2, pd_10⟩, _, _, rfl⟩
set_option maxRecDepth 100000 in
theorem co_X2_turn : Cond.code yX2_turn cX2_turn 1 (some .int) ∈ wT := (wTi 443 rfl rfl)
set_option maxRecDepth 100000 in
theorem im_X2_turn : Cond.instanceMethod yX2_turn ∈ wT := (wTi 441 rfl rfl)
set_option maxRecDepth 100000 in
theorem se_X2_turn : Cond.selects RX2 yX2_turn yX2_turn ∈ wT := (wTi 442 rfl rfl)
set_option maxRecDepth 100000 in
theorem lk0_68 : LV RX0 68 yX2_turn mX2_turn 0 2 := ⟨LV5 (wTi 715 rfl rfl) im_X2_turn se_X2_turn ini_2 co_X2_turn, ⟨ne_2.1, ne_2.2, pd_7⟩, _, _, rfl⟩
set_option maxRecDepth 100000 in
theorem co_X0_pass : Cond.code yX0_pass cX0_pass 5 (some (.object "SheepChess$Meadow")) ∈ wT := (wTi 719 rfl rfl)
set_option maxRecDepth 100000 in
theorem im_X0_pass : Cond.instanceMethod yX0_pass ∈ wT := (wTi 718 rfl rfl)
set_option maxRecDepth 100000 in
theorem se_X0_pass : Cond.selects RX0 yX0_pass yX0_pass ∈ wT := (wTi 16 rfl rfl)
set_option maxRecDepth 100000 in
theorem lk0_71 : LV RX0 71 yX0_pass mX0_pass 3 0 := ⟨LV5 (wTi 716 rfl rfl) im_X0_pass se_X0_pass ini_0 co_X0_pass, ⟨ne_4.1, ne_4.2, pd_19⟩, _, _, rfl⟩
set_option maxRecDepth 100000 in
theorem co_X2_driven : Cond.code yX2_driven cX2_driven 3 (some .int) ∈ wT := (wTi 435 rfl rfl)
set_option maxRecDepth 100000 in
theorem im_X2_driven : Cond.instanceMethod yX2_driven ∈ wT := (wTi 433 rfl rfl)
set_option maxRecDepth 100000 in
theorem se_X2_driven : Cond.selects RX2 yX2_driven yX2_driven ∈ wT := (wTi 434 rfl rfl)
set_option maxRecDepth 100000 in
theorem lk0_80 : LV RX0 80 yX2_driven mX2_driven 2 2 := ⟨LV5 (wTi 722 rfl rfl) im_X2_driven se_X2_driven ini_2 co_X2_driven, ⟨ne_2.1, ne_2.2, pd_8⟩, _, _, rfl⟩
set_option maxRecDepth 100000 in
theorem co_X2_kindOf : Cond.code yX2_kindOf cX2_kindOf 2 (some .int) ∈ wT := (wTi 459 rfl rfl)
set_option maxRecDepth 100000 in
theorem im_X2_kindOf : Cond.instanceMethod yX2_kindOf ∈ wT := (wTi 457 rfl rfl)
set_option maxRecDepth 100000 in
theorem se_X2_kindOf : Cond.selects RX2 yX2_kindOf yX2_kindOf ∈ wT := (wTi 458 rfl rfl)
set_option maxRecDepth 100000 in
theorem lk0_87 : LV RX0 87 yX2_kindOf mX2_kindOf 1 2 := ⟨LV5 (wTi 723 rfl rfl) im_X2_kindOf se_X2_kindOf ini_2 co_X2_kindOf, ⟨ne_2.1, ne_2.2, pd_10⟩, _, _, rfl⟩
set_option maxRecDepth 100000 in
theorem co_X0_note : Cond.code yX0_note cX0_note 3 none ∈ wT := (wTi 727 rfl rfl)
set_option maxRecDepth 100000 in
theorem im_X0_note : Cond.instanceMethod yX0_note ∈ wT := (wTi 726 rfl rfl)
set_option maxRecDepth 100000 in
theorem se_X0_note : Cond.selects RX0 yX0_note yX0_note ∈ wT := (wTi 17 rfl rfl)
set_option maxRecDepth 100000 in
theorem lk0_90 : LV RX0 90 yX0_note mX0_note 2 0 := ⟨LV5 (wTi 724 rfl rfl) im_X0_note se_X0_note ini_0 co_X0_note, ⟨ne_4.1, ne_4.2, pd_17⟩, _, _, rfl⟩
set_option maxRecDepth 100000 in
theorem co_X0_worthFrom : Cond.code yX0_worthFrom cX0_worthFrom 10 (some .int) ∈ wT := (wTi 746 rfl rfl)
set_option maxRecDepth 100000 in
theorem im_X0_worthFrom : Cond.instanceMethod yX0_worthFrom ∈ wT := (wTi 745 rfl rfl)
set_option maxRecDepth 100000 in
theorem se_X0_worthFrom : Cond.selects RX0 yX0_worthFrom yX0_worthFrom ∈ wT := (wTi 18 rfl rfl)
set_option maxRecDepth 100000 in
theorem lk0_93 : LV RX0 93 yX0_worthFrom (mX0_worthFrom 0) 2 0 := ⟨LV5 (wTi 743 rfl rfl) im_X0_worthFrom se_X0_worthFrom ini_0 co_X0_worthFrom, ⟨ne_4.1, ne_4.2, pd_8⟩, _, _, rfl⟩
set_option maxRecDepth 100000 in
theorem co_X2_worth : Cond.code yX2_worth cX2_worth 4 (some .int) ∈ wT := (wTi 567 rfl rfl)
set_option maxRecDepth 100000 in
theorem im_X2_worth : Cond.instanceMethod yX2_worth ∈ wT := (wTi 565 rfl rfl)
set_option maxRecDepth 100000 in
theorem se_X2_worth : Cond.selects RX2 yX2_worth yX2_worth ∈ wT := (wTi 566 rfl rfl)
set_option maxRecDepth 100000 in
theorem lk0_96 : LV RX0 96 yX2_worth mX2_worth 0 2 := ⟨LV5 (wTi 747 rfl rfl) im_X2_worth se_X2_worth ini_2 co_X2_worth, ⟨ne_2.1, ne_2.2, pd_7⟩, _, _, rfl⟩
set_option maxRecDepth 100000 in
theorem co_X0_stayingFrom : Cond.code yX0_stayingFrom cX0_stayingFrom 9 (some .long) ∈ wT := (wTi 780 rfl rfl)
set_option maxRecDepth 100000 in
theorem im_X0_stayingFrom : Cond.instanceMethod yX0_stayingFrom ∈ wT := (wTi 779 rfl rfl)
set_option maxRecDepth 100000 in
theorem se_X0_stayingFrom : Cond.selects RX0 yX0_stayingFrom yX0_stayingFrom ∈ wT := (wTi 19 rfl rfl)
set_option maxRecDepth 100000 in
theorem lk0_99 : LV RX0 99 yX0_stayingFrom (mX0_stayingFrom 0) 4 0 := ⟨LV5 (wTi 777 rfl rfl) im_X0_stayingFrom se_X0_stayingFrom ini_0 co_X0_stayingFrom, ⟨ne_4.1, ne_4.2, pd_20⟩, _, _, rfl⟩
set_option maxRecDepth 100000 in
theorem co_X2_reach : Cond.code yX2_reach cX2_reach 8 (some .int) ∈ wT := (wTi 455 rfl rfl)
set_option maxRecDepth 100000 in
theorem im_X2_reach : Cond.instanceMethod yX2_reach ∈ wT := (wTi 453 rfl rfl)
set_option maxRecDepth 100000 in
theorem se_X2_reach : Cond.selects RX2 yX2_reach yX2_reach ∈ wT := (wTi 454 rfl rfl)
set_option maxRecDepth 100000 in
theorem lk2_103 : LV RX2 103 yX2_reach mX2_reach 3 2 := ⟨LV5 (wTi 452 rfl rfl) im_X2_reach se_X2_reach ini_2 co_X2_reach, ⟨ne_2.1, ne_2.2, pd_21⟩, _, _, rfl⟩
set_option maxRecDepth 100000 in
theorem co_X1_turnsPawn : Cond.code yX1_turnsPawn cX1_turnsPawn 3 (some .boolean) ∈ wT := (wTi 512 rfl rfl)
set_option maxRecDepth 100000 in
theorem ini_1 : Cond.initialized RX1 ∈ wT := (wTi 23 rfl rfl)
set_option maxRecDepth 100000 in
theorem im_X1_turnsPawn : Cond.instanceMethod yX1_turnsPawn ∈ wT := (wTi 510 rfl rfl)
set_option maxRecDepth 100000 in
theorem se_X1_turnsPawn : Cond.selects RX1 yX1_turnsPawn yX1_turnsPawn ∈ wT := (wTi 511 rfl rfl)
set_option maxRecDepth 100000 in
theorem lk2_107 : LV RX2 107 yX1_turnsPawn mX1_turnsPawn 2 1 := ⟨LV5 (wTi 509 rfl rfl) im_X1_turnsPawn se_X1_turnsPawn ini_1 co_X1_turnsPawn, ⟨ne_5.1, ne_5.2, pd_22⟩, _, _, rfl⟩
set_option maxRecDepth 100000 in
theorem co_X2_put : Cond.code yX2_put cX2_put 4 none ∈ wT := (wTi 366 rfl rfl)
set_option maxRecDepth 100000 in
theorem im_X2_put : Cond.instanceMethod yX2_put ∈ wT := (wTi 364 rfl rfl)
set_option maxRecDepth 100000 in
theorem se_X2_put : Cond.selects RX2 yX2_put yX2_put ∈ wT := (wTi 365 rfl rfl)
set_option maxRecDepth 100000 in
theorem lk2_110 : LV RX2 110 yX2_put mX2_put 3 2 := ⟨LV5 (wTi 513 rfl rfl) im_X2_put se_X2_put ini_2 co_X2_put, ⟨ne_2.1, ne_2.2, pd_23⟩, _, _, rfl⟩
set_option maxRecDepth 100000 in
theorem lk2_114 : LV RX2 114 yX2_driven mX2_driven 2 2 := ⟨LV5 (wTi 551 rfl rfl) im_X2_driven se_X2_driven ini_2 co_X2_driven, ⟨ne_2.1, ne_2.2, pd_8⟩, _, _, rfl⟩
set_option maxRecDepth 100000 in
theorem lk2_117 : LV RX2 117 yX2_move mX2_move 2 2 := ⟨LV5 (wTi 552 rfl rfl) im_X2_move se_X2_move ini_2 co_X2_move, ⟨ne_2.1, ne_2.2, pd_17⟩, _, _, rfl⟩
set_option maxRecDepth 100000 in
theorem lk2_121 : LV RX2 121 yX2_passDay mX2_passDay 0 2 := ⟨LV5 (wTi 553 rfl rfl) im_X2_passDay se_X2_passDay ini_2 co_X2_passDay, ⟨ne_2.1, ne_2.2, pd_14⟩, _, _, rfl⟩
set_option maxRecDepth 100000 in
theorem lk2_124 : LV RX2 124 yX2_graze mX2_graze 0 2 := ⟨LV5 (wTi 518 rfl rfl) im_X2_graze se_X2_graze ini_2 co_X2_graze, ⟨ne_2.1, ne_2.2, pd_14⟩, _, _, rfl⟩
set_option maxRecDepth 100000 in
theorem lk2_127 : LV RX2 127 yX2_beginNextDay mX2_beginNextDay 0 2 := ⟨LV5 (wTi 522 rfl rfl) im_X2_beginNextDay se_X2_beginNextDay ini_2 co_X2_beginNextDay, ⟨ne_2.1, ne_2.2, pd_14⟩, _, _, rfl⟩
set_option maxRecDepth 100000 in
theorem co_X2_bogBeside : Cond.code yX2_bogBeside cX2_bogBeside 4 (some .boolean) ∈ wT := (wTi 790 rfl rfl)
set_option maxRecDepth 100000 in
theorem im_X2_bogBeside : Cond.instanceMethod yX2_bogBeside ∈ wT := (wTi 789 rfl rfl)
set_option maxRecDepth 100000 in
theorem se_X2_bogBeside : Cond.selects RX2 yX2_bogBeside yX2_bogBeside ∈ wT := (wTi 20 rfl rfl)
set_option maxRecDepth 100000 in
theorem lk2_133 : LV RX2 133 yX2_bogBeside mX2_bogBeside 1 2 := ⟨LV5 (wTi 787 rfl rfl) im_X2_bogBeside se_X2_bogBeside ini_2 co_X2_bogBeside, ⟨ne_2.1, ne_2.2, pd_13⟩, _, _, rfl⟩
set_option maxRecDepth 100000 in
theorem co_X2_placeOf : Cond.code yX2_placeOf cX2_placeOf 2 (some .int) ∈ wT := (wTi 467 rfl rfl)
set_option maxRecDepth 100000 in
theorem im_X2_placeOf : Cond.instanceMethod yX2_placeOf ∈ wT := (wTi 465 rfl rfl)
set_option maxRecDepth 100000 in
theorem se_X2_placeOf : Cond.selects RX2 yX2_placeOf yX2_placeOf ∈ wT := (wTi 466 rfl rfl)
set_option maxRecDepth 100000 in
theorem lk2_46 : LV RX2 46 yX2_placeOf mX2_placeOf 1 2 := ⟨LV5 (wTi 464 rfl rfl) im_X2_placeOf se_X2_placeOf ini_2 co_X2_placeOf, ⟨ne_2.1, ne_2.2, pd_10⟩, _, _, rfl⟩
set_option maxRecDepth 100000 in
theorem co_X1_snowsOn : Cond.code yX1_snowsOn cX1_snowsOn 2 (some .boolean) ∈ wT := (wTi 451 rfl rfl)
set_option maxRecDepth 100000 in
theorem im_X1_snowsOn : Cond.instanceMethod yX1_snowsOn ∈ wT := (wTi 449 rfl rfl)
set_option maxRecDepth 100000 in
theorem se_X1_snowsOn : Cond.selects RX1 yX1_snowsOn yX1_snowsOn ∈ wT := (wTi 450 rfl rfl)
set_option maxRecDepth 100000 in
theorem lk2_50 : LV RX2 50 yX1_snowsOn mX1_snowsOn 1 1 := ⟨LV5 (wTi 448 rfl rfl) im_X1_snowsOn se_X1_snowsOn ini_1 co_X1_snowsOn, ⟨ne_5.1, ne_5.2, pd_13⟩, _, _, rfl⟩
set_option maxRecDepth 100000 in
theorem co_X1_hasBeast : Cond.code yX1_hasBeast cX1_hasBeast 2 (some .boolean) ∈ wT := (wTi 370 rfl rfl)
set_option maxRecDepth 100000 in
theorem im_X1_hasBeast : Cond.instanceMethod yX1_hasBeast ∈ wT := (wTi 368 rfl rfl)
set_option maxRecDepth 100000 in
theorem se_X1_hasBeast : Cond.selects RX1 yX1_hasBeast yX1_hasBeast ∈ wT := (wTi 369 rfl rfl)
set_option maxRecDepth 100000 in
theorem lk2_54 : LV RX2 54 yX1_hasBeast mX1_hasBeast 1 1 := ⟨LV5 (wTi 367 rfl rfl) im_X1_hasBeast se_X1_hasBeast ini_1 co_X1_hasBeast, ⟨ne_5.1, ne_5.2, pd_13⟩, _, _, rfl⟩
set_option maxRecDepth 100000 in
theorem lk2_57 : LV RX2 57 yX2_kindOf mX2_kindOf 1 2 := ⟨LV5 (wTi 456 rfl rfl) im_X2_kindOf se_X2_kindOf ini_2 co_X2_kindOf, ⟨ne_2.1, ne_2.2, pd_10⟩, _, _, rfl⟩
set_option maxRecDepth 100000 in
theorem lk2_60 : LV RX2 60 yX2_isOff mX2_isOff 1 2 := ⟨LV5 (wTi 460 rfl rfl) im_X2_isOff se_X2_isOff ini_2 co_X2_isOff, ⟨ne_2.1, ne_2.2, pd_13⟩, _, _, rfl⟩
set_option maxRecDepth 100000 in
theorem co_X1_villageOf : Cond.code yX1_villageOf cX1_villageOf 2 (some .int) ∈ wT := (wTi 439 rfl rfl)
set_option maxRecDepth 100000 in
theorem im_X1_villageOf : Cond.instanceMethod yX1_villageOf ∈ wT := (wTi 437 rfl rfl)
set_option maxRecDepth 100000 in
theorem se_X1_villageOf : Cond.selects RX1 yX1_villageOf yX1_villageOf ∈ wT := (wTi 438 rfl rfl)
set_option maxRecDepth 100000 in
theorem lk2_63 : LV RX2 63 yX1_villageOf mX1_villageOf 1 1 := ⟨LV5 (wTi 436 rfl rfl) im_X1_villageOf se_X1_villageOf ini_1 co_X1_villageOf, ⟨ne_5.1, ne_5.2, pd_10⟩, _, _, rfl⟩
set_option maxRecDepth 100000 in
theorem co_X1_beside : Cond.code yX1_beside cX1_beside 3 (some .int) ∈ wT := (wTi 471 rfl rfl)
set_option maxRecDepth 100000 in
theorem im_X1_beside : Cond.instanceMethod yX1_beside ∈ wT := (wTi 469 rfl rfl)
set_option maxRecDepth 100000 in
theorem se_X1_beside : Cond.selects RX1 yX1_beside yX1_beside ∈ wT := (wTi 470 rfl rfl)
set_option maxRecDepth 100000 in
theorem lk2_66 : LV RX2 66 yX1_beside mX1_beside 2 1 := ⟨LV5 (wTi 468 rfl rfl) im_X1_beside se_X1_beside ini_1 co_X1_beside, ⟨ne_5.1, ne_5.2, pd_8⟩, _, _, rfl⟩
set_option maxRecDepth 100000 in
theorem co_X2_isOpen : Cond.code yX2_isOpen cX2_isOpen 6 (some .boolean) ∈ wT := (wTi 475 rfl rfl)
set_option maxRecDepth 100000 in
theorem im_X2_isOpen : Cond.instanceMethod yX2_isOpen ∈ wT := (wTi 474 rfl rfl)
set_option maxRecDepth 100000 in
theorem se_X2_isOpen : Cond.selects RX2 yX2_isOpen yX2_isOpen ∈ wT := (wTi 11 rfl rfl)
set_option maxRecDepth 100000 in
theorem lk2_70 : LV RX2 70 yX2_isOpen mX2_isOpen 3 2 := ⟨LV5 (wTi 472 rfl rfl) im_X2_isOpen se_X2_isOpen ini_2 co_X2_isOpen, ⟨ne_2.1, ne_2.2, pd_24⟩, _, _, rfl⟩
set_option maxRecDepth 100000 in
theorem co_X2_grassOn : Cond.code yX2_grassOn cX2_grassOn 2 (some .int) ∈ wT := (wTi 358 rfl rfl)
set_option maxRecDepth 100000 in
theorem im_X2_grassOn : Cond.instanceMethod yX2_grassOn ∈ wT := (wTi 356 rfl rfl)
set_option maxRecDepth 100000 in
theorem se_X2_grassOn : Cond.selects RX2 yX2_grassOn yX2_grassOn ∈ wT := (wTi 357 rfl rfl)
set_option maxRecDepth 100000 in
theorem lk2_74 : LV RX2 74 yX2_grassOn mX2_grassOn 1 2 := ⟨LV5 (wTi 476 rfl rfl) im_X2_grassOn se_X2_grassOn ini_2 co_X2_grassOn, ⟨ne_2.1, ne_2.2, pd_10⟩, _, _, rfl⟩
set_option maxRecDepth 100000 in
theorem co_X2_occupant : Cond.code yX2_occupant cX2_occupant 3 (some .int) ∈ wT := (wTi 362 rfl rfl)
set_option maxRecDepth 100000 in
theorem im_X2_occupant : Cond.instanceMethod yX2_occupant ∈ wT := (wTi 360 rfl rfl)
set_option maxRecDepth 100000 in
theorem se_X2_occupant : Cond.selects RX2 yX2_occupant yX2_occupant ∈ wT := (wTi 361 rfl rfl)
set_option maxRecDepth 100000 in
theorem lk2_77 : LV RX2 77 yX2_occupant mX2_occupant 1 2 := ⟨LV5 (wTi 477 rfl rfl) im_X2_occupant se_X2_occupant ini_2 co_X2_occupant, ⟨ne_2.1, ne_2.2, pd_10⟩, _, _, rfl⟩
set_option maxRecDepth 100000 in
theorem co_X2_ramBeside : Cond.code yX2_ramBeside cX2_ramBeside 7 (some .boolean) ∈ wT := (wTi 481 rfl rfl)
set_option maxRecDepth 100000 in
theorem im_X2_ramBeside : Cond.instanceMethod yX2_ramBeside ∈ wT := (wTi 480 rfl rfl)
set_option maxRecDepth 100000 in
theorem se_X2_ramBeside : Cond.selects RX2 yX2_ramBeside yX2_ramBeside ∈ wT := (wTi 12 rfl rfl)
set_option maxRecDepth 100000 in
theorem lk2_80 : LV RX2 80 yX2_ramBeside mX2_ramBeside 2 2 := ⟨LV5 (wTi 478 rfl rfl) im_X2_ramBeside se_X2_ramBeside ini_2 co_X2_ramBeside, ⟨ne_2.1, ne_2.2, pd_22⟩, _, _, rfl⟩
set_option maxRecDepth 100000 in
theorem lk2_95 : LV RX2 95 yX2_turn mX2_turn 0 2 := ⟨LV5 (wTi 440 rfl rfl) im_X2_turn se_X2_turn ini_2 co_X2_turn, ⟨ne_2.1, ne_2.2, pd_7⟩, _, _, rfl⟩
set_option maxRecDepth 100000 in
theorem co_X2_snowing : Cond.code yX2_snowing cX2_snowing 1 (some .boolean) ∈ wT := (wTi 447 rfl rfl)
set_option maxRecDepth 100000 in
theorem im_X2_snowing : Cond.instanceMethod yX2_snowing ∈ wT := (wTi 445 rfl rfl)
set_option maxRecDepth 100000 in
theorem se_X2_snowing : Cond.selects RX2 yX2_snowing yX2_snowing ∈ wT := (wTi 446 rfl rfl)
set_option maxRecDepth 100000 in
theorem lk2_99 : LV RX2 99 yX2_snowing mX2_snowing 0 2 := ⟨LV5 (wTi 444 rfl rfl) im_X2_snowing se_X2_snowing ini_2 co_X2_snowing, ⟨ne_2.1, ne_2.2, pd_25⟩, _, _, rfl⟩
set_option maxRecDepth 100000 in
theorem co_JM_floorMod : Cond.code yJ9_floorMod_7cf53 cJ9_floorMod_7cf53 3 (some .int) ∈ wT := (wTi 499 rfl rfl)
set_option maxRecDepth 100000 in
theorem ini_JM : Cond.initialized "java/lang/Math" ∈ wT := (wTi 35 rfl rfl)
set_option maxRecDepth 100000 in
theorem sm_JM_floorMod : Cond.static yJ9_floorMod_7cf53 ∈ wT := (wTi 498 rfl rfl)
set_option maxRecDepth 100000 in
theorem lk3_35 : LVS RX3 35 yJ9_floorMod_7cf53 mJM_floorMod 2 := ⟨LS4 (wTi 497 rfl rfl) sm_JM_floorMod ini_JM co_JM_floorMod, ⟨ne_6.1, ne_6.2, pd_8⟩⟩
set_option maxRecDepth 100000 in
theorem co_X3_slot : Cond.code yX3_slot cX3_slot 2 (some .int) ∈ wT := (wTi 496 rfl rfl)
set_option maxRecDepth 100000 in
theorem ini_3 : Cond.initialized RX3 ∈ wT := (wTi 26 rfl rfl)
set_option maxRecDepth 100000 in
theorem im_X3_slot : Cond.instanceMethod yX3_slot ∈ wT := (wTi 495 rfl rfl)
set_option maxRecDepth 100000 in
theorem se_X3_slot : Cond.selects RX3 yX3_slot yX3_slot ∈ wT := (wTi 13 rfl rfl)
set_option maxRecDepth 100000 in
theorem lk3_41 : LV RX3 41 yX3_slot mX3_slot 1 3 := ⟨LV5 (wTi 493 rfl rfl) im_X3_slot se_X3_slot ini_3 co_X3_slot, ⟨ne_7.1, ne_7.2, pd_10⟩, _, _, rfl⟩
set_option maxRecDepth 100000 in
theorem lk3_45 : LV RX3 45 yX4_get mX4_get 1 4 := ⟨LV5 (wTi 500 rfl rfl) im_X4_get se_X4_get ini_4 co_X4_get, ⟨ne_3.1, ne_3.2, pd_15⟩, _, _, rfl⟩
set_option maxRecDepth 100000 in
theorem lk3_49 : LV RX3 49 yX2_copyFrom mX2_copyFrom 1 2 := ⟨LV5 (wTi 504 rfl rfl) im_X2_copyFrom se_X2_copyFrom ini_2 co_X2_copyFrom, ⟨ne_2.1, ne_2.2, pd_16⟩, _, _, rfl⟩
set_option maxRecDepth 100000 in
theorem co_X3_before : Cond.code yX3_before cX3_before 2 (some (.object "SheepChess$Meadow")) ∈ wT := (wTi 545 rfl rfl)
set_option maxRecDepth 100000 in
theorem im_X3_before : Cond.instanceMethod yX3_before ∈ wT := (wTi 543 rfl rfl)
set_option maxRecDepth 100000 in
theorem se_X3_before : Cond.selects RX3 yX3_before yX3_before ∈ wT := (wTi 544 rfl rfl)
set_option maxRecDepth 100000 in
theorem lk3_55 : LV RX3 55 yX3_before mX3_before 1 3 := ⟨LV5 (wTi 542 rfl rfl) im_X3_before se_X3_before ini_3 co_X3_before, ⟨ne_7.1, ne_7.2, pd_15⟩, _, _, rfl⟩
set_option maxRecDepth 100000 in
theorem lk3_58 : LV RX3 58 yX2_driven mX2_driven 2 2 := ⟨LV5 (wTi 546 rfl rfl) im_X2_driven se_X2_driven ini_2 co_X2_driven, ⟨ne_2.1, ne_2.2, pd_8⟩, _, _, rfl⟩
set_option maxRecDepth 100000 in
theorem co_X2_live : Cond.code yX2_live cX2_live 4 none ∈ wT := (wTi 550 rfl rfl)
set_option maxRecDepth 100000 in
theorem im_X2_live : Cond.instanceMethod yX2_live ∈ wT := (wTi 548 rfl rfl)
set_option maxRecDepth 100000 in
theorem se_X2_live : Cond.selects RX2 yX2_live yX2_live ∈ wT := (wTi 549 rfl rfl)
set_option maxRecDepth 100000 in
theorem lk3_61 : LV RX3 61 yX2_live mX2_live 1 2 := ⟨LV5 (wTi 547 rfl rfl) im_X2_live se_X2_live ini_2 co_X2_live, ⟨ne_2.1, ne_2.2, pd_26⟩, _, _, rfl⟩
set_option maxRecDepth 100000 in
theorem lk3_65 : LV RX3 65 yX2_lost mX2_lost 0 2 := ⟨LV5 (wTi 554 rfl rfl) im_X2_lost se_X2_lost ini_2 co_X2_lost, ⟨ne_2.1, ne_2.2, pd_7⟩, _, _, rfl⟩
set_option maxRecDepth 100000 in
theorem lk5_108 : LV RX5 108 yX2_put mX2_put 3 2 := ⟨LV5 (wTi 363 rfl rfl) im_X2_put se_X2_put ini_2 co_X2_put, ⟨ne_2.1, ne_2.2, pd_23⟩, _, _, rfl⟩
set_option maxRecDepth 100000 in
theorem co_X1_clear : Cond.code yX1_clear cX1_clear 1 none ∈ wT := (wTi 323 rfl rfl)
set_option maxRecDepth 100000 in
theorem im_X1_clear : Cond.instanceMethod yX1_clear ∈ wT := (wTi 321 rfl rfl)
set_option maxRecDepth 100000 in
theorem se_X1_clear : Cond.selects RX1 yX1_clear yX1_clear ∈ wT := (wTi 322 rfl rfl)
set_option maxRecDepth 100000 in
theorem lk5_38 : LV RX5 38 yX1_clear mX1_clear 0 1 := ⟨LV5 (wTi 320 rfl rfl) im_X1_clear se_X1_clear ini_1 co_X1_clear, ⟨ne_5.1, ne_5.2, pd_14⟩, _, _, rfl⟩
set_option maxRecDepth 100000 in
theorem co_X5_readItem : Cond.code yX5_readItem cX5_readItem 2 (some .boolean) ∈ wT := (wTi 327 rfl rfl)
set_option maxRecDepth 100000 in
theorem ini_5 : Cond.initialized RX5 ∈ wT := (wTi 24 rfl rfl)
set_option maxRecDepth 100000 in
theorem im_X5_readItem : Cond.instanceMethod yX5_readItem ∈ wT := (wTi 326 rfl rfl)
set_option maxRecDepth 100000 in
theorem se_X5_readItem : Cond.selects RX5 yX5_readItem yX5_readItem ∈ wT := (wTi 1 rfl rfl)
set_option maxRecDepth 100000 in
theorem lk5_44 : LV RX5 44 yX5_readItem mX5_readItem 0 5 := ⟨LV5 (wTi 324 rfl rfl) im_X5_readItem se_X5_readItem ini_5 co_X5_readItem, ⟨ne_8.1, ne_8.2, pd_25⟩, _, _, rfl⟩
set_option maxRecDepth 100000 in
theorem co_X5_letterAtHead : Cond.code yX5_letterAtHead cX5_letterAtHead 1 (some .int) ∈ wT := (wTi 331 rfl rfl)
set_option maxRecDepth 100000 in
theorem im_X5_letterAtHead : Cond.instanceMethod yX5_letterAtHead ∈ wT := (wTi 330 rfl rfl)
set_option maxRecDepth 100000 in
theorem se_X5_letterAtHead : Cond.selects RX5 yX5_letterAtHead yX5_letterAtHead ∈ wT := (wTi 2 rfl rfl)
set_option maxRecDepth 100000 in
theorem lk5_48 : LV RX5 48 yX5_letterAtHead mX5_letterAtHead 0 5 := ⟨LV5 (wTi 328 rfl rfl) im_X5_letterAtHead se_X5_letterAtHead ini_5 co_X5_letterAtHead, ⟨ne_8.1, ne_8.2, pd_7⟩, _, _, rfl⟩
set_option maxRecDepth 100000 in
theorem co_X5_readRow : Cond.code yX5_readRow cX5_readRow 5 (some .boolean) ∈ wT := (wTi 335 rfl rfl)
set_option maxRecDepth 100000 in
theorem im_X5_readRow : Cond.instanceMethod yX5_readRow ∈ wT := (wTi 334 rfl rfl)
set_option maxRecDepth 100000 in
theorem se_X5_readRow : Cond.selects RX5 yX5_readRow yX5_readRow ∈ wT := (wTi 3 rfl rfl)
set_option maxRecDepth 100000 in
theorem lk5_52 : LV RX5 52 yX5_readRow mX5_readRow 0 5 := ⟨LV5 (wTi 332 rfl rfl) im_X5_readRow se_X5_readRow ini_5 co_X5_readRow, ⟨ne_8.1, ne_8.2, pd_25⟩, _, _, rfl⟩
set_option maxRecDepth 100000 in
theorem co_X5_readBeast : Cond.code yX5_readBeast cX5_readBeast 6 (some .boolean) ∈ wT := (wTi 347 rfl rfl)
set_option maxRecDepth 100000 in
theorem im_X5_readBeast : Cond.instanceMethod yX5_readBeast ∈ wT := (wTi 346 rfl rfl)
set_option maxRecDepth 100000 in
theorem se_X5_readBeast : Cond.selects RX5 yX5_readBeast yX5_readBeast ∈ wT := (wTi 6 rfl rfl)
set_option maxRecDepth 100000 in
theorem lk5_55 : LV RX5 55 yX5_readBeast mX5_readBeast 0 5 := ⟨LV5 (wTi 344 rfl rfl) im_X5_readBeast se_X5_readBeast ini_5 co_X5_readBeast, ⟨ne_8.1, ne_8.2, pd_25⟩, _, _, rfl⟩
set_option maxRecDepth 100000 in
theorem co_X5_readWell : Cond.code yX5_readWell cX5_readWell 2 (some .boolean) ∈ wT := (wTi 374 rfl rfl)
set_option maxRecDepth 100000 in
theorem im_X5_readWell : Cond.instanceMethod yX5_readWell ∈ wT := (wTi 373 rfl rfl)
set_option maxRecDepth 100000 in
theorem se_X5_readWell : Cond.selects RX5 yX5_readWell yX5_readWell ∈ wT := (wTi 8 rfl rfl)
set_option maxRecDepth 100000 in
theorem lk5_58 : LV RX5 58 yX5_readWell mX5_readWell 0 5 := ⟨LV5 (wTi 371 rfl rfl) im_X5_readWell se_X5_readWell ini_5 co_X5_readWell, ⟨ne_8.1, ne_8.2, pd_25⟩, _, _, rfl⟩
set_option maxRecDepth 100000 in
theorem co_X5_readHunger : Cond.code yX5_readHunger cX5_readHunger 2 (some .boolean) ∈ wT := (wTi 378 rfl rfl)
set_option maxRecDepth 100000 in
theorem im_X5_readHunger : Cond.instanceMethod yX5_readHunger ∈ wT := (wTi 377 rfl rfl)
set_option maxRecDepth 100000 in
theorem se_X5_readHunger : Cond.selects RX5 yX5_readHunger yX5_readHunger ∈ wT := (wTi 9 rfl rfl)
set_option maxRecDepth 100000 in
theorem lk5_61 : LV RX5 61 yX5_readHunger mX5_readHunger 0 5 := ⟨LV5 (wTi 375 rfl rfl) im_X5_readHunger se_X5_readHunger ini_5 co_X5_readHunger, ⟨ne_8.1, ne_8.2, pd_25⟩, _, _, rfl⟩
set_option maxRecDepth 100000 in
theorem co_X5_readSnow : Cond.code yX5_readSnow cX5_readSnow 2 (some .boolean) ∈ wT := (wTi 382 rfl rfl)
set_option maxRecDepth 100000 in
theorem im_X5_readSnow : Cond.instanceMethod yX5_readSnow ∈ wT := (wTi 381 rfl rfl)
set_option maxRecDepth 100000 in
theorem se_X5_readSnow : Cond.selects RX5 yX5_readSnow yX5_readSnow ∈ wT := (wTi 10 rfl rfl)
set_option maxRecDepth 100000 in
theorem lk5_64 : LV RX5 64 yX5_readSnow mX5_readSnow 0 5 := ⟨LV5 (wTi 379 rfl rfl) im_X5_readSnow se_X5_readSnow ini_5 co_X5_readSnow, ⟨ne_8.1, ne_8.2, pd_25⟩, _, _, rfl⟩
set_option maxRecDepth 100000 in
theorem co_X5_readFigure : Cond.code yX5_readFigure cX5_readFigure 2 (some .int) ∈ wT := (wTi 339 rfl rfl)
set_option maxRecDepth 100000 in
theorem im_X5_readFigure : Cond.instanceMethod yX5_readFigure ∈ wT := (wTi 338 rfl rfl)
set_option maxRecDepth 100000 in
theorem se_X5_readFigure : Cond.selects RX5 yX5_readFigure yX5_readFigure ∈ wT := (wTi 4 rfl rfl)
set_option maxRecDepth 100000 in
theorem lk5_67 : LV RX5 67 yX5_readFigure mX5_readFigure 0 5 := ⟨LV5 (wTi 336 rfl rfl) im_X5_readFigure se_X5_readFigure ini_5 co_X5_readFigure, ⟨ne_8.1, ne_8.2, pd_7⟩, _, _, rfl⟩
set_option maxRecDepth 100000 in
theorem co_X5_passes : Cond.code yX5_passes cX5_passes 2 (some .boolean) ∈ wT := (wTi 343 rfl rfl)
set_option maxRecDepth 100000 in
theorem im_X5_passes : Cond.instanceMethod yX5_passes ∈ wT := (wTi 342 rfl rfl)
set_option maxRecDepth 100000 in
theorem se_X5_passes : Cond.selects RX5 yX5_passes yX5_passes ∈ wT := (wTi 5 rfl rfl)
set_option maxRecDepth 100000 in
theorem lk5_82 : LV RX5 82 yX5_passes mX5_passes 1 5 := ⟨LV5 (wTi 340 rfl rfl) im_X5_passes se_X5_passes ini_5 co_X5_passes, ⟨ne_8.1, ne_8.2, pd_13⟩, _, _, rfl⟩
set_option maxRecDepth 100000 in
theorem co_X5_readNumber : Cond.code yX5_readNumber cX5_readNumber 3 (some .int) ∈ wT := (wTi 351 rfl rfl)
set_option maxRecDepth 100000 in
theorem im_X5_readNumber : Cond.instanceMethod yX5_readNumber ∈ wT := (wTi 350 rfl rfl)
set_option maxRecDepth 100000 in
theorem se_X5_readNumber : Cond.selects RX5 yX5_readNumber yX5_readNumber ∈ wT := (wTi 7 rfl rfl)
set_option maxRecDepth 100000 in
theorem lk5_86 : LV RX5 86 yX5_readNumber mX5_readNumber 0 5 := ⟨LV5 (wTi 348 rfl rfl) im_X5_readNumber se_X5_readNumber ini_5 co_X5_readNumber, ⟨ne_8.1, ne_8.2, pd_7⟩, _, _, rfl⟩
set_option maxRecDepth 100000 in
theorem co_X7_isVillage : Cond.code yX7_isVillage cX7_isVillage 1 (some .boolean) ∈ wT := (wTi 354 rfl rfl)
theorem lk5_89 : LN RX5 89 yX7_isVillage mX7_isVillage 1 := ⟨by decide +kernel, by decide +kernel, "SheepChess", by decide +kernel⟩
set_option maxRecDepth 100000 in
theorem lk5_95 : LV RX5 95 yX2_grassOn mX2_grassOn 1 2 := ⟨LV5 (wTi 355 rfl rfl) im_X2_grassOn se_X2_grassOn ini_2 co_X2_grassOn, ⟨ne_2.1, ne_2.2, pd_10⟩, _, _, rfl⟩
set_option maxRecDepth 100000 in
theorem lk5_99 : LV RX5 99 yX2_occupant mX2_occupant 1 2 := ⟨LV5 (wTi 359 rfl rfl) im_X2_occupant se_X2_occupant ini_2 co_X2_occupant, ⟨ne_2.1, ne_2.2, pd_10⟩, _, _, rfl⟩
set_option maxRecDepth 100000 in
theorem lk6_44 : LV RX6 44 yX2_copyFrom mX2_copyFrom 1 2 := ⟨LV5 (wTi 659 rfl rfl) im_X2_copyFrom se_X2_copyFrom ini_2 co_X2_copyFrom, ⟨ne_2.1, ne_2.2, pd_16⟩, _, _, rfl⟩
set_option maxRecDepth 100000 in
theorem co_X6_add : Cond.code yX6_add cX6_add 7 none ∈ wT := (wTi 663 rfl rfl)
set_option maxRecDepth 100000 in
theorem ini_6 : Cond.initialized RX6 ∈ wT := (wTi 28 rfl rfl)
set_option maxRecDepth 100000 in
theorem im_X6_add : Cond.instanceMethod yX6_add ∈ wT := (wTi 662 rfl rfl)
set_option maxRecDepth 100000 in
theorem se_X6_add : Cond.selects RX6 yX6_add yX6_add ∈ wT := (wTi 14 rfl rfl)
set_option maxRecDepth 100000 in
theorem lk6_48 : LV RX6 48 yX6_add mX6_add 4 6 := ⟨LV5 (wTi 660 rfl rfl) im_X6_add se_X6_add ini_6 co_X6_add, ⟨ne_9.1, ne_9.2, pd_27⟩, _, _, rfl⟩
set_option maxRecDepth 100000 in
theorem lk6_52 : LV RX6 52 yX2_put mX2_put 3 2 := ⟨LV5 (wTi 666 rfl rfl) im_X2_put se_X2_put ini_2 co_X2_put, ⟨ne_2.1, ne_2.2, pd_23⟩, _, _, rfl⟩
set_option maxRecDepth 100000 in
theorem lk6_56 : LV RX6 56 yX2_reach mX2_reach 3 2 := ⟨LV5 (wTi 667 rfl rfl) im_X2_reach se_X2_reach ini_2 co_X2_reach, ⟨ne_2.1, ne_2.2, pd_21⟩, _, _, rfl⟩
set_option maxRecDepth 100000 in
theorem lk6_60 : LV RX6 60 yX2_move mX2_move 2 2 := ⟨LV5 (wTi 668 rfl rfl) im_X2_move se_X2_move ini_2 co_X2_move, ⟨ne_2.1, ne_2.2, pd_17⟩, _, _, rfl⟩
set_option maxRecDepth 100000 in
theorem lk6_64 : LV RX6 64 yX2_placeOf mX2_placeOf 1 2 := ⟨LV5 (wTi 664 rfl rfl) im_X2_placeOf se_X2_placeOf ini_2 co_X2_placeOf, ⟨ne_2.1, ne_2.2, pd_10⟩, _, _, rfl⟩
set_option maxRecDepth 100000 in
theorem lk6_68 : LV RX6 68 yX2_kindOf mX2_kindOf 1 2 := ⟨LV5 (wTi 665 rfl rfl) im_X2_kindOf se_X2_kindOf ini_2 co_X2_kindOf, ⟨ne_2.1, ne_2.2, pd_10⟩, _, _, rfl⟩
set_option maxRecDepth 100000 in
theorem co_X6_first : Cond.code yX6_first cX6_first 3 (some .int) ∈ wT := (wTi 676 rfl rfl)
set_option maxRecDepth 100000 in
theorem im_X6_first : Cond.instanceMethod yX6_first ∈ wT := (wTi 674 rfl rfl)
set_option maxRecDepth 100000 in
theorem se_X6_first : Cond.selects RX6 yX6_first yX6_first ∈ wT := (wTi 675 rfl rfl)
set_option maxRecDepth 100000 in
theorem lk6_71 : LV RX6 71 yX6_first mX6_first 1 6 := ⟨LV5 (wTi 673 rfl rfl) im_X6_first se_X6_first ini_6 co_X6_first, ⟨ne_9.1, ne_9.2, pd_10⟩, _, _, rfl⟩
set_option maxRecDepth 100000 in
theorem co_X6_drivesTo : Cond.code yX6_drivesTo cX6_drivesTo 2 (some .int) ∈ wT := (wTi 680 rfl rfl)
set_option maxRecDepth 100000 in
theorem im_X6_drivesTo : Cond.instanceMethod yX6_drivesTo ∈ wT := (wTi 678 rfl rfl)
set_option maxRecDepth 100000 in
theorem se_X6_drivesTo : Cond.selects RX6 yX6_drivesTo yX6_drivesTo ∈ wT := (wTi 679 rfl rfl)
set_option maxRecDepth 100000 in
theorem lk6_74 : LV RX6 74 yX6_drivesTo mX6_drivesTo 1 6 := ⟨LV5 (wTi 677 rfl rfl) im_X6_drivesTo se_X6_drivesTo ini_6 co_X6_drivesTo, ⟨ne_9.1, ne_9.2, pd_10⟩, _, _, rfl⟩
set_option maxRecDepth 100000 in
theorem lk7_100 : LV RX7 100 yX2_grassOn mX2_grassOn 1 2 := ⟨LV5 (wTi 617 rfl rfl) im_X2_grassOn se_X2_grassOn ini_2 co_X2_grassOn, ⟨ne_2.1, ne_2.2, pd_10⟩, _, _, rfl⟩
set_option maxRecDepth 100000 in
theorem lk7_104 : LV RX7 104 yX2_occupant mX2_occupant 1 2 := ⟨LV5 (wTi 618 rfl rfl) im_X2_occupant se_X2_occupant ini_2 co_X2_occupant, ⟨ne_2.1, ne_2.2, pd_10⟩, _, _, rfl⟩
set_option maxRecDepth 100000 in
theorem lk7_107 : LV RX7 107 yX1_hasBeast mX1_hasBeast 1 1 := ⟨LV5 (wTi 428 rfl rfl) im_X1_hasBeast se_X1_hasBeast ini_1 co_X1_hasBeast, ⟨ne_5.1, ne_5.2, pd_13⟩, _, _, rfl⟩
set_option maxRecDepth 100000 in
theorem lk7_110 : LV RX7 110 yX2_kindOf mX2_kindOf 1 2 := ⟨LV5 (wTi 623 rfl rfl) im_X2_kindOf se_X2_kindOf ini_2 co_X2_kindOf, ⟨ne_2.1, ne_2.2, pd_10⟩, _, _, rfl⟩
set_option maxRecDepth 100000 in
theorem lk7_113 : LV RX7 113 yX1_villageOf mX1_villageOf 1 1 := ⟨LV5 (wTi 624 rfl rfl) im_X1_villageOf se_X1_villageOf ini_1 co_X1_villageOf, ⟨ne_5.1, ne_5.2, pd_10⟩, _, _, rfl⟩
set_option maxRecDepth 100000 in
theorem lk7_116 : LV RX7 116 yX2_placeOf mX2_placeOf 1 2 := ⟨LV5 (wTi 555 rfl rfl) im_X2_placeOf se_X2_placeOf ini_2 co_X2_placeOf, ⟨ne_2.1, ne_2.2, pd_10⟩, _, _, rfl⟩
set_option maxRecDepth 100000 in
theorem co_X2_hungerOf : Cond.code yX2_hungerOf cX2_hungerOf 2 (some .int) ∈ wT := (wTi 628 rfl rfl)
set_option maxRecDepth 100000 in
theorem im_X2_hungerOf : Cond.instanceMethod yX2_hungerOf ∈ wT := (wTi 626 rfl rfl)
set_option maxRecDepth 100000 in
theorem se_X2_hungerOf : Cond.selects RX2 yX2_hungerOf yX2_hungerOf ∈ wT := (wTi 627 rfl rfl)
set_option maxRecDepth 100000 in
theorem lk7_119 : LV RX7 119 yX2_hungerOf mX2_hungerOf 1 2 := ⟨LV5 (wTi 625 rfl rfl) im_X2_hungerOf se_X2_hungerOf ini_2 co_X2_hungerOf, ⟨ne_2.1, ne_2.2, pd_10⟩, _, _, rfl⟩
set_option maxRecDepth 100000 in
theorem co_X7_isWay : Cond.code yX7_isWay cX7_isWay 1 (some .boolean) ∈ wT := (wTi 431 rfl rfl)
set_option maxRecDepth 100000 in
theorem sm_X7_isWay : Cond.static yX7_isWay ∈ wT := (wTi 430 rfl rfl)
set_option maxRecDepth 100000 in
theorem lk7_122 : LVS RX7 122 yX7_isWay mX7_isWay 1 := ⟨LS4 (wTi 429 rfl rfl) sm_X7_isWay ini_7 co_X7_isWay, ⟨ne_0.1, ne_0.2, pd_13⟩⟩
set_option maxRecDepth 100000 in
theorem lk7_125 : LV RX7 125 yX2_isOff mX2_isOff 1 2 := ⟨LV5 (wTi 636 rfl rfl) im_X2_isOff se_X2_isOff ini_2 co_X2_isOff, ⟨ne_2.1, ne_2.2, pd_13⟩, _, _, rfl⟩
set_option maxRecDepth 100000 in
theorem lk7_128 : LV RX7 128 yX2_snowing mX2_snowing 0 2 := ⟨LV5 (wTi 637 rfl rfl) im_X2_snowing se_X2_snowing ini_2 co_X2_snowing, ⟨ne_2.1, ne_2.2, pd_25⟩, _, _, rfl⟩
set_option maxRecDepth 100000 in
theorem lk7_131 : LV RX7 131 yX2_reach mX2_reach 3 2 := ⟨LV5 (wTi 638 rfl rfl) im_X2_reach se_X2_reach ini_2 co_X2_reach, ⟨ne_2.1, ne_2.2, pd_21⟩, _, _, rfl⟩
set_option maxRecDepth 100000 in
theorem lk7_135 : LV RX7 135 yX2_driven mX2_driven 2 2 := ⟨LV5 (wTi 432 rfl rfl) im_X2_driven se_X2_driven ini_2 co_X2_driven, ⟨ne_2.1, ne_2.2, pd_8⟩, _, _, rfl⟩
set_option maxRecDepth 100000 in
theorem lk7_139 : LV RX7 139 yX2_lost mX2_lost 0 2 := ⟨LV5 (wTi 485 rfl rfl) im_X2_lost se_X2_lost ini_2 co_X2_lost, ⟨ne_2.1, ne_2.2, pd_7⟩, _, _, rfl⟩
set_option maxRecDepth 100000 in
theorem co_X3_add : Cond.code yX3_add cX3_add 4 none ∈ wT := (wTi 492 rfl rfl)
set_option maxRecDepth 100000 in
theorem im_X3_add : Cond.instanceMethod yX3_add ∈ wT := (wTi 490 rfl rfl)
set_option maxRecDepth 100000 in
theorem se_X3_add : Cond.selects RX3 yX3_add yX3_add ∈ wT := (wTi 491 rfl rfl)
set_option maxRecDepth 100000 in
theorem lk7_142 : LV RX7 142 yX3_add mX3_add 2 3 := ⟨LV5 (wTi 489 rfl rfl) im_X3_add se_X3_add ini_3 co_X3_add, ⟨ne_7.1, ne_7.2, pd_28⟩, _, _, rfl⟩
set_option maxRecDepth 100000 in
theorem lk7_145 : LV RX7 145 yX2_move mX2_move 2 2 := ⟨LV5 (wTi 505 rfl rfl) im_X2_move se_X2_move ini_2 co_X2_move, ⟨ne_2.1, ne_2.2, pd_17⟩, _, _, rfl⟩
set_option maxRecDepth 100000 in
theorem lk7_149 : LV RX7 149 yX2_passDay mX2_passDay 0 2 := ⟨LV5 (wTi 514 rfl rfl) im_X2_passDay se_X2_passDay ini_2 co_X2_passDay, ⟨ne_2.1, ne_2.2, pd_14⟩, _, _, rfl⟩
set_option maxRecDepth 100000 in
theorem lk7_158 : LV RX7 158 yX3_before mX3_before 1 3 := ⟨LV5 (wTi 647 rfl rfl) im_X3_before se_X3_before ini_3 co_X3_before, ⟨ne_7.1, ne_7.2, pd_15⟩, _, _, rfl⟩
set_option maxRecDepth 100000 in
theorem lk7_162 : LV RX7 162 yX2_copyFrom mX2_copyFrom 1 2 := ⟨LV5 (wTi 390 rfl rfl) im_X2_copyFrom se_X2_copyFrom ini_2 co_X2_copyFrom, ⟨ne_2.1, ne_2.2, pd_16⟩, _, _, rfl⟩
set_option maxRecDepth 100000 in
theorem co_X6_from : Cond.code yX6_from cX6_from 6 none ∈ wT := (wTi 658 rfl rfl)
set_option maxRecDepth 100000 in
theorem im_X6_from : Cond.instanceMethod yX6_from ∈ wT := (wTi 656 rfl rfl)
set_option maxRecDepth 100000 in
theorem se_X6_from : Cond.selects RX6 yX6_from yX6_from ∈ wT := (wTi 657 rfl rfl)
set_option maxRecDepth 100000 in
theorem lk7_166 : LV RX7 166 yX6_from mX6_from 2 6 := ⟨LV5 (wTi 655 rfl rfl) im_X6_from se_X6_from ini_6 co_X6_from, ⟨ne_9.1, ne_9.2, pd_28⟩, _, _, rfl⟩
set_option maxRecDepth 100000 in
theorem lk7_169 : LV RX7 169 yX6_first mX6_first 1 6 := ⟨LV5 (wTi 685 rfl rfl) im_X6_first se_X6_first ini_6 co_X6_first, ⟨ne_9.1, ne_9.2, pd_10⟩, _, _, rfl⟩
set_option maxRecDepth 100000 in
theorem lk7_172 : LV RX7 172 yX6_drivesTo mX6_drivesTo 1 6 := ⟨LV5 (wTi 686 rfl rfl) im_X6_drivesTo se_X6_drivesTo ini_6 co_X6_drivesTo, ⟨ne_9.1, ne_9.2, pd_10⟩, _, _, rfl⟩
set_option maxRecDepth 100000 in
theorem co_X6_wayTo : Cond.code yX6_wayTo cX6_wayTo 5 (some .int) ∈ wT := (wTi 690 rfl rfl)
set_option maxRecDepth 100000 in
theorem im_X6_wayTo : Cond.instanceMethod yX6_wayTo ∈ wT := (wTi 688 rfl rfl)
set_option maxRecDepth 100000 in
theorem se_X6_wayTo : Cond.selects RX6 yX6_wayTo yX6_wayTo ∈ wT := (wTi 689 rfl rfl)
set_option maxRecDepth 100000 in
theorem lk7_175 : LV RX7 175 yX6_wayTo mX6_wayTo 2 6 := ⟨LV5 (wTi 687 rfl rfl) im_X6_wayTo se_X6_wayTo ini_6 co_X6_wayTo, ⟨ne_9.1, ne_9.2, pd_8⟩, _, _, rfl⟩
set_option maxRecDepth 100000 in
theorem co_X6_squaresWithin : Cond.code yX6_squaresWithin cX6_squaresWithin 5 (some .int) ∈ wT := (wTi 672 rfl rfl)
set_option maxRecDepth 100000 in
theorem im_X6_squaresWithin : Cond.instanceMethod yX6_squaresWithin ∈ wT := (wTi 670 rfl rfl)
set_option maxRecDepth 100000 in
theorem se_X6_squaresWithin : Cond.selects RX6 yX6_squaresWithin yX6_squaresWithin ∈ wT := (wTi 671 rfl rfl)
set_option maxRecDepth 100000 in
theorem lk7_178 : LV RX7 178 yX6_squaresWithin mX6_squaresWithin 1 6 := ⟨LV5 (wTi 669 rfl rfl) im_X6_squaresWithin se_X6_squaresWithin ini_6 co_X6_squaresWithin, ⟨ne_9.1, ne_9.2, pd_10⟩, _, _, rfl⟩
set_option maxRecDepth 100000 in
theorem sm_X7_isVillage : Cond.static yX7_isVillage ∈ wT := (wTi 353 rfl rfl)
set_option maxRecDepth 100000 in
theorem lk7_181 : LVS RX7 181 yX7_isVillage mX7_isVillage 1 := ⟨LS4 (wTi 698 rfl rfl) sm_X7_isVillage ini_7 co_X7_isVillage, ⟨ne_0.1, ne_0.2, pd_13⟩⟩
set_option maxRecDepth 100000 in
theorem co_X0_daysToWell : Cond.code yX0_daysToWell cX0_daysToWell 4 (some .int) ∈ wT := (wTi 702 rfl rfl)
set_option maxRecDepth 100000 in
theorem im_X0_daysToWell : Cond.instanceMethod yX0_daysToWell ∈ wT := (wTi 700 rfl rfl)
set_option maxRecDepth 100000 in
theorem se_X0_daysToWell : Cond.selects RX0 yX0_daysToWell yX0_daysToWell ∈ wT := (wTi 701 rfl rfl)
set_option maxRecDepth 100000 in
theorem lk7_187 : LV RX7 187 yX0_daysToWell mX0_daysToWell 2 0 := ⟨LV5 (wTi 699 rfl rfl) im_X0_daysToWell se_X0_daysToWell ini_0 co_X0_daysToWell, ⟨ne_4.1, ne_4.2, pd_29⟩, _, _, rfl⟩
set_option maxRecDepth 100000 in
theorem co_X0_onOwnDay : Cond.code yX0_onOwnDay cX0_onOwnDay 2 (some .int) ∈ wT := (wTi 731 rfl rfl)
set_option maxRecDepth 100000 in
theorem im_X0_onOwnDay : Cond.instanceMethod yX0_onOwnDay ∈ wT := (wTi 729 rfl rfl)
set_option maxRecDepth 100000 in
theorem se_X0_onOwnDay : Cond.selects RX0 yX0_onOwnDay yX0_onOwnDay ∈ wT := (wTi 730 rfl rfl)
set_option maxRecDepth 100000 in
theorem lk7_191 : LV RX7 191 yX0_onOwnDay mX0_onOwnDay 1 0 := ⟨LV5 (wTi 728 rfl rfl) im_X0_onOwnDay se_X0_onOwnDay ini_0 co_X0_onOwnDay, ⟨ne_4.1, ne_4.2, pd_10⟩, _, _, rfl⟩
set_option maxRecDepth 100000 in
theorem co_X0_worthBehind : Cond.code yX0_worthBehind cX0_worthBehind 3 (some .int) ∈ wT := (wTi 742 rfl rfl)
set_option maxRecDepth 100000 in
theorem im_X0_worthBehind : Cond.instanceMethod yX0_worthBehind ∈ wT := (wTi 740 rfl rfl)
set_option maxRecDepth 100000 in
theorem se_X0_worthBehind : Cond.selects RX0 yX0_worthBehind yX0_worthBehind ∈ wT := (wTi 741 rfl rfl)
set_option maxRecDepth 100000 in
theorem lk7_194 : LV RX7 194 yX0_worthBehind mX0_worthBehind 2 0 := ⟨LV5 (wTi 739 rfl rfl) im_X0_worthBehind se_X0_worthBehind ini_0 co_X0_worthBehind, ⟨ne_4.1, ne_4.2, pd_29⟩, _, _, rfl⟩
set_option maxRecDepth 100000 in
theorem co_X3_otherwiseIs : Cond.code yX3_otherwiseIs cX3_otherwiseIs 8 (some .boolean) ∈ wT := (wTi 541 rfl rfl)
set_option maxRecDepth 100000 in
theorem im_X3_otherwiseIs : Cond.instanceMethod yX3_otherwiseIs ∈ wT := (wTi 539 rfl rfl)
set_option maxRecDepth 100000 in
theorem se_X3_otherwiseIs : Cond.selects RX3 yX3_otherwiseIs yX3_otherwiseIs ∈ wT := (wTi 540 rfl rfl)
set_option maxRecDepth 100000 in
theorem lk7_200 : LV RX7 200 yX3_otherwiseIs mX3_otherwiseIs 3 3 := ⟨LV5 (wTi 538 rfl rfl) im_X3_otherwiseIs se_X3_otherwiseIs ini_3 co_X3_otherwiseIs, ⟨ne_7.1, ne_7.2, pd_30⟩, _, _, rfl⟩
set_option maxRecDepth 100000 in
theorem co_X0_staying : Cond.code yX0_staying cX0_staying 5 (some .long) ∈ wT := (wTi 776 rfl rfl)
set_option maxRecDepth 100000 in
theorem im_X0_staying : Cond.instanceMethod yX0_staying ∈ wT := (wTi 774 rfl rfl)
set_option maxRecDepth 100000 in
theorem se_X0_staying : Cond.selects RX0 yX0_staying yX0_staying ∈ wT := (wTi 775 rfl rfl)
set_option maxRecDepth 100000 in
theorem lk7_206 : LV RX7 206 yX0_staying mX0_staying 4 0 := ⟨LV5 (wTi 773 rfl rfl) im_X0_staying se_X0_staying ini_0 co_X0_staying, ⟨ne_4.1, ne_4.2, pd_31⟩, _, _, rfl⟩
set_option maxRecDepth 100000 in
theorem co_X7_commonPart : Cond.code yX7_commonPart cX7_commonPart 11 (some .long) ∈ wT := (wTi 794 rfl rfl)
set_option maxRecDepth 100000 in
theorem sm_X7_commonPart : Cond.static yX7_commonPart ∈ wT := (wTi 793 rfl rfl)
set_option maxRecDepth 100000 in
theorem lk7_210 : LVS RX7 210 yX7_commonPart mX7_commonPart 2 := ⟨LS4 (wTi 792 rfl rfl) sm_X7_commonPart ini_7 co_X7_commonPart, ⟨ne_0.1, ne_0.2, pd_32⟩⟩
set_option maxRecDepth 100000 in
theorem co_X7_draw : Cond.code yX7_draw cX7_draw 4 (some .int) ∈ wT := (wTi 802 rfl rfl)
set_option maxRecDepth 100000 in
theorem sm_X7_draw : Cond.static yX7_draw ∈ wT := (wTi 801 rfl rfl)
set_option maxRecDepth 100000 in
theorem lk7_214 : LVS RX7 214 yX7_draw mX7_draw 2 := ⟨LS4 (wTi 800 rfl rfl) sm_X7_draw ini_7 co_X7_draw, ⟨ne_0.1, ne_0.2, pd_8⟩⟩
set_option maxRecDepth 100000 in
theorem lk7_217 : LV RX7 217 yX2_live mX2_live 1 2 := ⟨LV5 (wTi 806 rfl rfl) im_X2_live se_X2_live ini_2 co_X2_live, ⟨ne_2.1, ne_2.2, pd_26⟩, _, _, rfl⟩
set_option maxRecDepth 100000 in
theorem lk7_221 : LV RX7 221 yX2_worth mX2_worth 0 2 := ⟨LV5 (wTi 564 rfl rfl) im_X2_worth se_X2_worth ini_2 co_X2_worth, ⟨ne_2.1, ne_2.2, pd_7⟩, _, _, rfl⟩
set_option maxRecDepth 100000 in
theorem lk7_224 : LV RX7 224 yX2_staying mX2_staying 1 2 := ⟨LV5 (wTi 560 rfl rfl) im_X2_staying se_X2_staying ini_2 co_X2_staying, ⟨ne_2.1, ne_2.2, pd_10⟩, _, _, rfl⟩
set_option maxRecDepth 100000 in
theorem lk7_226 : LV RX7 226 yX4_get mX4_get 1 4 := ⟨LV5 (wTi 752 rfl rfl) im_X4_get se_X4_get ini_4 co_X4_get, ⟨ne_3.1, ne_3.2, pd_15⟩, _, _, rfl⟩
set_option maxRecDepth 100000 in
theorem co_X2_allGrass : Cond.code yX2_allGrass cX2_allGrass 3 (some .int) ∈ wT := (wTi 573 rfl rfl)
set_option maxRecDepth 100000 in
theorem im_X2_allGrass : Cond.instanceMethod yX2_allGrass ∈ wT := (wTi 571 rfl rfl)
set_option maxRecDepth 100000 in
theorem se_X2_allGrass : Cond.selects RX2 yX2_allGrass yX2_allGrass ∈ wT := (wTi 572 rfl rfl)
set_option maxRecDepth 100000 in
theorem lk7_235 : LV RX7 235 yX2_allGrass mX2_allGrass 0 2 := ⟨LV5 (wTi 570 rfl rfl) im_X2_allGrass se_X2_allGrass ini_2 co_X2_allGrass, ⟨ne_2.1, ne_2.2, pd_7⟩, _, _, rfl⟩
set_option maxRecDepth 100000 in
theorem co_X1_copyFrom : Cond.code yX1_copyFrom cX1_copyFrom 2 none ∈ wT := (wTi 386 rfl rfl)
set_option maxRecDepth 100000 in
theorem im_X1_copyFrom : Cond.instanceMethod yX1_copyFrom ∈ wT := (wTi 384 rfl rfl)
set_option maxRecDepth 100000 in
theorem se_X1_copyFrom : Cond.selects RX1 yX1_copyFrom yX1_copyFrom ∈ wT := (wTi 385 rfl rfl)
set_option maxRecDepth 100000 in
theorem lk7_242 : LV RX7 242 yX1_copyFrom mX1_copyFrom 1 1 := ⟨LV5 (wTi 383 rfl rfl) im_X1_copyFrom se_X1_copyFrom ini_1 co_X1_copyFrom, ⟨ne_5.1, ne_5.2, pd_33⟩, _, _, rfl⟩
set_option maxRecDepth 100000 in
theorem co_X5_add : Cond.code yX5_add cX5_add 2 (some .boolean) ∈ wT := (wTi 311 rfl rfl)
set_option maxRecDepth 100000 in
theorem im_X5_add : Cond.instanceMethod yX5_add ∈ wT := (wTi 309 rfl rfl)
set_option maxRecDepth 100000 in
theorem se_X5_add : Cond.selects RX5 yX5_add yX5_add ∈ wT := (wTi 310 rfl rfl)
set_option maxRecDepth 100000 in
theorem lk7_81 : LV RX7 81 yX5_add mX5_add 1 5 := ⟨LV5 (wTi 308 rfl rfl) im_X5_add se_X5_add ini_5 co_X5_add, ⟨ne_8.1, ne_8.2, pd_13⟩, _, _, rfl⟩
set_option maxRecDepth 100000 in
theorem co_X7_begin : Cond.code yX7_begin cX7_begin 1 (some .boolean) ∈ wT := (wTi 315 rfl rfl)
set_option maxRecDepth 100000 in
theorem im_X7_begin : Cond.instanceMethod yX7_begin ∈ wT := (wTi 314 rfl rfl)
set_option maxRecDepth 100000 in
theorem se_X7_begin : Cond.selects RX7 yX7_begin yX7_begin ∈ wT := (wTi 0 rfl rfl)
set_option maxRecDepth 100000 in
theorem lk7_85 : LV RX7 85 yX7_begin mX7_begin 0 7 := ⟨LV5 (wTi 312 rfl rfl) im_X7_begin se_X7_begin ini_7 co_X7_begin, ⟨ne_0.1, ne_0.2, pd_25⟩, _, _, rfl⟩
set_option maxRecDepth 100000 in
theorem co_X5_firstFault : Cond.code yX5_firstFault cX5_firstFault 3 (some .int) ∈ wT := (wTi 319 rfl rfl)
set_option maxRecDepth 100000 in
theorem im_X5_firstFault : Cond.instanceMethod yX5_firstFault ∈ wT := (wTi 317 rfl rfl)
set_option maxRecDepth 100000 in
theorem se_X5_firstFault : Cond.selects RX5 yX5_firstFault yX5_firstFault ∈ wT := (wTi 318 rfl rfl)
set_option maxRecDepth 100000 in
theorem lk7_91 : LV RX7 91 yX5_firstFault mX5_firstFault 0 5 := ⟨LV5 (wTi 316 rfl rfl) im_X5_firstFault se_X5_firstFault ini_5 co_X5_firstFault, ⟨ne_8.1, ne_8.2, pd_7⟩, _, _, rfl⟩
set_option maxRecDepth 100000 in
theorem co_X1_hasSquare : Cond.code yX1_hasSquare cX1_hasSquare 2 (some .boolean) ∈ wT := (wTi 537 rfl rfl)
set_option maxRecDepth 100000 in
theorem im_X1_hasSquare : Cond.instanceMethod yX1_hasSquare ∈ wT := (wTi 535 rfl rfl)
set_option maxRecDepth 100000 in
theorem se_X1_hasSquare : Cond.selects RX1 yX1_hasSquare yX1_hasSquare ∈ wT := (wTi 536 rfl rfl)
set_option maxRecDepth 100000 in
theorem lk7_97 : LV RX7 97 yX1_hasSquare mX1_hasSquare 1 1 := ⟨LV5 (wTi 534 rfl rfl) im_X1_hasSquare se_X1_hasSquare ini_1 co_X1_hasSquare, ⟨ne_5.1, ne_5.2, pd_13⟩, _, _, rfl⟩
