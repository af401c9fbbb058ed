def mlaw : MT := (RL, code, 4, (some .boolean), 40)
set_option maxRecDepth 100000 in
theorem lco_X8_keep : Cond.code yX8_keep cX8_keep 1 (some .int) ∈ wT := (wTi 1214 rfl rfl)
set_option maxRecDepth 100000 in
theorem lim_X8_keep : Cond.instanceMethod yX8_keep ∈ wT := (wTi 1212 rfl rfl)
set_option maxRecDepth 100000 in
theorem lse_X8_keep : Cond.selects RX8 yX8_keep yX8_keep ∈ wT := (wTi 1213 rfl rfl)
set_option maxRecDepth 100000 in
theorem lini_8 : Cond.initialized RX8 ∈ wT := (wTi 77 rfl rfl)
set_option maxRecDepth 100000 in
theorem lkL_101 : LV RL 101 yX8_keep mX8_keep 0 8 := ⟨LV5 (wTi 1211 rfl rfl) lim_X8_keep lse_X8_keep lini_8 lco_X8_keep, ⟨ne_9.1, ne_9.2, pd_6⟩, _, _, rfl⟩
set_option maxRecDepth 100000 in
theorem lco_X7_back : Cond.code yX7_back cX7_back 1 (some .int) ∈ wT := (wTi 802 rfl rfl)
set_option maxRecDepth 100000 in
theorem lim_X7_back : Cond.instanceMethod yX7_back ∈ wT := (wTi 800 rfl rfl)
set_option maxRecDepth 100000 in
theorem lse_X7_back : Cond.selects RX7 yX7_back yX7_back ∈ wT := (wTi 801 rfl rfl)
set_option maxRecDepth 100000 in
theorem lini_7 : Cond.initialized RX7 ∈ wT := (wTi 64 rfl rfl)
set_option maxRecDepth 100000 in
theorem lkL_102 : LV RL 102 yX7_back mX7_back 0 7 := ⟨LV5 (wTi 799 rfl rfl) lim_X7_back lse_X7_back lini_7 lco_X7_back, ⟨ne_7.1, ne_7.2, pd_6⟩, _, _, rfl⟩
set_option maxRecDepth 100000 in
theorem lco_X8_back : Cond.code yX8_back cX8_back 1 (some .int) ∈ wT := (wTi 1218 rfl rfl)
set_option maxRecDepth 100000 in
theorem lim_X8_back : Cond.instanceMethod yX8_back ∈ wT := (wTi 1216 rfl rfl)
set_option maxRecDepth 100000 in
theorem lse_X8_back : Cond.selects RX8 yX8_back yX8_back ∈ wT := (wTi 1217 rfl rfl)
set_option maxRecDepth 100000 in
theorem lkL_105 : LV RL 105 yX8_back mX8_back 0 8 := ⟨LV5 (wTi 1215 rfl rfl) lim_X8_back lse_X8_back lini_8 lco_X8_back, ⟨ne_9.1, ne_9.2, pd_6⟩, _, _, rfl⟩
set_option maxRecDepth 100000 in
theorem lco_X7_count : Cond.code yX7_count cX7_count 2 (some .int) ∈ wT := (wTi 806 rfl rfl)
set_option maxRecDepth 100000 in
theorem lim_X7_count : Cond.instanceMethod yX7_count ∈ wT := (wTi 804 rfl rfl)
set_option maxRecDepth 100000 in
theorem lse_X7_count : Cond.selects RX7 yX7_count yX7_count ∈ wT := (wTi 805 rfl rfl)
set_option maxRecDepth 100000 in
theorem lkL_106 : LV RL 106 yX7_count mX7_count 1 7 := ⟨LV5 (wTi 803 rfl rfl) lim_X7_count lse_X7_count lini_7 lco_X7_count, ⟨ne_7.1, ne_7.2, pd_7⟩, _, _, rfl⟩
set_option maxRecDepth 100000 in
theorem lco_X8_count : Cond.code yX8_count cX8_count 4 (some .int) ∈ wT := (wTi 1222 rfl rfl)
set_option maxRecDepth 100000 in
theorem lim_X8_count : Cond.instanceMethod yX8_count ∈ wT := (wTi 1220 rfl rfl)
set_option maxRecDepth 100000 in
theorem lse_X8_count : Cond.selects RX8 yX8_count yX8_count ∈ wT := (wTi 1221 rfl rfl)
set_option maxRecDepth 100000 in
theorem lkL_109 : LV RL 109 yX8_count mX8_count 1 8 := ⟨LV5 (wTi 1219 rfl rfl) lim_X8_count lse_X8_count lini_8 lco_X8_count, ⟨ne_9.1, ne_9.2, pd_7⟩, _, _, rfl⟩
set_option maxRecDepth 100000 in
theorem lco_X7_write : Cond.code yX7_write cX7_write 2 (some .int) ∈ wT := (wTi 470 rfl rfl)
set_option maxRecDepth 100000 in
theorem lim_X7_write : Cond.instanceMethod yX7_write ∈ wT := (wTi 468 rfl rfl)
set_option maxRecDepth 100000 in
theorem lse_X7_write : Cond.selects RX7 yX7_write yX7_write ∈ wT := (wTi 469 rfl rfl)
set_option maxRecDepth 100000 in
theorem lkL_13 : LV RL 13 yX7_write mX7_write 1 7 := ⟨LV5 (wTi 467 rfl rfl) lim_X7_write lse_X7_write lini_7 lco_X7_write, ⟨ne_7.1, ne_7.2, pd_7⟩, _, _, rfl⟩
set_option maxRecDepth 100000 in
theorem lco_X8_write : Cond.code yX8_write cX8_write 2 (some .int) ∈ wT := (wTi 963 rfl rfl)
set_option maxRecDepth 100000 in
theorem lim_X8_write : Cond.instanceMethod yX8_write ∈ wT := (wTi 961 rfl rfl)
set_option maxRecDepth 100000 in
theorem lse_X8_write : Cond.selects RX8 yX8_write yX8_write ∈ wT := (wTi 962 rfl rfl)
set_option maxRecDepth 100000 in
theorem lkL_17 : LV RL 17 yX8_write mX8_write 1 8 := ⟨LV5 (wTi 960 rfl rfl) lim_X8_write lse_X8_write lini_8 lco_X8_write, ⟨ne_9.1, ne_9.2, pd_7⟩, _, _, rfl⟩
set_option maxRecDepth 100000 in
theorem lco_X7_wipe : Cond.code yX7_wipe cX7_wipe 2 (some .int) ∈ wT := (wTi 474 rfl rfl)
set_option maxRecDepth 100000 in
theorem lim_X7_wipe : Cond.instanceMethod yX7_wipe ∈ wT := (wTi 472 rfl rfl)
set_option maxRecDepth 100000 in
theorem lse_X7_wipe : Cond.selects RX7 yX7_wipe yX7_wipe ∈ wT := (wTi 473 rfl rfl)
set_option maxRecDepth 100000 in
theorem lkL_18 : LV RL 18 yX7_wipe mX7_wipe 0 7 := ⟨LV5 (wTi 471 rfl rfl) lim_X7_wipe lse_X7_wipe lini_7 lco_X7_wipe, ⟨ne_7.1, ne_7.2, pd_6⟩, _, _, rfl⟩
set_option maxRecDepth 100000 in
theorem lco_X8_wipe : Cond.code yX8_wipe cX8_wipe 2 (some .int) ∈ wT := (wTi 970 rfl rfl)
set_option maxRecDepth 100000 in
theorem lim_X8_wipe : Cond.instanceMethod yX8_wipe ∈ wT := (wTi 968 rfl rfl)
set_option maxRecDepth 100000 in
theorem lse_X8_wipe : Cond.selects RX8 yX8_wipe yX8_wipe ∈ wT := (wTi 969 rfl rfl)
set_option maxRecDepth 100000 in
theorem lkL_22 : LV RL 22 yX8_wipe mX8_wipe 0 8 := ⟨LV5 (wTi 967 rfl rfl) lim_X8_wipe lse_X8_wipe lini_8 lco_X8_wipe, ⟨ne_9.1, ne_9.2, pd_6⟩, _, _, rfl⟩
set_option maxRecDepth 100000 in
theorem lco_X7_fault : Cond.code yX7_fault cX7_fault 1 (some .int) ∈ wT := (wTi 478 rfl rfl)
set_option maxRecDepth 100000 in
theorem lim_X7_fault : Cond.instanceMethod yX7_fault ∈ wT := (wTi 476 rfl rfl)
set_option maxRecDepth 100000 in
theorem lse_X7_fault : Cond.selects RX7 yX7_fault yX7_fault ∈ wT := (wTi 477 rfl rfl)
set_option maxRecDepth 100000 in
theorem lkL_23 : LV RL 23 yX7_fault mX7_fault 0 7 := ⟨LV5 (wTi 475 rfl rfl) lim_X7_fault lse_X7_fault lini_7 lco_X7_fault, ⟨ne_7.1, ne_7.2, pd_6⟩, _, _, rfl⟩
set_option maxRecDepth 100000 in
theorem lco_X8_fault : Cond.code yX8_fault cX8_fault 2 (some .int) ∈ wT := (wTi 974 rfl rfl)
set_option maxRecDepth 100000 in
theorem lim_X8_fault : Cond.instanceMethod yX8_fault ∈ wT := (wTi 972 rfl rfl)
set_option maxRecDepth 100000 in
theorem lse_X8_fault : Cond.selects RX8 yX8_fault yX8_fault ∈ wT := (wTi 973 rfl rfl)
set_option maxRecDepth 100000 in
theorem lkL_26 : LV RL 26 yX8_fault mX8_fault 0 8 := ⟨LV5 (wTi 971 rfl rfl) lim_X8_fault lse_X8_fault lini_8 lco_X8_fault, ⟨ne_9.1, ne_9.2, pd_6⟩, _, _, rfl⟩
set_option maxRecDepth 100000 in
theorem lco_X7_lay : Cond.code yX7_lay cX7_lay 1 (some .int) ∈ wT := (wTi 482 rfl rfl)
set_option maxRecDepth 100000 in
theorem lim_X7_lay : Cond.instanceMethod yX7_lay ∈ wT := (wTi 480 rfl rfl)
set_option maxRecDepth 100000 in
theorem lse_X7_lay : Cond.selects RX7 yX7_lay yX7_lay ∈ wT := (wTi 481 rfl rfl)
set_option maxRecDepth 100000 in
theorem lkL_27 : LV RL 27 yX7_lay mX7_lay 0 7 := ⟨LV5 (wTi 479 rfl rfl) lim_X7_lay lse_X7_lay lini_7 lco_X7_lay, ⟨ne_7.1, ne_7.2, pd_6⟩, _, _, rfl⟩
set_option maxRecDepth 100000 in
theorem lco_X8_lay : Cond.code yX8_lay cX8_lay 1 (some .int) ∈ wT := (wTi 1009 rfl rfl)
set_option maxRecDepth 100000 in
theorem lim_X8_lay : Cond.instanceMethod yX8_lay ∈ wT := (wTi 1007 rfl rfl)
set_option maxRecDepth 100000 in
theorem lse_X8_lay : Cond.selects RX8 yX8_lay yX8_lay ∈ wT := (wTi 1008 rfl rfl)
set_option maxRecDepth 100000 in
theorem lkL_30 : LV RL 30 yX8_lay mX8_lay 0 8 := ⟨LV5 (wTi 1006 rfl rfl) lim_X8_lay lse_X8_lay lini_8 lco_X8_lay, ⟨ne_9.1, ne_9.2, pd_6⟩, _, _, rfl⟩
set_option maxRecDepth 100000 in
theorem lco_X7_square : Cond.code yX7_square cX7_square 3 (some .int) ∈ wT := (wTi 486 rfl rfl)
set_option maxRecDepth 100000 in
theorem lim_X7_square : Cond.instanceMethod yX7_square ∈ wT := (wTi 484 rfl rfl)
set_option maxRecDepth 100000 in
theorem lse_X7_square : Cond.selects RX7 yX7_square yX7_square ∈ wT := (wTi 485 rfl rfl)
set_option maxRecDepth 100000 in
theorem lkL_31 : LV RL 31 yX7_square mX7_square 2 7 := ⟨LV5 (wTi 483 rfl rfl) lim_X7_square lse_X7_square lini_7 lco_X7_square, ⟨ne_7.1, ne_7.2, pd_9⟩, _, _, rfl⟩
set_option maxRecDepth 100000 in
theorem lco_X8_square : Cond.code yX8_square cX8_square 3 (some .int) ∈ wT := (wTi 1014 rfl rfl)
set_option maxRecDepth 100000 in
theorem lim_X8_square : Cond.instanceMethod yX8_square ∈ wT := (wTi 1012 rfl rfl)
set_option maxRecDepth 100000 in
theorem lse_X8_square : Cond.selects RX8 yX8_square yX8_square ∈ wT := (wTi 1013 rfl rfl)
set_option maxRecDepth 100000 in
theorem lkL_35 : LV RL 35 yX8_square mX8_square 2 8 := ⟨LV5 (wTi 1011 rfl rfl) lim_X8_square lse_X8_square lini_8 lco_X8_square, ⟨ne_9.1, ne_9.2, pd_9⟩, _, _, rfl⟩
set_option maxRecDepth 100000 in
theorem lco_X7_beast : Cond.code yX7_beast cX7_beast 3 (some .int) ∈ wT := (wTi 496 rfl rfl)
set_option maxRecDepth 100000 in
theorem lim_X7_beast : Cond.instanceMethod yX7_beast ∈ wT := (wTi 494 rfl rfl)
set_option maxRecDepth 100000 in
theorem lse_X7_beast : Cond.selects RX7 yX7_beast yX7_beast ∈ wT := (wTi 495 rfl rfl)
set_option maxRecDepth 100000 in
theorem lkL_36 : LV RL 36 yX7_beast mX7_beast 2 7 := ⟨LV5 (wTi 493 rfl rfl) lim_X7_beast lse_X7_beast lini_7 lco_X7_beast, ⟨ne_7.1, ne_7.2, pd_9⟩, _, _, rfl⟩
set_option maxRecDepth 100000 in
theorem lco_X8_beast : Cond.code yX8_beast cX8_beast 3 (some .int) ∈ wT := (wTi 1030 rfl rfl)
set_option maxRecDepth 100000 in
theorem lim_X8_beast : Cond.instanceMethod yX8_beast ∈ wT := (wTi 1028 rfl rfl)
set_option maxRecDepth 100000 in
theorem lse_X8_beast : Cond.selects RX8 yX8_beast yX8_beast ∈ wT := (wTi 1029 rfl rfl)
set_option maxRecDepth 100000 in
theorem lkL_39 : LV RL 39 yX8_beast mX8_beast 2 8 := ⟨LV5 (wTi 1027 rfl rfl) lim_X8_beast lse_X8_beast lini_8 lco_X8_beast, ⟨ne_9.1, ne_9.2, pd_9⟩, _, _, rfl⟩
set_option maxRecDepth 100000 in
theorem lco_X7_goes : Cond.code yX7_goes cX7_goes 3 (some .int) ∈ wT := (wTi 517 rfl rfl)
set_option maxRecDepth 100000 in
theorem lim_X7_goes : Cond.instanceMethod yX7_goes ∈ wT := (wTi 515 rfl rfl)
set_option maxRecDepth 100000 in
theorem lse_X7_goes : Cond.selects RX7 yX7_goes yX7_goes ∈ wT := (wTi 516 rfl rfl)
set_option maxRecDepth 100000 in
theorem lkL_40 : LV RL 40 yX7_goes mX7_goes 2 7 := ⟨LV5 (wTi 514 rfl rfl) lim_X7_goes lse_X7_goes lini_7 lco_X7_goes, ⟨ne_7.1, ne_7.2, pd_9⟩, _, _, rfl⟩
set_option maxRecDepth 100000 in
theorem lco_X8_goes : Cond.code yX8_goes cX8_goes 4 (some .int) ∈ wT := (wTi 1048 rfl rfl)
set_option maxRecDepth 100000 in
theorem lim_X8_goes : Cond.instanceMethod yX8_goes ∈ wT := (wTi 1046 rfl rfl)
set_option maxRecDepth 100000 in
theorem lse_X8_goes : Cond.selects RX8 yX8_goes yX8_goes ∈ wT := (wTi 1047 rfl rfl)
set_option maxRecDepth 100000 in
theorem lkL_43 : LV RL 43 yX8_goes mX8_goes 2 8 := ⟨LV5 (wTi 1045 rfl rfl) lim_X8_goes lse_X8_goes lini_8 lco_X8_goes, ⟨ne_9.1, ne_9.2, pd_9⟩, _, _, rfl⟩
set_option maxRecDepth 100000 in
theorem lco_X7_takes : Cond.code yX7_takes cX7_takes 3 (some .int) ∈ wT := (wTi 561 rfl rfl)
set_option maxRecDepth 100000 in
theorem lim_X7_takes : Cond.instanceMethod yX7_takes ∈ wT := (wTi 559 rfl rfl)
set_option maxRecDepth 100000 in
theorem lse_X7_takes : Cond.selects RX7 yX7_takes yX7_takes ∈ wT := (wTi 560 rfl rfl)
set_option maxRecDepth 100000 in
theorem lkL_44 : LV RL 44 yX7_takes mX7_takes 2 7 := ⟨LV5 (wTi 558 rfl rfl) lim_X7_takes lse_X7_takes lini_7 lco_X7_takes, ⟨ne_7.1, ne_7.2, pd_9⟩, _, _, rfl⟩
set_option maxRecDepth 100000 in
theorem lco_X8_takes : Cond.code yX8_takes cX8_takes 5 (some .int) ∈ wT := (wTi 1076 rfl rfl)
set_option maxRecDepth 100000 in
theorem lim_X8_takes : Cond.instanceMethod yX8_takes ∈ wT := (wTi 1074 rfl rfl)
set_option maxRecDepth 100000 in
theorem lse_X8_takes : Cond.selects RX8 yX8_takes yX8_takes ∈ wT := (wTi 1075 rfl rfl)
set_option maxRecDepth 100000 in
theorem lkL_47 : LV RL 47 yX8_takes mX8_takes 2 8 := ⟨LV5 (wTi 1073 rfl rfl) lim_X8_takes lse_X8_takes lini_8 lco_X8_takes, ⟨ne_9.1, ne_9.2, pd_9⟩, _, _, rfl⟩
set_option maxRecDepth 100000 in
theorem lco_X7_drive : Cond.code yX7_drive cX7_drive 4 (some .int) ∈ wT := (wTi 565 rfl rfl)
set_option maxRecDepth 100000 in
theorem lim_X7_drive : Cond.instanceMethod yX7_drive ∈ wT := (wTi 563 rfl rfl)
set_option maxRecDepth 100000 in
theorem lse_X7_drive : Cond.selects RX7 yX7_drive yX7_drive ∈ wT := (wTi 564 rfl rfl)
set_option maxRecDepth 100000 in
theorem lkL_48 : LV RL 48 yX7_drive mX7_drive 2 7 := ⟨LV5 (wTi 562 rfl rfl) lim_X7_drive lse_X7_drive lini_7 lco_X7_drive, ⟨ne_7.1, ne_7.2, pd_9⟩, _, _, rfl⟩
set_option maxRecDepth 100000 in
theorem lco_X8_drive : Cond.code yX8_drive cX8_drive 4 (some .int) ∈ wT := (wTi 1080 rfl rfl)
set_option maxRecDepth 100000 in
theorem lim_X8_drive : Cond.instanceMethod yX8_drive ∈ wT := (wTi 1078 rfl rfl)
set_option maxRecDepth 100000 in
theorem lse_X8_drive : Cond.selects RX8 yX8_drive yX8_drive ∈ wT := (wTi 1079 rfl rfl)
set_option maxRecDepth 100000 in
theorem lkL_51 : LV RL 51 yX8_drive mX8_drive 2 8 := ⟨LV5 (wTi 1077 rfl rfl) lim_X8_drive lse_X8_drive lini_8 lco_X8_drive, ⟨ne_9.1, ne_9.2, pd_9⟩, _, _, rfl⟩
set_option maxRecDepth 100000 in
theorem lco_X7_rest : Cond.code yX7_rest cX7_rest 1 (some .int) ∈ wT := (wTi 620 rfl rfl)
set_option maxRecDepth 100000 in
theorem lim_X7_rest : Cond.instanceMethod yX7_rest ∈ wT := (wTi 618 rfl rfl)
set_option maxRecDepth 100000 in
theorem lse_X7_rest : Cond.selects RX7 yX7_rest yX7_rest ∈ wT := (wTi 619 rfl rfl)
set_option maxRecDepth 100000 in
theorem lkL_52 : LV RL 52 yX7_rest mX7_rest 0 7 := ⟨LV5 (wTi 617 rfl rfl) lim_X7_rest lse_X7_rest lini_7 lco_X7_rest, ⟨ne_7.1, ne_7.2, pd_6⟩, _, _, rfl⟩
set_option maxRecDepth 100000 in
theorem lco_X8_rest : Cond.code yX8_rest cX8_rest 1 (some .int) ∈ wT := (wTi 1112 rfl rfl)
set_option maxRecDepth 100000 in
theorem lim_X8_rest : Cond.instanceMethod yX8_rest ∈ wT := (wTi 1110 rfl rfl)
set_option maxRecDepth 100000 in
theorem lse_X8_rest : Cond.selects RX8 yX8_rest yX8_rest ∈ wT := (wTi 1111 rfl rfl)
set_option maxRecDepth 100000 in
theorem lkL_55 : LV RL 55 yX8_rest mX8_rest 0 8 := ⟨LV5 (wTi 1109 rfl rfl) lim_X8_rest lse_X8_rest lini_8 lco_X8_rest, ⟨ne_9.1, ne_9.2, pd_6⟩, _, _, rfl⟩
set_option maxRecDepth 100000 in
theorem lco_X7_undo : Cond.code yX7_undo cX7_undo 1 (some .int) ∈ wT := (wTi 624 rfl rfl)
set_option maxRecDepth 100000 in
theorem lim_X7_undo : Cond.instanceMethod yX7_undo ∈ wT := (wTi 622 rfl rfl)
set_option maxRecDepth 100000 in
theorem lse_X7_undo : Cond.selects RX7 yX7_undo yX7_undo ∈ wT := (wTi 623 rfl rfl)
set_option maxRecDepth 100000 in
theorem lkL_56 : LV RL 56 yX7_undo mX7_undo 0 7 := ⟨LV5 (wTi 621 rfl rfl) lim_X7_undo lse_X7_undo lini_7 lco_X7_undo, ⟨ne_7.1, ne_7.2, pd_6⟩, _, _, rfl⟩
set_option maxRecDepth 100000 in
theorem lco_X8_undo : Cond.code yX8_undo cX8_undo 1 (some .int) ∈ wT := (wTi 1116 rfl rfl)
set_option maxRecDepth 100000 in
theorem lim_X8_undo : Cond.instanceMethod yX8_undo ∈ wT := (wTi 1114 rfl rfl)
set_option maxRecDepth 100000 in
theorem lse_X8_undo : Cond.selects RX8 yX8_undo yX8_undo ∈ wT := (wTi 1115 rfl rfl)
set_option maxRecDepth 100000 in
theorem lkL_59 : LV RL 59 yX8_undo mX8_undo 0 8 := ⟨LV5 (wTi 1113 rfl rfl) lim_X8_undo lse_X8_undo lini_8 lco_X8_undo, ⟨ne_9.1, ne_9.2, pd_6⟩, _, _, rfl⟩
set_option maxRecDepth 100000 in
theorem lco_X7_fewest : Cond.code yX7_fewest cX7_fewest 5 (some .int) ∈ wT := (wTi 632 rfl rfl)
set_option maxRecDepth 100000 in
theorem lim_X7_fewest : Cond.instanceMethod yX7_fewest ∈ wT := (wTi 630 rfl rfl)
set_option maxRecDepth 100000 in
theorem lse_X7_fewest : Cond.selects RX7 yX7_fewest yX7_fewest ∈ wT := (wTi 631 rfl rfl)
set_option maxRecDepth 100000 in
theorem lkL_60 : LV RL 60 yX7_fewest mX7_fewest 3 7 := ⟨LV5 (wTi 629 rfl rfl) lim_X7_fewest lse_X7_fewest lini_7 lco_X7_fewest, ⟨ne_7.1, ne_7.2, pd_27⟩, _, _, rfl⟩
set_option maxRecDepth 100000 in
theorem lco_X8_fewest : Cond.code yX8_fewest cX8_fewest 6 (some .int) ∈ wT := (wTi 1120 rfl rfl)
set_option maxRecDepth 100000 in
theorem lim_X8_fewest : Cond.instanceMethod yX8_fewest ∈ wT := (wTi 1118 rfl rfl)
set_option maxRecDepth 100000 in
theorem lse_X8_fewest : Cond.selects RX8 yX8_fewest yX8_fewest ∈ wT := (wTi 1119 rfl rfl)
set_option maxRecDepth 100000 in
theorem lkL_64 : LV RL 64 yX8_fewest mX8_fewest 3 8 := ⟨LV5 (wTi 1117 rfl rfl) lim_X8_fewest lse_X8_fewest lini_8 lco_X8_fewest, ⟨ne_9.1, ne_9.2, pd_27⟩, _, _, rfl⟩
set_option maxRecDepth 100000 in
theorem lco_X7_stray : Cond.code yX7_stray cX7_stray 3 (some .int) ∈ wT := (wTi 662 rfl rfl)
set_option maxRecDepth 100000 in
theorem lim_X7_stray : Cond.instanceMethod yX7_stray ∈ wT := (wTi 660 rfl rfl)
set_option maxRecDepth 100000 in
theorem lse_X7_stray : Cond.selects RX7 yX7_stray yX7_stray ∈ wT := (wTi 661 rfl rfl)
set_option maxRecDepth 100000 in
theorem lkL_65 : LV RL 65 yX7_stray mX7_stray 2 7 := ⟨LV5 (wTi 659 rfl rfl) lim_X7_stray lse_X7_stray lini_7 lco_X7_stray, ⟨ne_7.1, ne_7.2, pd_9⟩, _, _, rfl⟩
set_option maxRecDepth 100000 in
theorem lco_X8_stray : Cond.code yX8_stray cX8_stray 5 (some .int) ∈ wT := (wTi 1136 rfl rfl)
set_option maxRecDepth 100000 in
theorem lim_X8_stray : Cond.instanceMethod yX8_stray ∈ wT := (wTi 1134 rfl rfl)
set_option maxRecDepth 100000 in
theorem lse_X8_stray : Cond.selects RX8 yX8_stray yX8_stray ∈ wT := (wTi 1135 rfl rfl)
set_option maxRecDepth 100000 in
theorem lkL_68 : LV RL 68 yX8_stray mX8_stray 2 8 := ⟨LV5 (wTi 1133 rfl rfl) lim_X8_stray lse_X8_stray lini_8 lco_X8_stray, ⟨ne_9.1, ne_9.2, pd_9⟩, _, _, rfl⟩
set_option maxRecDepth 100000 in
theorem lco_X7_summer : Cond.code yX7_summer cX7_summer 4 (some .int) ∈ wT := (wTi 672 rfl rfl)
set_option maxRecDepth 100000 in
theorem lim_X7_summer : Cond.instanceMethod yX7_summer ∈ wT := (wTi 670 rfl rfl)
set_option maxRecDepth 100000 in
theorem lse_X7_summer : Cond.selects RX7 yX7_summer yX7_summer ∈ wT := (wTi 671 rfl rfl)
set_option maxRecDepth 100000 in
theorem lkL_69 : LV RL 69 yX7_summer mX7_summer 2 7 := ⟨LV5 (wTi 669 rfl rfl) lim_X7_summer lse_X7_summer lini_7 lco_X7_summer, ⟨ne_7.1, ne_7.2, pd_9⟩, _, _, rfl⟩
set_option maxRecDepth 100000 in
theorem lco_X8_summer : Cond.code yX8_summer cX8_summer 5 (some .int) ∈ wT := (wTi 1140 rfl rfl)
set_option maxRecDepth 100000 in
theorem lim_X8_summer : Cond.instanceMethod yX8_summer ∈ wT := (wTi 1138 rfl rfl)
set_option maxRecDepth 100000 in
theorem lse_X8_summer : Cond.selects RX8 yX8_summer yX8_summer ∈ wT := (wTi 1139 rfl rfl)
set_option maxRecDepth 100000 in
theorem lkL_72 : LV RL 72 yX8_summer mX8_summer 2 8 := ⟨LV5 (wTi 1137 rfl rfl) lim_X8_summer lse_X8_summer lini_8 lco_X8_summer, ⟨ne_9.1, ne_9.2, pd_9⟩, _, _, rfl⟩
set_option maxRecDepth 100000 in
theorem lco_X7_game : Cond.code yX7_game cX7_game 4 (some .int) ∈ wT := (wTi 713 rfl rfl)
set_option maxRecDepth 100000 in
theorem lim_X7_game : Cond.instanceMethod yX7_game ∈ wT := (wTi 711 rfl rfl)
set_option maxRecDepth 100000 in
theorem lse_X7_game : Cond.selects RX7 yX7_game yX7_game ∈ wT := (wTi 712 rfl rfl)
set_option maxRecDepth 100000 in
theorem lkL_73 : LV RL 73 yX7_game mX7_game 2 7 := ⟨LV5 (wTi 710 rfl rfl) lim_X7_game lse_X7_game lini_7 lco_X7_game, ⟨ne_7.1, ne_7.2, pd_9⟩, _, _, rfl⟩
set_option maxRecDepth 100000 in
theorem lco_X8_game : Cond.code yX8_game cX8_game 4 (some .int) ∈ wT := (wTi 1160 rfl rfl)
set_option maxRecDepth 100000 in
theorem lim_X8_game : Cond.instanceMethod yX8_game ∈ wT := (wTi 1158 rfl rfl)
set_option maxRecDepth 100000 in
theorem lse_X8_game : Cond.selects RX8 yX8_game yX8_game ∈ wT := (wTi 1159 rfl rfl)
set_option maxRecDepth 100000 in
theorem lkL_76 : LV RL 76 yX8_game mX8_game 2 8 := ⟨LV5 (wTi 1157 rfl rfl) lim_X8_game lse_X8_game lini_8 lco_X8_game, ⟨ne_9.1, ne_9.2, pd_9⟩, _, _, rfl⟩
set_option maxRecDepth 100000 in
theorem lco_X7_again : Cond.code yX7_again cX7_again 3 (some .int) ∈ wT := (wTi 731 rfl rfl)
set_option maxRecDepth 100000 in
theorem lim_X7_again : Cond.instanceMethod yX7_again ∈ wT := (wTi 729 rfl rfl)
set_option maxRecDepth 100000 in
theorem lse_X7_again : Cond.selects RX7 yX7_again yX7_again ∈ wT := (wTi 730 rfl rfl)
set_option maxRecDepth 100000 in
theorem lkL_77 : LV RL 77 yX7_again mX7_again 1 7 := ⟨LV5 (wTi 728 rfl rfl) lim_X7_again lse_X7_again lini_7 lco_X7_again, ⟨ne_7.1, ne_7.2, pd_7⟩, _, _, rfl⟩
set_option maxRecDepth 100000 in
theorem lco_X8_again : Cond.code yX8_again cX8_again 3 (some .int) ∈ wT := (wTi 1176 rfl rfl)
set_option maxRecDepth 100000 in
theorem lim_X8_again : Cond.instanceMethod yX8_again ∈ wT := (wTi 1174 rfl rfl)
set_option maxRecDepth 100000 in
theorem lse_X8_again : Cond.selects RX8 yX8_again yX8_again ∈ wT := (wTi 1175 rfl rfl)
set_option maxRecDepth 100000 in
theorem lkL_80 : LV RL 80 yX8_again mX8_again 1 8 := ⟨LV5 (wTi 1173 rfl rfl) lim_X8_again lse_X8_again lini_8 lco_X8_again, ⟨ne_9.1, ne_9.2, pd_7⟩, _, _, rfl⟩
set_option maxRecDepth 100000 in
theorem lco_X7_starves : Cond.code yX7_starves cX7_starves 3 (some .int) ∈ wT := (wTi 735 rfl rfl)
set_option maxRecDepth 100000 in
theorem lim_X7_starves : Cond.instanceMethod yX7_starves ∈ wT := (wTi 733 rfl rfl)
set_option maxRecDepth 100000 in
theorem lse_X7_starves : Cond.selects RX7 yX7_starves yX7_starves ∈ wT := (wTi 734 rfl rfl)
set_option maxRecDepth 100000 in
theorem lkL_81 : LV RL 81 yX7_starves mX7_starves 1 7 := ⟨LV5 (wTi 732 rfl rfl) lim_X7_starves lse_X7_starves lini_7 lco_X7_starves, ⟨ne_7.1, ne_7.2, pd_7⟩, _, _, rfl⟩
set_option maxRecDepth 100000 in
theorem lco_X8_starves : Cond.code yX8_starves cX8_starves 3 (some .int) ∈ wT := (wTi 1180 rfl rfl)
set_option maxRecDepth 100000 in
theorem lim_X8_starves : Cond.instanceMethod yX8_starves ∈ wT := (wTi 1178 rfl rfl)
set_option maxRecDepth 100000 in
theorem lse_X8_starves : Cond.selects RX8 yX8_starves yX8_starves ∈ wT := (wTi 1179 rfl rfl)
set_option maxRecDepth 100000 in
theorem lkL_84 : LV RL 84 yX8_starves mX8_starves 1 8 := ⟨LV5 (wTi 1177 rfl rfl) lim_X8_starves lse_X8_starves lini_8 lco_X8_starves, ⟨ne_9.1, ne_9.2, pd_7⟩, _, _, rfl⟩
set_option maxRecDepth 100000 in
theorem lco_X7_otherwise : Cond.code yX7_otherwise cX7_otherwise 8 (some .int) ∈ wT := (wTi 739 rfl rfl)
set_option maxRecDepth 100000 in
theorem lim_X7_otherwise : Cond.instanceMethod yX7_otherwise ∈ wT := (wTi 737 rfl rfl)
set_option maxRecDepth 100000 in
theorem lse_X7_otherwise : Cond.selects RX7 yX7_otherwise yX7_otherwise ∈ wT := (wTi 738 rfl rfl)
set_option maxRecDepth 100000 in
theorem lkL_85 : LV RL 85 yX7_otherwise mX7_otherwise 3 7 := ⟨LV5 (wTi 736 rfl rfl) lim_X7_otherwise lse_X7_otherwise lini_7 lco_X7_otherwise, ⟨ne_7.1, ne_7.2, pd_27⟩, _, _, rfl⟩
set_option maxRecDepth 100000 in
theorem lco_X8_otherwise : Cond.code yX8_otherwise cX8_otherwise 8 (some .int) ∈ wT := (wTi 1184 rfl rfl)
set_option maxRecDepth 100000 in
theorem lim_X8_otherwise : Cond.instanceMethod yX8_otherwise ∈ wT := (wTi 1182 rfl rfl)
set_option maxRecDepth 100000 in
theorem lse_X8_otherwise : Cond.selects RX8 yX8_otherwise yX8_otherwise ∈ wT := (wTi 1183 rfl rfl)
set_option maxRecDepth 100000 in
theorem lkL_88 : LV RL 88 yX8_otherwise mX8_otherwise 3 8 := ⟨LV5 (wTi 1181 rfl rfl) lim_X8_otherwise lse_X8_otherwise lini_8 lco_X8_otherwise, ⟨ne_9.1, ne_9.2, pd_27⟩, _, _, rfl⟩
set_option maxRecDepth 100000 in
theorem lco_X7_wolves : Cond.code yX7_wolves cX7_wolves 12 (some .int) ∈ wT := (wTi 757 rfl rfl)
set_option maxRecDepth 100000 in
theorem lim_X7_wolves : Cond.instanceMethod yX7_wolves ∈ wT := (wTi 755 rfl rfl)
set_option maxRecDepth 100000 in
theorem lse_X7_wolves : Cond.selects RX7 yX7_wolves yX7_wolves ∈ wT := (wTi 756 rfl rfl)
set_option maxRecDepth 100000 in
theorem lkL_89 : LV RL 89 yX7_wolves mX7_wolves 4 7 := ⟨LV5 (wTi 754 rfl rfl) lim_X7_wolves lse_X7_wolves lini_7 lco_X7_wolves, ⟨ne_7.1, ne_7.2, pd_28⟩, _, _, rfl⟩
set_option maxRecDepth 100000 in
theorem lco_X8_wolves : Cond.code yX8_wolves cX8_wolves 10 (some .int) ∈ wT := (wTi 1192 rfl rfl)
set_option maxRecDepth 100000 in
theorem lim_X8_wolves : Cond.instanceMethod yX8_wolves ∈ wT := (wTi 1190 rfl rfl)
set_option maxRecDepth 100000 in
theorem lse_X8_wolves : Cond.selects RX8 yX8_wolves yX8_wolves ∈ wT := (wTi 1191 rfl rfl)
set_option maxRecDepth 100000 in
theorem lkL_93 : LV RL 93 yX8_wolves mX8_wolves 4 8 := ⟨LV5 (wTi 1189 rfl rfl) lim_X8_wolves lse_X8_wolves lini_8 lco_X8_wolves, ⟨ne_9.1, ne_9.2, pd_28⟩, _, _, rfl⟩
set_option maxRecDepth 100000 in
theorem lco_X7_season : Cond.code yX7_season cX7_season 7 (some .int) ∈ wT := (wTi 784 rfl rfl)
set_option maxRecDepth 100000 in
theorem lim_X7_season : Cond.instanceMethod yX7_season ∈ wT := (wTi 782 rfl rfl)
set_option maxRecDepth 100000 in
theorem lse_X7_season : Cond.selects RX7 yX7_season yX7_season ∈ wT := (wTi 783 rfl rfl)
set_option maxRecDepth 100000 in
theorem lkL_94 : LV RL 94 yX7_season mX7_season 3 7 := ⟨LV5 (wTi 781 rfl rfl) lim_X7_season lse_X7_season lini_7 lco_X7_season, ⟨ne_7.1, ne_7.2, pd_27⟩, _, _, rfl⟩
set_option maxRecDepth 100000 in
theorem lco_X8_season : Cond.code yX8_season cX8_season 9 (some .int) ∈ wT := (wTi 1207 rfl rfl)
set_option maxRecDepth 100000 in
theorem lim_X8_season : Cond.instanceMethod yX8_season ∈ wT := (wTi 1205 rfl rfl)
set_option maxRecDepth 100000 in
theorem lse_X8_season : Cond.selects RX8 yX8_season yX8_season ∈ wT := (wTi 1206 rfl rfl)
set_option maxRecDepth 100000 in
theorem lkL_97 : LV RL 97 yX8_season mX8_season 3 8 := ⟨LV5 (wTi 1204 rfl rfl) lim_X8_season lse_X8_season lini_8 lco_X8_season, ⟨ne_9.1, ne_9.2, pd_27⟩, _, _, rfl⟩
set_option maxRecDepth 100000 in
theorem lco_X7_keep : Cond.code yX7_keep cX7_keep 1 (some .int) ∈ wT := (wTi 797 rfl rfl)
set_option maxRecDepth 100000 in
theorem lim_X7_keep : Cond.instanceMethod yX7_keep ∈ wT := (wTi 795 rfl rfl)
set_option maxRecDepth 100000 in
theorem lse_X7_keep : Cond.selects RX7 yX7_keep yX7_keep ∈ wT := (wTi 796 rfl rfl)
set_option maxRecDepth 100000 in
theorem lkL_98 : LV RL 98 yX7_keep mX7_keep 0 7 := ⟨LV5 (wTi 794 rfl rfl) lim_X7_keep lse_X7_keep lini_7 lco_X7_keep, ⟨ne_7.1, ne_7.2, pd_6⟩, _, _, rfl⟩
def J_law_b18 (Ln : Nat) (xs : Nat → Int32) : Nat → Int32 → Sg → Option (Int32 × Sg)
  | 0, _, _ => none
  | k + 1, x3, σ =>
    (if ((Int32.ofNat Ln) - (5 : Int32)) < x3 then (some ((1 : Int32), σ)) else (if inb x3 Ln = true then (if ((xs x3.toNatClampNeg) &&& (31 : Int32)) = 0 then (if inb (x3 + (1 : Int32)) Ln = true then (bd2 (J_X7_write (xs (x3 + (1 : Int32)).toNatClampNeg) σ) fun r146 s146 => (if inb (x3 + (1 : Int32)) Ln = true then (bd2 (J_X8_write (xs (x3 + (1 : Int32)).toNatClampNeg) s146) fun r155 s155 => (if r146 = r155 then (J_law_b18 Ln xs  k (x3 + (5)) s155) else (some ((0 : Int32), s155)))) else none)) else none) else (if ((xs x3.toNatClampNeg) &&& (31 : Int32)) = 1 then (bd2 (J_X7_wipe  σ) fun r164 s164 => (bd2 (J_X8_wipe  s164) fun r168 s168 => (if r164 = r168 then (J_law_b18 Ln xs  k (x3 + (5)) s168) else (some ((0 : Int32), s168))))) else (if ((xs x3.toNatClampNeg) &&& (31 : Int32)) = 2 then (bd2 (J_X7_fault  σ) fun r177 s177 => (bd2 (J_X8_fault  s177) fun r181 s181 => (if r177 = r181 then (J_law_b18 Ln xs  k (x3 + (5)) s181) else (some ((0 : Int32), s181))))) else (if ((xs x3.toNatClampNeg) &&& (31 : Int32)) = 3 then (bd2 (J_X7_lay  σ) fun r190 s190 => (bd2 (J_X8_lay  s190) fun r194 s194 => (if r190 = r194 then (J_law_b18 Ln xs  k (x3 + (5)) s194) else (some ((0 : Int32), s194))))) else (if ((xs x3.toNatClampNeg) &&& (31 : Int32)) = 4 then (if inb (x3 + (1 : Int32)) Ln = true then (if inb (x3 + (2 : Int32)) Ln = true then (bd1 (J_X7_square (xs (x3 + (1 : Int32)).toNatClampNeg) (xs (x3 + (2 : Int32)).toNatClampNeg) σ) fun r213 => (if inb (x3 + (1 : Int32)) Ln = true then (if inb (x3 + (2 : Int32)) Ln = true then (bd2 (J_X8_square (xs (x3 + (1 : Int32)).toNatClampNeg) (xs (x3 + (2 : Int32)).toNatClampNeg) σ) fun r227 s227 => (if r213 = r227 then (J_law_b18 Ln xs  k (x3 + (5)) s227) else (some ((0 : Int32), s227)))) else none) else none)) else none) else none) else (if ((xs x3.toNatClampNeg) &&& (31 : Int32)) = 5 then (if inb (x3 + (1 : Int32)) Ln = true then (if inb (x3 + (2 : Int32)) Ln = true then (bd1 (J_X7_beast (xs (x3 + (1 : Int32)).toNatClampNeg) (xs (x3 + (2 : Int32)).toNatClampNeg) σ) fun r246 => (if inb (x3 + (1 : Int32)) Ln = true then (if inb (x3 + (2 : Int32)) Ln = true then (bd2 (J_X8_beast (xs (x3 + (1 : Int32)).toNatClampNeg) (xs (x3 + (2 : Int32)).toNatClampNeg) σ) fun r260 s260 => (if r246 = r260 then (J_law_b18 Ln xs  k (x3 + (5)) s260) else (some ((0 : Int32), s260)))) else none) else none)) else none) else none) else (if ((xs x3.toNatClampNeg) &&& (31 : Int32)) = 6 then (if inb (x3 + (1 : Int32)) Ln = true then (if inb (x3 + (2 : Int32)) Ln = true then (bd1 (J_X7_goes (xs (x3 + (1 : Int32)).toNatClampNeg) (xs (x3 + (2 : Int32)).toNatClampNeg) σ) fun r279 => (if inb (x3 + (1 : Int32)) Ln = true then (if inb (x3 + (2 : Int32)) Ln = true then (bd2 (J_X8_goes (xs (x3 + (1 : Int32)).toNatClampNeg) (xs (x3 + (2 : Int32)).toNatClampNeg) σ) fun r293 s293 => (if r279 = r293 then (J_law_b18 Ln xs  k (x3 + (5)) s293) else (some ((0 : Int32), s293)))) else none) else none)) else none) else none) else (if ((xs x3.toNatClampNeg) &&& (31 : Int32)) = 7 then (if inb (x3 + (1 : Int32)) Ln = true then (if inb (x3 + (2 : Int32)) Ln = true then (bd1 (J_X7_takes (xs (x3 + (1 : Int32)).toNatClampNeg) (xs (x3 + (2 : Int32)).toNatClampNeg) σ) fun r312 => (if inb (x3 + (1 : Int32)) Ln = true then (if inb (x3 + (2 : Int32)) Ln = true then (bd2 (J_X8_takes (xs (x3 + (1 : Int32)).toNatClampNeg) (xs (x3 + (2 : Int32)).toNatClampNeg) σ) fun r326 s326 => (if r312 = r326 then (J_law_b18 Ln xs  k (x3 + (5)) s326) else (some ((0 : Int32), s326)))) else none) else none)) else none) else none) else (if ((xs x3.toNatClampNeg) &&& (31 : Int32)) = 8 then (if inb (x3 + (1 : Int32)) Ln = true then (if inb (x3 + (2 : Int32)) Ln = true then (bd2 (J_X7_drive (xs (x3 + (1 : Int32)).toNatClampNeg) (xs (x3 + (2 : Int32)).toNatClampNeg) σ) fun r345 s345 => (if inb (x3 + (1 : Int32)) Ln = true then (if inb (x3 + (2 : Int32)) Ln = true then (bd2 (J_X8_drive (xs (x3 + (1 : Int32)).toNatClampNeg) (xs (x3 + (2 : Int32)).toNatClampNeg) s345) fun r359 s359 => (if r345 = r359 then (J_law_b18 Ln xs  k (x3 + (5)) s359) else (some ((0 : Int32), s359)))) else none) else none)) else none) else none) else (if ((xs x3.toNatClampNeg) &&& (31 : Int32)) = 9 then (bd2 (J_X7_rest  σ) fun r368 s368 => (bd2 (J_X8_rest  s368) fun r372 s372 => (if r368 = r372 then (J_law_b18 Ln xs  k (x3 + (5)) s372) else (some ((0 : Int32), s372))))) else (if ((xs x3.toNatClampNeg) &&& (31 : Int32)) = 10 then (bd2 (J_X7_undo  σ) fun r381 s381 => (bd2 (J_X8_undo  s381) fun r385 s385 => (if r381 = r385 then (J_law_b18 Ln xs  k (x3 + (5)) s385) else (some ((0 : Int32), s385))))) else (if ((xs x3.toNatClampNeg) &&& (31 : Int32)) = 11 then (if inb (x3 + (1 : Int32)) Ln = true then (if inb (x3 + (2 : Int32)) Ln = true then (if inb (x3 + (3 : Int32)) Ln = true then (bd2 (J_X7_fewest (xs (x3 + (1 : Int32)).toNatClampNeg) (xs (x3 + (2 : Int32)).toNatClampNeg) (xs (x3 + (3 : Int32)).toNatClampNeg) σ) fun r409 s409 => (if inb (x3 + (1 : Int32)) Ln = true then (if inb (x3 + (2 : Int32)) Ln = true then (if inb (x3 + (3 : Int32)) Ln = true then (bd2 (J_X8_fewest (xs (x3 + (1 : Int32)).toNatClampNeg) (xs (x3 + (2 : Int32)).toNatClampNeg) (xs (x3 + (3 : Int32)).toNatClampNeg) s409) fun r428 s428 => (if r409 = r428 then (J_law_b18 Ln xs  k (x3 + (5)) s428) else (some ((0 : Int32), s428)))) else none) else none) else none)) else none) else none) else none) else (if ((xs x3.toNatClampNeg) &&& (31 : Int32)) = 12 then (if inb (x3 + (1 : Int32)) Ln = true then (if inb (x3 + (2 : Int32)) Ln = true then (bd2 (J_X7_stray (xs (x3 + (1 : Int32)).toNatClampNeg) (xs (x3 + (2 : Int32)).toNatClampNeg) σ) fun r447 s447 => (if inb (x3 + (1 : Int32)) Ln = true then (if inb (x3 + (2 : Int32)) Ln = true then (bd2 (J_X8_stray (xs (x3 + (1 : Int32)).toNatClampNeg) (xs (x3 + (2 : Int32)).toNatClampNeg) s447) fun r461 s461 => (if r447 = r461 then (J_law_b18 Ln xs  k (x3 + (5)) s461) else (some ((0 : Int32), s461)))) else none) else none)) else none) else none) else (if ((xs x3.toNatClampNeg) &&& (31 : Int32)) = 13 then (if inb (x3 + (1 : Int32)) Ln = true then (if inb (x3 + (2 : Int32)) Ln = true then (bd2 (J_X7_summer (xs (x3 + (1 : Int32)).toNatClampNeg) (xs (x3 + (2 : Int32)).toNatClampNeg) σ) fun r480 s480 => (if inb (x3 + (1 : Int32)) Ln = true then (if inb (x3 + (2 : Int32)) Ln = true then (bd2 (J_X8_summer (xs (x3 + (1 : Int32)).toNatClampNeg) (xs (x3 + (2 : Int32)).toNatClampNeg) s480) fun r494 s494 => (if r480 = r494 then (J_law_b18 Ln xs  k (x3 + (5)) s494) else (some ((0 : Int32), s494)))) else none) else none)) else none) else none) else (if ((xs x3.toNatClampNeg) &&& (31 : Int32)) = 14 then (if inb (x3 + (1 : Int32)) Ln = true then (if inb (x3 + (2 : Int32)) Ln = true then (bd2 (J_X7_game (xs (x3 + (1 : Int32)).toNatClampNeg) (xs (x3 + (2 : Int32)).toNatClampNeg) σ) fun r513 s513 => (if inb (x3 + (1 : Int32)) Ln = true then (if inb (x3 + (2 : Int32)) Ln = true then (bd2 (J_X8_game (xs (x3 + (1 : Int32)).toNatClampNeg) (xs (x3 + (2 : Int32)).toNatClampNeg) s513) fun r527 s527 => (if r513 = r527 then (J_law_b18 Ln xs  k (x3 + (5)) s527) else (some ((0 : Int32), s527)))) else none) else none)) else none) else none) else (if ((xs x3.toNatClampNeg) &&& (31 : Int32)) = 15 then (if inb (x3 + (1 : Int32)) Ln = true then (bd2 (J_X7_again (xs (x3 + (1 : Int32)).toNatClampNeg) σ) fun r541 s541 => (if inb (x3 + (1 : Int32)) Ln = true then (bd2 (J_X8_again (xs (x3 + (1 : Int32)).toNatClampNeg) s541) fun r550 s550 => (if r541 = r550 then (J_law_b18 Ln xs  k (x3 + (5)) s550) else (some ((0 : Int32), s550)))) else none)) else none) else (if ((xs x3.toNatClampNeg) &&& (31 : Int32)) = 16 then (if inb (x3 + (1 : Int32)) Ln = true then (bd2 (J_X7_starves (xs (x3 + (1 : Int32)).toNatClampNeg) σ) fun r564 s564 => (if inb (x3 + (1 : Int32)) Ln = true then (bd2 (J_X8_starves (xs (x3 + (1 : Int32)).toNatClampNeg) s564) fun r573 s573 => (if r564 = r573 then (J_law_b18 Ln xs  k (x3 + (5)) s573) else (some ((0 : Int32), s573)))) else none)) else none) else (if ((xs x3.toNatClampNeg) &&& (31 : Int32)) = 17 then (if inb (x3 + (1 : Int32)) Ln = true then (if inb (x3 + (2 : Int32)) Ln = true then (if inb (x3 + (3 : Int32)) Ln = true then (bd2 (J_X7_otherwise (xs (x3 + (1 : Int32)).toNatClampNeg) (xs (x3 + (2 : Int32)).toNatClampNeg) (xs (x3 + (3 : Int32)).toNatClampNeg) σ) fun r597 s597 => (if inb (x3 + (1 : Int32)) Ln = true then (if inb (x3 + (2 : Int32)) Ln = true then (if inb (x3 + (3 : Int32)) Ln = true then (bd2 (J_X8_otherwise (xs (x3 + (1 : Int32)).toNatClampNeg) (xs (x3 + (2 : Int32)).toNatClampNeg) (xs (x3 + (3 : Int32)).toNatClampNeg) s597) fun r616 s616 => (if r597 = r616 then (J_law_b18 Ln xs  k (x3 + (5)) s616) else (some ((0 : Int32), s616)))) else none) else none) else none)) else none) else none) else none) else (if ((xs x3.toNatClampNeg) &&& (31 : Int32)) = 18 then (if inb (x3 + (1 : Int32)) Ln = true then (if inb (x3 + (2 : Int32)) Ln = true then (if inb (x3 + (3 : Int32)) Ln = true then (if inb (x3 + (4 : Int32)) Ln = true then (bd2 (J_X7_wolves (xs (x3 + (1 : Int32)).toNatClampNeg) (xs (x3 + (2 : Int32)).toNatClampNeg) (xs (x3 + (3 : Int32)).toNatClampNeg) (xs (x3 + (4 : Int32)).toNatClampNeg) σ) fun r645 s645 => (if inb (x3 + (1 : Int32)) Ln = true then (if inb (x3 + (2 : Int32)) Ln = true then (if inb (x3 + (3 : Int32)) Ln = true then (if inb (x3 + (4 : Int32)) Ln = true then (bd2 (J_X8_wolves (xs (x3 + (1 : Int32)).toNatClampNeg) (xs (x3 + (2 : Int32)).toNatClampNeg) (xs (x3 + (3 : Int32)).toNatClampNeg) (xs (x3 + (4 : Int32)).toNatClampNeg) s645) fun r669 s669 => (if r645 = r669 then (J_law_b18 Ln xs  k (x3 + (5)) s669) else (some ((0 : Int32), s669)))) else none) else none) else none) else none)) else none) else none) else none) else none) else (if ((xs x3.toNatClampNeg) &&& (31 : Int32)) = 19 then (if inb (x3 + (1 : Int32)) Ln = true then (if inb (x3 + (2 : Int32)) Ln = true then (if inb (x3 + (3 : Int32)) Ln = true then (bd2 (J_X7_season (xs (x3 + (1 : Int32)).toNatClampNeg) (xs (x3 + (2 : Int32)).toNatClampNeg) (xs (x3 + (3 : Int32)).toNatClampNeg) σ) fun r693 s693 => (if inb (x3 + (1 : Int32)) Ln = true then (if inb (x3 + (2 : Int32)) Ln = true then (if inb (x3 + (3 : Int32)) Ln = true then (bd2 (J_X8_season (xs (x3 + (1 : Int32)).toNatClampNeg) (xs (x3 + (2 : Int32)).toNatClampNeg) (xs (x3 + (3 : Int32)).toNatClampNeg) s693) fun r712 s712 => (if r693 = r712 then (J_law_b18 Ln xs  k (x3 + (5)) s712) else (some ((0 : Int32), s712)))) else none) else none) else none)) else none) else none) else none) else (if ((xs x3.toNatClampNeg) &&& (31 : Int32)) = 20 then (bd2 (J_X7_keep  σ) fun r721 s721 => (bd2 (J_X8_keep  s721) fun r725 s725 => (if r721 = r725 then (J_law_b18 Ln xs  k (x3 + (5)) s725) else (some ((0 : Int32), s725))))) else (if ((xs x3.toNatClampNeg) &&& (31 : Int32)) = 21 then (bd2 (J_X7_back  σ) fun r734 s734 => (bd2 (J_X8_back  s734) fun r738 s738 => (if r734 = r738 then (J_law_b18 Ln xs  k (x3 + (5)) s738) else (some ((0 : Int32), s738))))) else (if ((xs x3.toNatClampNeg) &&& (31 : Int32)) = 22 then (if inb (x3 + (1 : Int32)) Ln = true then (bd1 (J_X7_count (xs (x3 + (1 : Int32)).toNatClampNeg) σ) fun r752 => (if inb (x3 + (1 : Int32)) Ln = true then (bd2 (J_X8_count (xs (x3 + (1 : Int32)).toNatClampNeg) σ) fun r761 s761 => (if r752 = r761 then (J_law_b18 Ln xs  k (x3 + (5)) s761) else (some ((0 : Int32), s761)))) else none)) else none) else (J_law_b18 Ln xs  k (x3 + (5)) σ)))))))))))))))))))))))) else none))
set_option maxHeartbeats 4000000 in
theorem A_law_b18 (K : KT) {N : Nat} (hN : NT ≤ N) (Ln : Nat) (xs : Nat → Int32) (hX : KX K Ln xs) : ∀ (k : Nat) (x3 : Int32) (σ : Sg), AG K mlaw N (fun a : Int32 × Sg => (some (.int a.1), N, R0, a.2)) (J_law_b18 Ln xs  k x3 σ) 18 [some (.retAddr 1), some (.ref 0), some (.ref 141), some (.int x3)] [] σ := by
  intro k
  induction k with
  | zero => intro x3 σ; exact ag_none
  | succ k ih =>
    intro x3 σ
    rw [J_law_b18]
    refine ag_iload_3 (q := 19) dL_law_18 rfl ?_
    refine ag_xload_0 (q := 20) dL_law_19 rfl ?_
    refine ag_slen hX (q := 21) dL_law_20 rfl ?_
    refine ag_iconst (q := 22) (v := 5) dL_law_21 rfl (by decide) ?_
    refine ag_isub (q := 23) dL_law_22 rfl ?_
    refine ag_icmp_gt (tgt := 775) (q := 26) dL_law_23 rfl rfl ?_ ?_
    · refine ag_iconst (q := 776) (v := 1) dL_law_775 rfl (by decide) ?_
      exact ag_zretK dL_law_776 rfl (by decide) rfl
    refine ag_xload_0 (q := 27) dL_law_26 rfl ?_
    refine ag_iload_3 (q := 28) dL_law_27 rfl ?_
    refine ag_sld hX (q := 29) dL_law_28 rfl ?_
    refine ag_bipush (q := 31) (v := 31) dL_law_29 rfl (by decide) ?_
    refine ag_iand (q := 32) dL_law_31 rfl ?_
    refine ag_ite (fun z0 => ?_) (fun z0 => ?_)
    · refine ag_tin (k := 0) (q := 140) dL_law_32 z0 (by decide) (by decide) rfl rfl ?_
      refine ag_aload_1 (q := 141) dL_law_140 rfl ?_
      refine ag_xload_0 (q := 142) dL_law_141 rfl ?_
      refine ag_iload_3 (q := 143) dL_law_142 rfl ?_
      refine ag_iconst (q := 144) (v := 1) dL_law_143 rfl (by decide) ?_
      refine ag_iadd (q := 145) dL_law_144 rfl ?_
      refine ag_sld hX (q := 146) dL_law_145 rfl ?_
      refine ag_callV_mI (q := 149) (av := [.int _]) (rest := []) dL_law_146 rfl lkL_13 (C_X7_write (Nat.le_trans (by decide) hN) (xs (x3 + (1 : Int32)).toNatClampNeg) _) (by decide) (Nat.le_of_ble_eq_true rfl) (Nat.lt_of_lt_of_le (by decide : 0 < NT) hN) (congrArg Prod.fst s_0) (by decide) (fun _ => rfl) (Nat.le_of_ble_eq_true rfl) rfl (fun r146 s146 e146 => ?_)
      refine ag_aload_2 (q := 150) dL_law_149 rfl ?_
      refine ag_xload_0 (q := 151) dL_law_150 rfl ?_
      refine ag_iload_3 (q := 152) dL_law_151 rfl ?_
      refine ag_iconst (q := 153) (v := 1) dL_law_152 rfl (by decide) ?_
      refine ag_iadd (q := 154) dL_law_153 rfl ?_
      refine ag_sld hX (q := 155) dL_law_154 rfl ?_
      refine ag_callV_mI (q := 158) (av := [.int _]) (rest := [.int _]) dL_law_155 rfl lkL_17 (C_X8_write hN (xs (x3 + (1 : Int32)).toNatClampNeg) _) (by decide) (Nat.le_of_ble_eq_true rfl) (Nat.lt_of_lt_of_le (by decide : 141 < NT) hN) (congrArg Prod.fst s_141) (by decide) (fun _ => rfl) (Nat.le_of_ble_eq_true rfl) rfl (fun r155 s155 e155 => ?_)
      refine ag_icmp_eq (tgt := 769) (q := 161) dL_law_158 rfl rfl ?_ ?_
      · refine ag_iinc_3 (q := 772) (d := (5)) dL_law_769 rfl (Nat.le_of_ble_eq_true rfl) rfl (by decide) ?_
        refine ag_goto (q := 18) dL_law_772 rfl ?_
        exact ih (x3 + (5)) s155
      refine ag_iconst (q := 162) (v := 0) dL_law_161 rfl (by decide) ?_
      exact ag_zretK dL_law_162 rfl (by decide) rfl
    refine ag_ite (fun z1 => ?_) (fun z1 => ?_)
    · refine ag_tin (k := 1) (q := 163) dL_law_32 z1 (by decide) (by decide) rfl rfl ?_
      refine ag_aload_1 (q := 164) dL_law_163 rfl ?_
      refine ag_callV_mI (q := 167) (av := []) (rest := []) dL_law_164 rfl lkL_18 (C_X7_wipe (Nat.le_trans (by decide) hN)  _) (by decide) (Nat.le_of_ble_eq_true rfl) (Nat.lt_of_lt_of_le (by decide : 0 < NT) hN) (congrArg Prod.fst s_0) (by decide) (fun _ => rfl) (Nat.le_of_ble_eq_true rfl) rfl (fun r164 s164 e164 => ?_)
      refine ag_aload_2 (q := 168) dL_law_167 rfl ?_
      refine ag_callV_mI (q := 171) (av := []) (rest := [.int _]) dL_law_168 rfl lkL_22 (C_X8_wipe hN  _) (by decide) (Nat.le_of_ble_eq_true rfl) (Nat.lt_of_lt_of_le (by decide : 141 < NT) hN) (congrArg Prod.fst s_141) (by decide) (fun _ => rfl) (Nat.le_of_ble_eq_true rfl) rfl (fun r168 s168 e168 => ?_)
      refine ag_icmp_eq (tgt := 769) (q := 174) dL_law_171 rfl rfl ?_ ?_
      · refine ag_iinc_3 (q := 772) (d := (5)) dL_law_769 rfl (Nat.le_of_ble_eq_true rfl) rfl (by decide) ?_
        refine ag_goto (q := 18) dL_law_772 rfl ?_
        exact ih (x3 + (5)) s168
      refine ag_iconst (q := 175) (v := 0) dL_law_174 rfl (by decide) ?_
      exact ag_zretK dL_law_175 rfl (by decide) rfl
    refine ag_ite (fun z2 => ?_) (fun z2 => ?_)
    · refine ag_tin (k := 2) (q := 176) dL_law_32 z2 (by decide) (by decide) rfl rfl ?_
      refine ag_aload_1 (q := 177) dL_law_176 rfl ?_
      refine ag_callV_mI (q := 180) (av := []) (rest := []) dL_law_177 rfl lkL_23 (C_X7_fault (Nat.le_trans (by decide) hN)  _) (by decide) (Nat.le_of_ble_eq_true rfl) (Nat.lt_of_lt_of_le (by decide : 0 < NT) hN) (congrArg Prod.fst s_0) (by decide) (fun _ => rfl) (Nat.le_of_ble_eq_true rfl) rfl (fun r177 s177 e177 => ?_)
      refine ag_aload_2 (q := 181) dL_law_180 rfl ?_
      refine ag_callV_mI (q := 184) (av := []) (rest := [.int _]) dL_law_181 rfl lkL_26 (C_X8_fault hN  _) (by decide) (Nat.le_of_ble_eq_true rfl) (Nat.lt_of_lt_of_le (by decide : 141 < NT) hN) (congrArg Prod.fst s_141) (by decide) (fun _ => rfl) (Nat.le_of_ble_eq_true rfl) rfl (fun r181 s181 e181 => ?_)
      refine ag_icmp_eq (tgt := 769) (q := 187) dL_law_184 rfl rfl ?_ ?_
      · refine ag_iinc_3 (q := 772) (d := (5)) dL_law_769 rfl (Nat.le_of_ble_eq_true rfl) rfl (by decide) ?_
        refine ag_goto (q := 18) dL_law_772 rfl ?_
        exact ih (x3 + (5)) s181
      refine ag_iconst (q := 188) (v := 0) dL_law_187 rfl (by decide) ?_
      exact ag_zretK dL_law_188 rfl (by decide) rfl
    refine ag_ite (fun z3 => ?_) (fun z3 => ?_)
    · refine ag_tin (k := 3) (q := 189) dL_law_32 z3 (by decide) (by decide) rfl rfl ?_
      refine ag_aload_1 (q := 190) dL_law_189 rfl ?_
      refine ag_callV_mI (q := 193) (av := []) (rest := []) dL_law_190 rfl lkL_27 (C_X7_lay (Nat.le_trans (by decide) hN)  _) (by decide) (Nat.le_of_ble_eq_true rfl) (Nat.lt_of_lt_of_le (by decide : 0 < NT) hN) (congrArg Prod.fst s_0) (by decide) (fun _ => rfl) (Nat.le_of_ble_eq_true rfl) rfl (fun r190 s190 e190 => ?_)
      refine ag_aload_2 (q := 194) dL_law_193 rfl ?_
      refine ag_callV_mI (q := 197) (av := []) (rest := [.int _]) dL_law_194 rfl lkL_30 (C_X8_lay hN  _) (by decide) (Nat.le_of_ble_eq_true rfl) (Nat.lt_of_lt_of_le (by decide : 141 < NT) hN) (congrArg Prod.fst s_141) (by decide) (fun _ => rfl) (Nat.le_of_ble_eq_true rfl) rfl (fun r194 s194 e194 => ?_)
      refine ag_icmp_eq (tgt := 769) (q := 200) dL_law_197 rfl rfl ?_ ?_
      · refine ag_iinc_3 (q := 772) (d := (5)) dL_law_769 rfl (Nat.le_of_ble_eq_true rfl) rfl (by decide) ?_
        refine ag_goto (q := 18) dL_law_772 rfl ?_
        exact ih (x3 + (5)) s194
      refine ag_iconst (q := 201) (v := 0) dL_law_200 rfl (by decide) ?_
      exact ag_zretK dL_law_201 rfl (by decide) rfl
    refine ag_ite (fun z4 => ?_) (fun z4 => ?_)
    · refine ag_tin (k := 4) (q := 202) dL_law_32 z4 (by decide) (by decide) rfl rfl ?_
      refine ag_aload_1 (q := 203) dL_law_202 rfl ?_
      refine ag_xload_0 (q := 204) dL_law_203 rfl ?_
      refine ag_iload_3 (q := 205) dL_law_204 rfl ?_
      refine ag_iconst (q := 206) (v := 1) dL_law_205 rfl (by decide) ?_
      refine ag_iadd (q := 207) dL_law_206 rfl ?_
      refine ag_sld hX (q := 208) dL_law_207 rfl ?_
      refine ag_xload_0 (q := 209) dL_law_208 rfl ?_
      refine ag_iload_3 (q := 210) dL_law_209 rfl ?_
      refine ag_iconst (q := 211) (v := 2) dL_law_210 rfl (by decide) ?_
      refine ag_iadd (q := 212) dL_law_211 rfl ?_
      refine ag_sld hX (q := 213) dL_law_212 rfl ?_
      refine ag_callV_pI (q := 216) (av := [.int _, .int _]) (rest := []) dL_law_213 rfl lkL_31 (C_X7_square (Nat.le_trans (by decide) hN) (xs (x3 + (1 : Int32)).toNatClampNeg) (xs (x3 + (2 : Int32)).toNatClampNeg) _) (by decide) (Nat.le_of_ble_eq_true rfl) (Nat.lt_of_lt_of_le (by decide : 0 < NT) hN) (congrArg Prod.fst s_0) (by decide) (fun _ => rfl) (Nat.le_of_ble_eq_true rfl) rfl (fun r213 e213 => ?_)
      refine ag_aload_2 (q := 217) dL_law_216 rfl ?_
      refine ag_xload_0 (q := 218) dL_law_217 rfl ?_
      refine ag_iload_3 (q := 219) dL_law_218 rfl ?_
      refine ag_iconst (q := 220) (v := 1) dL_law_219 rfl (by decide) ?_
      refine ag_iadd (q := 221) dL_law_220 rfl ?_
      refine ag_sld hX (q := 222) dL_law_221 rfl ?_
      refine ag_xload_0 (q := 223) dL_law_222 rfl ?_
      refine ag_iload_3 (q := 224) dL_law_223 rfl ?_
      refine ag_iconst (q := 225) (v := 2) dL_law_224 rfl (by decide) ?_
      refine ag_iadd (q := 226) dL_law_225 rfl ?_
      refine ag_sld hX (q := 227) dL_law_226 rfl ?_
      refine ag_callV_mI (q := 230) (av := [.int _, .int _]) (rest := [.int _]) dL_law_227 rfl lkL_35 (C_X8_square hN (xs (x3 + (1 : Int32)).toNatClampNeg) (xs (x3 + (2 : Int32)).toNatClampNeg) _) (by decide) (Nat.le_of_ble_eq_true rfl) (Nat.lt_of_lt_of_le (by decide : 141 < NT) hN) (congrArg Prod.fst s_141) (by decide) (fun _ => rfl) (Nat.le_of_ble_eq_true rfl) rfl (fun r227 s227 e227 => ?_)
      refine ag_icmp_eq (tgt := 769) (q := 233) dL_law_230 rfl rfl ?_ ?_
      · refine ag_iinc_3 (q := 772) (d := (5)) dL_law_769 rfl (Nat.le_of_ble_eq_true rfl) rfl (by decide) ?_
        refine ag_goto (q := 18) dL_law_772 rfl ?_
        exact ih (x3 + (5)) s227
      refine ag_iconst (q := 234) (v := 0) dL_law_233 rfl (by decide) ?_
      exact ag_zretK dL_law_234 rfl (by decide) rfl
    refine ag_ite (fun z5 => ?_) (fun z5 => ?_)
    · refine ag_tin (k := 5) (q := 235) dL_law_32 z5 (by decide) (by decide) rfl rfl ?_
      refine ag_aload_1 (q := 236) dL_law_235 rfl ?_
      refine ag_xload_0 (q := 237) dL_law_236 rfl ?_
      refine ag_iload_3 (q := 238) dL_law_237 rfl ?_
      refine ag_iconst (q := 239) (v := 1) dL_law_238 rfl (by decide) ?_
      refine ag_iadd (q := 240) dL_law_239 rfl ?_
      refine ag_sld hX (q := 241) dL_law_240 rfl ?_
      refine ag_xload_0 (q := 242) dL_law_241 rfl ?_
      refine ag_iload_3 (q := 243) dL_law_242 rfl ?_
      refine ag_iconst (q := 244) (v := 2) dL_law_243 rfl (by decide) ?_
      refine ag_iadd (q := 245) dL_law_244 rfl ?_
      refine ag_sld hX (q := 246) dL_law_245 rfl ?_
      refine ag_callV_pI (q := 249) (av := [.int _, .int _]) (rest := []) dL_law_246 rfl lkL_36 (C_X7_beast (Nat.le_trans (by decide) hN) (xs (x3 + (1 : Int32)).toNatClampNeg) (xs (x3 + (2 : Int32)).toNatClampNeg) _) (by decide) (Nat.le_of_ble_eq_true rfl) (Nat.lt_of_lt_of_le (by decide : 0 < NT) hN) (congrArg Prod.fst s_0) (by decide) (fun _ => rfl) (Nat.le_of_ble_eq_true rfl) rfl (fun r246 e246 => ?_)
      refine ag_aload_2 (q := 250) dL_law_249 rfl ?_
      refine ag_xload_0 (q := 251) dL_law_250 rfl ?_
      refine ag_iload_3 (q := 252) dL_law_251 rfl ?_
      refine ag_iconst (q := 253) (v := 1) dL_law_252 rfl (by decide) ?_
      refine ag_iadd (q := 254) dL_law_253 rfl ?_
      refine ag_sld hX (q := 255) dL_law_254 rfl ?_
      refine ag_xload_0 (q := 256) dL_law_255 rfl ?_
      refine ag_iload_3 (q := 257) dL_law_256 rfl ?_
      refine ag_iconst (q := 258) (v := 2) dL_law_257 rfl (by decide) ?_
      refine ag_iadd (q := 259) dL_law_258 rfl ?_
      refine ag_sld hX (q := 260) dL_law_259 rfl ?_
      refine ag_callV_mI (q := 263) (av := [.int _, .int _]) (rest := [.int _]) dL_law_260 rfl lkL_39 (C_X8_beast hN (xs (x3 + (1 : Int32)).toNatClampNeg) (xs (x3 + (2 : Int32)).toNatClampNeg) _) (by decide) (Nat.le_of_ble_eq_true rfl) (Nat.lt_of_lt_of_le (by decide : 141 < NT) hN) (congrArg Prod.fst s_141) (by decide) (fun _ => rfl) (Nat.le_of_ble_eq_true rfl) rfl (fun r260 s260 e260 => ?_)
      refine ag_icmp_eq (tgt := 769) (q := 266) dL_law_263 rfl rfl ?_ ?_
      · refine ag_iinc_3 (q := 772) (d := (5)) dL_law_769 rfl (Nat.le_of_ble_eq_true rfl) rfl (by decide) ?_
        refine ag_goto (q := 18) dL_law_772 rfl ?_
        exact ih (x3 + (5)) s260
      refine ag_iconst (q := 267) (v := 0) dL_law_266 rfl (by decide) ?_
      exact ag_zretK dL_law_267 rfl (by decide) rfl
    refine ag_ite (fun z6 => ?_) (fun z6 => ?_)
    · refine ag_tin (k := 6) (q := 268) dL_law_32 z6 (by decide) (by decide) rfl rfl ?_
      refine ag_aload_1 (q := 269) dL_law_268 rfl ?_
      refine ag_xload_0 (q := 270) dL_law_269 rfl ?_
      refine ag_iload_3 (q := 271) dL_law_270 rfl ?_
      refine ag_iconst (q := 272) (v := 1) dL_law_271 rfl (by decide) ?_
      refine ag_iadd (q := 273) dL_law_272 rfl ?_
      refine ag_sld hX (q := 274) dL_law_273 rfl ?_
      refine ag_xload_0 (q := 275) dL_law_274 rfl ?_
      refine ag_iload_3 (q := 276) dL_law_275 rfl ?_
      refine ag_iconst (q := 277) (v := 2) dL_law_276 rfl (by decide) ?_
      refine ag_iadd (q := 278) dL_law_277 rfl ?_
      refine ag_sld hX (q := 279) dL_law_278 rfl ?_
      refine ag_callV_pI (q := 282) (av := [.int _, .int _]) (rest := []) dL_law_279 rfl lkL_40 (C_X7_goes (Nat.le_trans (by decide) hN) (xs (x3 + (1 : Int32)).toNatClampNeg) (xs (x3 + (2 : Int32)).toNatClampNeg) _) (by decide) (Nat.le_of_ble_eq_true rfl) (Nat.lt_of_lt_of_le (by decide : 0 < NT) hN) (congrArg Prod.fst s_0) (by decide) (fun _ => rfl) (Nat.le_of_ble_eq_true rfl) rfl (fun r279 e279 => ?_)
      refine ag_aload_2 (q := 283) dL_law_282 rfl ?_
      refine ag_xload_0 (q := 284) dL_law_283 rfl ?_
      refine ag_iload_3 (q := 285) dL_law_284 rfl ?_
      refine ag_iconst (q := 286) (v := 1) dL_law_285 rfl (by decide) ?_
      refine ag_iadd (q := 287) dL_law_286 rfl ?_
      refine ag_sld hX (q := 288) dL_law_287 rfl ?_
      refine ag_xload_0 (q := 289) dL_law_288 rfl ?_
      refine ag_iload_3 (q := 290) dL_law_289 rfl ?_
      refine ag_iconst (q := 291) (v := 2) dL_law_290 rfl (by decide) ?_
      refine ag_iadd (q := 292) dL_law_291 rfl ?_
      refine ag_sld hX (q := 293) dL_law_292 rfl ?_
      refine ag_callV_mI (q := 296) (av := [.int _, .int _]) (rest := [.int _]) dL_law_293 rfl lkL_43 (C_X8_goes hN (xs (x3 + (1 : Int32)).toNatClampNeg) (xs (x3 + (2 : Int32)).toNatClampNeg) _) (by decide) (Nat.le_of_ble_eq_true rfl) (Nat.lt_of_lt_of_le (by decide : 141 < NT) hN) (congrArg Prod.fst s_141) (by decide) (fun _ => rfl) (Nat.le_of_ble_eq_true rfl) rfl (fun r293 s293 e293 => ?_)
      refine ag_icmp_eq (tgt := 769) (q := 299) dL_law_296 rfl rfl ?_ ?_
      · refine ag_iinc_3 (q := 772) (d := (5)) dL_law_769 rfl (Nat.le_of_ble_eq_true rfl) rfl (by decide) ?_
        refine ag_goto (q := 18) dL_law_772 rfl ?_
        exact ih (x3 + (5)) s293
      refine ag_iconst (q := 300) (v := 0) dL_law_299 rfl (by decide) ?_
      exact ag_zretK dL_law_300 rfl (by decide) rfl
    refine ag_ite (fun z7 => ?_) (fun z7 => ?_)
    · refine ag_tin (k := 7) (q := 301) dL_law_32 z7 (by decide) (by decide) rfl rfl ?_
      refine ag_aload_1 (q := 302) dL_law_301 rfl ?_
      refine ag_xload_0 (q := 303) dL_law_302 rfl ?_
      refine ag_iload_3 (q := 304) dL_law_303 rfl ?_
      refine ag_iconst (q := 305) (v := 1) dL_law_304 rfl (by decide) ?_
      refine ag_iadd (q := 306) dL_law_305 rfl ?_
      refine ag_sld hX (q := 307) dL_law_306 rfl ?_
      refine ag_xload_0 (q := 308) dL_law_307 rfl ?_
      refine ag_iload_3 (q := 309) dL_law_308 rfl ?_
      refine ag_iconst (q := 310) (v := 2) dL_law_309 rfl (by decide) ?_
      refine ag_iadd (q := 311) dL_law_310 rfl ?_
      refine ag_sld hX (q := 312) dL_law_311 rfl ?_
      refine ag_callV_pI (q := 315) (av := [.int _, .int _]) (rest := []) dL_law_312 rfl lkL_44 (C_X7_takes (Nat.le_trans (by decide) hN) (xs (x3 + (1 : Int32)).toNatClampNeg) (xs (x3 + (2 : Int32)).toNatClampNeg) _) (by decide) (Nat.le_of_ble_eq_true rfl) (Nat.lt_of_lt_of_le (by decide : 0 < NT) hN) (congrArg Prod.fst s_0) (by decide) (fun _ => rfl) (Nat.le_of_ble_eq_true rfl) rfl (fun r312 e312 => ?_)
      refine ag_aload_2 (q := 316) dL_law_315 rfl ?_
      refine ag_xload_0 (q := 317) dL_law_316 rfl ?_
      refine ag_iload_3 (q := 318) dL_law_317 rfl ?_
      refine ag_iconst (q := 319) (v := 1) dL_law_318 rfl (by decide) ?_
      refine ag_iadd (q := 320) dL_law_319 rfl ?_
      refine ag_sld hX (q := 321) dL_law_320 rfl ?_
      refine ag_xload_0 (q := 322) dL_law_321 rfl ?_
      refine ag_iload_3 (q := 323) dL_law_322 rfl ?_
      refine ag_iconst (q := 324) (v := 2) dL_law_323 rfl (by decide) ?_
      refine ag_iadd (q := 325) dL_law_324 rfl ?_
      refine ag_sld hX (q := 326) dL_law_325 rfl ?_
      refine ag_callV_mI (q := 329) (av := [.int _, .int _]) (rest := [.int _]) dL_law_326 rfl lkL_47 (C_X8_takes hN (xs (x3 + (1 : Int32)).toNatClampNeg) (xs (x3 + (2 : Int32)).toNatClampNeg) _) (by decide) (Nat.le_of_ble_eq_true rfl) (Nat.lt_of_lt_of_le (by decide : 141 < NT) hN) (congrArg Prod.fst s_141) (by decide) (fun _ => rfl) (Nat.le_of_ble_eq_true rfl) rfl (fun r326 s326 e326 => ?_)
      refine ag_icmp_eq (tgt := 769) (q := 332) dL_law_329 rfl rfl ?_ ?_
      · refine ag_iinc_3 (q := 772) (d := (5)) dL_law_769 rfl (Nat.le_of_ble_eq_true rfl) rfl (by decide) ?_
        refine ag_goto (q := 18) dL_law_772 rfl ?_
        exact ih (x3 + (5)) s326
      refine ag_iconst (q := 333) (v := 0) dL_law_332 rfl (by decide) ?_
      exact ag_zretK dL_law_333 rfl (by decide) rfl
    refine ag_ite (fun z8 => ?_) (fun z8 => ?_)
    · refine ag_tin (k := 8) (q := 334) dL_law_32 z8 (by decide) (by decide) rfl rfl ?_
      refine ag_aload_1 (q := 335) dL_law_334 rfl ?_
      refine ag_xload_0 (q := 336) dL_law_335 rfl ?_
      refine ag_iload_3 (q := 337) dL_law_336 rfl ?_
      refine ag_iconst (q := 338) (v := 1) dL_law_337 rfl (by decide) ?_
      refine ag_iadd (q := 339) dL_law_338 rfl ?_
      refine ag_sld hX (q := 340) dL_law_339 rfl ?_
      refine ag_xload_0 (q := 341) dL_law_340 rfl ?_
      refine ag_iload_3 (q := 342) dL_law_341 rfl ?_
      refine ag_iconst (q := 343) (v := 2) dL_law_342 rfl (by decide) ?_
      refine ag_iadd (q := 344) dL_law_343 rfl ?_
      refine ag_sld hX (q := 345) dL_law_344 rfl ?_
      refine ag_callV_mI (q := 348) (av := [.int _, .int _]) (rest := []) dL_law_345 rfl lkL_48 (C_X7_drive (Nat.le_trans (by decide) hN) (xs (x3 + (1 : Int32)).toNatClampNeg) (xs (x3 + (2 : Int32)).toNatClampNeg) _) (by decide) (Nat.le_of_ble_eq_true rfl) (Nat.lt_of_lt_of_le (by decide : 0 < NT) hN) (congrArg Prod.fst s_0) (by decide) (fun _ => rfl) (Nat.le_of_ble_eq_true rfl) rfl (fun r345 s345 e345 => ?_)
      refine ag_aload_2 (q := 349) dL_law_348 rfl ?_
      refine ag_xload_0 (q := 350) dL_law_349 rfl ?_
      refine ag_iload_3 (q := 351) dL_law_350 rfl ?_
      refine ag_iconst (q := 352) (v := 1) dL_law_351 rfl (by decide) ?_
      refine ag_iadd (q := 353) dL_law_352 rfl ?_
      refine ag_sld hX (q := 354) dL_law_353 rfl ?_
      refine ag_xload_0 (q := 355) dL_law_354 rfl ?_
      refine ag_iload_3 (q := 356) dL_law_355 rfl ?_
      refine ag_iconst (q := 357) (v := 2) dL_law_356 rfl (by decide) ?_
      refine ag_iadd (q := 358) dL_law_357 rfl ?_
      refine ag_sld hX (q := 359) dL_law_358 rfl ?_
      refine ag_callV_mI (q := 362) (av := [.int _, .int _]) (rest := [.int _]) dL_law_359 rfl lkL_51 (C_X8_drive hN (xs (x3 + (1 : Int32)).toNatClampNeg) (xs (x3 + (2 : Int32)).toNatClampNeg) _) (by decide) (Nat.le_of_ble_eq_true rfl) (Nat.lt_of_lt_of_le (by decide : 141 < NT) hN) (congrArg Prod.fst s_141) (by decide) (fun _ => rfl) (Nat.le_of_ble_eq_true rfl) rfl (fun r359 s359 e359 => ?_)
      refine ag_icmp_eq (tgt := 769) (q := 365) dL_law_362 rfl rfl ?_ ?_
      · refine ag_iinc_3 (q := 772) (d := (5)) dL_law_769 rfl (Nat.le_of_ble_eq_true rfl) rfl (by decide) ?_
        refine ag_goto (q := 18) dL_law_772 rfl ?_
        exact ih (x3 + (5)) s359
      refine ag_iconst (q := 366) (v := 0) dL_law_365 rfl (by decide) ?_
      exact ag_zretK dL_law_366 rfl (by decide) rfl
    refine ag_ite (fun z9 => ?_) (fun z9 => ?_)
    · refine ag_tin (k := 9) (q := 367) dL_law_32 z9 (by decide) (by decide) rfl rfl ?_
      refine ag_aload_1 (q := 368) dL_law_367 rfl ?_
      refine ag_callV_mI (q := 371) (av := []) (rest := []) dL_law_368 rfl lkL_52 (C_X7_rest (Nat.le_trans (by decide) hN)  _) (by decide) (Nat.le_of_ble_eq_true rfl) (Nat.lt_of_lt_of_le (by decide : 0 < NT) hN) (congrArg Prod.fst s_0) (by decide) (fun _ => rfl) (Nat.le_of_ble_eq_true rfl) rfl (fun r368 s368 e368 => ?_)
      refine ag_aload_2 (q := 372) dL_law_371 rfl ?_
      refine ag_callV_mI (q := 375) (av := []) (rest := [.int _]) dL_law_372 rfl lkL_55 (C_X8_rest hN  _) (by decide) (Nat.le_of_ble_eq_true rfl) (Nat.lt_of_lt_of_le (by decide : 141 < NT) hN) (congrArg Prod.fst s_141) (by decide) (fun _ => rfl) (Nat.le_of_ble_eq_true rfl) rfl (fun r372 s372 e372 => ?_)
      refine ag_icmp_eq (tgt := 769) (q := 378) dL_law_375 rfl rfl ?_ ?_
      · refine ag_iinc_3 (q := 772) (d := (5)) dL_law_769 rfl (Nat.le_of_ble_eq_true rfl) rfl (by decide) ?_
        refine ag_goto (q := 18) dL_law_772 rfl ?_
        exact ih (x3 + (5)) s372
      refine ag_iconst (q := 379) (v := 0) dL_law_378 rfl (by decide) ?_
      exact ag_zretK dL_law_379 rfl (by decide) rfl
    refine ag_ite (fun z10 => ?_) (fun z10 => ?_)
    · refine ag_tin (k := 10) (q := 380) dL_law_32 z10 (by decide) (by decide) rfl rfl ?_
      refine ag_aload_1 (q := 381) dL_law_380 rfl ?_
      refine ag_callV_mI (q := 384) (av := []) (rest := []) dL_law_381 rfl lkL_56 (C_X7_undo (Nat.le_trans (by decide) hN)  _) (by decide) (Nat.le_of_ble_eq_true rfl) (Nat.lt_of_lt_of_le (by decide : 0 < NT) hN) (congrArg Prod.fst s_0) (by decide) (fun _ => rfl) (Nat.le_of_ble_eq_true rfl) rfl (fun r381 s381 e381 => ?_)
      refine ag_aload_2 (q := 385) dL_law_384 rfl ?_
      refine ag_callV_mI (q := 388) (av := []) (rest := [.int _]) dL_law_385 rfl lkL_59 (C_X8_undo hN  _) (by decide) (Nat.le_of_ble_eq_true rfl) (Nat.lt_of_lt_of_le (by decide : 141 < NT) hN) (congrArg Prod.fst s_141) (by decide) (fun _ => rfl) (Nat.le_of_ble_eq_true rfl) rfl (fun r385 s385 e385 => ?_)
      refine ag_icmp_eq (tgt := 769) (q := 391) dL_law_388 rfl rfl ?_ ?_
      · refine ag_iinc_3 (q := 772) (d := (5)) dL_law_769 rfl (Nat.le_of_ble_eq_true rfl) rfl (by decide) ?_
        refine ag_goto (q := 18) dL_law_772 rfl ?_
        exact ih (x3 + (5)) s385
      refine ag_iconst (q := 392) (v := 0) dL_law_391 rfl (by decide) ?_
      exact ag_zretK dL_law_392 rfl (by decide) rfl
    refine ag_ite (fun z11 => ?_) (fun z11 => ?_)
    · refine ag_tin (k := 11) (q := 393) dL_law_32 z11 (by decide) (by decide) rfl rfl ?_
      refine ag_aload_1 (q := 394) dL_law_393 rfl ?_
      refine ag_xload_0 (q := 395) dL_law_394 rfl ?_
      refine ag_iload_3 (q := 396) dL_law_395 rfl ?_
      refine ag_iconst (q := 397) (v := 1) dL_law_396 rfl (by decide) ?_
      refine ag_iadd (q := 398) dL_law_397 rfl ?_
      refine ag_sld hX (q := 399) dL_law_398 rfl ?_
      refine ag_xload_0 (q := 400) dL_law_399 rfl ?_
      refine ag_iload_3 (q := 401) dL_law_400 rfl ?_
      refine ag_iconst (q := 402) (v := 2) dL_law_401 rfl (by decide) ?_
      refine ag_iadd (q := 403) dL_law_402 rfl ?_
      refine ag_sld hX (q := 404) dL_law_403 rfl ?_
      refine ag_xload_0 (q := 405) dL_law_404 rfl ?_
      refine ag_iload_3 (q := 406) dL_law_405 rfl ?_
      refine ag_iconst (q := 407) (v := 3) dL_law_406 rfl (by decide) ?_
      refine ag_iadd (q := 408) dL_law_407 rfl ?_
      refine ag_sld hX (q := 409) dL_law_408 rfl ?_
      refine ag_callV_mI (q := 412) (av := [.int _, .int _, .int _]) (rest := []) dL_law_409 rfl lkL_60 (C_X7_fewest (Nat.le_trans (by decide) hN) (xs (x3 + (1 : Int32)).toNatClampNeg) (xs (x3 + (2 : Int32)).toNatClampNeg) (xs (x3 + (3 : Int32)).toNatClampNeg) _) (by decide) (Nat.le_of_ble_eq_true rfl) (Nat.lt_of_lt_of_le (by decide : 0 < NT) hN) (congrArg Prod.fst s_0) (by decide) (fun _ => rfl) (Nat.le_of_ble_eq_true rfl) rfl (fun r409 s409 e409 => ?_)
      refine ag_aload_2 (q := 413) dL_law_412 rfl ?_
      refine ag_xload_0 (q := 414) dL_law_413 rfl ?_
      refine ag_iload_3 (q := 415) dL_law_414 rfl ?_
      refine ag_iconst (q := 416) (v := 1) dL_law_415 rfl (by decide) ?_
      refine ag_iadd (q := 417) dL_law_416 rfl ?_
      refine ag_sld hX (q := 418) dL_law_417 rfl ?_
      refine ag_xload_0 (q := 419) dL_law_418 rfl ?_
      refine ag_iload_3 (q := 420) dL_law_419 rfl ?_
      refine ag_iconst (q := 421) (v := 2) dL_law_420 rfl (by decide) ?_
      refine ag_iadd (q := 422) dL_law_421 rfl ?_
      refine ag_sld hX (q := 423) dL_law_422 rfl ?_
      refine ag_xload_0 (q := 424) dL_law_423 rfl ?_
      refine ag_iload_3 (q := 425) dL_law_424 rfl ?_
      refine ag_iconst (q := 426) (v := 3) dL_law_425 rfl (by decide) ?_
      refine ag_iadd (q := 427) dL_law_426 rfl ?_
      refine ag_sld hX (q := 428) dL_law_427 rfl ?_
      refine ag_callV_mI (q := 431) (av := [.int _, .int _, .int _]) (rest := [.int _]) dL_law_428 rfl lkL_64 (C_X8_fewest hN (xs (x3 + (1 : Int32)).toNatClampNeg) (xs (x3 + (2 : Int32)).toNatClampNeg) (xs (x3 + (3 : Int32)).toNatClampNeg) _) (by decide) (Nat.le_of_ble_eq_true rfl) (Nat.lt_of_lt_of_le (by decide : 141 < NT) hN) (congrArg Prod.fst s_141) (by decide) (fun _ => rfl) (Nat.le_of_ble_eq_true rfl) rfl (fun r428 s428 e428 => ?_)
      refine ag_icmp_eq (tgt := 769) (q := 434) dL_law_431 rfl rfl ?_ ?_
      · refine ag_iinc_3 (q := 772) (d := (5)) dL_law_769 rfl (Nat.le_of_ble_eq_true rfl) rfl (by decide) ?_
        refine ag_goto (q := 18) dL_law_772 rfl ?_
        exact ih (x3 + (5)) s428
      refine ag_iconst (q := 435) (v := 0) dL_law_434 rfl (by decide) ?_
      exact ag_zretK dL_law_435 rfl (by decide) rfl
    refine ag_ite (fun z12 => ?_) (fun z12 => ?_)
    · refine ag_tin (k := 12) (q := 436) dL_law_32 z12 (by decide) (by decide) rfl rfl ?_
      refine ag_aload_1 (q := 437) dL_law_436 rfl ?_
      refine ag_xload_0 (q := 438) dL_law_437 rfl ?_
      refine ag_iload_3 (q := 439) dL_law_438 rfl ?_
      refine ag_iconst (q := 440) (v := 1) dL_law_439 rfl (by decide) ?_
      refine ag_iadd (q := 441) dL_law_440 rfl ?_
      refine ag_sld hX (q := 442) dL_law_441 rfl ?_
      refine ag_xload_0 (q := 443) dL_law_442 rfl ?_
      refine ag_iload_3 (q := 444) dL_law_443 rfl ?_
      refine ag_iconst (q := 445) (v := 2) dL_law_444 rfl (by decide) ?_
      refine ag_iadd (q := 446) dL_law_445 rfl ?_
      refine ag_sld hX (q := 447) dL_law_446 rfl ?_
      refine ag_callV_mI (q := 450) (av := [.int _, .int _]) (rest := []) dL_law_447 rfl lkL_65 (C_X7_stray (Nat.le_trans (by decide) hN) (xs (x3 + (1 : Int32)).toNatClampNeg) (xs (x3 + (2 : Int32)).toNatClampNeg) _) (by decide) (Nat.le_of_ble_eq_true rfl) (Nat.lt_of_lt_of_le (by decide : 0 < NT) hN) (congrArg Prod.fst s_0) (by decide) (fun _ => rfl) (Nat.le_of_ble_eq_true rfl) rfl (fun r447 s447 e447 => ?_)
      refine ag_aload_2 (q := 451) dL_law_450 rfl ?_
      refine ag_xload_0 (q := 452) dL_law_451 rfl ?_
      refine ag_iload_3 (q := 453) dL_law_452 rfl ?_
      refine ag_iconst (q := 454) (v := 1) dL_law_453 rfl (by decide) ?_
      refine ag_iadd (q := 455) dL_law_454 rfl ?_
      refine ag_sld hX (q := 456) dL_law_455 rfl ?_
      refine ag_xload_0 (q := 457) dL_law_456 rfl ?_
      refine ag_iload_3 (q := 458) dL_law_457 rfl ?_
      refine ag_iconst (q := 459) (v := 2) dL_law_458 rfl (by decide) ?_
      refine ag_iadd (q := 460) dL_law_459 rfl ?_
      refine ag_sld hX (q := 461) dL_law_460 rfl ?_
      refine ag_callV_mI (q := 464) (av := [.int _, .int _]) (rest := [.int _]) dL_law_461 rfl lkL_68 (C_X8_stray hN (xs (x3 + (1 : Int32)).toNatClampNeg) (xs (x3 + (2 : Int32)).toNatClampNeg) _) (by decide) (Nat.le_of_ble_eq_true rfl) (Nat.lt_of_lt_of_le (by decide : 141 < NT) hN) (congrArg Prod.fst s_141) (by decide) (fun _ => rfl) (Nat.le_of_ble_eq_true rfl) rfl (fun r461 s461 e461 => ?_)
      refine ag_icmp_eq (tgt := 769) (q := 467) dL_law_464 rfl rfl ?_ ?_
      · refine ag_iinc_3 (q := 772) (d := (5)) dL_law_769 rfl (Nat.le_of_ble_eq_true rfl) rfl (by decide) ?_
        refine ag_goto (q := 18) dL_law_772 rfl ?_
        exact ih (x3 + (5)) s461
      refine ag_iconst (q := 468) (v := 0) dL_law_467 rfl (by decide) ?_
      exact ag_zretK dL_law_468 rfl (by decide) rfl
    refine ag_ite (fun z13 => ?_) (fun z13 => ?_)
    · refine ag_tin (k := 13) (q := 469) dL_law_32 z13 (by decide) (by decide) rfl rfl ?_
      refine ag_aload_1 (q := 470) dL_law_469 rfl ?_
      refine ag_xload_0 (q := 471) dL_law_470 rfl ?_
      refine ag_iload_3 (q := 472) dL_law_471 rfl ?_
      refine ag_iconst (q := 473) (v := 1) dL_law_472 rfl (by decide) ?_
      refine ag_iadd (q := 474) dL_law_473 rfl ?_
      refine ag_sld hX (q := 475) dL_law_474 rfl ?_
      refine ag_xload_0 (q := 476) dL_law_475 rfl ?_
      refine ag_iload_3 (q := 477) dL_law_476 rfl ?_
      refine ag_iconst (q := 478) (v := 2) dL_law_477 rfl (by decide) ?_
      refine ag_iadd (q := 479) dL_law_478 rfl ?_
      refine ag_sld hX (q := 480) dL_law_479 rfl ?_
      refine ag_callV_mI (q := 483) (av := [.int _, .int _]) (rest := []) dL_law_480 rfl lkL_69 (C_X7_summer (Nat.le_trans (by decide) hN) (xs (x3 + (1 : Int32)).toNatClampNeg) (xs (x3 + (2 : Int32)).toNatClampNeg) _) (by decide) (Nat.le_of_ble_eq_true rfl) (Nat.lt_of_lt_of_le (by decide : 0 < NT) hN) (congrArg Prod.fst s_0) (by decide) (fun _ => rfl) (Nat.le_of_ble_eq_true rfl) rfl (fun r480 s480 e480 => ?_)
      refine ag_aload_2 (q := 484) dL_law_483 rfl ?_
      refine ag_xload_0 (q := 485) dL_law_484 rfl ?_
      refine ag_iload_3 (q := 486) dL_law_485 rfl ?_
      refine ag_iconst (q := 487) (v := 1) dL_law_486 rfl (by decide) ?_
      refine ag_iadd (q := 488) dL_law_487 rfl ?_
      refine ag_sld hX (q := 489) dL_law_488 rfl ?_
      refine ag_xload_0 (q := 490) dL_law_489 rfl ?_
      refine ag_iload_3 (q := 491) dL_law_490 rfl ?_
      refine ag_iconst (q := 492) (v := 2) dL_law_491 rfl (by decide) ?_
      refine ag_iadd (q := 493) dL_law_492 rfl ?_
      refine ag_sld hX (q := 494) dL_law_493 rfl ?_
      refine ag_callV_mI (q := 497) (av := [.int _, .int _]) (rest := [.int _]) dL_law_494 rfl lkL_72 (C_X8_summer hN (xs (x3 + (1 : Int32)).toNatClampNeg) (xs (x3 + (2 : Int32)).toNatClampNeg) _) (by decide) (Nat.le_of_ble_eq_true rfl) (Nat.lt_of_lt_of_le (by decide : 141 < NT) hN) (congrArg Prod.fst s_141) (by decide) (fun _ => rfl) (Nat.le_of_ble_eq_true rfl) rfl (fun r494 s494 e494 => ?_)
      refine ag_icmp_eq (tgt := 769) (q := 500) dL_law_497 rfl rfl ?_ ?_
      · refine ag_iinc_3 (q := 772) (d := (5)) dL_law_769 rfl (Nat.le_of_ble_eq_true rfl) rfl (by decide) ?_
        refine ag_goto (q := 18) dL_law_772 rfl ?_
        exact ih (x3 + (5)) s494
      refine ag_iconst (q := 501) (v := 0) dL_law_500 rfl (by decide) ?_
      exact ag_zretK dL_law_501 rfl (by decide) rfl
    refine ag_ite (fun z14 => ?_) (fun z14 => ?_)
    · refine ag_tin (k := 14) (q := 502) dL_law_32 z14 (by decide) (by decide) rfl rfl ?_
      refine ag_aload_1 (q := 503) dL_law_502 rfl ?_
      refine ag_xload_0 (q := 504) dL_law_503 rfl ?_
      refine ag_iload_3 (q := 505) dL_law_504 rfl ?_
      refine ag_iconst (q := 506) (v := 1) dL_law_505 rfl (by decide) ?_
      refine ag_iadd (q := 507) dL_law_506 rfl ?_
      refine ag_sld hX (q := 508) dL_law_507 rfl ?_
      refine ag_xload_0 (q := 509) dL_law_508 rfl ?_
      refine ag_iload_3 (q := 510) dL_law_509 rfl ?_
      refine ag_iconst (q := 511) (v := 2) dL_law_510 rfl (by decide) ?_
      refine ag_iadd (q := 512) dL_law_511 rfl ?_
      refine ag_sld hX (q := 513) dL_law_512 rfl ?_
      refine ag_callV_mI (q := 516) (av := [.int _, .int _]) (rest := []) dL_law_513 rfl lkL_73 (C_X7_game (Nat.le_trans (by decide) hN) (xs (x3 + (1 : Int32)).toNatClampNeg) (xs (x3 + (2 : Int32)).toNatClampNeg) _) (by decide) (Nat.le_of_ble_eq_true rfl) (Nat.lt_of_lt_of_le (by decide : 0 < NT) hN) (congrArg Prod.fst s_0) (by decide) (fun _ => rfl) (Nat.le_of_ble_eq_true rfl) rfl (fun r513 s513 e513 => ?_)
      refine ag_aload_2 (q := 517) dL_law_516 rfl ?_
      refine ag_xload_0 (q := 518) dL_law_517 rfl ?_
      refine ag_iload_3 (q := 519) dL_law_518 rfl ?_
      refine ag_iconst (q := 520) (v := 1) dL_law_519 rfl (by decide) ?_
      refine ag_iadd (q := 521) dL_law_520 rfl ?_
      refine ag_sld hX (q := 522) dL_law_521 rfl ?_
      refine ag_xload_0 (q := 523) dL_law_522 rfl ?_
      refine ag_iload_3 (q := 524) dL_law_523 rfl ?_
      refine ag_iconst (q := 525) (v := 2) dL_law_524 rfl (by decide) ?_
      refine ag_iadd (q := 526) dL_law_525 rfl ?_
      refine ag_sld hX (q := 527) dL_law_526 rfl ?_
      refine ag_callV_mI (q := 530) (av := [.int _, .int _]) (rest := [.int _]) dL_law_527 rfl lkL_76 (C_X8_game hN (xs (x3 + (1 : Int32)).toNatClampNeg) (xs (x3 + (2 : Int32)).toNatClampNeg) _) (by decide) (Nat.le_of_ble_eq_true rfl) (Nat.lt_of_lt_of_le (by decide : 141 < NT) hN) (congrArg Prod.fst s_141) (by decide) (fun _ => rfl) (Nat.le_of_ble_eq_true rfl) rfl (fun r527 s527 e527 => ?_)
      refine ag_icmp_eq (tgt := 769) (q := 533) dL_law_530 rfl rfl ?_ ?_
      · refine ag_iinc_3 (q := 772) (d := (5)) dL_law_769 rfl (Nat.le_of_ble_eq_true rfl) rfl (by decide) ?_
        refine ag_goto (q := 18) dL_law_772 rfl ?_
        exact ih (x3 + (5)) s527
      refine ag_iconst (q := 534) (v := 0) dL_law_533 rfl (by decide) ?_
      exact ag_zretK dL_law_534 rfl (by decide) rfl
    refine ag_ite (fun z15 => ?_) (fun z15 => ?_)
    · refine ag_tin (k := 15) (q := 535) dL_law_32 z15 (by decide) (by decide) rfl rfl ?_
      refine ag_aload_1 (q := 536) dL_law_535 rfl ?_
      refine ag_xload_0 (q := 537) dL_law_536 rfl ?_
      refine ag_iload_3 (q := 538) dL_law_537 rfl ?_
      refine ag_iconst (q := 539) (v := 1) dL_law_538 rfl (by decide) ?_
      refine ag_iadd (q := 540) dL_law_539 rfl ?_
      refine ag_sld hX (q := 541) dL_law_540 rfl ?_
      refine ag_callV_mI (q := 544) (av := [.int _]) (rest := []) dL_law_541 rfl lkL_77 (C_X7_again (Nat.le_trans (by decide) hN) (xs (x3 + (1 : Int32)).toNatClampNeg) _) (by decide) (Nat.le_of_ble_eq_true rfl) (Nat.lt_of_lt_of_le (by decide : 0 < NT) hN) (congrArg Prod.fst s_0) (by decide) (fun _ => rfl) (Nat.le_of_ble_eq_true rfl) rfl (fun r541 s541 e541 => ?_)
      refine ag_aload_2 (q := 545) dL_law_544 rfl ?_
      refine ag_xload_0 (q := 546) dL_law_545 rfl ?_
      refine ag_iload_3 (q := 547) dL_law_546 rfl ?_
      refine ag_iconst (q := 548) (v := 1) dL_law_547 rfl (by decide) ?_
      refine ag_iadd (q := 549) dL_law_548 rfl ?_
      refine ag_sld hX (q := 550) dL_law_549 rfl ?_
      refine ag_callV_mI (q := 553) (av := [.int _]) (rest := [.int _]) dL_law_550 rfl lkL_80 (C_X8_again hN (xs (x3 + (1 : Int32)).toNatClampNeg) _) (by decide) (Nat.le_of_ble_eq_true rfl) (Nat.lt_of_lt_of_le (by decide : 141 < NT) hN) (congrArg Prod.fst s_141) (by decide) (fun _ => rfl) (Nat.le_of_ble_eq_true rfl) rfl (fun r550 s550 e550 => ?_)
      refine ag_icmp_eq (tgt := 769) (q := 556) dL_law_553 rfl rfl ?_ ?_
      · refine ag_iinc_3 (q := 772) (d := (5)) dL_law_769 rfl (Nat.le_of_ble_eq_true rfl) rfl (by decide) ?_
        refine ag_goto (q := 18) dL_law_772 rfl ?_
        exact ih (x3 + (5)) s550
      refine ag_iconst (q := 557) (v := 0) dL_law_556 rfl (by decide) ?_
      exact ag_zretK dL_law_557 rfl (by decide) rfl
    refine ag_ite (fun z16 => ?_) (fun z16 => ?_)
    · refine ag_tin (k := 16) (q := 558) dL_law_32 z16 (by decide) (by decide) rfl rfl ?_
      refine ag_aload_1 (q := 559) dL_law_558 rfl ?_
      refine ag_xload_0 (q := 560) dL_law_559 rfl ?_
      refine ag_iload_3 (q := 561) dL_law_560 rfl ?_
      refine ag_iconst (q := 562) (v := 1) dL_law_561 rfl (by decide) ?_
      refine ag_iadd (q := 563) dL_law_562 rfl ?_
      refine ag_sld hX (q := 564) dL_law_563 rfl ?_
      refine ag_callV_mI (q := 567) (av := [.int _]) (rest := []) dL_law_564 rfl lkL_81 (C_X7_starves (Nat.le_trans (by decide) hN) (xs (x3 + (1 : Int32)).toNatClampNeg) _) (by decide) (Nat.le_of_ble_eq_true rfl) (Nat.lt_of_lt_of_le (by decide : 0 < NT) hN) (congrArg Prod.fst s_0) (by decide) (fun _ => rfl) (Nat.le_of_ble_eq_true rfl) rfl (fun r564 s564 e564 => ?_)
      refine ag_aload_2 (q := 568) dL_law_567 rfl ?_
      refine ag_xload_0 (q := 569) dL_law_568 rfl ?_
      refine ag_iload_3 (q := 570) dL_law_569 rfl ?_
      refine ag_iconst (q := 571) (v := 1) dL_law_570 rfl (by decide) ?_
      refine ag_iadd (q := 572) dL_law_571 rfl ?_
      refine ag_sld hX (q := 573) dL_law_572 rfl ?_
      refine ag_callV_mI (q := 576) (av := [.int _]) (rest := [.int _]) dL_law_573 rfl lkL_84 (C_X8_starves hN (xs (x3 + (1 : Int32)).toNatClampNeg) _) (by decide) (Nat.le_of_ble_eq_true rfl) (Nat.lt_of_lt_of_le (by decide : 141 < NT) hN) (congrArg Prod.fst s_141) (by decide) (fun _ => rfl) (Nat.le_of_ble_eq_true rfl) rfl (fun r573 s573 e573 => ?_)
      refine ag_icmp_eq (tgt := 769) (q := 579) dL_law_576 rfl rfl ?_ ?_
      · refine ag_iinc_3 (q := 772) (d := (5)) dL_law_769 rfl (Nat.le_of_ble_eq_true rfl) rfl (by decide) ?_
        refine ag_goto (q := 18) dL_law_772 rfl ?_
        exact ih (x3 + (5)) s573
      refine ag_iconst (q := 580) (v := 0) dL_law_579 rfl (by decide) ?_
      exact ag_zretK dL_law_580 rfl (by decide) rfl
    refine ag_ite (fun z17 => ?_) (fun z17 => ?_)
    · refine ag_tin (k := 17) (q := 581) dL_law_32 z17 (by decide) (by decide) rfl rfl ?_
      refine ag_aload_1 (q := 582) dL_law_581 rfl ?_
      refine ag_xload_0 (q := 583) dL_law_582 rfl ?_
      refine ag_iload_3 (q := 584) dL_law_583 rfl ?_
      refine ag_iconst (q := 585) (v := 1) dL_law_584 rfl (by decide) ?_
      refine ag_iadd (q := 586) dL_law_585 rfl ?_
      refine ag_sld hX (q := 587) dL_law_586 rfl ?_
      refine ag_xload_0 (q := 588) dL_law_587 rfl ?_
      refine ag_iload_3 (q := 589) dL_law_588 rfl ?_
      refine ag_iconst (q := 590) (v := 2) dL_law_589 rfl (by decide) ?_
      refine ag_iadd (q := 591) dL_law_590 rfl ?_
      refine ag_sld hX (q := 592) dL_law_591 rfl ?_
      refine ag_xload_0 (q := 593) dL_law_592 rfl ?_
      refine ag_iload_3 (q := 594) dL_law_593 rfl ?_
      refine ag_iconst (q := 595) (v := 3) dL_law_594 rfl (by decide) ?_
      refine ag_iadd (q := 596) dL_law_595 rfl ?_
      refine ag_sld hX (q := 597) dL_law_596 rfl ?_
      refine ag_callV_mI (q := 600) (av := [.int _, .int _, .int _]) (rest := []) dL_law_597 rfl lkL_85 (C_X7_otherwise (Nat.le_trans (by decide) hN) (xs (x3 + (1 : Int32)).toNatClampNeg) (xs (x3 + (2 : Int32)).toNatClampNeg) (xs (x3 + (3 : Int32)).toNatClampNeg) _) (by decide) (Nat.le_of_ble_eq_true rfl) (Nat.lt_of_lt_of_le (by decide : 0 < NT) hN) (congrArg Prod.fst s_0) (by decide) (fun _ => rfl) (Nat.le_of_ble_eq_true rfl) rfl (fun r597 s597 e597 => ?_)
      refine ag_aload_2 (q := 601) dL_law_600 rfl ?_
      refine ag_xload_0 (q := 602) dL_law_601 rfl ?_
      refine ag_iload_3 (q := 603) dL_law_602 rfl ?_
      refine ag_iconst (q := 604) (v := 1) dL_law_603 rfl (by decide) ?_
      refine ag_iadd (q := 605) dL_law_604 rfl ?_
      refine ag_sld hX (q := 606) dL_law_605 rfl ?_
      refine ag_xload_0 (q := 607) dL_law_606 rfl ?_
      refine ag_iload_3 (q := 608) dL_law_607 rfl ?_
      refine ag_iconst (q := 609) (v := 2) dL_law_608 rfl (by decide) ?_
      refine ag_iadd (q := 610) dL_law_609 rfl ?_
      refine ag_sld hX (q := 611) dL_law_610 rfl ?_
      refine ag_xload_0 (q := 612) dL_law_611 rfl ?_
      refine ag_iload_3 (q := 613) dL_law_612 rfl ?_
      refine ag_iconst (q := 614) (v := 3) dL_law_613 rfl (by decide) ?_
      refine ag_iadd (q := 615) dL_law_614 rfl ?_
      refine ag_sld hX (q := 616) dL_law_615 rfl ?_
      refine ag_callV_mI (q := 619) (av := [.int _, .int _, .int _]) (rest := [.int _]) dL_law_616 rfl lkL_88 (C_X8_otherwise hN (xs (x3 + (1 : Int32)).toNatClampNeg) (xs (x3 + (2 : Int32)).toNatClampNeg) (xs (x3 + (3 : Int32)).toNatClampNeg) _) (by decide) (Nat.le_of_ble_eq_true rfl) (Nat.lt_of_lt_of_le (by decide : 141 < NT) hN) (congrArg Prod.fst s_141) (by decide) (fun _ => rfl) (Nat.le_of_ble_eq_true rfl) rfl (fun r616 s616 e616 => ?_)
      refine ag_icmp_eq (tgt := 769) (q := 622) dL_law_619 rfl rfl ?_ ?_
      · refine ag_iinc_3 (q := 772) (d := (5)) dL_law_769 rfl (Nat.le_of_ble_eq_true rfl) rfl (by decide) ?_
        refine ag_goto (q := 18) dL_law_772 rfl ?_
        exact ih (x3 + (5)) s616
      refine ag_iconst (q := 623) (v := 0) dL_law_622 rfl (by decide) ?_
      exact ag_zretK dL_law_623 rfl (by decide) rfl
    refine ag_ite (fun z18 => ?_) (fun z18 => ?_)
    · refine ag_tin (k := 18) (q := 624) dL_law_32 z18 (by decide) (by decide) rfl rfl ?_
      refine ag_aload_1 (q := 625) dL_law_624 rfl ?_
      refine ag_xload_0 (q := 626) dL_law_625 rfl ?_
      refine ag_iload_3 (q := 627) dL_law_626 rfl ?_
      refine ag_iconst (q := 628) (v := 1) dL_law_627 rfl (by decide) ?_
      refine ag_iadd (q := 629) dL_law_628 rfl ?_
      refine ag_sld hX (q := 630) dL_law_629 rfl ?_
      refine ag_xload_0 (q := 631) dL_law_630 rfl ?_
      refine ag_iload_3 (q := 632) dL_law_631 rfl ?_
      refine ag_iconst (q := 633) (v := 2) dL_law_632 rfl (by decide) ?_
      refine ag_iadd (q := 634) dL_law_633 rfl ?_
      refine ag_sld hX (q := 635) dL_law_634 rfl ?_
      refine ag_xload_0 (q := 636) dL_law_635 rfl ?_
      refine ag_iload_3 (q := 637) dL_law_636 rfl ?_
      refine ag_iconst (q := 638) (v := 3) dL_law_637 rfl (by decide) ?_
      refine ag_iadd (q := 639) dL_law_638 rfl ?_
      refine ag_sld hX (q := 640) dL_law_639 rfl ?_
      refine ag_xload_0 (q := 641) dL_law_640 rfl ?_
      refine ag_iload_3 (q := 642) dL_law_641 rfl ?_
      refine ag_iconst (q := 643) (v := 4) dL_law_642 rfl (by decide) ?_
      refine ag_iadd (q := 644) dL_law_643 rfl ?_
      refine ag_sld hX (q := 645) dL_law_644 rfl ?_
      refine ag_callV_mI (q := 648) (av := [.int _, .int _, .int _, .int _]) (rest := []) dL_law_645 rfl lkL_89 (C_X7_wolves (Nat.le_trans (by decide) hN) (xs (x3 + (1 : Int32)).toNatClampNeg) (xs (x3 + (2 : Int32)).toNatClampNeg) (xs (x3 + (3 : Int32)).toNatClampNeg) (xs (x3 + (4 : Int32)).toNatClampNeg) _) (by decide) (Nat.le_of_ble_eq_true rfl) (Nat.lt_of_lt_of_le (by decide : 0 < NT) hN) (congrArg Prod.fst s_0) (by decide) (fun _ => rfl) (Nat.le_of_ble_eq_true rfl) rfl (fun r645 s645 e645 => ?_)
      refine ag_aload_2 (q := 649) dL_law_648 rfl ?_
      refine ag_xload_0 (q := 650) dL_law_649 rfl ?_
      refine ag_iload_3 (q := 651) dL_law_650 rfl ?_
      refine ag_iconst (q := 652) (v := 1) dL_law_651 rfl (by decide) ?_
      refine ag_iadd (q := 653) dL_law_652 rfl ?_
      refine ag_sld hX (q := 654) dL_law_653 rfl ?_
      refine ag_xload_0 (q := 655) dL_law_654 rfl ?_
      refine ag_iload_3 (q := 656) dL_law_655 rfl ?_
      refine ag_iconst (q := 657) (v := 2) dL_law_656 rfl (by decide) ?_
      refine ag_iadd (q := 658) dL_law_657 rfl ?_
      refine ag_sld hX (q := 659) dL_law_658 rfl ?_
      refine ag_xload_0 (q := 660) dL_law_659 rfl ?_
      refine ag_iload_3 (q := 661) dL_law_660 rfl ?_
      refine ag_iconst (q := 662) (v := 3) dL_law_661 rfl (by decide) ?_
      refine ag_iadd (q := 663) dL_law_662 rfl ?_
      refine ag_sld hX (q := 664) dL_law_663 rfl ?_
      refine ag_xload_0 (q := 665) dL_law_664 rfl ?_
      refine ag_iload_3 (q := 666) dL_law_665 rfl ?_
      refine ag_iconst (q := 667) (v := 4) dL_law_666 rfl (by decide) ?_
      refine ag_iadd (q := 668) dL_law_667 rfl ?_
      refine ag_sld hX (q := 669) dL_law_668 rfl ?_
      refine ag_callV_mI (q := 672) (av := [.int _, .int _, .int _, .int _]) (rest := [.int _]) dL_law_669 rfl lkL_93 (C_X8_wolves hN (xs (x3 + (1 : Int32)).toNatClampNeg) (xs (x3 + (2 : Int32)).toNatClampNeg) (xs (x3 + (3 : Int32)).toNatClampNeg) (xs (x3 + (4 : Int32)).toNatClampNeg) _) (by decide) (Nat.le_of_ble_eq_true rfl) (Nat.lt_of_lt_of_le (by decide : 141 < NT) hN) (congrArg Prod.fst s_141) (by decide) (fun _ => rfl) (Nat.le_of_ble_eq_true rfl) rfl (fun r669 s669 e669 => ?_)
      refine ag_icmp_eq (tgt := 769) (q := 675) dL_law_672 rfl rfl ?_ ?_
      · refine ag_iinc_3 (q := 772) (d := (5)) dL_law_769 rfl (Nat.le_of_ble_eq_true rfl) rfl (by decide) ?_
        refine ag_goto (q := 18) dL_law_772 rfl ?_
        exact ih (x3 + (5)) s669
      refine ag_iconst (q := 676) (v := 0) dL_law_675 rfl (by decide) ?_
      exact ag_zretK dL_law_676 rfl (by decide) rfl
    refine ag_ite (fun z19 => ?_) (fun z19 => ?_)
    · refine ag_tin (k := 19) (q := 677) dL_law_32 z19 (by decide) (by decide) rfl rfl ?_
      refine ag_aload_1 (q := 678) dL_law_677 rfl ?_
      refine ag_xload_0 (q := 679) dL_law_678 rfl ?_
      refine ag_iload_3 (q := 680) dL_law_679 rfl ?_
      refine ag_iconst (q := 681) (v := 1) dL_law_680 rfl (by decide) ?_
      refine ag_iadd (q := 682) dL_law_681 rfl ?_
      refine ag_sld hX (q := 683) dL_law_682 rfl ?_
      refine ag_xload_0 (q := 684) dL_law_683 rfl ?_
      refine ag_iload_3 (q := 685) dL_law_684 rfl ?_
      refine ag_iconst (q := 686) (v := 2) dL_law_685 rfl (by decide) ?_
      refine ag_iadd (q := 687) dL_law_686 rfl ?_
      refine ag_sld hX (q := 688) dL_law_687 rfl ?_
      refine ag_xload_0 (q := 689) dL_law_688 rfl ?_
      refine ag_iload_3 (q := 690) dL_law_689 rfl ?_
      refine ag_iconst (q := 691) (v := 3) dL_law_690 rfl (by decide) ?_
      refine ag_iadd (q := 692) dL_law_691 rfl ?_
      refine ag_sld hX (q := 693) dL_law_692 rfl ?_
      refine ag_callV_mI (q := 696) (av := [.int _, .int _, .int _]) (rest := []) dL_law_693 rfl lkL_94 (C_X7_season (Nat.le_trans (by decide) hN) (xs (x3 + (1 : Int32)).toNatClampNeg) (xs (x3 + (2 : Int32)).toNatClampNeg) (xs (x3 + (3 : Int32)).toNatClampNeg) _) (by decide) (Nat.le_of_ble_eq_true rfl) (Nat.lt_of_lt_of_le (by decide : 0 < NT) hN) (congrArg Prod.fst s_0) (by decide) (fun _ => rfl) (Nat.le_of_ble_eq_true rfl) rfl (fun r693 s693 e693 => ?_)
      refine ag_aload_2 (q := 697) dL_law_696 rfl ?_
      refine ag_xload_0 (q := 698) dL_law_697 rfl ?_
      refine ag_iload_3 (q := 699) dL_law_698 rfl ?_
      refine ag_iconst (q := 700) (v := 1) dL_law_699 rfl (by decide) ?_
      refine ag_iadd (q := 701) dL_law_700 rfl ?_
      refine ag_sld hX (q := 702) dL_law_701 rfl ?_
      refine ag_xload_0 (q := 703) dL_law_702 rfl ?_
      refine ag_iload_3 (q := 704) dL_law_703 rfl ?_
      refine ag_iconst (q := 705) (v := 2) dL_law_704 rfl (by decide) ?_
      refine ag_iadd (q := 706) dL_law_705 rfl ?_
      refine ag_sld hX (q := 707) dL_law_706 rfl ?_
      refine ag_xload_0 (q := 708) dL_law_707 rfl ?_
      refine ag_iload_3 (q := 709) dL_law_708 rfl ?_
      refine ag_iconst (q := 710) (v := 3) dL_law_709 rfl (by decide) ?_
      refine ag_iadd (q := 711) dL_law_710 rfl ?_
      refine ag_sld hX (q := 712) dL_law_711 rfl ?_
      refine ag_callV_mI (q := 715) (av := [.int _, .int _, .int _]) (rest := [.int _]) dL_law_712 rfl lkL_97 (C_X8_season hN (xs (x3 + (1 : Int32)).toNatClampNeg) (xs (x3 + (2 : Int32)).toNatClampNeg) (xs (x3 + (3 : Int32)).toNatClampNeg) _) (by decide) (Nat.le_of_ble_eq_true rfl) (Nat.lt_of_lt_of_le (by decide : 141 < NT) hN) (congrArg Prod.fst s_141) (by decide) (fun _ => rfl) (Nat.le_of_ble_eq_true rfl) rfl (fun r712 s712 e712 => ?_)
      refine ag_icmp_eq (tgt := 769) (q := 718) dL_law_715 rfl rfl ?_ ?_
      · refine ag_iinc_3 (q := 772) (d := (5)) dL_law_769 rfl (Nat.le_of_ble_eq_true rfl) rfl (by decide) ?_
        refine ag_goto (q := 18) dL_law_772 rfl ?_
        exact ih (x3 + (5)) s712
      refine ag_iconst (q := 719) (v := 0) dL_law_718 rfl (by decide) ?_
      exact ag_zretK dL_law_719 rfl (by decide) rfl
    refine ag_ite (fun z20 => ?_) (fun z20 => ?_)
    · refine ag_tin (k := 20) (q := 720) dL_law_32 z20 (by decide) (by decide) rfl rfl ?_
      refine ag_aload_1 (q := 721) dL_law_720 rfl ?_
      refine ag_callV_mI (q := 724) (av := []) (rest := []) dL_law_721 rfl lkL_98 (C_X7_keep (Nat.le_trans (by decide) hN)  _) (by decide) (Nat.le_of_ble_eq_true rfl) (Nat.lt_of_lt_of_le (by decide : 0 < NT) hN) (congrArg Prod.fst s_0) (by decide) (fun _ => rfl) (Nat.le_of_ble_eq_true rfl) rfl (fun r721 s721 e721 => ?_)
      refine ag_aload_2 (q := 725) dL_law_724 rfl ?_
      refine ag_callV_mI (q := 728) (av := []) (rest := [.int _]) dL_law_725 rfl lkL_101 (C_X8_keep hN  _) (by decide) (Nat.le_of_ble_eq_true rfl) (Nat.lt_of_lt_of_le (by decide : 141 < NT) hN) (congrArg Prod.fst s_141) (by decide) (fun _ => rfl) (Nat.le_of_ble_eq_true rfl) rfl (fun r725 s725 e725 => ?_)
      refine ag_icmp_eq (tgt := 769) (q := 731) dL_law_728 rfl rfl ?_ ?_
      · refine ag_iinc_3 (q := 772) (d := (5)) dL_law_769 rfl (Nat.le_of_ble_eq_true rfl) rfl (by decide) ?_
        refine ag_goto (q := 18) dL_law_772 rfl ?_
        exact ih (x3 + (5)) s725
      refine ag_iconst (q := 732) (v := 0) dL_law_731 rfl (by decide) ?_
      exact ag_zretK dL_law_732 rfl (by decide) rfl
    refine ag_ite (fun z21 => ?_) (fun z21 => ?_)
    · refine ag_tin (k := 21) (q := 733) dL_law_32 z21 (by decide) (by decide) rfl rfl ?_
      refine ag_aload_1 (q := 734) dL_law_733 rfl ?_
      refine ag_callV_mI (q := 737) (av := []) (rest := []) dL_law_734 rfl lkL_102 (C_X7_back (Nat.le_trans (by decide) hN)  _) (by decide) (Nat.le_of_ble_eq_true rfl) (Nat.lt_of_lt_of_le (by decide : 0 < NT) hN) (congrArg Prod.fst s_0) (by decide) (fun _ => rfl) (Nat.le_of_ble_eq_true rfl) rfl (fun r734 s734 e734 => ?_)
      refine ag_aload_2 (q := 738) dL_law_737 rfl ?_
      refine ag_callV_mI (q := 741) (av := []) (rest := [.int _]) dL_law_738 rfl lkL_105 (C_X8_back hN  _) (by decide) (Nat.le_of_ble_eq_true rfl) (Nat.lt_of_lt_of_le (by decide : 141 < NT) hN) (congrArg Prod.fst s_141) (by decide) (fun _ => rfl) (Nat.le_of_ble_eq_true rfl) rfl (fun r738 s738 e738 => ?_)
      refine ag_icmp_eq (tgt := 769) (q := 744) dL_law_741 rfl rfl ?_ ?_
      · refine ag_iinc_3 (q := 772) (d := (5)) dL_law_769 rfl (Nat.le_of_ble_eq_true rfl) rfl (by decide) ?_
        refine ag_goto (q := 18) dL_law_772 rfl ?_
        exact ih (x3 + (5)) s738
      refine ag_iconst (q := 745) (v := 0) dL_law_744 rfl (by decide) ?_
      exact ag_zretK dL_law_745 rfl (by decide) rfl
    refine ag_ite (fun z22 => ?_) (fun z22 => ?_)
    · refine ag_tin (k := 22) (q := 746) dL_law_32 z22 (by decide) (by decide) rfl rfl ?_
      refine ag_aload_1 (q := 747) dL_law_746 rfl ?_
      refine ag_xload_0 (q := 748) dL_law_747 rfl ?_
      refine ag_iload_3 (q := 749) dL_law_748 rfl ?_
      refine ag_iconst (q := 750) (v := 1) dL_law_749 rfl (by decide) ?_
      refine ag_iadd (q := 751) dL_law_750 rfl ?_
      refine ag_sld hX (q := 752) dL_law_751 rfl ?_
      refine ag_callV_pI (q := 755) (av := [.int _]) (rest := []) dL_law_752 rfl lkL_106 (C_X7_count (Nat.le_trans (by decide) hN) (xs (x3 + (1 : Int32)).toNatClampNeg) _) (by decide) (Nat.le_of_ble_eq_true rfl) (Nat.lt_of_lt_of_le (by decide : 0 < NT) hN) (congrArg Prod.fst s_0) (by decide) (fun _ => rfl) (Nat.le_of_ble_eq_true rfl) rfl (fun r752 e752 => ?_)
      refine ag_aload_2 (q := 756) dL_law_755 rfl ?_
      refine ag_xload_0 (q := 757) dL_law_756 rfl ?_
      refine ag_iload_3 (q := 758) dL_law_757 rfl ?_
      refine ag_iconst (q := 759) (v := 1) dL_law_758 rfl (by decide) ?_
      refine ag_iadd (q := 760) dL_law_759 rfl ?_
      refine ag_sld hX (q := 761) dL_law_760 rfl ?_
      refine ag_callV_mI (q := 764) (av := [.int _]) (rest := [.int _]) dL_law_761 rfl lkL_109 (C_X8_count hN (xs (x3 + (1 : Int32)).toNatClampNeg) _) (by decide) (Nat.le_of_ble_eq_true rfl) (Nat.lt_of_lt_of_le (by decide : 141 < NT) hN) (congrArg Prod.fst s_141) (by decide) (fun _ => rfl) (Nat.le_of_ble_eq_true rfl) rfl (fun r761 s761 e761 => ?_)
      refine ag_icmp_eq (tgt := 769) (q := 767) dL_law_764 rfl rfl ?_ ?_
      · refine ag_iinc_3 (q := 772) (d := (5)) dL_law_769 rfl (Nat.le_of_ble_eq_true rfl) rfl (by decide) ?_
        refine ag_goto (q := 18) dL_law_772 rfl ?_
        exact ih (x3 + (5)) s761
      refine ag_iconst (q := 768) (v := 0) dL_law_767 rfl (by decide) ?_
      exact ag_zretK dL_law_768 rfl (by decide) rfl
    refine ag_tout (q := 769) dL_law_32 (by have q0 := lv_neT z0 (by decide : (0 : Int32).toInt = 0); have q1 := lv_neT z1 (by decide : (1 : Int32).toInt = 1); have q2 := lv_neT z2 (by decide : (2 : Int32).toInt = 2); have q3 := lv_neT z3 (by decide : (3 : Int32).toInt = 3); have q4 := lv_neT z4 (by decide : (4 : Int32).toInt = 4); have q5 := lv_neT z5 (by decide : (5 : Int32).toInt = 5); have q6 := lv_neT z6 (by decide : (6 : Int32).toInt = 6); have q7 := lv_neT z7 (by decide : (7 : Int32).toInt = 7); have q8 := lv_neT z8 (by decide : (8 : Int32).toInt = 8); have q9 := lv_neT z9 (by decide : (9 : Int32).toInt = 9); have q10 := lv_neT z10 (by decide : (10 : Int32).toInt = 10); have q11 := lv_neT z11 (by decide : (11 : Int32).toInt = 11); have q12 := lv_neT z12 (by decide : (12 : Int32).toInt = 12); have q13 := lv_neT z13 (by decide : (13 : Int32).toInt = 13); have q14 := lv_neT z14 (by decide : (14 : Int32).toInt = 14); have q15 := lv_neT z15 (by decide : (15 : Int32).toInt = 15); have q16 := lv_neT z16 (by decide : (16 : Int32).toInt = 16); have q17 := lv_neT z17 (by decide : (17 : Int32).toInt = 17); have q18 := lv_neT z18 (by decide : (18 : Int32).toInt = 18); have q19 := lv_neT z19 (by decide : (19 : Int32).toInt = 19); have q20 := lv_neT z20 (by decide : (20 : Int32).toInt = 20); have q21 := lv_neT z21 (by decide : (21 : Int32).toInt = 21); have q22 := lv_neT z22 (by decide : (22 : Int32).toInt = 22); omega) rfl ?_
    refine ag_iinc_3 (q := 772) (d := (5)) dL_law_769 rfl (Nat.le_of_ble_eq_true rfl) rfl (by decide) ?_
    refine ag_goto (q := 18) dL_law_772 rfl ?_
    exact ih (x3 + (5)) σ
