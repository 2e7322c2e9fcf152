theorem ki_1 : Int32.ofInt (1) = (1) := by decide
theorem kb_m2 : (Int8.ofInt (-2)).toInt32 = (-2) := by decide
theorem kb_8 : (Int8.ofInt (8)).toInt32 = (8) := by decide
theorem kb_48 : (Int8.ofInt (48)).toInt32 = (48) := by decide
theorem ks_255 : (Int16.ofInt (255)).toInt32 = (255) := by decide
theorem ki_m1 : Int32.ofInt (-1) = (-1) := by decide
theorem kb_m4 : (Int8.ofInt (-4)).toInt32 = (-4) := by decide
theorem ki_0 : Int32.ofInt (0) = (0) := by decide
theorem kb_6 : (Int8.ofInt (6)).toInt32 = (6) := by decide
theorem kb_m9 : (Int8.ofInt (-9)).toInt32 = (-9) := by decide
theorem ki_5 : Int32.ofInt (5) = (5) := by decide
theorem nez_5 : ¬ (5 : Int32) = 0 := by decide
theorem kb_66 : (Int8.ofInt (66)).toInt32 = (66) := by decide
theorem ki_2 : Int32.ofInt (2) = (2) := by decide
theorem ki_3 : Int32.ofInt (3) = (3) := by decide
theorem kb_9 : (Int8.ofInt (9)).toInt32 = (9) := by decide
theorem kb_46 : (Int8.ofInt (46)).toInt32 = (46) := by decide
theorem kb_80 : (Int8.ofInt (80)).toInt32 = (80) := by decide
theorem ki_4 : Int32.ofInt (4) = (4) := by decide
theorem kb_10 : (Int8.ofInt (10)).toInt32 = (10) := by decide
theorem kb_m3 : (Int8.ofInt (-3)).toInt32 = (-3) := by decide
theorem kb_20 : (Int8.ofInt (20)).toInt32 = (20) := by decide
theorem kb_16 : (Int8.ofInt (16)).toInt32 = (16) := by decide
theorem kb_63 : (Int8.ofInt (63)).toInt32 = (63) := by decide
theorem ks_10000 : (Int16.ofInt (10000)).toInt32 = (10000) := by decide
theorem ks_256 : (Int16.ofInt (256)).toInt32 = (256) := by decide
theorem kb_99 : (Int8.ofInt (99)).toInt32 = (99) := by decide
theorem vin_0_256 : vp_in (0) 256 := by unfold vp_in; decide
theorem vin_0_100 : vp_in (0) 100 := by unfold vp_in; decide
theorem nez_16 : ¬ (16 : Int32) = 0 := by decide
theorem vin_0_48 : vp_in (0) 48 := by unfold vp_in; decide
theorem kb_12 : (Int8.ofInt (12)).toInt32 = (12) := by decide
theorem vin_0_5 : vp_in (0) 5 := by unfold vp_in; decide
theorem kb_14 : (Int8.ofInt (14)).toInt32 = (14) := by decide
theorem vin_1_5 : vp_in (1) 5 := by unfold vp_in; decide
theorem vin_2_5 : vp_in (2) 5 := by unfold vp_in; decide
theorem ks_510 : (Int16.ofInt (510)).toInt32 = (510) := by decide
theorem vin_3_5 : vp_in (3) 5 := by unfold vp_in; decide
theorem ks_1023 : (Int16.ofInt (1023)).toInt32 = (1023) := by decide
theorem vin_4_5 : vp_in (4) 5 := by unfold vp_in; decide
theorem ks_1022 : (Int16.ofInt (1022)).toInt32 = (1022) := by decide
theorem kb_11 : (Int8.ofInt (11)).toInt32 = (11) := by decide
theorem kb_15 : (Int8.ofInt (15)).toInt32 = (15) := by decide
theorem vin_0_2 : vp_in (0) 2 := by unfold vp_in; decide
theorem vin_1_2 : vp_in (1) 2 := by unfold vp_in; decide
theorem kb_100 : (Int8.ofInt (100)).toInt32 = (100) := by decide
theorem vin_0_3 : vp_in (0) 3 := by unfold vp_in; decide
theorem vin_1_3 : vp_in (1) 3 := by unfold vp_in; decide
theorem vin_2_3 : vp_in (2) 3 := by unfold vp_in; decide
theorem kb_24 : (Int8.ofInt (24)).toInt32 = (24) := by decide
theorem kf_X3_append : CV yX3_append RX3 cX3_append 5 none 2 := ⟨m_code_X3_append, m_inst_X3_append, m_sel_X3_append, m_ini_X3, rfl, by decide, by decide, by decide +kernel⟩
theorem kf_X4_write : CV yX4_write RX4 cX4_write 4 (some .int) 2 := ⟨m_code_X4_write, m_inst_X4_write, m_sel_X4_write, m_ini_X4, rfl, by decide, by decide, by decide +kernel⟩
theorem kf_X4_wipe : CV yX4_wipe RX4 cX4_wipe 2 (some .int) 0 := ⟨m_code_X4_wipe, m_inst_X4_wipe, m_sel_X4_wipe, m_ini_X4, rfl, by decide, by decide, by decide +kernel⟩
theorem kf_X3_byteAt : CV yX3_byteAt RX3 cX3_byteAt 2 (some .int) 1 := ⟨m_code_X3_byteAt, m_inst_X3_byteAt, m_sel_X3_byteAt, m_ini_X3, rfl, by decide, by decide, by decide +kernel⟩
theorem kf_X3_figure : CV yX3_figure RX3 cX3_figure 2 (some .int) 1 := ⟨m_code_X3_figure, m_inst_X3_figure, m_sel_X3_figure, m_ini_X3, rfl, by decide, by decide, by decide +kernel⟩
theorem kf_X3_isFigure : CV yX3_isFigure RX3 cX3_isFigure 4 (some .boolean) 3 := ⟨m_code_X3_isFigure, m_inst_X3_isFigure, m_sel_X3_isFigure, m_ini_X3, rfl, by decide, by decide, by decide +kernel⟩
theorem kf_X3_mayStandInPerson : CV yX3_mayStandInPerson RX3 cX3_mayStandInPerson 2 (some .boolean) 1 := ⟨m_code_X3_mayStandInPerson, m_inst_X3_mayStandInPerson, m_sel_X3_mayStandInPerson, m_ini_X3, rfl, by decide, by decide, by decide +kernel⟩
theorem kf_X3_mayStand : CV yX3_mayStand RX3 cX3_mayStand 2 (some .boolean) 1 := ⟨m_code_X3_mayStand, m_inst_X3_mayStand, m_sel_X3_mayStand, m_ini_X3, rfl, by decide, by decide, by decide +kernel⟩
theorem kf_X3_firstFault : CV yX3_firstFault RX3 cX3_firstFault 2 (some .int) 0 := ⟨m_code_X3_firstFault, m_inst_X3_firstFault, m_sel_X3_firstFault, m_ini_X3, rfl, by decide, by decide, by decide +kernel⟩
theorem kf_X4_fault : CV yX4_fault RX4 cX4_fault 1 (some .int) 0 := ⟨m_code_X4_fault, m_inst_X4_fault, m_sel_X4_fault, m_ini_X4, rfl, by decide, by decide, by decide +kernel⟩
theorem kf_X0_readFrom : CV yX0_readFrom RX0 cX0_readFrom 4 none 1 := ⟨m_code_X0_readFrom, m_inst_X0_readFrom, m_sel_X0_readFrom, m_ini_X0, rfl, by decide, by decide, by decide +kernel⟩
theorem kf_X1_startAnew : CV yX1_startAnew RX1 cX1_startAnew 3 none 1 := ⟨m_code_X1_startAnew, m_inst_X1_startAnew, m_sel_X1_startAnew, m_ini_X1, rfl, by decide, by decide, by decide +kernel⟩
theorem kf_X2_forget : CV yX2_forget RX2 cX2_forget 1 none 0 := ⟨m_code_X2_forget, m_inst_X2_forget, m_sel_X2_forget, m_ini_X2, rfl, by decide, by decide, by decide +kernel⟩
theorem kf_X4_ferry : CV yX4_ferry RX4 cX4_ferry 1 (some .int) 0 := ⟨m_code_X4_ferry, m_inst_X4_ferry, m_sel_X4_ferry, m_ini_X4, rfl, by decide, by decide, by decide +kernel⟩
theorem kf_X4_boat : CV yX4_boat RX4 cX4_boat 2 (some .int) 1 := ⟨m_code_X4_boat, m_inst_X4_boat, m_sel_X4_boat, m_ini_X4, rfl, by decide, by decide, by decide +kernel⟩
theorem kf_X0_hasPerson : CV yX0_hasPerson RX0 cX0_hasPerson 2 (some .boolean) 1 := ⟨m_code_X0_hasPerson, m_inst_X0_hasPerson, m_sel_X0_hasPerson, m_ini_X0, rfl, by decide, by decide, by decide +kernel⟩
theorem kf_X1_crewOf : CV yX1_crewOf RX1 cX1_crewOf 2 (some .int) 1 := ⟨m_code_X1_crewOf, m_inst_X1_crewOf, m_sel_X1_crewOf, m_ini_X1, rfl, by decide, by decide, by decide +kernel⟩
theorem kf_X4_sitters : CS yX4_sitters RX4 cX4_sitters 2 (some .int) 2 := ⟨m_code_X4_sitters, m_stat_X4_sitters, m_ini_X4, rfl, by decide, by decide, by decide +kernel⟩
theorem kf_X4_endOf : CS yX4_endOf RX4 cX4_endOf 3 (some .int) 2 := ⟨m_code_X4_endOf, m_stat_X4_endOf, m_ini_X4, rfl, by decide, by decide, by decide +kernel⟩
theorem kf_X1_boatOf : CV yX1_boatOf RX1 cX1_boatOf 3 (some .int) 1 := ⟨m_code_X1_boatOf, m_inst_X1_boatOf, m_sel_X1_boatOf, m_ini_X1, rfl, by decide, by decide, by decide +kernel⟩
theorem kf_X1_laid : CV yX1_laid RX1 cX1_laid 1 (some .int) 0 := ⟨m_code_X1_laid, m_inst_X1_laid, m_sel_X1_laid, m_ini_X1, rfl, by decide, by decide, by decide +kernel⟩
theorem kf_X1_placeOf : CV yX1_placeOf RX1 cX1_placeOf 3 (some .int) 1 := ⟨m_code_X1_placeOf, m_inst_X1_placeOf, m_sel_X1_placeOf, m_ini_X1, rfl, by decide, by decide, by decide +kernel⟩
theorem kf_X4_person : CV yX4_person RX4 cX4_person 3 (some .int) 2 := ⟨m_code_X4_person, m_inst_X4_person, m_sel_X4_person, m_ini_X4, rfl, by decide, by decide, by decide +kernel⟩
theorem kf_X4_gain : CV yX4_gain RX4 cX4_gain 4 (some .int) 2 := ⟨m_code_X4_gain, m_inst_X4_gain, m_sel_X4_gain, m_ini_X4, rfl, by decide, by decide, by decide +kernel⟩
theorem kf_X4_isMinute : CS yX4_isMinute RX4 cX4_isMinute 1 (some .boolean) 1 := ⟨m_code_X4_isMinute, m_stat_X4_isMinute, m_ini_X4, rfl, by decide, by decide, by decide +kernel⟩
theorem kf_X4_minutes : CV yX4_minutes RX4 cX4_minutes 3 (some .int) 1 := ⟨m_code_X4_minutes, m_inst_X4_minutes, m_sel_X4_minutes, m_ini_X4, rfl, by decide, by decide, by decide +kernel⟩
theorem kf_X0_hasEnd : CV yX0_hasEnd RX0 cX0_hasEnd 2 (some .boolean) 1 := ⟨m_code_X0_hasEnd, m_inst_X0_hasEnd, m_sel_X0_hasEnd, m_ini_X0, rfl, by decide, by decide, by decide +kernel⟩
theorem kf_X0_willSit : CV yX0_willSit RX0 cX0_willSit 3 (some .boolean) 2 := ⟨m_code_X0_willSit, m_inst_X0_willSit, m_sel_X0_willSit, m_ini_X0, rfl, by decide, by decide, by decide +kernel⟩
theorem kf_J6_bitCount_0f7a4 : CS yJ6_bitCount_0f7a4 RJ6 cJ6_bitCount_0f7a4 1 (some .int) 1 := ⟨m_code_J6_bitCount_0f7a4, m_stat_J6_bitCount_0f7a4, m_ini_J6, rfl, by decide, by decide, by decide +kernel⟩
theorem kf_X4_seat : CS yX4_seat RX4 cX4_seat 3 (some .int) 3 := ⟨m_code_X4_seat, m_stat_X4_seat, m_ini_X4, rfl, by decide, by decide, by decide +kernel⟩
theorem kf_X1_setLaid : CV yX1_setLaid RX1 cX1_setLaid 2 none 1 := ⟨m_code_X1_setLaid, m_inst_X1_setLaid, m_sel_X1_setLaid, m_ini_X1, rfl, by decide, by decide, by decide +kernel⟩
theorem kf_X4_lay : CV yX4_lay RX4 cX4_lay 4 (some .int) 2 := ⟨m_code_X4_lay, m_inst_X4_lay, m_sel_X4_lay, m_ini_X4, rfl, by decide, by decide, by decide +kernel⟩
theorem kf_X4_unseat : CS yX4_unseat RX4 cX4_unseat 3 (some .int) 3 := ⟨m_code_X4_unseat, m_stat_X4_unseat, m_ini_X4, rfl, by decide, by decide, by decide +kernel⟩
theorem kf_X4_unlay : CV yX4_unlay RX4 cX4_unlay 3 (some .int) 1 := ⟨m_code_X4_unlay, m_inst_X4_unlay, m_sel_X4_unlay, m_ini_X4, rfl, by decide, by decide, by decide +kernel⟩
theorem kf_X4_poundsAfter : CS yX4_poundsAfter RX4 cX4_poundsAfter 4 (some .int) 3 := ⟨m_code_X4_poundsAfter, m_stat_X4_poundsAfter, m_ini_X4, rfl, by decide, by decide, by decide +kernel⟩
theorem kf_X0_loadOf : CV yX0_loadOf RX0 cX0_loadOf 9 (some .int) 5 := ⟨m_code_X0_loadOf, m_inst_X0_loadOf, m_sel_X0_loadOf, m_ini_X0, rfl, by decide, by decide, by decide +kernel⟩
theorem kf_X4_weighs : CV yX4_weighs RX4 cX4_weighs 3 (some .int) 2 := ⟨m_code_X4_weighs, m_inst_X4_weighs, m_sel_X4_weighs, m_ini_X4, rfl, by decide, by decide, by decide +kernel⟩
theorem kf_X0_tiltOf : CV yX0_tiltOf RX0 cX0_tiltOf 10 (some .int) 4 := ⟨m_code_X0_tiltOf, m_inst_X0_tiltOf, m_sel_X0_tiltOf, m_ini_X0, rfl, by decide, by decide, by decide +kernel⟩
theorem kf_X4_off : CV yX4_off RX4 cX4_off 2 (some .int) 1 := ⟨m_code_X4_off, m_inst_X4_off, m_sel_X4_off, m_ini_X4, rfl, by decide, by decide, by decide +kernel⟩
theorem kf_X0_isLevel : CV yX0_isLevel RX0 cX0_isLevel 4 (some .boolean) 3 := ⟨m_code_X0_isLevel, m_inst_X0_isLevel, m_sel_X0_isLevel, m_ini_X0, rfl, by decide, by decide, by decide +kernel⟩
theorem kf_X1_depart : CV yX1_depart RX1 cX1_depart 1 none 0 := ⟨m_code_X1_depart, m_inst_X1_depart, m_sel_X1_depart, m_ini_X1, rfl, by decide, by decide, by decide +kernel⟩
theorem kf_X4_members : CS yX4_members RX4 cX4_members 1 (some .int) 1 := ⟨m_code_X4_members, m_stat_X4_members, m_ini_X4, rfl, by decide, by decide, by decide +kernel⟩
theorem kf_X0_faresOf : CV yX0_faresOf RX0 cX0_faresOf 4 (some .int) 1 := ⟨m_code_X0_faresOf, m_inst_X0_faresOf, m_sel_X0_faresOf, m_ini_X0, rfl, by decide, by decide, by decide +kernel⟩
theorem kf_X4_leave : CV yX4_leave RX4 cX4_leave 2 (some .int) 0 := ⟨m_code_X4_leave, m_inst_X4_leave, m_sel_X4_leave, m_ini_X4, rfl, by decide, by decide, by decide +kernel⟩
theorem kf_X1_takeBack : CV yX1_takeBack RX1 cX1_takeBack 1 none 0 := ⟨m_code_X1_takeBack, m_inst_X1_takeBack, m_sel_X1_takeBack, m_ini_X1, rfl, by decide, by decide, by decide +kernel⟩
theorem kf_X4_back : CV yX4_back RX4 cX4_back 1 (some .int) 0 := ⟨m_code_X4_back, m_inst_X4_back, m_sel_X4_back, m_ini_X4, rfl, by decide, by decide, by decide +kernel⟩
theorem kf_X4_left : CV yX4_left RX4 cX4_left 3 (some .int) 2 := ⟨m_code_X4_left, m_inst_X4_left, m_sel_X4_left, m_ini_X4, rfl, by decide, by decide, by decide +kernel⟩
theorem kf_X1_gone : CV yX1_gone RX1 cX1_gone 3 (some .int) 0 := ⟨m_code_X1_gone, m_inst_X1_gone, m_sel_X1_gone, m_ini_X1, rfl, by decide, by decide, by decide +kernel⟩
theorem kf_X0_armOf : CV yX0_armOf RX0 cX0_armOf 2 (some .int) 1 := ⟨m_code_X0_armOf, m_inst_X0_armOf, m_sel_X0_armOf, m_ini_X0, rfl, by decide, by decide, by decide +kernel⟩
theorem kf_X2_prepare : CV yX2_prepare RX2 cX2_prepare 5 none 2 := ⟨m_code_X2_prepare, m_inst_X2_prepare, m_sel_X2_prepare, m_ini_X2, rfl, by decide, by decide, by decide +kernel⟩
theorem kf_X2_weighSets : CV yX2_weighSets RX2 cX2_weighSets 8 none 2 := ⟨m_code_X2_weighSets, m_inst_X2_weighSets, m_sel_X2_weighSets, m_ini_X2, rfl, by decide, by decide, by decide +kernel⟩
theorem kf_X2_pullOf : CV yX2_pullOf RX2 cX2_pullOf 3 (some .int) 2 := ⟨m_code_X2_pullOf, m_inst_X2_pullOf, m_sel_X2_pullOf, m_ini_X2, rfl, by decide, by decide, by decide +kernel⟩
theorem kf_X2_isAhead : CS yX2_isAhead RX2 cX2_isAhead 5 (some .boolean) 2 := ⟨m_code_X2_isAhead, m_stat_X2_isAhead, m_ini_X2, rfl, by decide, by decide, by decide +kernel⟩
theorem kf_X2_noteChoice : CV yX2_noteChoice RX2 cX2_noteChoice 4 none 2 := ⟨m_code_X2_noteChoice, m_inst_X2_noteChoice, m_sel_X2_noteChoice, m_ini_X2, rfl, by decide, by decide, by decide +kernel⟩
theorem kf_X2_noteMakeWeight : CV yX2_noteMakeWeight RX2 cX2_noteMakeWeight 6 none 3 := ⟨m_code_X2_noteMakeWeight, m_inst_X2_noteMakeWeight, m_sel_X2_noteMakeWeight, m_ini_X2, rfl, by decide, by decide, by decide +kernel⟩
theorem kf_X2_tryLast : CV yX2_tryLast RX2 cX2_tryLast 9 none 4 := ⟨m_code_X2_tryLast, m_inst_X2_tryLast, m_sel_X2_tryLast, m_ini_X2, rfl, by decide, by decide, by decide +kernel⟩
theorem kf_X2_trySecond : CV yX2_trySecond RX2 cX2_trySecond 8 none 4 := ⟨m_code_X2_trySecond, m_inst_X2_trySecond, m_sel_X2_trySecond, m_ini_X2, rfl, by decide, by decide, by decide +kernel⟩
theorem kf_X2_searchWithLast : CV yX2_searchWithLast RX2 cX2_searchWithLast 7 none 2 := ⟨m_code_X2_searchWithLast, m_inst_X2_searchWithLast, m_sel_X2_searchWithLast, m_ini_X2, rfl, by decide, by decide, by decide +kernel⟩
theorem kf_X2_findChoices : CV yX2_findChoices RX2 cX2_findChoices 3 none 2 := ⟨m_code_X2_findChoices, m_inst_X2_findChoices, m_sel_X2_findChoices, m_ini_X2, rfl, by decide, by decide, by decide +kernel⟩
theorem kf_X2_hasChoice : CV yX2_hasChoice RX2 cX2_hasChoice 1 (some .boolean) 0 := ⟨m_code_X2_hasChoice, m_inst_X2_hasChoice, m_sel_X2_hasChoice, m_ini_X2, rfl, by decide, by decide, by decide +kernel⟩
theorem kf_X2_bestFares : CV yX2_bestFares RX2 cX2_bestFares 1 (some .int) 0 := ⟨m_code_X2_bestFares, m_inst_X2_bestFares, m_sel_X2_bestFares, m_ini_X2, rfl, by decide, by decide, by decide +kernel⟩
theorem kf_X4_best : CV yX4_best RX4 cX4_best 1 (some .int) 0 := ⟨m_code_X4_best, m_inst_X4_best, m_sel_X4_best, m_ini_X4, rfl, by decide, by decide, by decide +kernel⟩
theorem kf_X4_bestAt : CV yX4_bestAt RX4 cX4_bestAt 2 (some .int) 1 := ⟨m_code_X4_bestAt, m_inst_X4_bestAt, m_sel_X4_bestAt, m_ini_X4, rfl, by decide, by decide, by decide +kernel⟩
theorem kf_X2_faresWithout : CV yX2_faresWithout RX2 cX2_faresWithout 4 (some .int) 1 := ⟨m_code_X2_faresWithout, m_inst_X2_faresWithout, m_sel_X2_faresWithout, m_ini_X2, rfl, by decide, by decide, by decide +kernel⟩
theorem kf_X4_worth : CV yX4_worth RX4 cX4_worth 2 (some .int) 1 := ⟨m_code_X4_worth, m_inst_X4_worth, m_sel_X4_worth, m_ini_X4, rfl, by decide, by decide, by decide +kernel⟩
theorem kf_X2_findMakeWeights : CV yX2_findMakeWeights RX2 cX2_findMakeWeights 2 none 0 := ⟨m_code_X2_findMakeWeights, m_inst_X2_findMakeWeights, m_sel_X2_findMakeWeights, m_ini_X2, rfl, by decide, by decide, by decide +kernel⟩
theorem kf_X2_madeBy : CV yX2_madeBy RX2 cX2_madeBy 2 (some .int) 1 := ⟨m_code_X2_madeBy, m_inst_X2_madeBy, m_sel_X2_madeBy, m_ini_X2, rfl, by decide, by decide, by decide +kernel⟩
theorem kf_X4_makes : CV yX4_makes RX4 cX4_makes 2 (some .int) 1 := ⟨m_code_X4_makes, m_inst_X4_makes, m_sel_X4_makes, m_ini_X4, rfl, by decide, by decide, by decide +kernel⟩
theorem kf_X2_bestMakeWeight : CV yX2_bestMakeWeight RX2 cX2_bestMakeWeight 4 (some .int) 0 := ⟨m_code_X2_bestMakeWeight, m_inst_X2_bestMakeWeight, m_sel_X2_bestMakeWeight, m_ini_X2, rfl, by decide, by decide, by decide +kernel⟩
theorem kf_X4_bestMakes : CV yX4_bestMakes RX4 cX4_bestMakes 1 (some .int) 0 := ⟨m_code_X4_bestMakes, m_inst_X4_bestMakes, m_sel_X4_bestMakes, m_ini_X4, rfl, by decide, by decide, by decide +kernel⟩
theorem kf_X2_countSets : CV yX2_countSets RX2 cX2_countSets 3 (some .int) 0 := ⟨m_code_X2_countSets, m_inst_X2_countSets, m_sel_X2_countSets, m_ini_X2, rfl, by decide, by decide, by decide +kernel⟩
theorem kf_X4_sets : CV yX4_sets RX4 cX4_sets 1 (some .int) 0 := ⟨m_code_X4_sets, m_inst_X4_sets, m_sel_X4_sets, m_ini_X4, rfl, by decide, by decide, by decide +kernel⟩
theorem kf_X2_fewestOf : CV yX2_fewestOf RX2 cX2_fewestOf 6 (some .int) 1 := ⟨m_code_X2_fewestOf, m_inst_X2_fewestOf, m_sel_X2_fewestOf, m_ini_X2, rfl, by decide, by decide, by decide +kernel⟩
theorem kf_X2_findChains : CV yX2_findChains RX2 cX2_findChains 2 none 0 := ⟨m_code_X2_findChains, m_inst_X2_findChains, m_sel_X2_findChains, m_ini_X2, rfl, by decide, by decide, by decide +kernel⟩
theorem kf_X2_faresWithin : CV yX2_faresWithin RX2 cX2_faresWithin 4 (some .int) 1 := ⟨m_code_X2_faresWithin, m_inst_X2_faresWithin, m_sel_X2_faresWithin, m_ini_X2, rfl, by decide, by decide, by decide +kernel⟩
theorem kf_X4_crossings : CV yX4_crossings RX4 cX4_crossings 2 (some .int) 1 := ⟨m_code_X4_crossings, m_inst_X4_crossings, m_sel_X4_crossings, m_ini_X4, rfl, by decide, by decide, by decide +kernel⟩
theorem kf_X2_fewestForAll : CV yX2_fewestForAll RX2 cX2_fewestForAll 2 (some .int) 0 := ⟨m_code_X2_fewestForAll, m_inst_X2_fewestForAll, m_sel_X2_fewestForAll, m_ini_X2, rfl, by decide, by decide, by decide +kernel⟩
theorem kf_X4_all : CV yX4_all RX4 cX4_all 1 (some .int) 0 := ⟨m_code_X4_all, m_inst_X4_all, m_sel_X4_all, m_ini_X4, rfl, by decide, by decide, by decide +kernel⟩
theorem kf_X4_lightestEnd : CV yX4_lightestEnd RX4 cX4_lightestEnd 8 (some .int) 2 := ⟨m_code_X4_lightestEnd, m_inst_X4_lightestEnd, m_sel_X4_lightestEnd, m_ini_X4, rfl, by decide, by decide, by decide +kernel⟩
theorem kf_X4_crewByRule : CV yX4_crewByRule RX4 cX4_crewByRule 5 (some .int) 0 := ⟨m_code_X4_crewByRule, m_inst_X4_crewByRule, m_sel_X4_crewByRule, m_ini_X4, rfl, by decide, by decide, by decide +kernel⟩
theorem kf_X4_rule : CV yX4_rule RX4 cX4_rule 2 (some .int) 0 := ⟨m_code_X4_rule, m_inst_X4_rule, m_sel_X4_rule, m_ini_X4, rfl, by decide, by decide, by decide +kernel⟩
theorem kf_X4_ruleAt : CV yX4_ruleAt RX4 cX4_ruleAt 2 (some .int) 1 := ⟨m_code_X4_ruleAt, m_inst_X4_ruleAt, m_sel_X4_ruleAt, m_ini_X4, rfl, by decide, by decide, by decide +kernel⟩
theorem kf_X4_claim : CV yX4_claim RX4 cX4_claim 4 (some .int) 2 := ⟨m_code_X4_claim, m_inst_X4_claim, m_sel_X4_claim, m_ini_X4, rfl, by decide, by decide, by decide +kernel⟩
theorem kf_X4_boatsFitBut : CV yX4_boatsFitBut RX4 cX4_boatsFitBut 3 (some .boolean) 1 := ⟨m_code_X4_boatsFitBut, m_inst_X4_boatsFitBut, m_sel_X4_boatsFitBut, m_ini_X4, rfl, by decide, by decide, by decide +kernel⟩
theorem kf_X4_fits : CV yX4_fits RX4 cX4_fits 1 (some .int) 0 := ⟨m_code_X4_fits, m_inst_X4_fits, m_sel_X4_fits, m_ini_X4, rfl, by decide, by decide, by decide +kernel⟩
theorem kf_X4_claimsThatFit : CV yX4_claimsThatFit RX4 cX4_claimsThatFit 6 (some .int) 1 := ⟨m_code_X4_claimsThatFit, m_inst_X4_claimsThatFit, m_sel_X4_claimsThatFit, m_ini_X4, rfl, by decide, by decide, by decide +kernel⟩
theorem kf_X4_liars : CV yX4_liars RX4 cX4_liars 3 (some .int) 0 := ⟨m_code_X4_liars, m_inst_X4_liars, m_sel_X4_liars, m_ini_X4, rfl, by decide, by decide, by decide +kernel⟩
theorem kf_X4_mayWeigh : CV yX4_mayWeigh RX4 cX4_mayWeigh 2 (some .int) 1 := ⟨m_code_X4_mayWeigh, m_inst_X4_mayWeigh, m_sel_X4_mayWeigh, m_ini_X4, rfl, by decide, by decide, by decide +kernel⟩
theorem kf_X4_isSlot : CS yX4_isSlot RX4 cX4_isSlot 1 (some .boolean) 1 := ⟨m_code_X4_isSlot, m_stat_X4_isSlot, m_ini_X4, rfl, by decide, by decide, by decide +kernel⟩
theorem kf_X4_slotOf : CV yX4_slotOf RX4 cX4_slotOf 2 (some (.object "FerriesLevel$Log")) 1 := ⟨m_code_X4_slotOf, m_inst_X4_slotOf, m_sel_X4_slotOf, m_ini_X4, rfl, by decide, by decide, by decide +kernel⟩
theorem kf_X1_copyFrom : CV yX1_copyFrom RX1 cX1_copyFrom 3 none 1 := ⟨m_code_X1_copyFrom, m_inst_X1_copyFrom, m_sel_X1_copyFrom, m_ini_X1, rfl, by decide, by decide, by decide +kernel⟩
theorem kf_X4_keep : CV yX4_keep RX4 cX4_keep 3 (some .int) 1 := ⟨m_code_X4_keep, m_inst_X4_keep, m_sel_X4_keep, m_ini_X4, rfl, by decide, by decide, by decide +kernel⟩
theorem kf_X4_again : CV yX4_again RX4 cX4_again 3 (some .int) 1 := ⟨m_code_X4_again, m_inst_X4_again, m_sel_X4_again, m_ini_X4, rfl, by decide, by decide, by decide +kernel⟩
theorem kf_X4_count : CV yX4_count RX4 cX4_count 2 (some .int) 1 := ⟨m_code_X4_count, m_inst_X4_count, m_sel_X4_count, m_ini_X4, rfl, by decide, by decide, by decide +kernel⟩
theorem kf_X5_in : CS yX5_in RX5 cX5_in 6 (some .boolean) 3 := ⟨m_code_X5_in, m_stat_X5_in, m_ini_X5, rfl, by decide, by decide, by decide +kernel⟩
theorem kf_X5_write : CV yX5_write RX5 cX5_write 5 (some .int) 2 := ⟨m_code_X5_write, m_inst_X5_write, m_sel_X5_write, m_ini_X5, rfl, by decide, by decide, by decide +kernel⟩
theorem kf_X5_wipe : CV yX5_wipe RX5 cX5_wipe 2 (some .int) 0 := ⟨m_code_X5_wipe, m_inst_X5_wipe, m_sel_X5_wipe, m_ini_X5, rfl, by decide, by decide, by decide +kernel⟩
theorem kf_X5_figure : CV yX5_figure RX5 cX5_figure 3 (some .int) 1 := ⟨m_code_X5_figure, m_inst_X5_figure, m_sel_X5_figure, m_ini_X5, rfl, by decide, by decide, by decide +kernel⟩
theorem kf_X5_readText : CV yX5_readText RX5 cX5_readText 3 (some .int) 0 := ⟨m_code_X5_readText, m_inst_X5_readText, m_sel_X5_readText, m_ini_X5, rfl, by decide, by decide, by decide +kernel⟩
theorem kf_X5_fault : CV yX5_fault RX5 cX5_fault 1 (some .int) 0 := ⟨m_code_X5_fault, m_inst_X5_fault, m_sel_X5_fault, m_ini_X5, rfl, by decide, by decide, by decide +kernel⟩
theorem kf_X5_ferry : CV yX5_ferry RX5 cX5_ferry 2 (some .int) 0 := ⟨m_code_X5_ferry, m_inst_X5_ferry, m_sel_X5_ferry, m_ini_X5, rfl, by decide, by decide, by decide +kernel⟩
theorem kf_X5_boat : CV yX5_boat RX5 cX5_boat 2 (some .int) 1 := ⟨m_code_X5_boat, m_inst_X5_boat, m_sel_X5_boat, m_ini_X5, rfl, by decide, by decide, by decide +kernel⟩
theorem kf_X5_isPerson : CV yX5_isPerson RX5 cX5_isPerson 2 (some .boolean) 1 := ⟨m_code_X5_isPerson, m_inst_X5_isPerson, m_sel_X5_isPerson, m_ini_X5, rfl, by decide, by decide, by decide +kernel⟩
theorem kf_X5_person : CV yX5_person RX5 cX5_person 3 (some .int) 2 := ⟨m_code_X5_person, m_inst_X5_person, m_sel_X5_person, m_ini_X5, rfl, by decide, by decide, by decide +kernel⟩
theorem kf_X5_gain : CV yX5_gain RX5 cX5_gain 4 (some .int) 2 := ⟨m_code_X5_gain, m_inst_X5_gain, m_sel_X5_gain, m_ini_X5, rfl, by decide, by decide, by decide +kernel⟩
theorem kf_X5_minutes : CV yX5_minutes RX5 cX5_minutes 3 (some .int) 1 := ⟨m_code_X5_minutes, m_inst_X5_minutes, m_sel_X5_minutes, m_ini_X5, rfl, by decide, by decide, by decide +kernel⟩
theorem kf_X5_isEnd : CV yX5_isEnd RX5 cX5_isEnd 2 (some .boolean) 1 := ⟨m_code_X5_isEnd, m_inst_X5_isEnd, m_sel_X5_isEnd, m_ini_X5, rfl, by decide, by decide, by decide +kernel⟩
theorem kf_X5_willSit : CV yX5_willSit RX5 cX5_willSit 3 (some .boolean) 2 := ⟨m_code_X5_willSit, m_inst_X5_willSit, m_sel_X5_willSit, m_ini_X5, rfl, by decide, by decide, by decide +kernel⟩
theorem kf_X5_whoAt : CV yX5_whoAt RX5 cX5_whoAt 4 (some .int) 1 := ⟨m_code_X5_whoAt, m_inst_X5_whoAt, m_sel_X5_whoAt, m_ini_X5, rfl, by decide, by decide, by decide +kernel⟩
theorem kf_X5_ones : CS yX5_ones RX5 cX5_ones 3 (some .int) 1 := ⟨m_code_X5_ones, m_stat_X5_ones, m_ini_X5, rfl, by decide, by decide, by decide +kernel⟩
theorem kf_X5_lay : CV yX5_lay RX5 cX5_lay 4 (some .int) 2 := ⟨m_code_X5_lay, m_inst_X5_lay, m_sel_X5_lay, m_ini_X5, rfl, by decide, by decide, by decide +kernel⟩
theorem kf_X5_laid : CV yX5_laid RX5 cX5_laid 1 (some .int) 0 := ⟨m_code_X5_laid, m_inst_X5_laid, m_sel_X5_laid, m_ini_X5, rfl, by decide, by decide, by decide +kernel⟩
theorem kf_X5_unlay : CV yX5_unlay RX5 cX5_unlay 2 (some .int) 1 := ⟨m_code_X5_unlay, m_inst_X5_unlay, m_sel_X5_unlay, m_ini_X5, rfl, by decide, by decide, by decide +kernel⟩
theorem kf_X5_weightOf : CV yX5_weightOf RX5 cX5_weightOf 5 (some .int) 3 := ⟨m_code_X5_weightOf, m_inst_X5_weightOf, m_sel_X5_weightOf, m_ini_X5, rfl, by decide, by decide, by decide +kernel⟩
theorem kf_X5_heavy : CV yX5_heavy RX5 cX5_heavy 7 (some .int) 4 := ⟨m_code_X5_heavy, m_inst_X5_heavy, m_sel_X5_heavy, m_ini_X5, rfl, by decide, by decide, by decide +kernel⟩
theorem kf_X5_weighs : CV yX5_weighs RX5 cX5_weighs 3 (some .int) 2 := ⟨m_code_X5_weighs, m_inst_X5_weighs, m_sel_X5_weighs, m_ini_X5, rfl, by decide, by decide, by decide +kernel⟩
theorem kf_X5_offOf : CV yX5_offOf RX5 cX5_offOf 6 (some .int) 3 := ⟨m_code_X5_offOf, m_inst_X5_offOf, m_sel_X5_offOf, m_ini_X5, rfl, by decide, by decide, by decide +kernel⟩
theorem kf_X5_off : CV yX5_off RX5 cX5_off 2 (some .int) 1 := ⟨m_code_X5_off, m_inst_X5_off, m_sel_X5_off, m_ini_X5, rfl, by decide, by decide, by decide +kernel⟩
theorem kf_X5_isEven : CV yX5_isEven RX5 cX5_isEven 6 (some .boolean) 5 := ⟨m_code_X5_isEven, m_inst_X5_isEven, m_sel_X5_isEven, m_ini_X5, rfl, by decide, by decide, by decide +kernel⟩
theorem kf_X5_isLevel : CV yX5_isLevel RX5 cX5_isLevel 5 (some .boolean) 4 := ⟨m_code_X5_isLevel, m_inst_X5_isLevel, m_sel_X5_isLevel, m_ini_X5, rfl, by decide, by decide, by decide +kernel⟩
theorem kf_X5_fares : CV yX5_fares RX5 cX5_fares 4 (some .int) 1 := ⟨m_code_X5_fares, m_inst_X5_fares, m_sel_X5_fares, m_ini_X5, rfl, by decide, by decide, by decide +kernel⟩
theorem kf_X5_leave : CV yX5_leave RX5 cX5_leave 5 (some .int) 0 := ⟨m_code_X5_leave, m_inst_X5_leave, m_sel_X5_leave, m_ini_X5, rfl, by decide, by decide, by decide +kernel⟩
theorem kf_X5_back : CV yX5_back RX5 cX5_back 3 (some .int) 0 := ⟨m_code_X5_back, m_inst_X5_back, m_sel_X5_back, m_ini_X5, rfl, by decide, by decide, by decide +kernel⟩
theorem kf_X5_left : CV yX5_left RX5 cX5_left 3 (some .int) 2 := ⟨m_code_X5_left, m_inst_X5_left, m_sel_X5_left, m_ini_X5, rfl, by decide, by decide, by decide +kernel⟩
theorem kf_X5_waiting : CV yX5_waiting RX5 cX5_waiting 1 (some .int) 0 := ⟨m_code_X5_waiting, m_inst_X5_waiting, m_sel_X5_waiting, m_ini_X5, rfl, by decide, by decide, by decide +kernel⟩
theorem kf_X5_laySets : CV yX5_laySets RX5 cX5_laySets 5 (some .boolean) 2 := ⟨m_code_X5_laySets, m_inst_X5_laySets, m_sel_X5_laySets, m_ini_X5, rfl, by decide, by decide, by decide +kernel⟩
theorem kf_X5_lacks : CV yX5_lacks RX5 cX5_lacks 9 (some .int) 2 := ⟨m_code_X5_lacks, m_inst_X5_lacks, m_sel_X5_lacks, m_ini_X5, rfl, by decide, by decide, by decide +kernel⟩
theorem kf_X5_layMakes : CV yX5_layMakes RX5 cX5_layMakes 4 none 1 := ⟨m_code_X5_layMakes, m_inst_X5_layMakes, m_sel_X5_layMakes, m_ini_X5, rfl, by decide, by decide, by decide +kernel⟩
theorem kf_X5_better : CV yX5_better RX5 cX5_better 5 none 2 := ⟨m_code_X5_better, m_inst_X5_better, m_sel_X5_better, m_ini_X5, rfl, by decide, by decide, by decide +kernel⟩
theorem kf_X5_layChoices : CV yX5_layChoices RX5 cX5_layChoices 4 none 1 := ⟨m_code_X5_layChoices, m_inst_X5_layChoices, m_sel_X5_layChoices, m_ini_X5, rfl, by decide, by decide, by decide +kernel⟩
theorem kf_X5_best : CV yX5_best RX5 cX5_best 1 (some .int) 0 := ⟨m_code_X5_best, m_inst_X5_best, m_sel_X5_best, m_ini_X5, rfl, by decide, by decide, by decide +kernel⟩
theorem kf_X5_bestAt : CV yX5_bestAt RX5 cX5_bestAt 3 (some .int) 1 := ⟨m_code_X5_bestAt, m_inst_X5_bestAt, m_sel_X5_bestAt, m_ini_X5, rfl, by decide, by decide, by decide +kernel⟩
theorem kf_X5_mostOf : CV yX5_mostOf RX5 cX5_mostOf 2 (some .int) 1 := ⟨m_code_X5_mostOf, m_inst_X5_mostOf, m_sel_X5_mostOf, m_ini_X5, rfl, by decide, by decide, by decide +kernel⟩
theorem kf_X5_worth : CV yX5_worth RX5 cX5_worth 2 (some .int) 1 := ⟨m_code_X5_worth, m_inst_X5_worth, m_sel_X5_worth, m_ini_X5, rfl, by decide, by decide, by decide +kernel⟩
theorem kf_X5_makes : CV yX5_makes RX5 cX5_makes 3 (some .int) 1 := ⟨m_code_X5_makes, m_inst_X5_makes, m_sel_X5_makes, m_ini_X5, rfl, by decide, by decide, by decide +kernel⟩
theorem kf_X5_bestMakes : CV yX5_bestMakes RX5 cX5_bestMakes 4 (some .int) 0 := ⟨m_code_X5_bestMakes, m_inst_X5_bestMakes, m_sel_X5_bestMakes, m_ini_X5, rfl, by decide, by decide, by decide +kernel⟩
theorem kf_X5_sets : CV yX5_sets RX5 cX5_sets 3 (some .int) 0 := ⟨m_code_X5_sets, m_inst_X5_sets, m_sel_X5_sets, m_ini_X5, rfl, by decide, by decide, by decide +kernel⟩
theorem kf_X5_layFewest : CV yX5_layFewest RX5 cX5_layFewest 4 none 0 := ⟨m_code_X5_layFewest, m_inst_X5_layFewest, m_sel_X5_layFewest, m_ini_X5, rfl, by decide, by decide, by decide +kernel⟩
theorem kf_X5_crossings : CV yX5_crossings RX5 cX5_crossings 4 (some .int) 1 := ⟨m_code_X5_crossings, m_inst_X5_crossings, m_sel_X5_crossings, m_ini_X5, rfl, by decide, by decide, by decide +kernel⟩
theorem kf_X5_all : CV yX5_all RX5 cX5_all 1 (some .int) 0 := ⟨m_code_X5_all, m_inst_X5_all, m_sel_X5_all, m_ini_X5, rfl, by decide, by decide, by decide +kernel⟩
theorem kf_X5_layRule : CV yX5_layRule RX5 cX5_layRule 7 none 0 := ⟨m_code_X5_layRule, m_inst_X5_layRule, m_sel_X5_layRule, m_ini_X5, rfl, by decide, by decide, by decide +kernel⟩
theorem kf_X5_rule : CV yX5_rule RX5 cX5_rule 1 (some .int) 0 := ⟨m_code_X5_rule, m_inst_X5_rule, m_sel_X5_rule, m_ini_X5, rfl, by decide, by decide, by decide +kernel⟩
theorem kf_X5_ruleAt : CV yX5_ruleAt RX5 cX5_ruleAt 3 (some .int) 1 := ⟨m_code_X5_ruleAt, m_inst_X5_ruleAt, m_sel_X5_ruleAt, m_ini_X5, rfl, by decide, by decide, by decide +kernel⟩
theorem kf_X5_claim : CV yX5_claim RX5 cX5_claim 4 (some .int) 2 := ⟨m_code_X5_claim, m_inst_X5_claim, m_sel_X5_claim, m_ini_X5, rfl, by decide, by decide, by decide +kernel⟩
theorem kf_X5_allFit : CV yX5_allFit RX5 cX5_allFit 3 (some .boolean) 0 := ⟨m_code_X5_allFit, m_inst_X5_allFit, m_sel_X5_allFit, m_ini_X5, rfl, by decide, by decide, by decide +kernel⟩
theorem kf_X5_fits : CV yX5_fits RX5 cX5_fits 1 (some .int) 0 := ⟨m_code_X5_fits, m_inst_X5_fits, m_sel_X5_fits, m_ini_X5, rfl, by decide, by decide, by decide +kernel⟩
theorem kf_X5_mayOf : CV yX5_mayOf RX5 cX5_mayOf 5 (some .int) 1 := ⟨m_code_X5_mayOf, m_inst_X5_mayOf, m_sel_X5_mayOf, m_ini_X5, rfl, by decide, by decide, by decide +kernel⟩
theorem kf_X5_liars : CV yX5_liars RX5 cX5_liars 3 (some .int) 0 := ⟨m_code_X5_liars, m_inst_X5_liars, m_sel_X5_liars, m_ini_X5, rfl, by decide, by decide, by decide +kernel⟩
theorem kf_X5_mayWeigh : CV yX5_mayWeigh RX5 cX5_mayWeigh 2 (some .int) 1 := ⟨m_code_X5_mayWeigh, m_inst_X5_mayWeigh, m_sel_X5_mayWeigh, m_ini_X5, rfl, by decide, by decide, by decide +kernel⟩
theorem kf_X5_keep : CV yX5_keep RX5 cX5_keep 3 (some .int) 1 := ⟨m_code_X5_keep, m_inst_X5_keep, m_sel_X5_keep, m_ini_X5, rfl, by decide, by decide, by decide +kernel⟩
theorem kf_X5_again : CV yX5_again RX5 cX5_again 3 (some .int) 1 := ⟨m_code_X5_again, m_inst_X5_again, m_sel_X5_again, m_ini_X5, rfl, by decide, by decide, by decide +kernel⟩
theorem kf_X5_count : CV yX5_count RX5 cX5_count 4 (some .int) 1 := ⟨m_code_X5_count, m_inst_X5_count, m_sel_X5_count, m_ini_X5, rfl, by decide, by decide, by decide +kernel⟩
theorem nst_X4_9 : (RX4, 9, yX3_init) ∈ nestT := by decide +kernel
theorem nst_X4_18 : (RX4, 18, yX0_init) ∈ nestT := by decide +kernel
theorem nst_X4_25 : (RX4, 25, yX1_init) ∈ nestT := by decide +kernel
theorem nst_X4_38 : (RX4, 38, yX2_init) ∈ nestT := by decide +kernel
theorem nst_X1_48 : (RX1, 48, yX4_endOf) ∈ nestT := by decide +kernel
theorem nst_X0_62 : (RX0, 62, yX4_sitters) ∈ nestT := by decide +kernel
theorem nst_X0_65 : (RX0, 65, yX4_poundsAfter) ∈ nestT := by decide +kernel
theorem nst_X1_45 : (RX1, 45, yX4_members) ∈ nestT := by decide +kernel
theorem nst_X2_132 : (RX2, 132, yX4_poundsAfter) ∈ nestT := by decide +kernel
theorem nst_X2_150 : (RX2, 150, yX4_members) ∈ nestT := by decide +kernel
