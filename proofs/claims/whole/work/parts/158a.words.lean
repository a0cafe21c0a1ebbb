theorem inC_0 : ∀ x ∈ u_ws RX0 TX0 1, x ∈ ws0 := by
  have h : (u_ws RX0 TX0 1).all (fun w => decide (w ∈ lw_tbl) && goodWord w) = true := by decide +kernel
  intro x hx
  have h1 := List.all_eq_true.mp h x hx
  simp only [Bool.and_eq_true, decide_eq_true_eq] at h1
  exact List.mem_filter.mpr h1
theorem inC_1 : ∀ x ∈ u_ws RX1 TX1 6, x ∈ ws0 := by
  have h : (u_ws RX1 TX1 6).all (fun w => decide (w ∈ lw_tbl) && goodWord w) = true := by decide +kernel
  intro x hx
  have h1 := List.all_eq_true.mp h x hx
  simp only [Bool.and_eq_true, decide_eq_true_eq] at h1
  exact List.mem_filter.mpr h1
theorem inC_2 : ∀ x ∈ u_ws RX2 TX2 7, x ∈ ws0 := by
  have h : (u_ws RX2 TX2 7).all (fun w => decide (w ∈ lw_tbl) && goodWord w) = true := by decide +kernel
  intro x hx
  have h1 := List.all_eq_true.mp h x hx
  simp only [Bool.and_eq_true, decide_eq_true_eq] at h1
  exact List.mem_filter.mpr h1
theorem inC_3 : ∀ x ∈ u_ws RX3 TX3 12, x ∈ ws0 := by
  have h : (u_ws RX3 TX3 12).all (fun w => decide (w ∈ lw_tbl) && goodWord w) = true := by decide +kernel
  intro x hx
  have h1 := List.all_eq_true.mp h x hx
  simp only [Bool.and_eq_true, decide_eq_true_eq] at h1
  exact List.mem_filter.mpr h1
theorem inC_4 : ∀ x ∈ u_ws RX4 TX4 4, x ∈ ws0 := by
  have h : (u_ws RX4 TX4 4).all (fun w => decide (w ∈ lw_tbl) && goodWord w) = true := by decide +kernel
  intro x hx
  have h1 := List.all_eq_true.mp h x hx
  simp only [Bool.and_eq_true, decide_eq_true_eq] at h1
  exact List.mem_filter.mpr h1
theorem inC_5 : ∀ x ∈ u_ws RX5 TX5 5, x ∈ ws0 := by
  have h : (u_ws RX5 TX5 5).all (fun w => decide (w ∈ lw_tbl) && goodWord w) = true := by decide +kernel
  intro x hx
  have h1 := List.all_eq_true.mp h x hx
  simp only [Bool.and_eq_true, decide_eq_true_eq] at h1
  exact List.mem_filter.mpr h1
theorem inC_6 : ∀ x ∈ u_ws RX6 TX6 7, x ∈ ws0 := by
  have h : (u_ws RX6 TX6 7).all (fun w => decide (w ∈ lw_tbl) && goodWord w) = true := by decide +kernel
  intro x hx
  have h1 := List.all_eq_true.mp h x hx
  simp only [Bool.and_eq_true, decide_eq_true_eq] at h1
  exact List.mem_filter.mpr h1
theorem inC_7 : ∀ x ∈ u_ws RX7 TX7 2, x ∈ ws0 := by
  have h : (u_ws RX7 TX7 2).all (fun w => decide (w ∈ lw_tbl) && goodWord w) = true := by decide +kernel
  intro x hx
  have h1 := List.all_eq_true.mp h x hx
  simp only [Bool.and_eq_true, decide_eq_true_eq] at h1
  exact List.mem_filter.mpr h1
theorem inC_8 : ∀ x ∈ u_ws RX8 TX8 5, x ∈ ws0 := by
  have h : (u_ws RX8 TX8 5).all (fun w => decide (w ∈ lw_tbl) && goodWord w) = true := by decide +kernel
  intro x hx
  have h1 := List.all_eq_true.mp h x hx
  simp only [Bool.and_eq_true, decide_eq_true_eq] at h1
  exact List.mem_filter.mpr h1
theorem inC_9 : ∀ x ∈ u_ws RX9 TX9 15, x ∈ ws0 := by
  have h : (u_ws RX9 TX9 15).all (fun w => decide (w ∈ lw_tbl) && goodWord w) = true := by decide +kernel
  intro x hx
  have h1 := List.all_eq_true.mp h x hx
  simp only [Bool.and_eq_true, decide_eq_true_eq] at h1
  exact List.mem_filter.mpr h1
theorem inC_10 : ∀ x ∈ u_ws RX10 TX10 20, x ∈ ws0 := by
  have h : (u_ws RX10 TX10 20).all (fun w => decide (w ∈ lw_tbl) && goodWord w) = true := by decide +kernel
  intro x hx
  have h1 := List.all_eq_true.mp h x hx
  simp only [Bool.and_eq_true, decide_eq_true_eq] at h1
  exact List.mem_filter.mpr h1
theorem inC_11 : ∀ x ∈ u_ws RX11 TX11 45, x ∈ ws0 := by
  have h : (u_ws RX11 TX11 45).all (fun w => decide (w ∈ lw_tbl) && goodWord w) = true := by decide +kernel
  intro x hx
  have h1 := List.all_eq_true.mp h x hx
  simp only [Bool.and_eq_true, decide_eq_true_eq] at h1
  exact List.mem_filter.mpr h1
def codesL : List Cond := [Cond.code yX7_size cX7_size 1 (some .int),
  Cond.code yX7_get cX7_get 2 (some .int),
  Cond.code yX10_isWithin cX10_isWithin 3 (some .boolean),
  Cond.code yX10_checkArgument cX10_checkArgument 1 none,
  Cond.code yX7_add cX7_add 2 (some .boolean),
  Cond.code yX10_checkLetter cX10_checkLetter 1 none,
  Cond.code yX10_isLetter cX10_isLetter 1 (some .boolean),
  Cond.code yX9_tell cX9_tell 6 none,
  Cond.code yX10_setCell cX10_setCell 3 none,
  Cond.code yX9_tellSplit cX9_tellSplit 4 none,
  Cond.code yX9_tellCapital cX9_tellCapital 4 none,
  Cond.code yX9_partnerOf cX9_partnerOf 2 (some .int),
  Cond.code yX10_cellOf cX10_cellOf 3 (some .int),
  Cond.code yX9_tellPartners cX9_tellPartners 3 none,
  Cond.code yX10_languageOf cX10_languageOf 3 (some (.object "LetterTables$Language")),
  Cond.code yX9_languageAt cX9_languageAt 2 (some (.object "LetterTables$Language")),
  Cond.code yX10_checkWeights cX10_checkWeights 3 none,
  Cond.code yX2_weighUnit cX2_weighUnit 5 none,
  Cond.code yX2_contractionOf cX2_contractionOf 4 (some .int),
  Cond.code yX2_addContraction cX2_addContraction 3 (some .int),
  Cond.code yX2_contractionCount cX2_contractionCount 1 (some .int),
  Cond.code yX10_isRange cX10_isRange 2 (some .boolean),
  Cond.code yX2_nextPlural cX2_nextPlural 1 (some (.object "LetterTables$PluralRule")),
  Cond.code yX6_tell cX6_tell 8 none,
  Cond.code yX2_countPlural cX2_countPlural 1 (some .int),
  Cond.code yX10_textOf cX10_textOf 2 (some (.object "LetterTables$Row")),
  Cond.code yX9_takeWord cX9_takeWord 2 (some .boolean),
  Cond.code yX7_takeOver cX7_takeOver 3 none,
  Cond.code yX9_wordCount cX9_wordCount 1 (some .int),
  Cond.code yX9_nextRule cX9_nextRule 1 (some (.object "LetterTables$Rule")),
  Cond.code yX8_tell cX8_tell 6 none,
  Cond.code yX9_countRule cX9_countRule 1 (some .int),
  Cond.code yX9_copyFrom cX9_copyFrom 3 none,
  Cond.code yX10_copyCells cX10_copyCells 3 none,
  Cond.code yX2_copyFrom cX2_copyFrom 3 none,
  Cond.code yX6_copyFrom cX6_copyFrom 2 none,
  Cond.code yX8_copyFrom cX8_copyFrom 2 none,
  Cond.code yX7_cutTo cX7_cutTo 2 none,
  Cond.code yX10_checkPlace cX10_checkPlace 2 none,
  Cond.code yX1_formInto cX1_formInto 4 (some .boolean),
  Cond.code yX1_splitInto cX1_splitInto 5 (some .boolean),
  Cond.code yX1_splitLetter cX1_splitLetter 8 (some .int),
  Cond.code yX7_removeLast cX7_removeLast 2 (some .int),
  Cond.code yX9_splitOneOf cX9_splitOneOf 2 (some .int),
  Cond.code yX9_splitOtherOf cX9_splitOtherOf 2 (some .int),
  Cond.code yX1_sortMarks cX1_sortMarks 6 none,
  Cond.code yX9_joinsOf cX9_joinsOf 2 (some .int),
  Cond.code yX7_set cX7_set 3 none,
  Cond.code yX1_joinInto cX1_joinInto 8 (some .boolean),
  Cond.code yX1_startFor cX1_startFor 6 (some .int),
  Cond.code yX9_joinedOf cX9_joinedOf 4 (some .int),
  Cond.code yX1_foldInto cX1_foldInto 5 (some .boolean),
  Cond.code yX1_capitalInto cX1_capitalInto 5 none,
  Cond.code yX9_capitalOneOf cX9_capitalOneOf 2 (some .int),
  Cond.code yX9_capitalOtherOf cX9_capitalOtherOf 2 (some .int),
  Cond.code yX1_addUnmarked cX1_addUnmarked 4 none,
  Cond.code yX1_skeletonInto cX1_skeletonInto 4 (some .boolean),
  Cond.code yX9_likeOf cX9_likeOf 2 (some .int),
  Cond.code yX10_checkForm cX10_checkForm 1 none,
  Cond.code yX7_isLike cX7_isLike 2 (some .boolean),
  Cond.code yX7_holds cX7_holds 4 (some .boolean),
  Cond.code yX3_baseFrom cX3_baseFrom 7 (some .int),
  Cond.code yX9_directionOf cX9_directionOf 2 (some .int),
  Cond.code yX3_isIsolate cX3_isIsolate 1 (some .boolean),
  Cond.code yX3_lookAt cX3_lookAt 5 none,
  Cond.code yX3_layFrames cX3_layFrames 6 none,
  Cond.code yX3_addFrame cX3_addFrame 4 (some .int),
  Cond.code yX3_aroundIsolate cX3_aroundIsolate 4 (some .int),
  Cond.code yX3_isEmbed cX3_isEmbed 1 (some .boolean),
  Cond.code yX3_levelWithin cX3_levelWithin 8 (some .int),
  Cond.code yX3_wayOf cX3_wayOf 1 (some .int),
  Cond.code yX7_refill cX7_refill 4 none,
  Cond.code yX3_gather cX3_gather 5 none,
  Cond.code yX3_settleNumbers cX3_settleNumbers 5 none,
  Cond.code yX3_settlePartners cX3_settlePartners 5 none,
  Cond.code yX3_matchPartners cX3_matchPartners 3 none,
  Cond.code yX9_isOpening cX9_isOpening 2 (some .boolean),
  Cond.code yX9_isClosing cX9_isClosing 2 (some .boolean),
  Cond.code yX3_closeLast cX3_closeLast 4 none,
  Cond.code yX3_pairWay cX3_pairWay 8 (some .int),
  Cond.code yX3_plainWay cX3_plainWay 3 (some .int),
  Cond.code yX3_wayAhead cX3_wayAhead 4 (some .int),
  Cond.code yX3_settleRest cX3_settleRest 4 none,
  Cond.code yX3_wayBehind cX3_wayBehind 4 (some .int),
  Cond.code yX3_tellLevels cX3_tellLevels 6 none,
  Cond.code yX3_levelAt cX3_levelAt 2 (some .int),
  Cond.code yX3_screen cX3_screen 3 (some (.object "LetterTables$Row")),
  Cond.code yX3_turnRows cX3_turnRows 5 none,
  Cond.code yX7_turn cX7_turn 6 none,
  Cond.code yX0_clusterBreaks cX0_clusterBreaks 5 (some .long),
  Cond.code yX0_kindAt cX0_kindAt 3 (some .int),
  Cond.code yX9_kindOf cX9_kindOf 2 (some .int),
  Cond.code yX7_placeOf cX7_placeOf 3 (some .int),
  Cond.code yX0_isBeginning cX0_isBeginning 3 (some .boolean),
  Cond.code yX0_isMarked cX0_isMarked 3 (some .boolean),
  Cond.code yX0_wordBreaks cX0_wordBreaks 14 (some .long),
  Cond.code yX0_seamlessEnds cX0_seamlessEnds 9 (some .long),
  Cond.code yX0_clusterEnd cX0_clusterEnd 6 (some .int),
  Cond.code yX0_wordEnd cX0_wordEnd 11 (some .int),
  Cond.code yX0_seamlessLimit cX0_seamlessLimit 6 (some .int),
  Cond.code yX9_wordAt cX9_wordAt 2 (some (.object "LetterTables$Row")),
  Cond.code yX0_isWordBreak cX0_isWordBreak 4 (some .boolean),
  Cond.code yX0_isLineBreak cX0_isLineBreak 2 (some .boolean),
  Cond.code yX2_unitsInto cX2_unitsInto 5 none,
  Cond.code yX2_orderOf cX2_orderOf 9 (some .int),
  Cond.code yX2_nextWeighing cX2_nextWeighing 5 (some .int),
  Cond.code yX2_weightOf cX2_weightOf 3 (some .int),
  Cond.code yX2_keyInto cX2_keyInto 6 none,
  Cond.code yX10_endOfFound cX10_endOfFound 9 (some .int),
  Cond.code yX1_foldedEnd cX1_foldedEnd 2 (some .int),
  Cond.code yX5_read cX5_read 3 (some .boolean),
  Cond.code yX5_readPiece cX5_readPiece 6 (some .boolean),
  Cond.code yX5_readSet cX5_readSet 5 (some .int),
  Cond.code yX5_readLetter cX5_readLetter 5 (some .int),
  Cond.code yX5_setOf cX5_setOf 1 (some .int),
  Cond.code yX5_size cX5_size 1 (some .int),
  Cond.code yX5_endFrom cX5_endFrom 7 (some .int),
  Cond.code yX9_capitalsInto cX9_capitalsInto 5 none,
  Cond.code yX5_withSkips cX5_withSkips 4 (some .int),
  Cond.code yX5_statesBehind cX5_statesBehind 7 (some .int),
  Cond.code yX5_isTaken cX5_isTaken 6 (some .boolean),
  Cond.code yX5_isInSet cX5_isInSet 7 (some .boolean),
  Cond.code yX9_passInto cX9_passInto 9 (some .boolean),
  Cond.code yX9_fittingRule cX9_fittingRule 7 (some (.object "LetterTables$Rule")),
  Cond.code yX8_fits cX8_fits 7 (some .boolean),
  Cond.code yX8_sourceOf cX8_sourceOf 2 (some (.object "LetterTables$Row")),
  Cond.code yX8_putTarget cX8_putTarget 5 (some .boolean),
  Cond.code yX10_isNumber cX10_isNumber 1 (some .boolean),
  Cond.code yX2_classFor cX2_classFor 3 (some .int),
  Cond.code yX6_fits cX6_fits 3 (some .boolean),
  Cond.code yX6_remainder cX6_remainder 2 (some .int),
  Cond.code yX6_classTold cX6_classTold 1 (some .int),
  Cond.code yX4_begin cX4_begin 1 none,
  Cond.code yX4_tellNumber cX4_tellNumber 3 none,
  Cond.code yX4_readAll cX4_readAll 1 (some .boolean),
  Cond.code yX4_readPieces cX4_readPieces 7 (some .int),
  Cond.code yX4_readBraces cX4_readBraces 6 (some .int),
  Cond.code yX4_digitAt cX4_digitAt 3 (some .int),
  Cond.code yX4_putNumber cX4_putNumber 6 none,
  Cond.code yX4_putByte cX4_putByte 3 none,
  Cond.code yX4_readCases cX4_readCases 11 (some .int),
  Cond.code yX4_keyEnd cX4_keyEnd 2 (some .int),
  Cond.code yX4_isFitting cX4_isFitting 3 (some .boolean),
  Cond.code yX4_result cX4_result 1 (some (.object "LetterTables$Row")),
  Cond.code yX10_decodeInto cX10_decodeInto 8 (some .int),
  Cond.code yX11_in cX11_in 3 (some .boolean),
  Cond.code yX11_holds cX11_holds 2 (some .boolean),
  Cond.code yX11_isLetter cX11_isLetter 1 (some .boolean),
  Cond.code yX11_of cX11_of 3 (some .int),
  Cond.code yX11_isLanguage cX11_isLanguage 1 (some .boolean),
  Cond.code yX11_areWeights cX11_areWeights 3 (some .boolean),
  Cond.code yX11_weighs cX11_weighs 5 none,
  Cond.code yX11_contraction cX11_contraction 7 (some .int),
  Cond.code yX11_isSlot cX11_isSlot 1 (some .boolean),
  Cond.code yX11_letterAt cX11_letterAt 3 (some .int),
  Cond.code yX11_lays cX11_lays 5 none,
  Cond.code yX11_formed cX11_formed 3 (some .boolean),
  Cond.code yX11_loads cX11_loads 5 none,
  Cond.code yX11_forms cX11_forms 3 none,
  Cond.code yX11_folds cX11_folds 4 none,
  Cond.code yX11_doubles cX11_doubles 5 none,
  Cond.code yX11_splitsAll cX11_splitsAll 6 none,
  Cond.code yX11_joinsAll cX11_joinsAll 5 none,
  Cond.code yX11_joined cX11_joined 4 (some .int),
  Cond.code yX11_takesOut cX11_takesOut 3 none,
  Cond.code yX11_putsAside cX11_putsAside 2 none,
  Cond.code yX11_isAside cX11_isAside 3 (some .boolean),
  Cond.code yX11_closesIsolates cX11_closesIsolates 5 none,
  Cond.code yX11_directionAt cX11_directionAt 3 (some .int),
  Cond.code yX11_baseOf cX11_baseOf 6 (some .int),
  Cond.code yX11_isPlace cX11_isPlace 3 (some .boolean),
  Cond.code yX11_laysLevels cX11_laysLevels 8 none,
  Cond.code yX11_laysFrames cX11_laysFrames 7 none,
  Cond.code yX11_begins cX11_begins 6 (some .int),
  Cond.code yX11_laysNumbers cX11_laysNumbers 9 none,
  Cond.code yX11_laysPartners cX11_laysPartners 8 none,
  Cond.code yX11_settlesPartners cX11_settlesPartners 9 none,
  Cond.code yX11_goes cX11_goes 2 (some .int),
  Cond.code yX11_settlesOthers cX11_settlesOthers 7 none,
  Cond.code yX11_laysOrder cX11_laysOrder 8 none,
  Cond.code yX11_isCluster cX11_isCluster 3 (some .boolean),
  Cond.code yX11_kindAt cX11_kindAt 3 (some .int),
  Cond.code yX11_laysWords cX11_laysWords 5 none,
  Cond.code yX11_wordEnd cX11_wordEnd 8 (some .int),
  Cond.code yX11_isWordAt cX11_isWordAt 7 (some .boolean),
  Cond.code yX11_isEdge cX11_isEdge 3 (some .boolean),
  Cond.code yX11_isBreak cX11_isBreak 9 (some .boolean),
  Cond.code yX11_clusterAhead cX11_clusterAhead 4 (some .int),
  Cond.code yX11_keyed cX11_keyed 7 (some .boolean),
  Cond.code yX11_compares cX11_compares 3 (some .int),
  Cond.code yX11_finds cX11_finds 5 (some .int),
  Cond.code yX11_readsPattern cX11_readsPattern 7 (some .int),
  Cond.code yX11_taping cX11_taping 1 (some .int),
  Cond.code yX11_readsSet cX11_readsSet 7 (some .int),
  Cond.code yX11_matches cX11_matches 6 (some .int),
  Cond.code yX11_takes cX11_takes 4 (some .boolean),
  Cond.code yX11_hasLetter cX11_hasLetter 6 (some .boolean),
  Cond.code yX11_isCapital cX11_isCapital 4 (some .boolean),
  Cond.code yX11_transliterated cX11_transliterated 3 (some .boolean),
  Cond.code yX11_passes cX11_passes 7 (some .boolean),
  Cond.code yX11_ruleFor cX11_ruleFor 8 (some .int),
  Cond.code yX11_stand cX11_stand 8 (some .boolean),
  Cond.code yX11_classFor cX11_classFor 6 (some .int),
  Cond.code yX11_readsMessage cX11_readsMessage 7 (some .boolean),
  Cond.code yX11_readsCase cX11_readsCase 8 (some .boolean),
  Cond.code yX11_isHeard cX11_isHeard 4 (some .boolean),
  Cond.code yX11_putsNumber cX11_putsNumber 3 none,
  Cond.code yX11_puts cX11_puts 2 none,
  Cond.code yX11_decodes cX11_decodes 8 (some .int)]
set_option maxRecDepth 100000 in
theorem codesL_in : GoodIn lw_tbl codesL := goodIn_p codesL [489, 493, 505, 508, 597, 608, 611, 631, 634, 645, 656, 667, 670, 675, 686, 690, 694, 698, 710, 716, 722, 732, 736, 741, 745, 756, 761, 765, 772, 783, 788, 793, 805, 808, 812, 818, 823, 851, 861, 873, 877, 884, 889, 894, 898, 902, 906, 910, 914, 918, 922, 928, 932, 936, 940, 944, 948, 952, 955, 969, 973, 984, 990, 993, 1004, 1009, 1014, 1019, 1022, 1026, 1029, 1033, 1037, 1041, 1046, 1050, 1054, 1059, 1064, 1068, 1072, 1076, 1080, 1084, 1088, 1092, 1103, 1107, 1111, 1123, 1128, 1133, 1137, 1140, 1143, 1154, 1159, 1163, 1167, 1171, 1176, 1180, 1183, 1202, 1208, 1212, 1216, 1228, 1240, 1244, 1256, 1262, 1267, 1271, 1276, 1282, 1294, 1298, 1306, 1310, 1314, 1318, 1330, 1336, 1340, 1344, 1352, 1366, 1371, 1375, 1378, 1383, 1394, 1399, 1404, 1408, 1413, 1417, 1422, 1427, 1431, 1435, 1439, 1445, 1463, 1618, 1622, 1630, 1646, 1653, 1656, 1660, 1668, 1679, 1683, 1691, 1719, 1723, 1727, 1731, 1735, 1739, 1743, 1747, 1751, 1759, 1763, 1771, 1775, 1779, 1787, 1791, 1795, 1799, 1803, 1807, 1811, 1815, 1819, 1827, 1835, 1839, 1847, 1851, 1855, 1859, 1863, 1867, 1879, 1883, 1895, 1903, 1907, 1911, 1919, 1923, 1927, 1931, 1939, 1943, 1947, 1951, 1960, 1968, 1972, 1976, 1980, 1984, 2000] rfl (by decide +kernel)
theorem codesL_at {w : Cond} (i : Nat) (h : codesL[i]? = some w) (g : goodWord w = true) : w ∈ ws0 := List.mem_filter.mpr ⟨(codesL_in w (List.mem_of_getElem? h)).1, g⟩
set_option maxRecDepth 20000 in
theorem wd_489 : Cond.code yX7_size cX7_size 1 (some .int) ∈ ws0 := codesL_at 0 rfl (by decide +kernel)
set_option maxRecDepth 20000 in
theorem wd_493 : Cond.code yX7_get cX7_get 2 (some .int) ∈ ws0 := codesL_at 1 rfl (by decide +kernel)
set_option maxRecDepth 20000 in
theorem wd_505 : Cond.code yX10_isWithin cX10_isWithin 3 (some .boolean) ∈ ws0 := codesL_at 2 rfl (by decide +kernel)
set_option maxRecDepth 20000 in
theorem wd_508 : Cond.code yX10_checkArgument cX10_checkArgument 1 none ∈ ws0 := codesL_at 3 rfl (by decide +kernel)
set_option maxRecDepth 20000 in
theorem wd_597 : Cond.code yX7_add cX7_add 2 (some .boolean) ∈ ws0 := codesL_at 4 rfl (by decide +kernel)
set_option maxRecDepth 20000 in
theorem wd_608 : Cond.code yX10_checkLetter cX10_checkLetter 1 none ∈ ws0 := codesL_at 5 rfl (by decide +kernel)
set_option maxRecDepth 20000 in
theorem wd_611 : Cond.code yX10_isLetter cX10_isLetter 1 (some .boolean) ∈ ws0 := codesL_at 6 rfl (by decide +kernel)
set_option maxRecDepth 20000 in
theorem wd_631 : Cond.code yX9_tell cX9_tell 6 none ∈ ws0 := codesL_at 7 rfl (by decide +kernel)
set_option maxRecDepth 20000 in
theorem wd_634 : Cond.code yX10_setCell cX10_setCell 3 none ∈ ws0 := codesL_at 8 rfl (by decide +kernel)
set_option maxRecDepth 20000 in
theorem wd_645 : Cond.code yX9_tellSplit cX9_tellSplit 4 none ∈ ws0 := codesL_at 9 rfl (by decide +kernel)
set_option maxRecDepth 20000 in
theorem wd_656 : Cond.code yX9_tellCapital cX9_tellCapital 4 none ∈ ws0 := codesL_at 10 rfl (by decide +kernel)
set_option maxRecDepth 20000 in
theorem wd_667 : Cond.code yX9_partnerOf cX9_partnerOf 2 (some .int) ∈ ws0 := codesL_at 11 rfl (by decide +kernel)
set_option maxRecDepth 20000 in
theorem wd_670 : Cond.code yX10_cellOf cX10_cellOf 3 (some .int) ∈ ws0 := codesL_at 12 rfl (by decide +kernel)
set_option maxRecDepth 20000 in
theorem wd_675 : Cond.code yX9_tellPartners cX9_tellPartners 3 none ∈ ws0 := codesL_at 13 rfl (by decide +kernel)
set_option maxRecDepth 20000 in
theorem wd_686 : Cond.code yX10_languageOf cX10_languageOf 3 (some (.object "LetterTables$Language")) ∈ ws0 := codesL_at 14 rfl (by decide +kernel)
set_option maxRecDepth 20000 in
theorem wd_690 : Cond.code yX9_languageAt cX9_languageAt 2 (some (.object "LetterTables$Language")) ∈ ws0 := codesL_at 15 rfl (by decide +kernel)
set_option maxRecDepth 20000 in
theorem wd_694 : Cond.code yX10_checkWeights cX10_checkWeights 3 none ∈ ws0 := codesL_at 16 rfl (by decide +kernel)
set_option maxRecDepth 20000 in
theorem wd_698 : Cond.code yX2_weighUnit cX2_weighUnit 5 none ∈ ws0 := codesL_at 17 rfl (by decide +kernel)
set_option maxRecDepth 20000 in
theorem wd_710 : Cond.code yX2_contractionOf cX2_contractionOf 4 (some .int) ∈ ws0 := codesL_at 18 rfl (by decide +kernel)
set_option maxRecDepth 20000 in
theorem wd_716 : Cond.code yX2_addContraction cX2_addContraction 3 (some .int) ∈ ws0 := codesL_at 19 rfl (by decide +kernel)
set_option maxRecDepth 20000 in
theorem wd_722 : Cond.code yX2_contractionCount cX2_contractionCount 1 (some .int) ∈ ws0 := codesL_at 20 rfl (by decide +kernel)
set_option maxRecDepth 20000 in
theorem wd_732 : Cond.code yX10_isRange cX10_isRange 2 (some .boolean) ∈ ws0 := codesL_at 21 rfl (by decide +kernel)
set_option maxRecDepth 20000 in
theorem wd_736 : Cond.code yX2_nextPlural cX2_nextPlural 1 (some (.object "LetterTables$PluralRule")) ∈ ws0 := codesL_at 22 rfl (by decide +kernel)
set_option maxRecDepth 20000 in
theorem wd_741 : Cond.code yX6_tell cX6_tell 8 none ∈ ws0 := codesL_at 23 rfl (by decide +kernel)
set_option maxRecDepth 20000 in
theorem wd_745 : Cond.code yX2_countPlural cX2_countPlural 1 (some .int) ∈ ws0 := codesL_at 24 rfl (by decide +kernel)
set_option maxRecDepth 20000 in
theorem wd_756 : Cond.code yX10_textOf cX10_textOf 2 (some (.object "LetterTables$Row")) ∈ ws0 := codesL_at 25 rfl (by decide +kernel)
set_option maxRecDepth 20000 in
theorem wd_761 : Cond.code yX9_takeWord cX9_takeWord 2 (some .boolean) ∈ ws0 := codesL_at 26 rfl (by decide +kernel)
set_option maxRecDepth 20000 in
theorem wd_765 : Cond.code yX7_takeOver cX7_takeOver 3 none ∈ ws0 := codesL_at 27 rfl (by decide +kernel)
set_option maxRecDepth 20000 in
theorem wd_772 : Cond.code yX9_wordCount cX9_wordCount 1 (some .int) ∈ ws0 := codesL_at 28 rfl (by decide +kernel)
set_option maxRecDepth 20000 in
theorem wd_783 : Cond.code yX9_nextRule cX9_nextRule 1 (some (.object "LetterTables$Rule")) ∈ ws0 := codesL_at 29 rfl (by decide +kernel)
set_option maxRecDepth 20000 in
theorem wd_788 : Cond.code yX8_tell cX8_tell 6 none ∈ ws0 := codesL_at 30 rfl (by decide +kernel)
set_option maxRecDepth 20000 in
theorem wd_793 : Cond.code yX9_countRule cX9_countRule 1 (some .int) ∈ ws0 := codesL_at 31 rfl (by decide +kernel)
set_option maxRecDepth 20000 in
theorem wd_805 : Cond.code yX9_copyFrom cX9_copyFrom 3 none ∈ ws0 := codesL_at 32 rfl (by decide +kernel)
set_option maxRecDepth 20000 in
theorem wd_808 : Cond.code yX10_copyCells cX10_copyCells 3 none ∈ ws0 := codesL_at 33 rfl (by decide +kernel)
set_option maxRecDepth 20000 in
theorem wd_812 : Cond.code yX2_copyFrom cX2_copyFrom 3 none ∈ ws0 := codesL_at 34 rfl (by decide +kernel)
set_option maxRecDepth 20000 in
theorem wd_818 : Cond.code yX6_copyFrom cX6_copyFrom 2 none ∈ ws0 := codesL_at 35 rfl (by decide +kernel)
set_option maxRecDepth 20000 in
theorem wd_823 : Cond.code yX8_copyFrom cX8_copyFrom 2 none ∈ ws0 := codesL_at 36 rfl (by decide +kernel)
set_option maxRecDepth 20000 in
theorem wd_851 : Cond.code yX7_cutTo cX7_cutTo 2 none ∈ ws0 := codesL_at 37 rfl (by decide +kernel)
set_option maxRecDepth 20000 in
theorem wd_861 : Cond.code yX10_checkPlace cX10_checkPlace 2 none ∈ ws0 := codesL_at 38 rfl (by decide +kernel)
set_option maxRecDepth 20000 in
theorem wd_873 : Cond.code yX1_formInto cX1_formInto 4 (some .boolean) ∈ ws0 := codesL_at 39 rfl (by decide +kernel)
set_option maxRecDepth 20000 in
theorem wd_877 : Cond.code yX1_splitInto cX1_splitInto 5 (some .boolean) ∈ ws0 := codesL_at 40 rfl (by decide +kernel)
set_option maxRecDepth 20000 in
theorem wd_884 : Cond.code yX1_splitLetter cX1_splitLetter 8 (some .int) ∈ ws0 := codesL_at 41 rfl (by decide +kernel)
set_option maxRecDepth 20000 in
theorem wd_889 : Cond.code yX7_removeLast cX7_removeLast 2 (some .int) ∈ ws0 := codesL_at 42 rfl (by decide +kernel)
set_option maxRecDepth 20000 in
theorem wd_894 : Cond.code yX9_splitOneOf cX9_splitOneOf 2 (some .int) ∈ ws0 := codesL_at 43 rfl (by decide +kernel)
set_option maxRecDepth 20000 in
theorem wd_898 : Cond.code yX9_splitOtherOf cX9_splitOtherOf 2 (some .int) ∈ ws0 := codesL_at 44 rfl (by decide +kernel)
set_option maxRecDepth 20000 in
theorem wd_902 : Cond.code yX1_sortMarks cX1_sortMarks 6 none ∈ ws0 := codesL_at 45 rfl (by decide +kernel)
set_option maxRecDepth 20000 in
theorem wd_906 : Cond.code yX9_joinsOf cX9_joinsOf 2 (some .int) ∈ ws0 := codesL_at 46 rfl (by decide +kernel)
set_option maxRecDepth 20000 in
theorem wd_910 : Cond.code yX7_set cX7_set 3 none ∈ ws0 := codesL_at 47 rfl (by decide +kernel)
set_option maxRecDepth 20000 in
theorem wd_914 : Cond.code yX1_joinInto cX1_joinInto 8 (some .boolean) ∈ ws0 := codesL_at 48 rfl (by decide +kernel)
set_option maxRecDepth 20000 in
theorem wd_918 : Cond.code yX1_startFor cX1_startFor 6 (some .int) ∈ ws0 := codesL_at 49 rfl (by decide +kernel)
set_option maxRecDepth 20000 in
theorem wd_922 : Cond.code yX9_joinedOf cX9_joinedOf 4 (some .int) ∈ ws0 := codesL_at 50 rfl (by decide +kernel)
set_option maxRecDepth 20000 in
theorem wd_928 : Cond.code yX1_foldInto cX1_foldInto 5 (some .boolean) ∈ ws0 := codesL_at 51 rfl (by decide +kernel)
set_option maxRecDepth 20000 in
theorem wd_932 : Cond.code yX1_capitalInto cX1_capitalInto 5 none ∈ ws0 := codesL_at 52 rfl (by decide +kernel)
set_option maxRecDepth 20000 in
theorem wd_936 : Cond.code yX9_capitalOneOf cX9_capitalOneOf 2 (some .int) ∈ ws0 := codesL_at 53 rfl (by decide +kernel)
set_option maxRecDepth 20000 in
theorem wd_940 : Cond.code yX9_capitalOtherOf cX9_capitalOtherOf 2 (some .int) ∈ ws0 := codesL_at 54 rfl (by decide +kernel)
set_option maxRecDepth 20000 in
theorem wd_944 : Cond.code yX1_addUnmarked cX1_addUnmarked 4 none ∈ ws0 := codesL_at 55 rfl (by decide +kernel)
set_option maxRecDepth 20000 in
theorem wd_948 : Cond.code yX1_skeletonInto cX1_skeletonInto 4 (some .boolean) ∈ ws0 := codesL_at 56 rfl (by decide +kernel)
set_option maxRecDepth 20000 in
theorem wd_952 : Cond.code yX9_likeOf cX9_likeOf 2 (some .int) ∈ ws0 := codesL_at 57 rfl (by decide +kernel)
set_option maxRecDepth 20000 in
theorem wd_955 : Cond.code yX10_checkForm cX10_checkForm 1 none ∈ ws0 := codesL_at 58 rfl (by decide +kernel)
set_option maxRecDepth 20000 in
theorem wd_969 : Cond.code yX7_isLike cX7_isLike 2 (some .boolean) ∈ ws0 := codesL_at 59 rfl (by decide +kernel)
set_option maxRecDepth 20000 in
theorem wd_973 : Cond.code yX7_holds cX7_holds 4 (some .boolean) ∈ ws0 := codesL_at 60 rfl (by decide +kernel)
set_option maxRecDepth 20000 in
theorem wd_984 : Cond.code yX3_baseFrom cX3_baseFrom 7 (some .int) ∈ ws0 := codesL_at 61 rfl (by decide +kernel)
set_option maxRecDepth 20000 in
theorem wd_990 : Cond.code yX9_directionOf cX9_directionOf 2 (some .int) ∈ ws0 := codesL_at 62 rfl (by decide +kernel)
set_option maxRecDepth 20000 in
theorem wd_993 : Cond.code yX3_isIsolate cX3_isIsolate 1 (some .boolean) ∈ ws0 := codesL_at 63 rfl (by decide +kernel)
set_option maxRecDepth 20000 in
theorem wd_1004 : Cond.code yX3_lookAt cX3_lookAt 5 none ∈ ws0 := codesL_at 64 rfl (by decide +kernel)
set_option maxRecDepth 20000 in
theorem wd_1009 : Cond.code yX3_layFrames cX3_layFrames 6 none ∈ ws0 := codesL_at 65 rfl (by decide +kernel)
set_option maxRecDepth 20000 in
theorem wd_1014 : Cond.code yX3_addFrame cX3_addFrame 4 (some .int) ∈ ws0 := codesL_at 66 rfl (by decide +kernel)
set_option maxRecDepth 20000 in
theorem wd_1019 : Cond.code yX3_aroundIsolate cX3_aroundIsolate 4 (some .int) ∈ ws0 := codesL_at 67 rfl (by decide +kernel)
set_option maxRecDepth 20000 in
theorem wd_1022 : Cond.code yX3_isEmbed cX3_isEmbed 1 (some .boolean) ∈ ws0 := codesL_at 68 rfl (by decide +kernel)
set_option maxRecDepth 20000 in
theorem wd_1026 : Cond.code yX3_levelWithin cX3_levelWithin 8 (some .int) ∈ ws0 := codesL_at 69 rfl (by decide +kernel)
set_option maxRecDepth 20000 in
theorem wd_1029 : Cond.code yX3_wayOf cX3_wayOf 1 (some .int) ∈ ws0 := codesL_at 70 rfl (by decide +kernel)
set_option maxRecDepth 20000 in
theorem wd_1033 : Cond.code yX7_refill cX7_refill 4 none ∈ ws0 := codesL_at 71 rfl (by decide +kernel)
set_option maxRecDepth 20000 in
theorem wd_1037 : Cond.code yX3_gather cX3_gather 5 none ∈ ws0 := codesL_at 72 rfl (by decide +kernel)
set_option maxRecDepth 20000 in
theorem wd_1041 : Cond.code yX3_settleNumbers cX3_settleNumbers 5 none ∈ ws0 := codesL_at 73 rfl (by decide +kernel)
set_option maxRecDepth 20000 in
theorem wd_1046 : Cond.code yX3_settlePartners cX3_settlePartners 5 none ∈ ws0 := codesL_at 74 rfl (by decide +kernel)
set_option maxRecDepth 20000 in
theorem wd_1050 : Cond.code yX3_matchPartners cX3_matchPartners 3 none ∈ ws0 := codesL_at 75 rfl (by decide +kernel)
set_option maxRecDepth 20000 in
theorem wd_1054 : Cond.code yX9_isOpening cX9_isOpening 2 (some .boolean) ∈ ws0 := codesL_at 76 rfl (by decide +kernel)
set_option maxRecDepth 20000 in
theorem wd_1059 : Cond.code yX9_isClosing cX9_isClosing 2 (some .boolean) ∈ ws0 := codesL_at 77 rfl (by decide +kernel)
set_option maxRecDepth 20000 in
theorem wd_1064 : Cond.code yX3_closeLast cX3_closeLast 4 none ∈ ws0 := codesL_at 78 rfl (by decide +kernel)
set_option maxRecDepth 20000 in
theorem wd_1068 : Cond.code yX3_pairWay cX3_pairWay 8 (some .int) ∈ ws0 := codesL_at 79 rfl (by decide +kernel)
set_option maxRecDepth 20000 in
theorem wd_1072 : Cond.code yX3_plainWay cX3_plainWay 3 (some .int) ∈ ws0 := codesL_at 80 rfl (by decide +kernel)
set_option maxRecDepth 20000 in
theorem wd_1076 : Cond.code yX3_wayAhead cX3_wayAhead 4 (some .int) ∈ ws0 := codesL_at 81 rfl (by decide +kernel)
set_option maxRecDepth 20000 in
theorem wd_1080 : Cond.code yX3_settleRest cX3_settleRest 4 none ∈ ws0 := codesL_at 82 rfl (by decide +kernel)
set_option maxRecDepth 20000 in
theorem wd_1084 : Cond.code yX3_wayBehind cX3_wayBehind 4 (some .int) ∈ ws0 := codesL_at 83 rfl (by decide +kernel)
set_option maxRecDepth 20000 in
theorem wd_1088 : Cond.code yX3_tellLevels cX3_tellLevels 6 none ∈ ws0 := codesL_at 84 rfl (by decide +kernel)
set_option maxRecDepth 20000 in
theorem wd_1092 : Cond.code yX3_levelAt cX3_levelAt 2 (some .int) ∈ ws0 := codesL_at 85 rfl (by decide +kernel)
set_option maxRecDepth 20000 in
theorem wd_1103 : Cond.code yX3_screen cX3_screen 3 (some (.object "LetterTables$Row")) ∈ ws0 := codesL_at 86 rfl (by decide +kernel)
set_option maxRecDepth 20000 in
theorem wd_1107 : Cond.code yX3_turnRows cX3_turnRows 5 none ∈ ws0 := codesL_at 87 rfl (by decide +kernel)
set_option maxRecDepth 20000 in
theorem wd_1111 : Cond.code yX7_turn cX7_turn 6 none ∈ ws0 := codesL_at 88 rfl (by decide +kernel)
set_option maxRecDepth 20000 in
theorem wd_1123 : Cond.code yX0_clusterBreaks cX0_clusterBreaks 5 (some .long) ∈ ws0 := codesL_at 89 rfl (by decide +kernel)
set_option maxRecDepth 20000 in
theorem wd_1128 : Cond.code yX0_kindAt cX0_kindAt 3 (some .int) ∈ ws0 := codesL_at 90 rfl (by decide +kernel)
set_option maxRecDepth 20000 in
theorem wd_1133 : Cond.code yX9_kindOf cX9_kindOf 2 (some .int) ∈ ws0 := codesL_at 91 rfl (by decide +kernel)
set_option maxRecDepth 20000 in
theorem wd_1137 : Cond.code yX7_placeOf cX7_placeOf 3 (some .int) ∈ ws0 := codesL_at 92 rfl (by decide +kernel)
set_option maxRecDepth 20000 in
theorem wd_1140 : Cond.code yX0_isBeginning cX0_isBeginning 3 (some .boolean) ∈ ws0 := codesL_at 93 rfl (by decide +kernel)
set_option maxRecDepth 20000 in
theorem wd_1143 : Cond.code yX0_isMarked cX0_isMarked 3 (some .boolean) ∈ ws0 := codesL_at 94 rfl (by decide +kernel)
set_option maxRecDepth 20000 in
theorem wd_1154 : Cond.code yX0_wordBreaks cX0_wordBreaks 14 (some .long) ∈ ws0 := codesL_at 95 rfl (by decide +kernel)
set_option maxRecDepth 20000 in
theorem wd_1159 : Cond.code yX0_seamlessEnds cX0_seamlessEnds 9 (some .long) ∈ ws0 := codesL_at 96 rfl (by decide +kernel)
set_option maxRecDepth 20000 in
theorem wd_1163 : Cond.code yX0_clusterEnd cX0_clusterEnd 6 (some .int) ∈ ws0 := codesL_at 97 rfl (by decide +kernel)
set_option maxRecDepth 20000 in
theorem wd_1167 : Cond.code yX0_wordEnd cX0_wordEnd 11 (some .int) ∈ ws0 := codesL_at 98 rfl (by decide +kernel)
set_option maxRecDepth 20000 in
theorem wd_1171 : Cond.code yX0_seamlessLimit cX0_seamlessLimit 6 (some .int) ∈ ws0 := codesL_at 99 rfl (by decide +kernel)
set_option maxRecDepth 20000 in
theorem wd_1176 : Cond.code yX9_wordAt cX9_wordAt 2 (some (.object "LetterTables$Row")) ∈ ws0 := codesL_at 100 rfl (by decide +kernel)
set_option maxRecDepth 20000 in
theorem wd_1180 : Cond.code yX0_isWordBreak cX0_isWordBreak 4 (some .boolean) ∈ ws0 := codesL_at 101 rfl (by decide +kernel)
set_option maxRecDepth 20000 in
theorem wd_1183 : Cond.code yX0_isLineBreak cX0_isLineBreak 2 (some .boolean) ∈ ws0 := codesL_at 102 rfl (by decide +kernel)
set_option maxRecDepth 20000 in
theorem wd_1202 : Cond.code yX2_unitsInto cX2_unitsInto 5 none ∈ ws0 := codesL_at 103 rfl (by decide +kernel)
set_option maxRecDepth 20000 in
theorem wd_1208 : Cond.code yX2_orderOf cX2_orderOf 9 (some .int) ∈ ws0 := codesL_at 104 rfl (by decide +kernel)
set_option maxRecDepth 20000 in
theorem wd_1212 : Cond.code yX2_nextWeighing cX2_nextWeighing 5 (some .int) ∈ ws0 := codesL_at 105 rfl (by decide +kernel)
set_option maxRecDepth 20000 in
theorem wd_1216 : Cond.code yX2_weightOf cX2_weightOf 3 (some .int) ∈ ws0 := codesL_at 106 rfl (by decide +kernel)
set_option maxRecDepth 20000 in
theorem wd_1228 : Cond.code yX2_keyInto cX2_keyInto 6 none ∈ ws0 := codesL_at 107 rfl (by decide +kernel)
set_option maxRecDepth 20000 in
theorem wd_1240 : Cond.code yX10_endOfFound cX10_endOfFound 9 (some .int) ∈ ws0 := codesL_at 108 rfl (by decide +kernel)
set_option maxRecDepth 20000 in
theorem wd_1244 : Cond.code yX1_foldedEnd cX1_foldedEnd 2 (some .int) ∈ ws0 := codesL_at 109 rfl (by decide +kernel)
set_option maxRecDepth 20000 in
theorem wd_1256 : Cond.code yX5_read cX5_read 3 (some .boolean) ∈ ws0 := codesL_at 110 rfl (by decide +kernel)
set_option maxRecDepth 20000 in
theorem wd_1262 : Cond.code yX5_readPiece cX5_readPiece 6 (some .boolean) ∈ ws0 := codesL_at 111 rfl (by decide +kernel)
set_option maxRecDepth 20000 in
theorem wd_1267 : Cond.code yX5_readSet cX5_readSet 5 (some .int) ∈ ws0 := codesL_at 112 rfl (by decide +kernel)
set_option maxRecDepth 20000 in
theorem wd_1271 : Cond.code yX5_readLetter cX5_readLetter 5 (some .int) ∈ ws0 := codesL_at 113 rfl (by decide +kernel)
set_option maxRecDepth 20000 in
theorem wd_1276 : Cond.code yX5_setOf cX5_setOf 1 (some .int) ∈ ws0 := codesL_at 114 rfl (by decide +kernel)
set_option maxRecDepth 20000 in
theorem wd_1282 : Cond.code yX5_size cX5_size 1 (some .int) ∈ ws0 := codesL_at 115 rfl (by decide +kernel)
set_option maxRecDepth 20000 in
theorem wd_1294 : Cond.code yX5_endFrom cX5_endFrom 7 (some .int) ∈ ws0 := codesL_at 116 rfl (by decide +kernel)
set_option maxRecDepth 20000 in
theorem wd_1298 : Cond.code yX9_capitalsInto cX9_capitalsInto 5 none ∈ ws0 := codesL_at 117 rfl (by decide +kernel)
set_option maxRecDepth 20000 in
theorem wd_1306 : Cond.code yX5_withSkips cX5_withSkips 4 (some .int) ∈ ws0 := codesL_at 118 rfl (by decide +kernel)
set_option maxRecDepth 20000 in
theorem wd_1310 : Cond.code yX5_statesBehind cX5_statesBehind 7 (some .int) ∈ ws0 := codesL_at 119 rfl (by decide +kernel)
set_option maxRecDepth 20000 in
theorem wd_1314 : Cond.code yX5_isTaken cX5_isTaken 6 (some .boolean) ∈ ws0 := codesL_at 120 rfl (by decide +kernel)
set_option maxRecDepth 20000 in
theorem wd_1318 : Cond.code yX5_isInSet cX5_isInSet 7 (some .boolean) ∈ ws0 := codesL_at 121 rfl (by decide +kernel)
set_option maxRecDepth 20000 in
theorem wd_1330 : Cond.code yX9_passInto cX9_passInto 9 (some .boolean) ∈ ws0 := codesL_at 122 rfl (by decide +kernel)
set_option maxRecDepth 20000 in
theorem wd_1336 : Cond.code yX9_fittingRule cX9_fittingRule 7 (some (.object "LetterTables$Rule")) ∈ ws0 := codesL_at 123 rfl (by decide +kernel)
set_option maxRecDepth 20000 in
theorem wd_1340 : Cond.code yX8_fits cX8_fits 7 (some .boolean) ∈ ws0 := codesL_at 124 rfl (by decide +kernel)
set_option maxRecDepth 20000 in
theorem wd_1344 : Cond.code yX8_sourceOf cX8_sourceOf 2 (some (.object "LetterTables$Row")) ∈ ws0 := codesL_at 125 rfl (by decide +kernel)
set_option maxRecDepth 20000 in
theorem wd_1352 : Cond.code yX8_putTarget cX8_putTarget 5 (some .boolean) ∈ ws0 := codesL_at 126 rfl (by decide +kernel)
set_option maxRecDepth 20000 in
theorem wd_1366 : Cond.code yX10_isNumber cX10_isNumber 1 (some .boolean) ∈ ws0 := codesL_at 127 rfl (by decide +kernel)
set_option maxRecDepth 20000 in
theorem wd_1371 : Cond.code yX2_classFor cX2_classFor 3 (some .int) ∈ ws0 := codesL_at 128 rfl (by decide +kernel)
set_option maxRecDepth 20000 in
theorem wd_1375 : Cond.code yX6_fits cX6_fits 3 (some .boolean) ∈ ws0 := codesL_at 129 rfl (by decide +kernel)
set_option maxRecDepth 20000 in
theorem wd_1378 : Cond.code yX6_remainder cX6_remainder 2 (some .int) ∈ ws0 := codesL_at 130 rfl (by decide +kernel)
set_option maxRecDepth 20000 in
theorem wd_1383 : Cond.code yX6_classTold cX6_classTold 1 (some .int) ∈ ws0 := codesL_at 131 rfl (by decide +kernel)
set_option maxRecDepth 20000 in
theorem wd_1394 : Cond.code yX4_begin cX4_begin 1 none ∈ ws0 := codesL_at 132 rfl (by decide +kernel)
set_option maxRecDepth 20000 in
theorem wd_1399 : Cond.code yX4_tellNumber cX4_tellNumber 3 none ∈ ws0 := codesL_at 133 rfl (by decide +kernel)
set_option maxRecDepth 20000 in
theorem wd_1404 : Cond.code yX4_readAll cX4_readAll 1 (some .boolean) ∈ ws0 := codesL_at 134 rfl (by decide +kernel)
set_option maxRecDepth 20000 in
theorem wd_1408 : Cond.code yX4_readPieces cX4_readPieces 7 (some .int) ∈ ws0 := codesL_at 135 rfl (by decide +kernel)
set_option maxRecDepth 20000 in
theorem wd_1413 : Cond.code yX4_readBraces cX4_readBraces 6 (some .int) ∈ ws0 := codesL_at 136 rfl (by decide +kernel)
set_option maxRecDepth 20000 in
theorem wd_1417 : Cond.code yX4_digitAt cX4_digitAt 3 (some .int) ∈ ws0 := codesL_at 137 rfl (by decide +kernel)
set_option maxRecDepth 20000 in
theorem wd_1422 : Cond.code yX4_putNumber cX4_putNumber 6 none ∈ ws0 := codesL_at 138 rfl (by decide +kernel)
set_option maxRecDepth 20000 in
theorem wd_1427 : Cond.code yX4_putByte cX4_putByte 3 none ∈ ws0 := codesL_at 139 rfl (by decide +kernel)
set_option maxRecDepth 20000 in
theorem wd_1431 : Cond.code yX4_readCases cX4_readCases 11 (some .int) ∈ ws0 := codesL_at 140 rfl (by decide +kernel)
set_option maxRecDepth 20000 in
theorem wd_1435 : Cond.code yX4_keyEnd cX4_keyEnd 2 (some .int) ∈ ws0 := codesL_at 141 rfl (by decide +kernel)
set_option maxRecDepth 20000 in
theorem wd_1439 : Cond.code yX4_isFitting cX4_isFitting 3 (some .boolean) ∈ ws0 := codesL_at 142 rfl (by decide +kernel)
set_option maxRecDepth 20000 in
theorem wd_1445 : Cond.code yX4_result cX4_result 1 (some (.object "LetterTables$Row")) ∈ ws0 := codesL_at 143 rfl (by decide +kernel)
set_option maxRecDepth 20000 in
theorem wd_1463 : Cond.code yX10_decodeInto cX10_decodeInto 8 (some .int) ∈ ws0 := codesL_at 144 rfl (by decide +kernel)
set_option maxRecDepth 20000 in
theorem wd_1618 : Cond.code yX11_in cX11_in 3 (some .boolean) ∈ ws0 := codesL_at 145 rfl (by decide +kernel)
set_option maxRecDepth 20000 in
theorem wd_1622 : Cond.code yX11_holds cX11_holds 2 (some .boolean) ∈ ws0 := codesL_at 146 rfl (by decide +kernel)
set_option maxRecDepth 20000 in
theorem wd_1630 : Cond.code yX11_isLetter cX11_isLetter 1 (some .boolean) ∈ ws0 := codesL_at 147 rfl (by decide +kernel)
set_option maxRecDepth 20000 in
theorem wd_1646 : Cond.code yX11_of cX11_of 3 (some .int) ∈ ws0 := codesL_at 148 rfl (by decide +kernel)
set_option maxRecDepth 20000 in
theorem wd_1653 : Cond.code yX11_isLanguage cX11_isLanguage 1 (some .boolean) ∈ ws0 := codesL_at 149 rfl (by decide +kernel)
set_option maxRecDepth 20000 in
theorem wd_1656 : Cond.code yX11_areWeights cX11_areWeights 3 (some .boolean) ∈ ws0 := codesL_at 150 rfl (by decide +kernel)
set_option maxRecDepth 20000 in
theorem wd_1660 : Cond.code yX11_weighs cX11_weighs 5 none ∈ ws0 := codesL_at 151 rfl (by decide +kernel)
set_option maxRecDepth 20000 in
theorem wd_1668 : Cond.code yX11_contraction cX11_contraction 7 (some .int) ∈ ws0 := codesL_at 152 rfl (by decide +kernel)
set_option maxRecDepth 20000 in
theorem wd_1679 : Cond.code yX11_isSlot cX11_isSlot 1 (some .boolean) ∈ ws0 := codesL_at 153 rfl (by decide +kernel)
set_option maxRecDepth 20000 in
theorem wd_1683 : Cond.code yX11_letterAt cX11_letterAt 3 (some .int) ∈ ws0 := codesL_at 154 rfl (by decide +kernel)
set_option maxRecDepth 20000 in
theorem wd_1691 : Cond.code yX11_lays cX11_lays 5 none ∈ ws0 := codesL_at 155 rfl (by decide +kernel)
set_option maxRecDepth 20000 in
theorem wd_1719 : Cond.code yX11_formed cX11_formed 3 (some .boolean) ∈ ws0 := codesL_at 156 rfl (by decide +kernel)
set_option maxRecDepth 20000 in
theorem wd_1723 : Cond.code yX11_loads cX11_loads 5 none ∈ ws0 := codesL_at 157 rfl (by decide +kernel)
set_option maxRecDepth 20000 in
theorem wd_1727 : Cond.code yX11_forms cX11_forms 3 none ∈ ws0 := codesL_at 158 rfl (by decide +kernel)
set_option maxRecDepth 20000 in
theorem wd_1731 : Cond.code yX11_folds cX11_folds 4 none ∈ ws0 := codesL_at 159 rfl (by decide +kernel)
set_option maxRecDepth 20000 in
theorem wd_1735 : Cond.code yX11_doubles cX11_doubles 5 none ∈ ws0 := codesL_at 160 rfl (by decide +kernel)
set_option maxRecDepth 20000 in
theorem wd_1739 : Cond.code yX11_splitsAll cX11_splitsAll 6 none ∈ ws0 := codesL_at 161 rfl (by decide +kernel)
set_option maxRecDepth 20000 in
theorem wd_1743 : Cond.code yX11_joinsAll cX11_joinsAll 5 none ∈ ws0 := codesL_at 162 rfl (by decide +kernel)
set_option maxRecDepth 20000 in
theorem wd_1747 : Cond.code yX11_joined cX11_joined 4 (some .int) ∈ ws0 := codesL_at 163 rfl (by decide +kernel)
set_option maxRecDepth 20000 in
theorem wd_1751 : Cond.code yX11_takesOut cX11_takesOut 3 none ∈ ws0 := codesL_at 164 rfl (by decide +kernel)
set_option maxRecDepth 20000 in
theorem wd_1759 : Cond.code yX11_putsAside cX11_putsAside 2 none ∈ ws0 := codesL_at 165 rfl (by decide +kernel)
set_option maxRecDepth 20000 in
theorem wd_1763 : Cond.code yX11_isAside cX11_isAside 3 (some .boolean) ∈ ws0 := codesL_at 166 rfl (by decide +kernel)
set_option maxRecDepth 20000 in
theorem wd_1771 : Cond.code yX11_closesIsolates cX11_closesIsolates 5 none ∈ ws0 := codesL_at 167 rfl (by decide +kernel)
set_option maxRecDepth 20000 in
theorem wd_1775 : Cond.code yX11_directionAt cX11_directionAt 3 (some .int) ∈ ws0 := codesL_at 168 rfl (by decide +kernel)
set_option maxRecDepth 20000 in
theorem wd_1779 : Cond.code yX11_baseOf cX11_baseOf 6 (some .int) ∈ ws0 := codesL_at 169 rfl (by decide +kernel)
set_option maxRecDepth 20000 in
theorem wd_1787 : Cond.code yX11_isPlace cX11_isPlace 3 (some .boolean) ∈ ws0 := codesL_at 170 rfl (by decide +kernel)
set_option maxRecDepth 20000 in
theorem wd_1791 : Cond.code yX11_laysLevels cX11_laysLevels 8 none ∈ ws0 := codesL_at 171 rfl (by decide +kernel)
set_option maxRecDepth 20000 in
theorem wd_1795 : Cond.code yX11_laysFrames cX11_laysFrames 7 none ∈ ws0 := codesL_at 172 rfl (by decide +kernel)
set_option maxRecDepth 20000 in
theorem wd_1799 : Cond.code yX11_begins cX11_begins 6 (some .int) ∈ ws0 := codesL_at 173 rfl (by decide +kernel)
set_option maxRecDepth 20000 in
theorem wd_1803 : Cond.code yX11_laysNumbers cX11_laysNumbers 9 none ∈ ws0 := codesL_at 174 rfl (by decide +kernel)
set_option maxRecDepth 20000 in
theorem wd_1807 : Cond.code yX11_laysPartners cX11_laysPartners 8 none ∈ ws0 := codesL_at 175 rfl (by decide +kernel)
set_option maxRecDepth 20000 in
theorem wd_1811 : Cond.code yX11_settlesPartners cX11_settlesPartners 9 none ∈ ws0 := codesL_at 176 rfl (by decide +kernel)
set_option maxRecDepth 20000 in
theorem wd_1815 : Cond.code yX11_goes cX11_goes 2 (some .int) ∈ ws0 := codesL_at 177 rfl (by decide +kernel)
set_option maxRecDepth 20000 in
theorem wd_1819 : Cond.code yX11_settlesOthers cX11_settlesOthers 7 none ∈ ws0 := codesL_at 178 rfl (by decide +kernel)
set_option maxRecDepth 20000 in
theorem wd_1827 : Cond.code yX11_laysOrder cX11_laysOrder 8 none ∈ ws0 := codesL_at 179 rfl (by decide +kernel)
set_option maxRecDepth 20000 in
theorem wd_1835 : Cond.code yX11_isCluster cX11_isCluster 3 (some .boolean) ∈ ws0 := codesL_at 180 rfl (by decide +kernel)
set_option maxRecDepth 20000 in
theorem wd_1839 : Cond.code yX11_kindAt cX11_kindAt 3 (some .int) ∈ ws0 := codesL_at 181 rfl (by decide +kernel)
set_option maxRecDepth 20000 in
theorem wd_1847 : Cond.code yX11_laysWords cX11_laysWords 5 none ∈ ws0 := codesL_at 182 rfl (by decide +kernel)
set_option maxRecDepth 20000 in
theorem wd_1851 : Cond.code yX11_wordEnd cX11_wordEnd 8 (some .int) ∈ ws0 := codesL_at 183 rfl (by decide +kernel)
set_option maxRecDepth 20000 in
theorem wd_1855 : Cond.code yX11_isWordAt cX11_isWordAt 7 (some .boolean) ∈ ws0 := codesL_at 184 rfl (by decide +kernel)
set_option maxRecDepth 20000 in
theorem wd_1859 : Cond.code yX11_isEdge cX11_isEdge 3 (some .boolean) ∈ ws0 := codesL_at 185 rfl (by decide +kernel)
set_option maxRecDepth 20000 in
theorem wd_1863 : Cond.code yX11_isBreak cX11_isBreak 9 (some .boolean) ∈ ws0 := codesL_at 186 rfl (by decide +kernel)
set_option maxRecDepth 20000 in
theorem wd_1867 : Cond.code yX11_clusterAhead cX11_clusterAhead 4 (some .int) ∈ ws0 := codesL_at 187 rfl (by decide +kernel)
set_option maxRecDepth 20000 in
theorem wd_1879 : Cond.code yX11_keyed cX11_keyed 7 (some .boolean) ∈ ws0 := codesL_at 188 rfl (by decide +kernel)
set_option maxRecDepth 20000 in
theorem wd_1883 : Cond.code yX11_compares cX11_compares 3 (some .int) ∈ ws0 := codesL_at 189 rfl (by decide +kernel)
set_option maxRecDepth 20000 in
theorem wd_1895 : Cond.code yX11_finds cX11_finds 5 (some .int) ∈ ws0 := codesL_at 190 rfl (by decide +kernel)
set_option maxRecDepth 20000 in
theorem wd_1903 : Cond.code yX11_readsPattern cX11_readsPattern 7 (some .int) ∈ ws0 := codesL_at 191 rfl (by decide +kernel)
set_option maxRecDepth 20000 in
theorem wd_1907 : Cond.code yX11_taping cX11_taping 1 (some .int) ∈ ws0 := codesL_at 192 rfl (by decide +kernel)
set_option maxRecDepth 20000 in
theorem wd_1911 : Cond.code yX11_readsSet cX11_readsSet 7 (some .int) ∈ ws0 := codesL_at 193 rfl (by decide +kernel)
set_option maxRecDepth 20000 in
theorem wd_1919 : Cond.code yX11_matches cX11_matches 6 (some .int) ∈ ws0 := codesL_at 194 rfl (by decide +kernel)
set_option maxRecDepth 20000 in
theorem wd_1923 : Cond.code yX11_takes cX11_takes 4 (some .boolean) ∈ ws0 := codesL_at 195 rfl (by decide +kernel)
set_option maxRecDepth 20000 in
theorem wd_1927 : Cond.code yX11_hasLetter cX11_hasLetter 6 (some .boolean) ∈ ws0 := codesL_at 196 rfl (by decide +kernel)
set_option maxRecDepth 20000 in
theorem wd_1931 : Cond.code yX11_isCapital cX11_isCapital 4 (some .boolean) ∈ ws0 := codesL_at 197 rfl (by decide +kernel)
set_option maxRecDepth 20000 in
theorem wd_1939 : Cond.code yX11_transliterated cX11_transliterated 3 (some .boolean) ∈ ws0 := codesL_at 198 rfl (by decide +kernel)
set_option maxRecDepth 20000 in
theorem wd_1943 : Cond.code yX11_passes cX11_passes 7 (some .boolean) ∈ ws0 := codesL_at 199 rfl (by decide +kernel)
set_option maxRecDepth 20000 in
theorem wd_1947 : Cond.code yX11_ruleFor cX11_ruleFor 8 (some .int) ∈ ws0 := codesL_at 200 rfl (by decide +kernel)
set_option maxRecDepth 20000 in
theorem wd_1951 : Cond.code yX11_stand cX11_stand 8 (some .boolean) ∈ ws0 := codesL_at 201 rfl (by decide +kernel)
set_option maxRecDepth 20000 in
theorem wd_1960 : Cond.code yX11_classFor cX11_classFor 6 (some .int) ∈ ws0 := codesL_at 202 rfl (by decide +kernel)
set_option maxRecDepth 20000 in
theorem wd_1968 : Cond.code yX11_readsMessage cX11_readsMessage 7 (some .boolean) ∈ ws0 := codesL_at 203 rfl (by decide +kernel)
set_option maxRecDepth 20000 in
theorem wd_1972 : Cond.code yX11_readsCase cX11_readsCase 8 (some .boolean) ∈ ws0 := codesL_at 204 rfl (by decide +kernel)
set_option maxRecDepth 20000 in
theorem wd_1976 : Cond.code yX11_isHeard cX11_isHeard 4 (some .boolean) ∈ ws0 := codesL_at 205 rfl (by decide +kernel)
set_option maxRecDepth 20000 in
theorem wd_1980 : Cond.code yX11_putsNumber cX11_putsNumber 3 none ∈ ws0 := codesL_at 206 rfl (by decide +kernel)
set_option maxRecDepth 20000 in
theorem wd_1984 : Cond.code yX11_puts cX11_puts 2 none ∈ ws0 := codesL_at 207 rfl (by decide +kernel)
set_option maxRecDepth 20000 in
theorem wd_2000 : Cond.code yX11_decodes cX11_decodes 8 (some .int) ∈ ws0 := codesL_at 208 rfl (by decide +kernel)
theorem wd_1 : Cond.selects RX10 yX10_languageOf yX10_languageOf ∈ ws0 := ws0_of 1 (by decide +kernel) (by decide +kernel)
theorem wd_2 : Cond.selects RX10 yX10_textOf yX10_textOf ∈ ws0 := ws0_of 2 (by decide +kernel) (by decide +kernel)
theorem wd_3 : Cond.selects RX1 yX1_splitLetter yX1_splitLetter ∈ ws0 := ws0_of 3 (by decide +kernel) (by decide +kernel)
theorem wd_4 : Cond.selects RX1 yX1_sortMarks yX1_sortMarks ∈ ws0 := ws0_of 4 (by decide +kernel) (by decide +kernel)
theorem wd_5 : Cond.selects RX1 yX1_startFor yX1_startFor ∈ ws0 := ws0_of 5 (by decide +kernel) (by decide +kernel)
theorem wd_6 : Cond.selects RX1 yX1_capitalInto yX1_capitalInto ∈ ws0 := ws0_of 6 (by decide +kernel) (by decide +kernel)
theorem wd_7 : Cond.selects RX1 yX1_addUnmarked yX1_addUnmarked ∈ ws0 := ws0_of 7 (by decide +kernel) (by decide +kernel)
theorem wd_8 : Cond.selects RX3 yX3_layFrames yX3_layFrames ∈ ws0 := ws0_of 8 (by decide +kernel) (by decide +kernel)
theorem wd_9 : Cond.selects RX3 yX3_addFrame yX3_addFrame ∈ ws0 := ws0_of 9 (by decide +kernel) (by decide +kernel)
theorem wd_10 : Cond.selects RX3 yX3_aroundIsolate yX3_aroundIsolate ∈ ws0 := ws0_of 10 (by decide +kernel) (by decide +kernel)
theorem wd_11 : Cond.selects RX3 yX3_levelWithin yX3_levelWithin ∈ ws0 := ws0_of 11 (by decide +kernel) (by decide +kernel)
theorem wd_12 : Cond.selects RX3 yX3_gather yX3_gather ∈ ws0 := ws0_of 12 (by decide +kernel) (by decide +kernel)
theorem wd_13 : Cond.selects RX3 yX3_settleNumbers yX3_settleNumbers ∈ ws0 := ws0_of 13 (by decide +kernel) (by decide +kernel)
theorem wd_14 : Cond.selects RX3 yX3_settlePartners yX3_settlePartners ∈ ws0 := ws0_of 14 (by decide +kernel) (by decide +kernel)
theorem wd_15 : Cond.selects RX3 yX3_matchPartners yX3_matchPartners ∈ ws0 := ws0_of 15 (by decide +kernel) (by decide +kernel)
theorem wd_16 : Cond.selects RX3 yX3_closeLast yX3_closeLast ∈ ws0 := ws0_of 16 (by decide +kernel) (by decide +kernel)
theorem wd_17 : Cond.selects RX3 yX3_pairWay yX3_pairWay ∈ ws0 := ws0_of 17 (by decide +kernel) (by decide +kernel)
theorem wd_18 : Cond.selects RX3 yX3_plainWay yX3_plainWay ∈ ws0 := ws0_of 18 (by decide +kernel) (by decide +kernel)
theorem wd_19 : Cond.selects RX3 yX3_wayAhead yX3_wayAhead ∈ ws0 := ws0_of 19 (by decide +kernel) (by decide +kernel)
theorem wd_20 : Cond.selects RX3 yX3_settleRest yX3_settleRest ∈ ws0 := ws0_of 20 (by decide +kernel) (by decide +kernel)
theorem wd_21 : Cond.selects RX3 yX3_wayBehind yX3_wayBehind ∈ ws0 := ws0_of 21 (by decide +kernel) (by decide +kernel)
theorem wd_22 : Cond.selects RX3 yX3_tellLevels yX3_tellLevels ∈ ws0 := ws0_of 22 (by decide +kernel) (by decide +kernel)
theorem wd_23 : Cond.selects RX3 yX3_turnRows yX3_turnRows ∈ ws0 := ws0_of 23 (by decide +kernel) (by decide +kernel)
theorem wd_24 : Cond.selects RX0 yX0_kindAt yX0_kindAt ∈ ws0 := ws0_of 24 (by decide +kernel) (by decide +kernel)
theorem wd_25 : Cond.selects RX0 yX0_seamlessEnds yX0_seamlessEnds ∈ ws0 := ws0_of 25 (by decide +kernel) (by decide +kernel)
theorem wd_26 : Cond.selects RX0 yX0_clusterEnd yX0_clusterEnd ∈ ws0 := ws0_of 26 (by decide +kernel) (by decide +kernel)
theorem wd_27 : Cond.selects RX0 yX0_wordEnd yX0_wordEnd ∈ ws0 := ws0_of 27 (by decide +kernel) (by decide +kernel)
theorem wd_28 : Cond.selects RX0 yX0_seamlessLimit yX0_seamlessLimit ∈ ws0 := ws0_of 28 (by decide +kernel) (by decide +kernel)
theorem wd_29 : Cond.selects RX2 yX2_nextWeighing yX2_nextWeighing ∈ ws0 := ws0_of 29 (by decide +kernel) (by decide +kernel)
theorem wd_30 : Cond.selects RX2 yX2_weightOf yX2_weightOf ∈ ws0 := ws0_of 30 (by decide +kernel) (by decide +kernel)
theorem wd_31 : Cond.selects RX10 yX10_endOfFound yX10_endOfFound ∈ ws0 := ws0_of 31 (by decide +kernel) (by decide +kernel)
theorem wd_32 : Cond.selects RX5 yX5_readPiece yX5_readPiece ∈ ws0 := ws0_of 32 (by decide +kernel) (by decide +kernel)
theorem wd_33 : Cond.selects RX5 yX5_readSet yX5_readSet ∈ ws0 := ws0_of 33 (by decide +kernel) (by decide +kernel)
theorem wd_34 : Cond.selects RX5 yX5_readLetter yX5_readLetter ∈ ws0 := ws0_of 34 (by decide +kernel) (by decide +kernel)
theorem wd_35 : Cond.selects RX5 yX5_withSkips yX5_withSkips ∈ ws0 := ws0_of 35 (by decide +kernel) (by decide +kernel)
theorem wd_36 : Cond.selects RX5 yX5_statesBehind yX5_statesBehind ∈ ws0 := ws0_of 36 (by decide +kernel) (by decide +kernel)
theorem wd_37 : Cond.selects RX5 yX5_isTaken yX5_isTaken ∈ ws0 := ws0_of 37 (by decide +kernel) (by decide +kernel)
theorem wd_38 : Cond.selects RX5 yX5_isInSet yX5_isInSet ∈ ws0 := ws0_of 38 (by decide +kernel) (by decide +kernel)
theorem wd_39 : Cond.selects RX9 yX9_fittingRule yX9_fittingRule ∈ ws0 := ws0_of 39 (by decide +kernel) (by decide +kernel)
theorem wd_40 : Cond.selects RX4 yX4_readPieces yX4_readPieces ∈ ws0 := ws0_of 40 (by decide +kernel) (by decide +kernel)
theorem wd_41 : Cond.selects RX4 yX4_readBraces yX4_readBraces ∈ ws0 := ws0_of 41 (by decide +kernel) (by decide +kernel)
theorem wd_42 : Cond.selects RX4 yX4_digitAt yX4_digitAt ∈ ws0 := ws0_of 42 (by decide +kernel) (by decide +kernel)
theorem wd_43 : Cond.selects RX4 yX4_putNumber yX4_putNumber ∈ ws0 := ws0_of 43 (by decide +kernel) (by decide +kernel)
theorem wd_44 : Cond.selects RX4 yX4_putByte yX4_putByte ∈ ws0 := ws0_of 44 (by decide +kernel) (by decide +kernel)
theorem wd_45 : Cond.selects RX4 yX4_readCases yX4_readCases ∈ ws0 := ws0_of 45 (by decide +kernel) (by decide +kernel)
theorem wd_46 : Cond.selects RX4 yX4_keyEnd yX4_keyEnd ∈ ws0 := ws0_of 46 (by decide +kernel) (by decide +kernel)
theorem wd_47 : Cond.selects RX4 yX4_isFitting yX4_isFitting ∈ ws0 := ws0_of 47 (by decide +kernel) (by decide +kernel)
theorem wd_48 : Cond.selects RX10 yX10_decodeInto yX10_decodeInto ∈ ws0 := ws0_of 48 (by decide +kernel) (by decide +kernel)
theorem wd_49 : Cond.selects RX11 yX11_holds yX11_holds ∈ ws0 := ws0_of 49 (by decide +kernel) (by decide +kernel)
theorem wd_50 : Cond.selects RX11 yX11_of yX11_of ∈ ws0 := ws0_of 50 (by decide +kernel) (by decide +kernel)
theorem wd_51 : Cond.selects RX11 yX11_weighs yX11_weighs ∈ ws0 := ws0_of 51 (by decide +kernel) (by decide +kernel)
theorem wd_52 : Cond.selects RX11 yX11_contraction yX11_contraction ∈ ws0 := ws0_of 52 (by decide +kernel) (by decide +kernel)
theorem wd_53 : Cond.selects RX11 yX11_letterAt yX11_letterAt ∈ ws0 := ws0_of 53 (by decide +kernel) (by decide +kernel)
theorem wd_54 : Cond.selects RX11 yX11_lays yX11_lays ∈ ws0 := ws0_of 54 (by decide +kernel) (by decide +kernel)
theorem wd_55 : Cond.selects RX11 yX11_formed yX11_formed ∈ ws0 := ws0_of 55 (by decide +kernel) (by decide +kernel)
theorem wd_56 : Cond.selects RX11 yX11_loads yX11_loads ∈ ws0 := ws0_of 56 (by decide +kernel) (by decide +kernel)
theorem wd_57 : Cond.selects RX11 yX11_forms yX11_forms ∈ ws0 := ws0_of 57 (by decide +kernel) (by decide +kernel)
theorem wd_58 : Cond.selects RX11 yX11_folds yX11_folds ∈ ws0 := ws0_of 58 (by decide +kernel) (by decide +kernel)
theorem wd_59 : Cond.selects RX11 yX11_doubles yX11_doubles ∈ ws0 := ws0_of 59 (by decide +kernel) (by decide +kernel)
theorem wd_60 : Cond.selects RX11 yX11_splitsAll yX11_splitsAll ∈ ws0 := ws0_of 60 (by decide +kernel) (by decide +kernel)
theorem wd_61 : Cond.selects RX11 yX11_joinsAll yX11_joinsAll ∈ ws0 := ws0_of 61 (by decide +kernel) (by decide +kernel)
theorem wd_62 : Cond.selects RX11 yX11_joined yX11_joined ∈ ws0 := ws0_of 62 (by decide +kernel) (by decide +kernel)
theorem wd_63 : Cond.selects RX11 yX11_takesOut yX11_takesOut ∈ ws0 := ws0_of 63 (by decide +kernel) (by decide +kernel)
theorem wd_64 : Cond.selects RX11 yX11_putsAside yX11_putsAside ∈ ws0 := ws0_of 64 (by decide +kernel) (by decide +kernel)
theorem wd_65 : Cond.selects RX11 yX11_isAside yX11_isAside ∈ ws0 := ws0_of 65 (by decide +kernel) (by decide +kernel)
theorem wd_66 : Cond.selects RX11 yX11_closesIsolates yX11_closesIsolates ∈ ws0 := ws0_of 66 (by decide +kernel) (by decide +kernel)
theorem wd_67 : Cond.selects RX11 yX11_directionAt yX11_directionAt ∈ ws0 := ws0_of 67 (by decide +kernel) (by decide +kernel)
theorem wd_68 : Cond.selects RX11 yX11_baseOf yX11_baseOf ∈ ws0 := ws0_of 68 (by decide +kernel) (by decide +kernel)
theorem wd_69 : Cond.selects RX11 yX11_isPlace yX11_isPlace ∈ ws0 := ws0_of 69 (by decide +kernel) (by decide +kernel)
theorem wd_70 : Cond.selects RX11 yX11_laysLevels yX11_laysLevels ∈ ws0 := ws0_of 70 (by decide +kernel) (by decide +kernel)
theorem wd_71 : Cond.selects RX11 yX11_laysFrames yX11_laysFrames ∈ ws0 := ws0_of 71 (by decide +kernel) (by decide +kernel)
theorem wd_72 : Cond.selects RX11 yX11_begins yX11_begins ∈ ws0 := ws0_of 72 (by decide +kernel) (by decide +kernel)
theorem wd_73 : Cond.selects RX11 yX11_laysNumbers yX11_laysNumbers ∈ ws0 := ws0_of 73 (by decide +kernel) (by decide +kernel)
theorem wd_74 : Cond.selects RX11 yX11_laysPartners yX11_laysPartners ∈ ws0 := ws0_of 74 (by decide +kernel) (by decide +kernel)
theorem wd_75 : Cond.selects RX11 yX11_settlesPartners yX11_settlesPartners ∈ ws0 := ws0_of 75 (by decide +kernel) (by decide +kernel)
theorem wd_76 : Cond.selects RX11 yX11_goes yX11_goes ∈ ws0 := ws0_of 76 (by decide +kernel) (by decide +kernel)
theorem wd_77 : Cond.selects RX11 yX11_settlesOthers yX11_settlesOthers ∈ ws0 := ws0_of 77 (by decide +kernel) (by decide +kernel)
theorem wd_78 : Cond.selects RX11 yX11_laysOrder yX11_laysOrder ∈ ws0 := ws0_of 78 (by decide +kernel) (by decide +kernel)
theorem wd_79 : Cond.selects RX11 yX11_isCluster yX11_isCluster ∈ ws0 := ws0_of 79 (by decide +kernel) (by decide +kernel)
theorem wd_80 : Cond.selects RX11 yX11_kindAt yX11_kindAt ∈ ws0 := ws0_of 80 (by decide +kernel) (by decide +kernel)
theorem wd_81 : Cond.selects RX11 yX11_laysWords yX11_laysWords ∈ ws0 := ws0_of 81 (by decide +kernel) (by decide +kernel)
theorem wd_82 : Cond.selects RX11 yX11_wordEnd yX11_wordEnd ∈ ws0 := ws0_of 82 (by decide +kernel) (by decide +kernel)
theorem wd_83 : Cond.selects RX11 yX11_isWordAt yX11_isWordAt ∈ ws0 := ws0_of 83 (by decide +kernel) (by decide +kernel)
theorem wd_84 : Cond.selects RX11 yX11_isEdge yX11_isEdge ∈ ws0 := ws0_of 84 (by decide +kernel) (by decide +kernel)
theorem wd_85 : Cond.selects RX11 yX11_isBreak yX11_isBreak ∈ ws0 := ws0_of 85 (by decide +kernel) (by decide +kernel)
theorem wd_86 : Cond.selects RX11 yX11_clusterAhead yX11_clusterAhead ∈ ws0 := ws0_of 86 (by decide +kernel) (by decide +kernel)
theorem wd_87 : Cond.selects RX11 yX11_keyed yX11_keyed ∈ ws0 := ws0_of 87 (by decide +kernel) (by decide +kernel)
theorem wd_88 : Cond.selects RX11 yX11_compares yX11_compares ∈ ws0 := ws0_of 88 (by decide +kernel) (by decide +kernel)
theorem wd_89 : Cond.selects RX11 yX11_finds yX11_finds ∈ ws0 := ws0_of 89 (by decide +kernel) (by decide +kernel)
theorem wd_90 : Cond.selects RX11 yX11_readsPattern yX11_readsPattern ∈ ws0 := ws0_of 90 (by decide +kernel) (by decide +kernel)
theorem wd_91 : Cond.selects RX11 yX11_taping yX11_taping ∈ ws0 := ws0_of 91 (by decide +kernel) (by decide +kernel)
theorem wd_92 : Cond.selects RX11 yX11_readsSet yX11_readsSet ∈ ws0 := ws0_of 92 (by decide +kernel) (by decide +kernel)
theorem wd_93 : Cond.selects RX11 yX11_matches yX11_matches ∈ ws0 := ws0_of 93 (by decide +kernel) (by decide +kernel)
theorem wd_94 : Cond.selects RX11 yX11_takes yX11_takes ∈ ws0 := ws0_of 94 (by decide +kernel) (by decide +kernel)
theorem wd_95 : Cond.selects RX11 yX11_hasLetter yX11_hasLetter ∈ ws0 := ws0_of 95 (by decide +kernel) (by decide +kernel)
theorem wd_96 : Cond.selects RX11 yX11_isCapital yX11_isCapital ∈ ws0 := ws0_of 96 (by decide +kernel) (by decide +kernel)
theorem wd_97 : Cond.selects RX11 yX11_transliterated yX11_transliterated ∈ ws0 := ws0_of 97 (by decide +kernel) (by decide +kernel)
theorem wd_98 : Cond.selects RX11 yX11_passes yX11_passes ∈ ws0 := ws0_of 98 (by decide +kernel) (by decide +kernel)
theorem wd_99 : Cond.selects RX11 yX11_ruleFor yX11_ruleFor ∈ ws0 := ws0_of 99 (by decide +kernel) (by decide +kernel)
theorem wd_100 : Cond.selects RX11 yX11_stand yX11_stand ∈ ws0 := ws0_of 100 (by decide +kernel) (by decide +kernel)
theorem wd_101 : Cond.selects RX11 yX11_classFor yX11_classFor ∈ ws0 := ws0_of 101 (by decide +kernel) (by decide +kernel)
theorem wd_102 : Cond.selects RX11 yX11_readsMessage yX11_readsMessage ∈ ws0 := ws0_of 102 (by decide +kernel) (by decide +kernel)
theorem wd_103 : Cond.selects RX11 yX11_readsCase yX11_readsCase ∈ ws0 := ws0_of 103 (by decide +kernel) (by decide +kernel)
theorem wd_104 : Cond.selects RX11 yX11_isHeard yX11_isHeard ∈ ws0 := ws0_of 104 (by decide +kernel) (by decide +kernel)
theorem wd_105 : Cond.selects RX11 yX11_putsNumber yX11_putsNumber ∈ ws0 := ws0_of 105 (by decide +kernel) (by decide +kernel)
theorem wd_106 : Cond.selects RX11 yX11_puts yX11_puts ∈ ws0 := ws0_of 106 (by decide +kernel) (by decide +kernel)
theorem wd_107 : Cond.selects RX11 yX11_decodes yX11_decodes ∈ ws0 := ws0_of 107 (by decide +kernel) (by decide +kernel)
theorem wd_109 : Cond.initialized RX10 ∈ ws0 := ws0_of 109 (by decide +kernel) (by decide +kernel)
theorem wd_110 : Cond.initialized RX9 ∈ ws0 := ws0_of 110 (by decide +kernel) (by decide +kernel)
theorem wd_111 : Cond.initialized RX2 ∈ ws0 := ws0_of 111 (by decide +kernel) (by decide +kernel)
theorem wd_112 : Cond.initialized RX7 ∈ ws0 := ws0_of 112 (by decide +kernel) (by decide +kernel)
theorem wd_113 : Cond.initialized RX6 ∈ ws0 := ws0_of 113 (by decide +kernel) (by decide +kernel)
theorem wd_114 : Cond.initialized RX8 ∈ ws0 := ws0_of 114 (by decide +kernel) (by decide +kernel)
theorem wd_115 : Cond.initialized RX1 ∈ ws0 := ws0_of 115 (by decide +kernel) (by decide +kernel)
theorem wd_116 : Cond.initialized RX3 ∈ ws0 := ws0_of 116 (by decide +kernel) (by decide +kernel)
theorem wd_117 : Cond.initialized RX0 ∈ ws0 := ws0_of 117 (by decide +kernel) (by decide +kernel)
theorem wd_118 : Cond.initialized RX5 ∈ ws0 := ws0_of 118 (by decide +kernel) (by decide +kernel)
theorem wd_119 : Cond.initialized RX4 ∈ ws0 := ws0_of 119 (by decide +kernel) (by decide +kernel)
theorem wd_120 : Cond.initialized RX11 ∈ ws0 := ws0_of 120 (by decide +kernel) (by decide +kernel)
theorem wd_124 : Cond.initialized (exN 2) ∈ ws0 := ws0_of 124 (by decide +kernel) (by decide +kernel)
theorem wd_125 : Cond.initialized (exN 3) ∈ ws0 := ws0_of 125 (by decide +kernel) (by decide +kernel)
theorem wd_126 : Cond.initialized (exN 1) ∈ ws0 := ws0_of 126 (by decide +kernel) (by decide +kernel)
theorem wd_157 : Cond.fieldLink RX7 9 (TX7 0).1 (TX7 0).2.1 (TX7 0).2.2.1 ∈ ws0 := ws0_of 157 (by decide +kernel) (by decide +kernel)
theorem wd_158 : Cond.fieldLink RX7 15 (TX7 1).1 (TX7 1).2.1 (TX7 1).2.2.1 ∈ ws0 := ws0_of 158 (by decide +kernel) (by decide +kernel)
theorem wd_172 : Cond.fieldLink RX6 13 (TX6 0).1 (TX6 0).2.1 (TX6 0).2.2.1 ∈ ws0 := ws0_of 172 (by decide +kernel) (by decide +kernel)
theorem wd_173 : Cond.fieldLink RX6 7 (TX6 1).1 (TX6 1).2.1 (TX6 1).2.2.1 ∈ ws0 := ws0_of 173 (by decide +kernel) (by decide +kernel)
theorem wd_174 : Cond.fieldLink RX6 16 (TX6 2).1 (TX6 2).2.1 (TX6 2).2.2.1 ∈ ws0 := ws0_of 174 (by decide +kernel) (by decide +kernel)
theorem wd_175 : Cond.fieldLink RX6 19 (TX6 3).1 (TX6 3).2.1 (TX6 3).2.2.1 ∈ ws0 := ws0_of 175 (by decide +kernel) (by decide +kernel)
theorem wd_176 : Cond.fieldLink RX6 22 (TX6 4).1 (TX6 4).2.1 (TX6 4).2.2.1 ∈ ws0 := ws0_of 176 (by decide +kernel) (by decide +kernel)
theorem wd_177 : Cond.fieldLink RX6 25 (TX6 5).1 (TX6 5).2.1 (TX6 5).2.2.1 ∈ ws0 := ws0_of 177 (by decide +kernel) (by decide +kernel)
theorem wd_178 : Cond.fieldLink RX6 28 (TX6 6).1 (TX6 6).2.1 (TX6 6).2.2.1 ∈ ws0 := ws0_of 178 (by decide +kernel) (by decide +kernel)
theorem wd_194 : Cond.fieldLink RX2 9 (TX2 0).1 (TX2 0).2.1 (TX2 0).2.2.1 ∈ ws0 := ws0_of 194 (by decide +kernel) (by decide +kernel)
theorem wd_195 : Cond.fieldLink RX2 15 (TX2 1).1 (TX2 1).2.1 (TX2 1).2.2.1 ∈ ws0 := ws0_of 195 (by decide +kernel) (by decide +kernel)
theorem wd_196 : Cond.fieldLink RX2 18 (TX2 2).1 (TX2 2).2.1 (TX2 2).2.2.1 ∈ ws0 := ws0_of 196 (by decide +kernel) (by decide +kernel)
theorem wd_197 : Cond.fieldLink RX2 26 (TX2 3).1 (TX2 3).2.1 (TX2 3).2.2.1 ∈ ws0 := ws0_of 197 (by decide +kernel) (by decide +kernel)
theorem wd_198 : Cond.fieldLink RX2 30 (TX2 4).1 (TX2 4).2.1 (TX2 4).2.2.1 ∈ ws0 := ws0_of 198 (by decide +kernel) (by decide +kernel)
theorem wd_199 : Cond.fieldLink RX2 35 (TX2 5).1 (TX2 5).2.1 (TX2 5).2.2.1 ∈ ws0 := ws0_of 199 (by decide +kernel) (by decide +kernel)
theorem wd_200 : Cond.fieldLink RX2 52 (TX2 6).1 (TX2 6).2.1 (TX2 6).2.2.1 ∈ ws0 := ws0_of 200 (by decide +kernel) (by decide +kernel)
theorem wd_228 : Cond.fieldLink RX8 29 (TX8 0).1 (TX8 0).2.1 (TX8 0).2.2.1 ∈ ws0 := ws0_of 228 (by decide +kernel) (by decide +kernel)
theorem wd_229 : Cond.fieldLink RX8 14 (TX8 1).1 (TX8 1).2.1 (TX8 1).2.2.1 ∈ ws0 := ws0_of 229 (by decide +kernel) (by decide +kernel)
theorem wd_230 : Cond.fieldLink RX8 20 (TX8 2).1 (TX8 2).2.1 (TX8 2).2.2.1 ∈ ws0 := ws0_of 230 (by decide +kernel) (by decide +kernel)
theorem wd_231 : Cond.fieldLink RX8 23 (TX8 3).1 (TX8 3).2.1 (TX8 3).2.2.1 ∈ ws0 := ws0_of 231 (by decide +kernel) (by decide +kernel)
theorem wd_232 : Cond.fieldLink RX8 26 (TX8 4).1 (TX8 4).2.1 (TX8 4).2.2.1 ∈ ws0 := ws0_of 232 (by decide +kernel) (by decide +kernel)
theorem wd_244 : Cond.fieldLink RX9 9 (TX9 0).1 (TX9 0).2.1 (TX9 0).2.2.1 ∈ ws0 := ws0_of 244 (by decide +kernel) (by decide +kernel)
theorem wd_245 : Cond.fieldLink RX9 15 (TX9 1).1 (TX9 1).2.1 (TX9 1).2.2.1 ∈ ws0 := ws0_of 245 (by decide +kernel) (by decide +kernel)
theorem wd_246 : Cond.fieldLink RX9 18 (TX9 2).1 (TX9 2).2.1 (TX9 2).2.2.1 ∈ ws0 := ws0_of 246 (by decide +kernel) (by decide +kernel)
theorem wd_247 : Cond.fieldLink RX9 21 (TX9 3).1 (TX9 3).2.1 (TX9 3).2.2.1 ∈ ws0 := ws0_of 247 (by decide +kernel) (by decide +kernel)
theorem wd_248 : Cond.fieldLink RX9 24 (TX9 4).1 (TX9 4).2.1 (TX9 4).2.2.1 ∈ ws0 := ws0_of 248 (by decide +kernel) (by decide +kernel)
theorem wd_249 : Cond.fieldLink RX9 27 (TX9 5).1 (TX9 5).2.1 (TX9 5).2.2.1 ∈ ws0 := ws0_of 249 (by decide +kernel) (by decide +kernel)
theorem wd_250 : Cond.fieldLink RX9 30 (TX9 6).1 (TX9 6).2.1 (TX9 6).2.2.1 ∈ ws0 := ws0_of 250 (by decide +kernel) (by decide +kernel)
theorem wd_251 : Cond.fieldLink RX9 33 (TX9 7).1 (TX9 7).2.1 (TX9 7).2.2.1 ∈ ws0 := ws0_of 251 (by decide +kernel) (by decide +kernel)
theorem wd_252 : Cond.fieldLink RX9 36 (TX9 8).1 (TX9 8).2.1 (TX9 8).2.2.1 ∈ ws0 := ws0_of 252 (by decide +kernel) (by decide +kernel)
theorem wd_253 : Cond.fieldLink RX9 39 (TX9 9).1 (TX9 9).2.1 (TX9 9).2.2.1 ∈ ws0 := ws0_of 253 (by decide +kernel) (by decide +kernel)
theorem wd_254 : Cond.fieldLink RX9 48 (TX9 10).1 (TX9 10).2.1 (TX9 10).2.2.1 ∈ ws0 := ws0_of 254 (by decide +kernel) (by decide +kernel)
theorem wd_255 : Cond.fieldLink RX9 55 (TX9 11).1 (TX9 11).2.1 (TX9 11).2.2.1 ∈ ws0 := ws0_of 255 (by decide +kernel) (by decide +kernel)
theorem wd_256 : Cond.fieldLink RX9 81 (TX9 12).1 (TX9 12).2.1 (TX9 12).2.2.1 ∈ ws0 := ws0_of 256 (by decide +kernel) (by decide +kernel)
theorem wd_257 : Cond.fieldLink RX9 64 (TX9 13).1 (TX9 13).2.1 (TX9 13).2.2.1 ∈ ws0 := ws0_of 257 (by decide +kernel) (by decide +kernel)
theorem wd_258 : Cond.fieldLink RX9 88 (TX9 14).1 (TX9 14).2.1 (TX9 14).2.2.1 ∈ ws0 := ws0_of 258 (by decide +kernel) (by decide +kernel)
theorem wd_301 : Cond.fieldLink RX1 9 (TX1 0).1 (TX1 0).2.1 (TX1 0).2.2.1 ∈ ws0 := ws0_of 301 (by decide +kernel) (by decide +kernel)
theorem wd_302 : Cond.fieldLink RX1 20 (TX1 1).1 (TX1 1).2.1 (TX1 1).2.2.1 ∈ ws0 := ws0_of 302 (by decide +kernel) (by decide +kernel)
theorem wd_303 : Cond.fieldLink RX1 24 (TX1 2).1 (TX1 2).2.1 (TX1 2).2.2.1 ∈ ws0 := ws0_of 303 (by decide +kernel) (by decide +kernel)
theorem wd_304 : Cond.fieldLink RX1 27 (TX1 3).1 (TX1 3).2.1 (TX1 3).2.2.1 ∈ ws0 := ws0_of 304 (by decide +kernel) (by decide +kernel)
theorem wd_305 : Cond.fieldLink RX1 30 (TX1 4).1 (TX1 4).2.1 (TX1 4).2.2.1 ∈ ws0 := ws0_of 305 (by decide +kernel) (by decide +kernel)
theorem wd_306 : Cond.fieldLink RX1 33 (TX1 5).1 (TX1 5).2.1 (TX1 5).2.2.1 ∈ ws0 := ws0_of 306 (by decide +kernel) (by decide +kernel)
theorem wd_328 : Cond.fieldLink RX3 9 (TX3 0).1 (TX3 0).2.1 (TX3 0).2.2.1 ∈ ws0 := ws0_of 328 (by decide +kernel) (by decide +kernel)
theorem wd_329 : Cond.fieldLink RX3 20 (TX3 1).1 (TX3 1).2.1 (TX3 1).2.2.1 ∈ ws0 := ws0_of 329 (by decide +kernel) (by decide +kernel)
theorem wd_330 : Cond.fieldLink RX3 24 (TX3 2).1 (TX3 2).2.1 (TX3 2).2.2.1 ∈ ws0 := ws0_of 330 (by decide +kernel) (by decide +kernel)
theorem wd_331 : Cond.fieldLink RX3 27 (TX3 3).1 (TX3 3).2.1 (TX3 3).2.2.1 ∈ ws0 := ws0_of 331 (by decide +kernel) (by decide +kernel)
theorem wd_332 : Cond.fieldLink RX3 30 (TX3 4).1 (TX3 4).2.1 (TX3 4).2.2.1 ∈ ws0 := ws0_of 332 (by decide +kernel) (by decide +kernel)
theorem wd_333 : Cond.fieldLink RX3 33 (TX3 5).1 (TX3 5).2.1 (TX3 5).2.2.1 ∈ ws0 := ws0_of 333 (by decide +kernel) (by decide +kernel)
theorem wd_334 : Cond.fieldLink RX3 36 (TX3 6).1 (TX3 6).2.1 (TX3 6).2.2.1 ∈ ws0 := ws0_of 334 (by decide +kernel) (by decide +kernel)
theorem wd_335 : Cond.fieldLink RX3 39 (TX3 7).1 (TX3 7).2.1 (TX3 7).2.2.1 ∈ ws0 := ws0_of 335 (by decide +kernel) (by decide +kernel)
theorem wd_336 : Cond.fieldLink RX3 42 (TX3 8).1 (TX3 8).2.1 (TX3 8).2.2.1 ∈ ws0 := ws0_of 336 (by decide +kernel) (by decide +kernel)
theorem wd_337 : Cond.fieldLink RX3 45 (TX3 9).1 (TX3 9).2.1 (TX3 9).2.2.1 ∈ ws0 := ws0_of 337 (by decide +kernel) (by decide +kernel)
theorem wd_338 : Cond.fieldLink RX3 48 (TX3 10).1 (TX3 10).2.1 (TX3 10).2.2.1 ∈ ws0 := ws0_of 338 (by decide +kernel) (by decide +kernel)
theorem wd_339 : Cond.fieldLink RX3 51 (TX3 11).1 (TX3 11).2.1 (TX3 11).2.2.1 ∈ ws0 := ws0_of 339 (by decide +kernel) (by decide +kernel)
theorem wd_371 : Cond.fieldLink RX0 9 (TX0 0).1 (TX0 0).2.1 (TX0 0).2.2.1 ∈ ws0 := ws0_of 371 (by decide +kernel) (by decide +kernel)
theorem wd_383 : Cond.fieldLink RX5 14 (TX5 0).1 (TX5 0).2.1 (TX5 0).2.2.1 ∈ ws0 := ws0_of 383 (by decide +kernel) (by decide +kernel)
theorem wd_384 : Cond.fieldLink RX5 20 (TX5 1).1 (TX5 1).2.1 (TX5 1).2.2.1 ∈ ws0 := ws0_of 384 (by decide +kernel) (by decide +kernel)
theorem wd_385 : Cond.fieldLink RX5 23 (TX5 2).1 (TX5 2).2.1 (TX5 2).2.2.1 ∈ ws0 := ws0_of 385 (by decide +kernel) (by decide +kernel)
theorem wd_386 : Cond.fieldLink RX5 26 (TX5 3).1 (TX5 3).2.1 (TX5 3).2.2.1 ∈ ws0 := ws0_of 386 (by decide +kernel) (by decide +kernel)
theorem wd_387 : Cond.fieldLink RX5 36 (TX5 4).1 (TX5 4).2.1 (TX5 4).2.2.1 ∈ ws0 := ws0_of 387 (by decide +kernel) (by decide +kernel)
theorem wd_407 : Cond.fieldLink RX4 9 (TX4 0).1 (TX4 0).2.1 (TX4 0).2.2.1 ∈ ws0 := ws0_of 407 (by decide +kernel) (by decide +kernel)
theorem wd_408 : Cond.fieldLink RX4 20 (TX4 1).1 (TX4 1).2.1 (TX4 1).2.2.1 ∈ ws0 := ws0_of 408 (by decide +kernel) (by decide +kernel)
theorem wd_409 : Cond.fieldLink RX4 23 (TX4 2).1 (TX4 2).2.1 (TX4 2).2.2.1 ∈ ws0 := ws0_of 409 (by decide +kernel) (by decide +kernel)
theorem wd_410 : Cond.fieldLink RX4 26 (TX4 3).1 (TX4 3).2.1 (TX4 3).2.2.1 ∈ ws0 := ws0_of 410 (by decide +kernel) (by decide +kernel)
theorem wd_420 : Cond.fieldLink RX10 12 (TX10 0).1 (TX10 0).2.1 (TX10 0).2.2.1 ∈ ws0 := ws0_of 420 (by decide +kernel) (by decide +kernel)
theorem wd_421 : Cond.fieldLink RX10 16 (TX10 1).1 (TX10 1).2.1 (TX10 1).2.2.1 ∈ ws0 := ws0_of 421 (by decide +kernel) (by decide +kernel)
theorem wd_422 : Cond.fieldLink RX10 221 (TX10 2).1 (TX10 2).2.1 (TX10 2).2.2.1 ∈ ws0 := ws0_of 422 (by decide +kernel) (by decide +kernel)
theorem wd_423 : Cond.fieldLink RX10 22 (TX10 3).1 (TX10 3).2.1 (TX10 3).2.2.1 ∈ ws0 := ws0_of 423 (by decide +kernel) (by decide +kernel)
theorem wd_424 : Cond.fieldLink RX10 29 (TX10 4).1 (TX10 4).2.1 (TX10 4).2.2.1 ∈ ws0 := ws0_of 424 (by decide +kernel) (by decide +kernel)
theorem wd_425 : Cond.fieldLink RX10 33 (TX10 5).1 (TX10 5).2.1 (TX10 5).2.2.1 ∈ ws0 := ws0_of 425 (by decide +kernel) (by decide +kernel)
theorem wd_426 : Cond.fieldLink RX10 41 (TX10 6).1 (TX10 6).2.1 (TX10 6).2.2.1 ∈ ws0 := ws0_of 426 (by decide +kernel) (by decide +kernel)
theorem wd_427 : Cond.fieldLink RX10 48 (TX10 7).1 (TX10 7).2.1 (TX10 7).2.2.1 ∈ ws0 := ws0_of 427 (by decide +kernel) (by decide +kernel)
theorem wd_428 : Cond.fieldLink RX10 55 (TX10 8).1 (TX10 8).2.1 (TX10 8).2.2.1 ∈ ws0 := ws0_of 428 (by decide +kernel) (by decide +kernel)
theorem wd_429 : Cond.fieldLink RX10 62 (TX10 9).1 (TX10 9).2.1 (TX10 9).2.2.1 ∈ ws0 := ws0_of 429 (by decide +kernel) (by decide +kernel)
theorem wd_430 : Cond.fieldLink RX10 66 (TX10 10).1 (TX10 10).2.1 (TX10 10).2.2.1 ∈ ws0 := ws0_of 430 (by decide +kernel) (by decide +kernel)
theorem wd_431 : Cond.fieldLink RX10 319 (TX10 11).1 (TX10 11).2.1 (TX10 11).2.2.1 ∈ ws0 := ws0_of 431 (by decide +kernel) (by decide +kernel)
theorem wd_432 : Cond.fieldLink RX10 74 (TX10 12).1 (TX10 12).2.1 (TX10 12).2.2.1 ∈ ws0 := ws0_of 432 (by decide +kernel) (by decide +kernel)
theorem wd_433 : Cond.fieldLink RX10 78 (TX10 13).1 (TX10 13).2.1 (TX10 13).2.2.1 ∈ ws0 := ws0_of 433 (by decide +kernel) (by decide +kernel)
theorem wd_434 : Cond.fieldLink RX10 81 (TX10 14).1 (TX10 14).2.1 (TX10 14).2.2.1 ∈ ws0 := ws0_of 434 (by decide +kernel) (by decide +kernel)
theorem wd_435 : Cond.fieldLink RX10 84 (TX10 15).1 (TX10 15).2.1 (TX10 15).2.2.1 ∈ ws0 := ws0_of 435 (by decide +kernel) (by decide +kernel)
theorem wd_436 : Cond.fieldLink RX10 87 (TX10 16).1 (TX10 16).2.1 (TX10 16).2.2.1 ∈ ws0 := ws0_of 436 (by decide +kernel) (by decide +kernel)
theorem wd_437 : Cond.fieldLink RX10 90 (TX10 17).1 (TX10 17).2.1 (TX10 17).2.2.1 ∈ ws0 := ws0_of 437 (by decide +kernel) (by decide +kernel)
theorem wd_438 : Cond.fieldLink RX10 93 (TX10 18).1 (TX10 18).2.1 (TX10 18).2.2.1 ∈ ws0 := ws0_of 438 (by decide +kernel) (by decide +kernel)
theorem wd_439 : Cond.fieldLink RX10 96 (TX10 19).1 (TX10 19).2.1 (TX10 19).2.2.1 ∈ ws0 := ws0_of 439 (by decide +kernel) (by decide +kernel)
theorem wd_485 : Cond.constantLong RX10 357 8 ∈ ws0 := ws0_of 485 (by decide +kernel) (by decide +kernel)
theorem wd_486 : Cond.methodLink RX10 107 yX7_size ∈ ws0 := ws0_of 486 (by decide +kernel) (by decide +kernel)
theorem wd_487 : Cond.instanceMethod yX7_size ∈ ws0 := ws0_of 487 (by decide +kernel) (by decide +kernel)
theorem wd_488 : Cond.selects RX7 yX7_size yX7_size ∈ ws0 := ws0_of 488 (by decide +kernel) (by decide +kernel)
theorem wd_490 : Cond.methodLink RX10 243 yX7_get ∈ ws0 := ws0_of 490 (by decide +kernel) (by decide +kernel)
theorem wd_491 : Cond.instanceMethod yX7_get ∈ ws0 := ws0_of 491 (by decide +kernel) (by decide +kernel)
theorem wd_492 : Cond.selects RX7 yX7_get yX7_get ∈ ws0 := ws0_of 492 (by decide +kernel) (by decide +kernel)
theorem wd_503 : Cond.methodLink RX10 99 yX10_isWithin ∈ ws0 := ws0_of 503 (by decide +kernel) (by decide +kernel)
theorem wd_504 : Cond.static yX10_isWithin ∈ ws0 := ws0_of 504 (by decide +kernel) (by decide +kernel)
theorem wd_506 : Cond.methodLink RX10 103 yX10_checkArgument ∈ ws0 := ws0_of 506 (by decide +kernel) (by decide +kernel)
theorem wd_507 : Cond.static yX10_checkArgument ∈ ws0 := ws0_of 507 (by decide +kernel) (by decide +kernel)
theorem wd_509 : Cond.classLink RX10 370 (exN 2) ∈ ws0 := ws0_of 509 (by decide +kernel) (by decide +kernel)
theorem wd_551 : Cond.methodLink RX10 374 (Bundle.initS (exN 2)) ∈ ws0 := ws0_of 551 (by decide +kernel) (by decide +kernel)
theorem wd_577 : Cond.classLink RX10 111 (exN 3) ∈ ws0 := ws0_of 577 (by decide +kernel) (by decide +kernel)
theorem wd_587 : Cond.methodLink RX10 115 (Bundle.initS (exN 3)) ∈ ws0 := ws0_of 587 (by decide +kernel) (by decide +kernel)
theorem wd_593 : Cond.constantLong RX10 118 255 ∈ ws0 := ws0_of 593 (by decide +kernel) (by decide +kernel)
theorem wd_594 : Cond.methodLink RX10 120 yX7_add ∈ ws0 := ws0_of 594 (by decide +kernel) (by decide +kernel)
theorem wd_595 : Cond.instanceMethod yX7_add ∈ ws0 := ws0_of 595 (by decide +kernel) (by decide +kernel)
theorem wd_596 : Cond.selects RX7 yX7_add yX7_add ∈ ws0 := ws0_of 596 (by decide +kernel) (by decide +kernel)
theorem wd_606 : Cond.methodLink RX10 124 yX10_checkLetter ∈ ws0 := ws0_of 606 (by decide +kernel) (by decide +kernel)
theorem wd_607 : Cond.static yX10_checkLetter ∈ ws0 := ws0_of 607 (by decide +kernel) (by decide +kernel)
theorem wd_609 : Cond.methodLink RX10 127 yX10_isLetter ∈ ws0 := ws0_of 609 (by decide +kernel) (by decide +kernel)
theorem wd_610 : Cond.static yX10_isLetter ∈ ws0 := ws0_of 610 (by decide +kernel) (by decide +kernel)
theorem wd_612 : Cond.classLink RX10 230 (exN 1) ∈ ws0 := ws0_of 612 (by decide +kernel) (by decide +kernel)
theorem wd_622 : Cond.methodLink RX10 234 (Bundle.initS (exN 1)) ∈ ws0 := ws0_of 622 (by decide +kernel) (by decide +kernel)
theorem wd_628 : Cond.methodLink RX10 130 yX9_tell ∈ ws0 := ws0_of 628 (by decide +kernel) (by decide +kernel)
theorem wd_629 : Cond.instanceMethod yX9_tell ∈ ws0 := ws0_of 629 (by decide +kernel) (by decide +kernel)
theorem wd_630 : Cond.selects RX9 yX9_tell yX9_tell ∈ ws0 := ws0_of 630 (by decide +kernel) (by decide +kernel)
theorem wd_633 : Cond.static yX10_setCell ∈ ws0 := ws0_of 633 (by decide +kernel) (by decide +kernel)
theorem wd_642 : Cond.methodLink RX10 134 yX9_tellSplit ∈ ws0 := ws0_of 642 (by decide +kernel) (by decide +kernel)
theorem wd_643 : Cond.instanceMethod yX9_tellSplit ∈ ws0 := ws0_of 643 (by decide +kernel) (by decide +kernel)
theorem wd_644 : Cond.selects RX9 yX9_tellSplit yX9_tellSplit ∈ ws0 := ws0_of 644 (by decide +kernel) (by decide +kernel)
theorem wd_653 : Cond.methodLink RX10 138 yX9_tellCapital ∈ ws0 := ws0_of 653 (by decide +kernel) (by decide +kernel)
theorem wd_654 : Cond.instanceMethod yX9_tellCapital ∈ ws0 := ws0_of 654 (by decide +kernel) (by decide +kernel)
theorem wd_655 : Cond.selects RX9 yX9_tellCapital yX9_tellCapital ∈ ws0 := ws0_of 655 (by decide +kernel) (by decide +kernel)
theorem wd_664 : Cond.methodLink RX10 141 yX9_partnerOf ∈ ws0 := ws0_of 664 (by decide +kernel) (by decide +kernel)
theorem wd_665 : Cond.instanceMethod yX9_partnerOf ∈ ws0 := ws0_of 665 (by decide +kernel) (by decide +kernel)
theorem wd_666 : Cond.selects RX9 yX9_partnerOf yX9_partnerOf ∈ ws0 := ws0_of 666 (by decide +kernel) (by decide +kernel)
theorem wd_669 : Cond.static yX10_cellOf ∈ ws0 := ws0_of 669 (by decide +kernel) (by decide +kernel)
theorem wd_672 : Cond.methodLink RX10 147 yX9_tellPartners ∈ ws0 := ws0_of 672 (by decide +kernel) (by decide +kernel)
theorem wd_673 : Cond.instanceMethod yX9_tellPartners ∈ ws0 := ws0_of 673 (by decide +kernel) (by decide +kernel)
theorem wd_674 : Cond.selects RX9 yX9_tellPartners yX9_tellPartners ∈ ws0 := ws0_of 674 (by decide +kernel) (by decide +kernel)
theorem wd_683 : Cond.methodLink RX10 151 yX10_languageOf ∈ ws0 := ws0_of 683 (by decide +kernel) (by decide +kernel)
theorem wd_685 : Cond.instanceMethod yX10_languageOf ∈ ws0 := ws0_of 685 (by decide +kernel) (by decide +kernel)
theorem wd_687 : Cond.methodLink RX10 379 yX9_languageAt ∈ ws0 := ws0_of 687 (by decide +kernel) (by decide +kernel)
theorem wd_688 : Cond.instanceMethod yX9_languageAt ∈ ws0 := ws0_of 688 (by decide +kernel) (by decide +kernel)
theorem wd_689 : Cond.selects RX9 yX9_languageAt yX9_languageAt ∈ ws0 := ws0_of 689 (by decide +kernel) (by decide +kernel)
theorem wd_692 : Cond.methodLink RX10 155 yX10_checkWeights ∈ ws0 := ws0_of 692 (by decide +kernel) (by decide +kernel)
theorem wd_693 : Cond.static yX10_checkWeights ∈ ws0 := ws0_of 693 (by decide +kernel) (by decide +kernel)
theorem wd_695 : Cond.methodLink RX10 158 yX2_weighUnit ∈ ws0 := ws0_of 695 (by decide +kernel) (by decide +kernel)
theorem wd_696 : Cond.instanceMethod yX2_weighUnit ∈ ws0 := ws0_of 696 (by decide +kernel) (by decide +kernel)
theorem wd_697 : Cond.selects RX2 yX2_weighUnit yX2_weighUnit ∈ ws0 := ws0_of 697 (by decide +kernel) (by decide +kernel)
theorem wd_707 : Cond.methodLink RX10 164 yX2_contractionOf ∈ ws0 := ws0_of 707 (by decide +kernel) (by decide +kernel)
theorem wd_708 : Cond.instanceMethod yX2_contractionOf ∈ ws0 := ws0_of 708 (by decide +kernel) (by decide +kernel)
theorem wd_709 : Cond.selects RX2 yX2_contractionOf yX2_contractionOf ∈ ws0 := ws0_of 709 (by decide +kernel) (by decide +kernel)
theorem wd_711 : Cond.methodLink RX2 60 yX7_size ∈ ws0 := ws0_of 711 (by decide +kernel) (by decide +kernel)
theorem wd_712 : Cond.methodLink RX2 64 yX7_get ∈ ws0 := ws0_of 712 (by decide +kernel) (by decide +kernel)
theorem wd_713 : Cond.methodLink RX10 168 yX2_addContraction ∈ ws0 := ws0_of 713 (by decide +kernel) (by decide +kernel)
theorem wd_714 : Cond.instanceMethod yX2_addContraction ∈ ws0 := ws0_of 714 (by decide +kernel) (by decide +kernel)
theorem wd_715 : Cond.selects RX2 yX2_addContraction yX2_addContraction ∈ ws0 := ws0_of 715 (by decide +kernel) (by decide +kernel)
theorem wd_717 : Cond.methodLink RX2 68 yX7_add ∈ ws0 := ws0_of 717 (by decide +kernel) (by decide +kernel)
theorem wd_719 : Cond.methodLink RX10 173 yX2_contractionCount ∈ ws0 := ws0_of 719 (by decide +kernel) (by decide +kernel)
theorem wd_720 : Cond.instanceMethod yX2_contractionCount ∈ ws0 := ws0_of 720 (by decide +kernel) (by decide +kernel)
theorem wd_721 : Cond.selects RX2 yX2_contractionCount yX2_contractionCount ∈ ws0 := ws0_of 721 (by decide +kernel) (by decide +kernel)
theorem wd_730 : Cond.methodLink RX10 176 yX10_isRange ∈ ws0 := ws0_of 730 (by decide +kernel) (by decide +kernel)
theorem wd_731 : Cond.static yX10_isRange ∈ ws0 := ws0_of 731 (by decide +kernel) (by decide +kernel)
theorem wd_733 : Cond.methodLink RX10 180 yX2_nextPlural ∈ ws0 := ws0_of 733 (by decide +kernel) (by decide +kernel)
theorem wd_734 : Cond.instanceMethod yX2_nextPlural ∈ ws0 := ws0_of 734 (by decide +kernel) (by decide +kernel)
theorem wd_735 : Cond.selects RX2 yX2_nextPlural yX2_nextPlural ∈ ws0 := ws0_of 735 (by decide +kernel) (by decide +kernel)
theorem wd_738 : Cond.methodLink RX10 186 yX6_tell ∈ ws0 := ws0_of 738 (by decide +kernel) (by decide +kernel)
theorem wd_739 : Cond.instanceMethod yX6_tell ∈ ws0 := ws0_of 739 (by decide +kernel) (by decide +kernel)
theorem wd_740 : Cond.selects RX6 yX6_tell yX6_tell ∈ ws0 := ws0_of 740 (by decide +kernel) (by decide +kernel)
theorem wd_742 : Cond.methodLink RX10 191 yX2_countPlural ∈ ws0 := ws0_of 742 (by decide +kernel) (by decide +kernel)
theorem wd_743 : Cond.instanceMethod yX2_countPlural ∈ ws0 := ws0_of 743 (by decide +kernel) (by decide +kernel)
theorem wd_744 : Cond.selects RX2 yX2_countPlural yX2_countPlural ∈ ws0 := ws0_of 744 (by decide +kernel) (by decide +kernel)
theorem wd_753 : Cond.methodLink RX10 194 yX10_textOf ∈ ws0 := ws0_of 753 (by decide +kernel) (by decide +kernel)
theorem wd_755 : Cond.instanceMethod yX10_textOf ∈ ws0 := ws0_of 755 (by decide +kernel) (by decide +kernel)
theorem wd_758 : Cond.methodLink RX10 198 yX9_takeWord ∈ ws0 := ws0_of 758 (by decide +kernel) (by decide +kernel)
theorem wd_759 : Cond.instanceMethod yX9_takeWord ∈ ws0 := ws0_of 759 (by decide +kernel) (by decide +kernel)
theorem wd_760 : Cond.selects RX9 yX9_takeWord yX9_takeWord ∈ ws0 := ws0_of 760 (by decide +kernel) (by decide +kernel)
theorem wd_762 : Cond.methodLink RX9 77 yX7_takeOver ∈ ws0 := ws0_of 762 (by decide +kernel) (by decide +kernel)
theorem wd_763 : Cond.instanceMethod yX7_takeOver ∈ ws0 := ws0_of 763 (by decide +kernel) (by decide +kernel)
theorem wd_764 : Cond.selects RX7 yX7_takeOver yX7_takeOver ∈ ws0 := ws0_of 764 (by decide +kernel) (by decide +kernel)
theorem wd_766 : Cond.methodLink RX7 19 yX7_get ∈ ws0 := ws0_of 766 (by decide +kernel) (by decide +kernel)
theorem wd_767 : Cond.methodLink RX7 27 yX7_add ∈ ws0 := ws0_of 767 (by decide +kernel) (by decide +kernel)
theorem wd_769 : Cond.methodLink RX10 204 yX9_wordCount ∈ ws0 := ws0_of 769 (by decide +kernel) (by decide +kernel)
theorem wd_770 : Cond.instanceMethod yX9_wordCount ∈ ws0 := ws0_of 770 (by decide +kernel) (by decide +kernel)
theorem wd_771 : Cond.selects RX9 yX9_wordCount yX9_wordCount ∈ ws0 := ws0_of 771 (by decide +kernel) (by decide +kernel)
theorem wd_780 : Cond.methodLink RX10 207 yX9_nextRule ∈ ws0 := ws0_of 780 (by decide +kernel) (by decide +kernel)
theorem wd_781 : Cond.instanceMethod yX9_nextRule ∈ ws0 := ws0_of 781 (by decide +kernel) (by decide +kernel)
theorem wd_782 : Cond.selects RX9 yX9_nextRule yX9_nextRule ∈ ws0 := ws0_of 782 (by decide +kernel) (by decide +kernel)
theorem wd_785 : Cond.methodLink RX10 213 yX8_tell ∈ ws0 := ws0_of 785 (by decide +kernel) (by decide +kernel)
theorem wd_786 : Cond.instanceMethod yX8_tell ∈ ws0 := ws0_of 786 (by decide +kernel) (by decide +kernel)
theorem wd_787 : Cond.selects RX8 yX8_tell yX8_tell ∈ ws0 := ws0_of 787 (by decide +kernel) (by decide +kernel)
theorem wd_789 : Cond.methodLink RX8 33 yX7_takeOver ∈ ws0 := ws0_of 789 (by decide +kernel) (by decide +kernel)
theorem wd_790 : Cond.methodLink RX10 218 yX9_countRule ∈ ws0 := ws0_of 790 (by decide +kernel) (by decide +kernel)
theorem wd_791 : Cond.instanceMethod yX9_countRule ∈ ws0 := ws0_of 791 (by decide +kernel) (by decide +kernel)
theorem wd_792 : Cond.selects RX9 yX9_countRule yX9_countRule ∈ ws0 := ws0_of 792 (by decide +kernel) (by decide +kernel)
theorem wd_802 : Cond.methodLink RX10 227 yX9_copyFrom ∈ ws0 := ws0_of 802 (by decide +kernel) (by decide +kernel)
theorem wd_803 : Cond.instanceMethod yX9_copyFrom ∈ ws0 := ws0_of 803 (by decide +kernel) (by decide +kernel)
theorem wd_804 : Cond.selects RX9 yX9_copyFrom yX9_copyFrom ∈ ws0 := ws0_of 804 (by decide +kernel) (by decide +kernel)
theorem wd_807 : Cond.static yX10_copyCells ∈ ws0 := ws0_of 807 (by decide +kernel) (by decide +kernel)
theorem wd_809 : Cond.methodLink RX9 73 yX2_copyFrom ∈ ws0 := ws0_of 809 (by decide +kernel) (by decide +kernel)
theorem wd_810 : Cond.instanceMethod yX2_copyFrom ∈ ws0 := ws0_of 810 (by decide +kernel) (by decide +kernel)
theorem wd_811 : Cond.selects RX2 yX2_copyFrom yX2_copyFrom ∈ ws0 := ws0_of 811 (by decide +kernel) (by decide +kernel)
theorem wd_814 : Cond.methodLink RX2 44 yX7_takeOver ∈ ws0 := ws0_of 814 (by decide +kernel) (by decide +kernel)
theorem wd_815 : Cond.methodLink RX2 48 yX6_copyFrom ∈ ws0 := ws0_of 815 (by decide +kernel) (by decide +kernel)
theorem wd_816 : Cond.instanceMethod yX6_copyFrom ∈ ws0 := ws0_of 816 (by decide +kernel) (by decide +kernel)
theorem wd_817 : Cond.selects RX6 yX6_copyFrom yX6_copyFrom ∈ ws0 := ws0_of 817 (by decide +kernel) (by decide +kernel)
theorem wd_819 : Cond.methodLink RX6 31 yX6_tell ∈ ws0 := ws0_of 819 (by decide +kernel) (by decide +kernel)
theorem wd_820 : Cond.methodLink RX9 85 yX8_copyFrom ∈ ws0 := ws0_of 820 (by decide +kernel) (by decide +kernel)
theorem wd_821 : Cond.instanceMethod yX8_copyFrom ∈ ws0 := ws0_of 821 (by decide +kernel) (by decide +kernel)
theorem wd_822 : Cond.selects RX8 yX8_copyFrom yX8_copyFrom ∈ ws0 := ws0_of 822 (by decide +kernel) (by decide +kernel)
theorem wd_824 : Cond.methodLink RX8 37 yX8_tell ∈ ws0 := ws0_of 824 (by decide +kernel) (by decide +kernel)
theorem wd_848 : Cond.methodLink RX10 237 yX7_cutTo ∈ ws0 := ws0_of 848 (by decide +kernel) (by decide +kernel)
theorem wd_849 : Cond.instanceMethod yX7_cutTo ∈ ws0 := ws0_of 849 (by decide +kernel) (by decide +kernel)
theorem wd_850 : Cond.selects RX7 yX7_cutTo yX7_cutTo ∈ ws0 := ws0_of 850 (by decide +kernel) (by decide +kernel)
theorem wd_859 : Cond.methodLink RX10 240 yX10_checkPlace ∈ ws0 := ws0_of 859 (by decide +kernel) (by decide +kernel)
theorem wd_860 : Cond.static yX10_checkPlace ∈ ws0 := ws0_of 860 (by decide +kernel) (by decide +kernel)
theorem wd_870 : Cond.methodLink RX10 246 yX1_formInto ∈ ws0 := ws0_of 870 (by decide +kernel) (by decide +kernel)
theorem wd_871 : Cond.instanceMethod yX1_formInto ∈ ws0 := ws0_of 871 (by decide +kernel) (by decide +kernel)
theorem wd_872 : Cond.selects RX1 yX1_formInto yX1_formInto ∈ ws0 := ws0_of 872 (by decide +kernel) (by decide +kernel)
theorem wd_874 : Cond.methodLink RX1 36 yX1_splitInto ∈ ws0 := ws0_of 874 (by decide +kernel) (by decide +kernel)
theorem wd_875 : Cond.instanceMethod yX1_splitInto ∈ ws0 := ws0_of 875 (by decide +kernel) (by decide +kernel)
theorem wd_876 : Cond.selects RX1 yX1_splitInto yX1_splitInto ∈ ws0 := ws0_of 876 (by decide +kernel) (by decide +kernel)
theorem wd_878 : Cond.methodLink RX1 49 yX7_cutTo ∈ ws0 := ws0_of 878 (by decide +kernel) (by decide +kernel)
theorem wd_879 : Cond.methodLink RX1 52 yX7_size ∈ ws0 := ws0_of 879 (by decide +kernel) (by decide +kernel)
theorem wd_880 : Cond.methodLink RX1 56 yX7_get ∈ ws0 := ws0_of 880 (by decide +kernel) (by decide +kernel)
theorem wd_881 : Cond.methodLink RX1 60 yX1_splitLetter ∈ ws0 := ws0_of 881 (by decide +kernel) (by decide +kernel)
theorem wd_883 : Cond.instanceMethod yX1_splitLetter ∈ ws0 := ws0_of 883 (by decide +kernel) (by decide +kernel)
theorem wd_885 : Cond.methodLink RX1 68 yX7_add ∈ ws0 := ws0_of 885 (by decide +kernel) (by decide +kernel)
theorem wd_886 : Cond.methodLink RX1 72 yX7_removeLast ∈ ws0 := ws0_of 886 (by decide +kernel) (by decide +kernel)
theorem wd_887 : Cond.instanceMethod yX7_removeLast ∈ ws0 := ws0_of 887 (by decide +kernel) (by decide +kernel)
theorem wd_888 : Cond.selects RX7 yX7_removeLast yX7_removeLast ∈ ws0 := ws0_of 888 (by decide +kernel) (by decide +kernel)
theorem wd_890 : Cond.methodLink RX7 23 yX7_cutTo ∈ ws0 := ws0_of 890 (by decide +kernel) (by decide +kernel)
theorem wd_891 : Cond.methodLink RX1 75 yX9_splitOneOf ∈ ws0 := ws0_of 891 (by decide +kernel) (by decide +kernel)
theorem wd_892 : Cond.instanceMethod yX9_splitOneOf ∈ ws0 := ws0_of 892 (by decide +kernel) (by decide +kernel)
theorem wd_893 : Cond.selects RX9 yX9_splitOneOf yX9_splitOneOf ∈ ws0 := ws0_of 893 (by decide +kernel) (by decide +kernel)
theorem wd_895 : Cond.methodLink RX1 80 yX9_splitOtherOf ∈ ws0 := ws0_of 895 (by decide +kernel) (by decide +kernel)
theorem wd_896 : Cond.instanceMethod yX9_splitOtherOf ∈ ws0 := ws0_of 896 (by decide +kernel) (by decide +kernel)
theorem wd_897 : Cond.selects RX9 yX9_splitOtherOf yX9_splitOtherOf ∈ ws0 := ws0_of 897 (by decide +kernel) (by decide +kernel)
theorem wd_899 : Cond.methodLink RX1 64 yX1_sortMarks ∈ ws0 := ws0_of 899 (by decide +kernel) (by decide +kernel)
theorem wd_901 : Cond.instanceMethod yX1_sortMarks ∈ ws0 := ws0_of 901 (by decide +kernel) (by decide +kernel)
theorem wd_903 : Cond.methodLink RX1 83 yX9_joinsOf ∈ ws0 := ws0_of 903 (by decide +kernel) (by decide +kernel)
theorem wd_904 : Cond.instanceMethod yX9_joinsOf ∈ ws0 := ws0_of 904 (by decide +kernel) (by decide +kernel)
theorem wd_905 : Cond.selects RX9 yX9_joinsOf yX9_joinsOf ∈ ws0 := ws0_of 905 (by decide +kernel) (by decide +kernel)
theorem wd_907 : Cond.methodLink RX1 86 yX7_set ∈ ws0 := ws0_of 907 (by decide +kernel) (by decide +kernel)
theorem wd_908 : Cond.instanceMethod yX7_set ∈ ws0 := ws0_of 908 (by decide +kernel) (by decide +kernel)
theorem wd_909 : Cond.selects RX7 yX7_set yX7_set ∈ ws0 := ws0_of 909 (by decide +kernel) (by decide +kernel)
theorem wd_911 : Cond.methodLink RX1 40 yX1_joinInto ∈ ws0 := ws0_of 911 (by decide +kernel) (by decide +kernel)
theorem wd_912 : Cond.instanceMethod yX1_joinInto ∈ ws0 := ws0_of 912 (by decide +kernel) (by decide +kernel)
theorem wd_913 : Cond.selects RX1 yX1_joinInto yX1_joinInto ∈ ws0 := ws0_of 913 (by decide +kernel) (by decide +kernel)
theorem wd_915 : Cond.methodLink RX1 90 yX1_startFor ∈ ws0 := ws0_of 915 (by decide +kernel) (by decide +kernel)
theorem wd_917 : Cond.instanceMethod yX1_startFor ∈ ws0 := ws0_of 917 (by decide +kernel) (by decide +kernel)
theorem wd_919 : Cond.methodLink RX1 94 yX9_joinedOf ∈ ws0 := ws0_of 919 (by decide +kernel) (by decide +kernel)
theorem wd_920 : Cond.instanceMethod yX9_joinedOf ∈ ws0 := ws0_of 920 (by decide +kernel) (by decide +kernel)
theorem wd_921 : Cond.selects RX9 yX9_joinedOf yX9_joinedOf ∈ ws0 := ws0_of 921 (by decide +kernel) (by decide +kernel)
theorem wd_923 : Cond.methodLink RX9 103 yX9_splitOneOf ∈ ws0 := ws0_of 923 (by decide +kernel) (by decide +kernel)
theorem wd_924 : Cond.methodLink RX9 106 yX9_splitOtherOf ∈ ws0 := ws0_of 924 (by decide +kernel) (by decide +kernel)
theorem wd_925 : Cond.methodLink RX1 43 yX1_foldInto ∈ ws0 := ws0_of 925 (by decide +kernel) (by decide +kernel)
theorem wd_926 : Cond.instanceMethod yX1_foldInto ∈ ws0 := ws0_of 926 (by decide +kernel) (by decide +kernel)
theorem wd_927 : Cond.selects RX1 yX1_foldInto yX1_foldInto ∈ ws0 := ws0_of 927 (by decide +kernel) (by decide +kernel)
theorem wd_929 : Cond.methodLink RX1 98 yX1_capitalInto ∈ ws0 := ws0_of 929 (by decide +kernel) (by decide +kernel)
theorem wd_931 : Cond.instanceMethod yX1_capitalInto ∈ ws0 := ws0_of 931 (by decide +kernel) (by decide +kernel)
theorem wd_933 : Cond.methodLink RX1 106 yX9_capitalOneOf ∈ ws0 := ws0_of 933 (by decide +kernel) (by decide +kernel)
theorem wd_934 : Cond.instanceMethod yX9_capitalOneOf ∈ ws0 := ws0_of 934 (by decide +kernel) (by decide +kernel)
theorem wd_935 : Cond.selects RX9 yX9_capitalOneOf yX9_capitalOneOf ∈ ws0 := ws0_of 935 (by decide +kernel) (by decide +kernel)
theorem wd_937 : Cond.methodLink RX1 109 yX9_capitalOtherOf ∈ ws0 := ws0_of 937 (by decide +kernel) (by decide +kernel)
theorem wd_938 : Cond.instanceMethod yX9_capitalOtherOf ∈ ws0 := ws0_of 938 (by decide +kernel) (by decide +kernel)
theorem wd_939 : Cond.selects RX9 yX9_capitalOtherOf yX9_capitalOtherOf ∈ ws0 := ws0_of 939 (by decide +kernel) (by decide +kernel)
theorem wd_941 : Cond.methodLink RX1 102 yX1_addUnmarked ∈ ws0 := ws0_of 941 (by decide +kernel) (by decide +kernel)
theorem wd_943 : Cond.instanceMethod yX1_addUnmarked ∈ ws0 := ws0_of 943 (by decide +kernel) (by decide +kernel)
theorem wd_945 : Cond.methodLink RX1 46 yX1_skeletonInto ∈ ws0 := ws0_of 945 (by decide +kernel) (by decide +kernel)
theorem wd_946 : Cond.instanceMethod yX1_skeletonInto ∈ ws0 := ws0_of 946 (by decide +kernel) (by decide +kernel)
theorem wd_947 : Cond.selects RX1 yX1_skeletonInto yX1_skeletonInto ∈ ws0 := ws0_of 947 (by decide +kernel) (by decide +kernel)
theorem wd_949 : Cond.methodLink RX1 112 yX9_likeOf ∈ ws0 := ws0_of 949 (by decide +kernel) (by decide +kernel)
theorem wd_950 : Cond.instanceMethod yX9_likeOf ∈ ws0 := ws0_of 950 (by decide +kernel) (by decide +kernel)
theorem wd_951 : Cond.selects RX9 yX9_likeOf yX9_likeOf ∈ ws0 := ws0_of 951 (by decide +kernel) (by decide +kernel)
theorem wd_953 : Cond.methodLink RX10 250 yX10_checkForm ∈ ws0 := ws0_of 953 (by decide +kernel) (by decide +kernel)
theorem wd_954 : Cond.static yX10_checkForm ∈ ws0 := ws0_of 954 (by decide +kernel) (by decide +kernel)
theorem wd_957 : Cond.methodLink RX10 253 yX7_takeOver ∈ ws0 := ws0_of 957 (by decide +kernel) (by decide +kernel)
theorem wd_965 : Cond.methodLink RX10 256 yX1_skeletonInto ∈ ws0 := ws0_of 965 (by decide +kernel) (by decide +kernel)
theorem wd_966 : Cond.methodLink RX10 260 yX7_isLike ∈ ws0 := ws0_of 966 (by decide +kernel) (by decide +kernel)
theorem wd_967 : Cond.instanceMethod yX7_isLike ∈ ws0 := ws0_of 967 (by decide +kernel) (by decide +kernel)
theorem wd_968 : Cond.selects RX7 yX7_isLike yX7_isLike ∈ ws0 := ws0_of 968 (by decide +kernel) (by decide +kernel)
theorem wd_970 : Cond.methodLink RX7 31 yX7_holds ∈ ws0 := ws0_of 970 (by decide +kernel) (by decide +kernel)
theorem wd_971 : Cond.instanceMethod yX7_holds ∈ ws0 := ws0_of 971 (by decide +kernel) (by decide +kernel)
theorem wd_972 : Cond.selects RX7 yX7_holds yX7_holds ∈ ws0 := ws0_of 972 (by decide +kernel) (by decide +kernel)
theorem wd_981 : Cond.methodLink RX10 263 yX3_baseFrom ∈ ws0 := ws0_of 981 (by decide +kernel) (by decide +kernel)
theorem wd_982 : Cond.instanceMethod yX3_baseFrom ∈ ws0 := ws0_of 982 (by decide +kernel) (by decide +kernel)
theorem wd_983 : Cond.selects RX3 yX3_baseFrom yX3_baseFrom ∈ ws0 := ws0_of 983 (by decide +kernel) (by decide +kernel)
theorem wd_985 : Cond.methodLink RX3 54 yX7_size ∈ ws0 := ws0_of 985 (by decide +kernel) (by decide +kernel)
theorem wd_986 : Cond.methodLink RX3 58 yX7_get ∈ ws0 := ws0_of 986 (by decide +kernel) (by decide +kernel)
theorem wd_987 : Cond.methodLink RX3 62 yX9_directionOf ∈ ws0 := ws0_of 987 (by decide +kernel) (by decide +kernel)
theorem wd_988 : Cond.instanceMethod yX9_directionOf ∈ ws0 := ws0_of 988 (by decide +kernel) (by decide +kernel)
theorem wd_989 : Cond.selects RX9 yX9_directionOf yX9_directionOf ∈ ws0 := ws0_of 989 (by decide +kernel) (by decide +kernel)
theorem wd_991 : Cond.methodLink RX3 67 yX3_isIsolate ∈ ws0 := ws0_of 991 (by decide +kernel) (by decide +kernel)
theorem wd_992 : Cond.static yX3_isIsolate ∈ ws0 := ws0_of 992 (by decide +kernel) (by decide +kernel)
theorem wd_1001 : Cond.methodLink RX10 267 yX3_lookAt ∈ ws0 := ws0_of 1001 (by decide +kernel) (by decide +kernel)
theorem wd_1002 : Cond.instanceMethod yX3_lookAt ∈ ws0 := ws0_of 1002 (by decide +kernel) (by decide +kernel)
theorem wd_1003 : Cond.selects RX3 yX3_lookAt yX3_lookAt ∈ ws0 := ws0_of 1003 (by decide +kernel) (by decide +kernel)
theorem wd_1005 : Cond.methodLink RX3 71 yX3_baseFrom ∈ ws0 := ws0_of 1005 (by decide +kernel) (by decide +kernel)
theorem wd_1006 : Cond.methodLink RX3 75 yX3_layFrames ∈ ws0 := ws0_of 1006 (by decide +kernel) (by decide +kernel)
theorem wd_1008 : Cond.instanceMethod yX3_layFrames ∈ ws0 := ws0_of 1008 (by decide +kernel) (by decide +kernel)
theorem wd_1010 : Cond.methodLink RX3 101 yX7_cutTo ∈ ws0 := ws0_of 1010 (by decide +kernel) (by decide +kernel)
theorem wd_1011 : Cond.methodLink RX3 104 yX3_addFrame ∈ ws0 := ws0_of 1011 (by decide +kernel) (by decide +kernel)
theorem wd_1013 : Cond.instanceMethod yX3_addFrame ∈ ws0 := ws0_of 1013 (by decide +kernel) (by decide +kernel)
theorem wd_1015 : Cond.methodLink RX3 111 yX7_add ∈ ws0 := ws0_of 1015 (by decide +kernel) (by decide +kernel)
theorem wd_1016 : Cond.methodLink RX3 108 yX3_aroundIsolate ∈ ws0 := ws0_of 1016 (by decide +kernel) (by decide +kernel)
theorem wd_1018 : Cond.instanceMethod yX3_aroundIsolate ∈ ws0 := ws0_of 1018 (by decide +kernel) (by decide +kernel)
theorem wd_1020 : Cond.methodLink RX3 114 yX3_isEmbed ∈ ws0 := ws0_of 1020 (by decide +kernel) (by decide +kernel)
theorem wd_1021 : Cond.static yX3_isEmbed ∈ ws0 := ws0_of 1021 (by decide +kernel) (by decide +kernel)
theorem wd_1023 : Cond.methodLink RX3 117 yX3_levelWithin ∈ ws0 := ws0_of 1023 (by decide +kernel) (by decide +kernel)
theorem wd_1025 : Cond.instanceMethod yX3_levelWithin ∈ ws0 := ws0_of 1025 (by decide +kernel) (by decide +kernel)
theorem wd_1027 : Cond.methodLink RX3 86 yX3_wayOf ∈ ws0 := ws0_of 1027 (by decide +kernel) (by decide +kernel)
theorem wd_1028 : Cond.static yX3_wayOf ∈ ws0 := ws0_of 1028 (by decide +kernel) (by decide +kernel)
theorem wd_1030 : Cond.methodLink RX3 79 yX7_refill ∈ ws0 := ws0_of 1030 (by decide +kernel) (by decide +kernel)
theorem wd_1031 : Cond.instanceMethod yX7_refill ∈ ws0 := ws0_of 1031 (by decide +kernel) (by decide +kernel)
theorem wd_1032 : Cond.selects RX7 yX7_refill yX7_refill ∈ ws0 := ws0_of 1032 (by decide +kernel) (by decide +kernel)
theorem wd_1034 : Cond.methodLink RX3 83 yX3_gather ∈ ws0 := ws0_of 1034 (by decide +kernel) (by decide +kernel)
theorem wd_1036 : Cond.instanceMethod yX3_gather ∈ ws0 := ws0_of 1036 (by decide +kernel) (by decide +kernel)
theorem wd_1038 : Cond.methodLink RX3 89 yX3_settleNumbers ∈ ws0 := ws0_of 1038 (by decide +kernel) (by decide +kernel)
theorem wd_1040 : Cond.instanceMethod yX3_settleNumbers ∈ ws0 := ws0_of 1040 (by decide +kernel) (by decide +kernel)
theorem wd_1042 : Cond.methodLink RX3 121 yX7_set ∈ ws0 := ws0_of 1042 (by decide +kernel) (by decide +kernel)
theorem wd_1043 : Cond.methodLink RX3 92 yX3_settlePartners ∈ ws0 := ws0_of 1043 (by decide +kernel) (by decide +kernel)
theorem wd_1045 : Cond.instanceMethod yX3_settlePartners ∈ ws0 := ws0_of 1045 (by decide +kernel) (by decide +kernel)
theorem wd_1047 : Cond.methodLink RX3 124 yX3_matchPartners ∈ ws0 := ws0_of 1047 (by decide +kernel) (by decide +kernel)
theorem wd_1049 : Cond.instanceMethod yX3_matchPartners ∈ ws0 := ws0_of 1049 (by decide +kernel) (by decide +kernel)
theorem wd_1051 : Cond.methodLink RX3 130 yX9_isOpening ∈ ws0 := ws0_of 1051 (by decide +kernel) (by decide +kernel)
theorem wd_1052 : Cond.instanceMethod yX9_isOpening ∈ ws0 := ws0_of 1052 (by decide +kernel) (by decide +kernel)
theorem wd_1053 : Cond.selects RX9 yX9_isOpening yX9_isOpening ∈ ws0 := ws0_of 1053 (by decide +kernel) (by decide +kernel)
theorem wd_1055 : Cond.methodLink RX9 99 yX9_partnerOf ∈ ws0 := ws0_of 1055 (by decide +kernel) (by decide +kernel)
theorem wd_1056 : Cond.methodLink RX3 133 yX9_isClosing ∈ ws0 := ws0_of 1056 (by decide +kernel) (by decide +kernel)
theorem wd_1057 : Cond.instanceMethod yX9_isClosing ∈ ws0 := ws0_of 1057 (by decide +kernel) (by decide +kernel)
theorem wd_1058 : Cond.selects RX9 yX9_isClosing yX9_isClosing ∈ ws0 := ws0_of 1058 (by decide +kernel) (by decide +kernel)
theorem wd_1060 : Cond.methodLink RX3 136 yX9_partnerOf ∈ ws0 := ws0_of 1060 (by decide +kernel) (by decide +kernel)
theorem wd_1061 : Cond.methodLink RX3 139 yX3_closeLast ∈ ws0 := ws0_of 1061 (by decide +kernel) (by decide +kernel)
theorem wd_1063 : Cond.instanceMethod yX3_closeLast ∈ ws0 := ws0_of 1063 (by decide +kernel) (by decide +kernel)
theorem wd_1065 : Cond.methodLink RX3 127 yX3_pairWay ∈ ws0 := ws0_of 1065 (by decide +kernel) (by decide +kernel)
theorem wd_1067 : Cond.instanceMethod yX3_pairWay ∈ ws0 := ws0_of 1067 (by decide +kernel) (by decide +kernel)
theorem wd_1069 : Cond.methodLink RX3 142 yX3_plainWay ∈ ws0 := ws0_of 1069 (by decide +kernel) (by decide +kernel)
theorem wd_1071 : Cond.instanceMethod yX3_plainWay ∈ ws0 := ws0_of 1071 (by decide +kernel) (by decide +kernel)
theorem wd_1073 : Cond.methodLink RX3 145 yX3_wayAhead ∈ ws0 := ws0_of 1073 (by decide +kernel) (by decide +kernel)
theorem wd_1075 : Cond.instanceMethod yX3_wayAhead ∈ ws0 := ws0_of 1075 (by decide +kernel) (by decide +kernel)
theorem wd_1077 : Cond.methodLink RX3 95 yX3_settleRest ∈ ws0 := ws0_of 1077 (by decide +kernel) (by decide +kernel)
theorem wd_1079 : Cond.instanceMethod yX3_settleRest ∈ ws0 := ws0_of 1079 (by decide +kernel) (by decide +kernel)
theorem wd_1081 : Cond.methodLink RX3 149 yX3_wayBehind ∈ ws0 := ws0_of 1081 (by decide +kernel) (by decide +kernel)
theorem wd_1083 : Cond.instanceMethod yX3_wayBehind ∈ ws0 := ws0_of 1083 (by decide +kernel) (by decide +kernel)
theorem wd_1085 : Cond.methodLink RX3 98 yX3_tellLevels ∈ ws0 := ws0_of 1085 (by decide +kernel) (by decide +kernel)
theorem wd_1087 : Cond.instanceMethod yX3_tellLevels ∈ ws0 := ws0_of 1087 (by decide +kernel) (by decide +kernel)
theorem wd_1089 : Cond.methodLink RX10 271 yX3_levelAt ∈ ws0 := ws0_of 1089 (by decide +kernel) (by decide +kernel)
theorem wd_1090 : Cond.instanceMethod yX3_levelAt ∈ ws0 := ws0_of 1090 (by decide +kernel) (by decide +kernel)
theorem wd_1091 : Cond.selects RX3 yX3_levelAt yX3_levelAt ∈ ws0 := ws0_of 1091 (by decide +kernel) (by decide +kernel)
theorem wd_1100 : Cond.methodLink RX10 274 yX3_screen ∈ ws0 := ws0_of 1100 (by decide +kernel) (by decide +kernel)
theorem wd_1101 : Cond.instanceMethod yX3_screen ∈ ws0 := ws0_of 1101 (by decide +kernel) (by decide +kernel)
theorem wd_1102 : Cond.selects RX3 yX3_screen yX3_screen ∈ ws0 := ws0_of 1102 (by decide +kernel) (by decide +kernel)
theorem wd_1104 : Cond.methodLink RX3 152 yX3_turnRows ∈ ws0 := ws0_of 1104 (by decide +kernel) (by decide +kernel)
theorem wd_1106 : Cond.instanceMethod yX3_turnRows ∈ ws0 := ws0_of 1106 (by decide +kernel) (by decide +kernel)
theorem wd_1108 : Cond.methodLink RX3 155 yX7_turn ∈ ws0 := ws0_of 1108 (by decide +kernel) (by decide +kernel)
theorem wd_1109 : Cond.instanceMethod yX7_turn ∈ ws0 := ws0_of 1109 (by decide +kernel) (by decide +kernel)
theorem wd_1110 : Cond.selects RX7 yX7_turn yX7_turn ∈ ws0 := ws0_of 1110 (by decide +kernel) (by decide +kernel)
theorem wd_1112 : Cond.methodLink RX7 35 yX7_set ∈ ws0 := ws0_of 1112 (by decide +kernel) (by decide +kernel)
theorem wd_1120 : Cond.methodLink RX10 278 yX0_clusterBreaks ∈ ws0 := ws0_of 1120 (by decide +kernel) (by decide +kernel)
theorem wd_1121 : Cond.instanceMethod yX0_clusterBreaks ∈ ws0 := ws0_of 1121 (by decide +kernel) (by decide +kernel)
theorem wd_1122 : Cond.selects RX0 yX0_clusterBreaks yX0_clusterBreaks ∈ ws0 := ws0_of 1122 (by decide +kernel) (by decide +kernel)
theorem wd_1124 : Cond.methodLink RX0 30 yX7_size ∈ ws0 := ws0_of 1124 (by decide +kernel) (by decide +kernel)
theorem wd_1125 : Cond.methodLink RX0 34 yX0_kindAt ∈ ws0 := ws0_of 1125 (by decide +kernel) (by decide +kernel)
theorem wd_1127 : Cond.instanceMethod yX0_kindAt ∈ ws0 := ws0_of 1127 (by decide +kernel) (by decide +kernel)
theorem wd_1129 : Cond.methodLink RX0 19 yX7_get ∈ ws0 := ws0_of 1129 (by decide +kernel) (by decide +kernel)
theorem wd_1130 : Cond.methodLink RX0 25 yX9_kindOf ∈ ws0 := ws0_of 1130 (by decide +kernel) (by decide +kernel)
theorem wd_1131 : Cond.instanceMethod yX9_kindOf ∈ ws0 := ws0_of 1131 (by decide +kernel) (by decide +kernel)
theorem wd_1132 : Cond.selects RX9 yX9_kindOf yX9_kindOf ∈ ws0 := ws0_of 1132 (by decide +kernel) (by decide +kernel)
theorem wd_1134 : Cond.methodLink RX10 282 yX7_placeOf ∈ ws0 := ws0_of 1134 (by decide +kernel) (by decide +kernel)
theorem wd_1135 : Cond.instanceMethod yX7_placeOf ∈ ws0 := ws0_of 1135 (by decide +kernel) (by decide +kernel)
theorem wd_1136 : Cond.selects RX7 yX7_placeOf yX7_placeOf ∈ ws0 := ws0_of 1136 (by decide +kernel) (by decide +kernel)
theorem wd_1138 : Cond.methodLink RX10 285 yX0_isBeginning ∈ ws0 := ws0_of 1138 (by decide +kernel) (by decide +kernel)
theorem wd_1139 : Cond.static yX0_isBeginning ∈ ws0 := ws0_of 1139 (by decide +kernel) (by decide +kernel)
theorem wd_1141 : Cond.methodLink RX0 15 yX0_isMarked ∈ ws0 := ws0_of 1141 (by decide +kernel) (by decide +kernel)
theorem wd_1142 : Cond.static yX0_isMarked ∈ ws0 := ws0_of 1142 (by decide +kernel) (by decide +kernel)
theorem wd_1151 : Cond.methodLink RX10 289 yX0_wordBreaks ∈ ws0 := ws0_of 1151 (by decide +kernel) (by decide +kernel)
theorem wd_1152 : Cond.instanceMethod yX0_wordBreaks ∈ ws0 := ws0_of 1152 (by decide +kernel) (by decide +kernel)
theorem wd_1153 : Cond.selects RX0 yX0_wordBreaks yX0_wordBreaks ∈ ws0 := ws0_of 1153 (by decide +kernel) (by decide +kernel)
theorem wd_1155 : Cond.methodLink RX0 38 yX0_clusterBreaks ∈ ws0 := ws0_of 1155 (by decide +kernel) (by decide +kernel)
theorem wd_1156 : Cond.methodLink RX0 42 yX0_seamlessEnds ∈ ws0 := ws0_of 1156 (by decide +kernel) (by decide +kernel)
theorem wd_1158 : Cond.instanceMethod yX0_seamlessEnds ∈ ws0 := ws0_of 1158 (by decide +kernel) (by decide +kernel)
theorem wd_1160 : Cond.methodLink RX0 54 yX0_clusterEnd ∈ ws0 := ws0_of 1160 (by decide +kernel) (by decide +kernel)
theorem wd_1162 : Cond.instanceMethod yX0_clusterEnd ∈ ws0 := ws0_of 1162 (by decide +kernel) (by decide +kernel)
theorem wd_1164 : Cond.methodLink RX0 58 yX0_wordEnd ∈ ws0 := ws0_of 1164 (by decide +kernel) (by decide +kernel)
theorem wd_1166 : Cond.instanceMethod yX0_wordEnd ∈ ws0 := ws0_of 1166 (by decide +kernel) (by decide +kernel)
theorem wd_1168 : Cond.methodLink RX0 62 yX0_seamlessLimit ∈ ws0 := ws0_of 1168 (by decide +kernel) (by decide +kernel)
theorem wd_1170 : Cond.instanceMethod yX0_seamlessLimit ∈ ws0 := ws0_of 1170 (by decide +kernel) (by decide +kernel)
theorem wd_1172 : Cond.methodLink RX0 65 yX9_wordCount ∈ ws0 := ws0_of 1172 (by decide +kernel) (by decide +kernel)
theorem wd_1173 : Cond.methodLink RX0 68 yX9_wordAt ∈ ws0 := ws0_of 1173 (by decide +kernel) (by decide +kernel)
theorem wd_1174 : Cond.instanceMethod yX9_wordAt ∈ ws0 := ws0_of 1174 (by decide +kernel) (by decide +kernel)
theorem wd_1175 : Cond.selects RX9 yX9_wordAt yX9_wordAt ∈ ws0 := ws0_of 1175 (by decide +kernel) (by decide +kernel)
theorem wd_1177 : Cond.methodLink RX0 72 yX7_holds ∈ ws0 := ws0_of 1177 (by decide +kernel) (by decide +kernel)
theorem wd_1178 : Cond.methodLink RX0 46 yX0_isWordBreak ∈ ws0 := ws0_of 1178 (by decide +kernel) (by decide +kernel)
theorem wd_1179 : Cond.static yX0_isWordBreak ∈ ws0 := ws0_of 1179 (by decide +kernel) (by decide +kernel)
theorem wd_1181 : Cond.methodLink RX0 50 yX0_isLineBreak ∈ ws0 := ws0_of 1181 (by decide +kernel) (by decide +kernel)
theorem wd_1182 : Cond.static yX0_isLineBreak ∈ ws0 := ws0_of 1182 (by decide +kernel) (by decide +kernel)
theorem wd_1198 : Cond.methodLink RX10 293 yX1_splitInto ∈ ws0 := ws0_of 1198 (by decide +kernel) (by decide +kernel)
theorem wd_1199 : Cond.methodLink RX10 296 yX2_unitsInto ∈ ws0 := ws0_of 1199 (by decide +kernel) (by decide +kernel)
theorem wd_1200 : Cond.instanceMethod yX2_unitsInto ∈ ws0 := ws0_of 1200 (by decide +kernel) (by decide +kernel)
theorem wd_1201 : Cond.selects RX2 yX2_unitsInto yX2_unitsInto ∈ ws0 := ws0_of 1201 (by decide +kernel) (by decide +kernel)
theorem wd_1203 : Cond.methodLink RX2 72 yX7_cutTo ∈ ws0 := ws0_of 1203 (by decide +kernel) (by decide +kernel)
theorem wd_1204 : Cond.methodLink RX2 75 yX2_contractionOf ∈ ws0 := ws0_of 1204 (by decide +kernel) (by decide +kernel)
theorem wd_1205 : Cond.methodLink RX10 300 yX2_orderOf ∈ ws0 := ws0_of 1205 (by decide +kernel) (by decide +kernel)
theorem wd_1206 : Cond.instanceMethod yX2_orderOf ∈ ws0 := ws0_of 1206 (by decide +kernel) (by decide +kernel)
theorem wd_1207 : Cond.selects RX2 yX2_orderOf yX2_orderOf ∈ ws0 := ws0_of 1207 (by decide +kernel) (by decide +kernel)
theorem wd_1209 : Cond.methodLink RX2 82 yX2_nextWeighing ∈ ws0 := ws0_of 1209 (by decide +kernel) (by decide +kernel)
theorem wd_1211 : Cond.instanceMethod yX2_nextWeighing ∈ ws0 := ws0_of 1211 (by decide +kernel) (by decide +kernel)
theorem wd_1213 : Cond.methodLink RX2 79 yX2_weightOf ∈ ws0 := ws0_of 1213 (by decide +kernel) (by decide +kernel)
theorem wd_1215 : Cond.instanceMethod yX2_weightOf ∈ ws0 := ws0_of 1215 (by decide +kernel) (by decide +kernel)
theorem wd_1225 : Cond.methodLink RX10 304 yX2_keyInto ∈ ws0 := ws0_of 1225 (by decide +kernel) (by decide +kernel)
theorem wd_1226 : Cond.instanceMethod yX2_keyInto ∈ ws0 := ws0_of 1226 (by decide +kernel) (by decide +kernel)
theorem wd_1227 : Cond.selects RX2 yX2_keyInto yX2_keyInto ∈ ws0 := ws0_of 1227 (by decide +kernel) (by decide +kernel)
theorem wd_1236 : Cond.methodLink RX10 307 yX1_foldInto ∈ ws0 := ws0_of 1236 (by decide +kernel) (by decide +kernel)
theorem wd_1237 : Cond.methodLink RX10 310 yX10_endOfFound ∈ ws0 := ws0_of 1237 (by decide +kernel) (by decide +kernel)
theorem wd_1239 : Cond.instanceMethod yX10_endOfFound ∈ ws0 := ws0_of 1239 (by decide +kernel) (by decide +kernel)
theorem wd_1241 : Cond.methodLink RX10 384 yX1_foldedEnd ∈ ws0 := ws0_of 1241 (by decide +kernel) (by decide +kernel)
theorem wd_1242 : Cond.instanceMethod yX1_foldedEnd ∈ ws0 := ws0_of 1242 (by decide +kernel) (by decide +kernel)
theorem wd_1243 : Cond.selects RX1 yX1_foldedEnd yX1_foldedEnd ∈ ws0 := ws0_of 1243 (by decide +kernel) (by decide +kernel)
theorem wd_1245 : Cond.methodLink RX10 387 yX7_holds ∈ ws0 := ws0_of 1245 (by decide +kernel) (by decide +kernel)
theorem wd_1253 : Cond.methodLink RX10 314 yX5_read ∈ ws0 := ws0_of 1253 (by decide +kernel) (by decide +kernel)
theorem wd_1254 : Cond.instanceMethod yX5_read ∈ ws0 := ws0_of 1254 (by decide +kernel) (by decide +kernel)
theorem wd_1255 : Cond.selects RX5 yX5_read yX5_read ∈ ws0 := ws0_of 1255 (by decide +kernel) (by decide +kernel)
theorem wd_1257 : Cond.methodLink RX5 33 yX7_cutTo ∈ ws0 := ws0_of 1257 (by decide +kernel) (by decide +kernel)
theorem wd_1258 : Cond.methodLink RX5 29 yX7_size ∈ ws0 := ws0_of 1258 (by decide +kernel) (by decide +kernel)
theorem wd_1259 : Cond.methodLink RX5 40 yX5_readPiece ∈ ws0 := ws0_of 1259 (by decide +kernel) (by decide +kernel)
theorem wd_1261 : Cond.instanceMethod yX5_readPiece ∈ ws0 := ws0_of 1261 (by decide +kernel) (by decide +kernel)
theorem wd_1263 : Cond.methodLink RX5 44 yX7_get ∈ ws0 := ws0_of 1263 (by decide +kernel) (by decide +kernel)
theorem wd_1264 : Cond.methodLink RX5 48 yX5_readSet ∈ ws0 := ws0_of 1264 (by decide +kernel) (by decide +kernel)
theorem wd_1266 : Cond.instanceMethod yX5_readSet ∈ ws0 := ws0_of 1266 (by decide +kernel) (by decide +kernel)
theorem wd_1268 : Cond.methodLink RX5 56 yX5_readLetter ∈ ws0 := ws0_of 1268 (by decide +kernel) (by decide +kernel)
theorem wd_1270 : Cond.instanceMethod yX5_readLetter ∈ ws0 := ws0_of 1270 (by decide +kernel) (by decide +kernel)
theorem wd_1274 : Cond.methodLink RX5 59 yX5_setOf ∈ ws0 := ws0_of 1274 (by decide +kernel) (by decide +kernel)
theorem wd_1275 : Cond.static yX5_setOf ∈ ws0 := ws0_of 1275 (by decide +kernel) (by decide +kernel)
theorem wd_1277 : Cond.methodLink RX5 52 yX7_add ∈ ws0 := ws0_of 1277 (by decide +kernel) (by decide +kernel)
theorem wd_1279 : Cond.methodLink RX10 323 yX5_size ∈ ws0 := ws0_of 1279 (by decide +kernel) (by decide +kernel)
theorem wd_1280 : Cond.instanceMethod yX5_size ∈ ws0 := ws0_of 1280 (by decide +kernel) (by decide +kernel)
theorem wd_1281 : Cond.selects RX5 yX5_size yX5_size ∈ ws0 := ws0_of 1281 (by decide +kernel) (by decide +kernel)
theorem wd_1291 : Cond.methodLink RX10 326 yX5_endFrom ∈ ws0 := ws0_of 1291 (by decide +kernel) (by decide +kernel)
theorem wd_1292 : Cond.instanceMethod yX5_endFrom ∈ ws0 := ws0_of 1292 (by decide +kernel) (by decide +kernel)
theorem wd_1293 : Cond.selects RX5 yX5_endFrom yX5_endFrom ∈ ws0 := ws0_of 1293 (by decide +kernel) (by decide +kernel)
theorem wd_1295 : Cond.methodLink RX5 69 yX9_capitalsInto ∈ ws0 := ws0_of 1295 (by decide +kernel) (by decide +kernel)
theorem wd_1296 : Cond.instanceMethod yX9_capitalsInto ∈ ws0 := ws0_of 1296 (by decide +kernel) (by decide +kernel)
theorem wd_1297 : Cond.selects RX9 yX9_capitalsInto yX9_capitalsInto ∈ ws0 := ws0_of 1297 (by decide +kernel) (by decide +kernel)
theorem wd_1299 : Cond.methodLink RX9 109 yX7_refill ∈ ws0 := ws0_of 1299 (by decide +kernel) (by decide +kernel)
theorem wd_1300 : Cond.methodLink RX9 113 yX9_capitalOneOf ∈ ws0 := ws0_of 1300 (by decide +kernel) (by decide +kernel)
theorem wd_1301 : Cond.methodLink RX9 116 yX9_capitalOtherOf ∈ ws0 := ws0_of 1301 (by decide +kernel) (by decide +kernel)
theorem wd_1302 : Cond.methodLink RX9 119 yX7_set ∈ ws0 := ws0_of 1302 (by decide +kernel) (by decide +kernel)
theorem wd_1303 : Cond.methodLink RX5 75 yX5_withSkips ∈ ws0 := ws0_of 1303 (by decide +kernel) (by decide +kernel)
theorem wd_1305 : Cond.instanceMethod yX5_withSkips ∈ ws0 := ws0_of 1305 (by decide +kernel) (by decide +kernel)
theorem wd_1307 : Cond.methodLink RX5 78 yX5_statesBehind ∈ ws0 := ws0_of 1307 (by decide +kernel) (by decide +kernel)
theorem wd_1309 : Cond.instanceMethod yX5_statesBehind ∈ ws0 := ws0_of 1309 (by decide +kernel) (by decide +kernel)
theorem wd_1311 : Cond.methodLink RX5 82 yX5_isTaken ∈ ws0 := ws0_of 1311 (by decide +kernel) (by decide +kernel)
theorem wd_1313 : Cond.instanceMethod yX5_isTaken ∈ ws0 := ws0_of 1313 (by decide +kernel) (by decide +kernel)
theorem wd_1315 : Cond.methodLink RX5 86 yX5_isInSet ∈ ws0 := ws0_of 1315 (by decide +kernel) (by decide +kernel)
theorem wd_1317 : Cond.instanceMethod yX5_isInSet ∈ ws0 := ws0_of 1317 (by decide +kernel) (by decide +kernel)
theorem wd_1319 : Cond.methodLink RX5 90 yX9_kindOf ∈ ws0 := ws0_of 1319 (by decide +kernel) (by decide +kernel)
theorem wd_1327 : Cond.methodLink RX10 330 yX9_passInto ∈ ws0 := ws0_of 1327 (by decide +kernel) (by decide +kernel)
theorem wd_1328 : Cond.instanceMethod yX9_passInto ∈ ws0 := ws0_of 1328 (by decide +kernel) (by decide +kernel)
theorem wd_1329 : Cond.selects RX9 yX9_passInto yX9_passInto ∈ ws0 := ws0_of 1329 (by decide +kernel) (by decide +kernel)
theorem wd_1331 : Cond.methodLink RX9 122 yX7_cutTo ∈ ws0 := ws0_of 1331 (by decide +kernel) (by decide +kernel)
theorem wd_1332 : Cond.methodLink RX9 125 yX7_size ∈ ws0 := ws0_of 1332 (by decide +kernel) (by decide +kernel)
theorem wd_1333 : Cond.methodLink RX9 129 yX9_fittingRule ∈ ws0 := ws0_of 1333 (by decide +kernel) (by decide +kernel)
theorem wd_1335 : Cond.instanceMethod yX9_fittingRule ∈ ws0 := ws0_of 1335 (by decide +kernel) (by decide +kernel)
theorem wd_1337 : Cond.methodLink RX9 148 yX8_fits ∈ ws0 := ws0_of 1337 (by decide +kernel) (by decide +kernel)
theorem wd_1338 : Cond.instanceMethod yX8_fits ∈ ws0 := ws0_of 1338 (by decide +kernel) (by decide +kernel)
theorem wd_1339 : Cond.selects RX8 yX8_fits yX8_fits ∈ ws0 := ws0_of 1339 (by decide +kernel) (by decide +kernel)
theorem wd_1341 : Cond.methodLink RX8 41 yX8_sourceOf ∈ ws0 := ws0_of 1341 (by decide +kernel) (by decide +kernel)
theorem wd_1342 : Cond.instanceMethod yX8_sourceOf ∈ ws0 := ws0_of 1342 (by decide +kernel) (by decide +kernel)
theorem wd_1343 : Cond.selects RX8 yX8_sourceOf yX8_sourceOf ∈ ws0 := ws0_of 1343 (by decide +kernel) (by decide +kernel)
theorem wd_1345 : Cond.methodLink RX8 45 yX7_size ∈ ws0 := ws0_of 1345 (by decide +kernel) (by decide +kernel)
theorem wd_1346 : Cond.methodLink RX8 49 yX7_holds ∈ ws0 := ws0_of 1346 (by decide +kernel) (by decide +kernel)
theorem wd_1347 : Cond.methodLink RX9 133 yX7_get ∈ ws0 := ws0_of 1347 (by decide +kernel) (by decide +kernel)
theorem wd_1348 : Cond.methodLink RX9 136 yX7_add ∈ ws0 := ws0_of 1348 (by decide +kernel) (by decide +kernel)
theorem wd_1349 : Cond.methodLink RX9 140 yX8_putTarget ∈ ws0 := ws0_of 1349 (by decide +kernel) (by decide +kernel)
theorem wd_1350 : Cond.instanceMethod yX8_putTarget ∈ ws0 := ws0_of 1350 (by decide +kernel) (by decide +kernel)
theorem wd_1351 : Cond.selects RX8 yX8_putTarget yX8_putTarget ∈ ws0 := ws0_of 1351 (by decide +kernel) (by decide +kernel)
theorem wd_1353 : Cond.methodLink RX8 53 yX7_get ∈ ws0 := ws0_of 1353 (by decide +kernel) (by decide +kernel)
theorem wd_1354 : Cond.methodLink RX8 57 yX7_add ∈ ws0 := ws0_of 1354 (by decide +kernel) (by decide +kernel)
theorem wd_1355 : Cond.methodLink RX9 144 yX8_sourceOf ∈ ws0 := ws0_of 1355 (by decide +kernel) (by decide +kernel)
theorem wd_1364 : Cond.methodLink RX10 336 yX10_isNumber ∈ ws0 := ws0_of 1364 (by decide +kernel) (by decide +kernel)
theorem wd_1365 : Cond.static yX10_isNumber ∈ ws0 := ws0_of 1365 (by decide +kernel) (by decide +kernel)
theorem wd_1367 : Cond.constant RX10 365 999999 ∈ ws0 := ws0_of 1367 (by decide +kernel) (by decide +kernel)
theorem wd_1368 : Cond.methodLink RX10 339 yX2_classFor ∈ ws0 := ws0_of 1368 (by decide +kernel) (by decide +kernel)
theorem wd_1369 : Cond.instanceMethod yX2_classFor ∈ ws0 := ws0_of 1369 (by decide +kernel) (by decide +kernel)
theorem wd_1370 : Cond.selects RX2 yX2_classFor yX2_classFor ∈ ws0 := ws0_of 1370 (by decide +kernel) (by decide +kernel)
theorem wd_1372 : Cond.methodLink RX2 90 yX6_fits ∈ ws0 := ws0_of 1372 (by decide +kernel) (by decide +kernel)
theorem wd_1373 : Cond.instanceMethod yX6_fits ∈ ws0 := ws0_of 1373 (by decide +kernel) (by decide +kernel)
theorem wd_1374 : Cond.selects RX6 yX6_fits yX6_fits ∈ ws0 := ws0_of 1374 (by decide +kernel) (by decide +kernel)
theorem wd_1376 : Cond.methodLink RX6 35 yX6_remainder ∈ ws0 := ws0_of 1376 (by decide +kernel) (by decide +kernel)
theorem wd_1377 : Cond.static yX6_remainder ∈ ws0 := ws0_of 1377 (by decide +kernel) (by decide +kernel)
theorem wd_1380 : Cond.methodLink RX2 93 yX6_classTold ∈ ws0 := ws0_of 1380 (by decide +kernel) (by decide +kernel)
theorem wd_1381 : Cond.instanceMethod yX6_classTold ∈ ws0 := ws0_of 1381 (by decide +kernel) (by decide +kernel)
theorem wd_1382 : Cond.selects RX6 yX6_classTold yX6_classTold ∈ ws0 := ws0_of 1382 (by decide +kernel) (by decide +kernel)
theorem wd_1391 : Cond.methodLink RX10 342 yX4_begin ∈ ws0 := ws0_of 1391 (by decide +kernel) (by decide +kernel)
theorem wd_1392 : Cond.instanceMethod yX4_begin ∈ ws0 := ws0_of 1392 (by decide +kernel) (by decide +kernel)
theorem wd_1393 : Cond.selects RX4 yX4_begin yX4_begin ∈ ws0 := ws0_of 1393 (by decide +kernel) (by decide +kernel)
theorem wd_1395 : Cond.methodLink RX4 29 yX7_cutTo ∈ ws0 := ws0_of 1395 (by decide +kernel) (by decide +kernel)
theorem wd_1396 : Cond.methodLink RX10 345 yX4_tellNumber ∈ ws0 := ws0_of 1396 (by decide +kernel) (by decide +kernel)
theorem wd_1397 : Cond.instanceMethod yX4_tellNumber ∈ ws0 := ws0_of 1397 (by decide +kernel) (by decide +kernel)
theorem wd_1398 : Cond.selects RX4 yX4_tellNumber yX4_tellNumber ∈ ws0 := ws0_of 1398 (by decide +kernel) (by decide +kernel)
theorem wd_1400 : Cond.methodLink RX4 32 yX7_add ∈ ws0 := ws0_of 1400 (by decide +kernel) (by decide +kernel)
theorem wd_1401 : Cond.methodLink RX10 348 yX4_readAll ∈ ws0 := ws0_of 1401 (by decide +kernel) (by decide +kernel)
theorem wd_1402 : Cond.instanceMethod yX4_readAll ∈ ws0 := ws0_of 1402 (by decide +kernel) (by decide +kernel)
theorem wd_1403 : Cond.selects RX4 yX4_readAll yX4_readAll ∈ ws0 := ws0_of 1403 (by decide +kernel) (by decide +kernel)
theorem wd_1405 : Cond.methodLink RX4 36 yX4_readPieces ∈ ws0 := ws0_of 1405 (by decide +kernel) (by decide +kernel)
theorem wd_1407 : Cond.instanceMethod yX4_readPieces ∈ ws0 := ws0_of 1407 (by decide +kernel) (by decide +kernel)
theorem wd_1409 : Cond.methodLink RX4 44 yX7_get ∈ ws0 := ws0_of 1409 (by decide +kernel) (by decide +kernel)
theorem wd_1410 : Cond.methodLink RX4 48 yX4_readBraces ∈ ws0 := ws0_of 1410 (by decide +kernel) (by decide +kernel)
theorem wd_1412 : Cond.instanceMethod yX4_readBraces ∈ ws0 := ws0_of 1412 (by decide +kernel) (by decide +kernel)
theorem wd_1414 : Cond.methodLink RX4 59 yX4_digitAt ∈ ws0 := ws0_of 1414 (by decide +kernel) (by decide +kernel)
theorem wd_1416 : Cond.instanceMethod yX4_digitAt ∈ ws0 := ws0_of 1416 (by decide +kernel) (by decide +kernel)
theorem wd_1419 : Cond.methodLink RX4 62 yX4_putNumber ∈ ws0 := ws0_of 1419 (by decide +kernel) (by decide +kernel)
theorem wd_1421 : Cond.instanceMethod yX4_putNumber ∈ ws0 := ws0_of 1421 (by decide +kernel) (by decide +kernel)
theorem wd_1423 : Cond.constant RX4 76 100000 ∈ ws0 := ws0_of 1423 (by decide +kernel) (by decide +kernel)
theorem wd_1424 : Cond.methodLink RX4 55 yX4_putByte ∈ ws0 := ws0_of 1424 (by decide +kernel) (by decide +kernel)
theorem wd_1426 : Cond.instanceMethod yX4_putByte ∈ ws0 := ws0_of 1426 (by decide +kernel) (by decide +kernel)
theorem wd_1428 : Cond.methodLink RX4 65 yX4_readCases ∈ ws0 := ws0_of 1428 (by decide +kernel) (by decide +kernel)
theorem wd_1430 : Cond.instanceMethod yX4_readCases ∈ ws0 := ws0_of 1430 (by decide +kernel) (by decide +kernel)
theorem wd_1432 : Cond.methodLink RX4 69 yX4_keyEnd ∈ ws0 := ws0_of 1432 (by decide +kernel) (by decide +kernel)
theorem wd_1434 : Cond.instanceMethod yX4_keyEnd ∈ ws0 := ws0_of 1434 (by decide +kernel) (by decide +kernel)
theorem wd_1436 : Cond.methodLink RX4 72 yX4_isFitting ∈ ws0 := ws0_of 1436 (by decide +kernel) (by decide +kernel)
theorem wd_1438 : Cond.instanceMethod yX4_isFitting ∈ ws0 := ws0_of 1438 (by decide +kernel) (by decide +kernel)
theorem wd_1440 : Cond.methodLink RX4 40 yX7_size ∈ ws0 := ws0_of 1440 (by decide +kernel) (by decide +kernel)
theorem wd_1442 : Cond.methodLink RX10 354 yX4_result ∈ ws0 := ws0_of 1442 (by decide +kernel) (by decide +kernel)
theorem wd_1443 : Cond.instanceMethod yX4_result ∈ ws0 := ws0_of 1443 (by decide +kernel) (by decide +kernel)
theorem wd_1444 : Cond.selects RX4 yX4_result yX4_result ∈ ws0 := ws0_of 1444 (by decide +kernel) (by decide +kernel)
theorem wd_1460 : Cond.methodLink RX10 359 yX10_decodeInto ∈ ws0 := ws0_of 1460 (by decide +kernel) (by decide +kernel)
theorem wd_1462 : Cond.instanceMethod yX10_decodeInto ∈ ws0 := ws0_of 1462 (by decide +kernel) (by decide +kernel)
theorem wd_1471 : Cond.fieldLink RX11 107 (TX11 0).1 (TX11 0).2.1 (TX11 0).2.2.1 ∈ ws0 := ws0_of 1471 (by decide +kernel) (by decide +kernel)
theorem wd_1472 : Cond.fieldLink RX11 7 (TX11 1).1 (TX11 1).2.1 (TX11 1).2.2.1 ∈ ws0 := ws0_of 1472 (by decide +kernel) (by decide +kernel)
theorem wd_1473 : Cond.fieldLink RX11 13 (TX11 2).1 (TX11 2).2.1 (TX11 2).2.2.1 ∈ ws0 := ws0_of 1473 (by decide +kernel) (by decide +kernel)
theorem wd_1474 : Cond.fieldLink RX11 155 (TX11 3).1 (TX11 3).2.1 (TX11 3).2.2.1 ∈ ws0 := ws0_of 1474 (by decide +kernel) (by decide +kernel)
theorem wd_1475 : Cond.fieldLink RX11 16 (TX11 4).1 (TX11 4).2.1 (TX11 4).2.2.1 ∈ ws0 := ws0_of 1475 (by decide +kernel) (by decide +kernel)
theorem wd_1476 : Cond.fieldLink RX11 19 (TX11 5).1 (TX11 5).2.1 (TX11 5).2.2.1 ∈ ws0 := ws0_of 1476 (by decide +kernel) (by decide +kernel)
theorem wd_1477 : Cond.fieldLink RX11 22 (TX11 6).1 (TX11 6).2.1 (TX11 6).2.2.1 ∈ ws0 := ws0_of 1477 (by decide +kernel) (by decide +kernel)
theorem wd_1478 : Cond.fieldLink RX11 115 (TX11 7).1 (TX11 7).2.1 (TX11 7).2.2.1 ∈ ws0 := ws0_of 1478 (by decide +kernel) (by decide +kernel)
theorem wd_1479 : Cond.fieldLink RX11 25 (TX11 8).1 (TX11 8).2.1 (TX11 8).2.2.1 ∈ ws0 := ws0_of 1479 (by decide +kernel) (by decide +kernel)
theorem wd_1480 : Cond.fieldLink RX11 338 (TX11 9).1 (TX11 9).2.1 (TX11 9).2.2.1 ∈ ws0 := ws0_of 1480 (by decide +kernel) (by decide +kernel)
theorem wd_1481 : Cond.fieldLink RX11 28 (TX11 10).1 (TX11 10).2.1 (TX11 10).2.2.1 ∈ ws0 := ws0_of 1481 (by decide +kernel) (by decide +kernel)
theorem wd_1482 : Cond.fieldLink RX11 158 (TX11 11).1 (TX11 11).2.1 (TX11 11).2.2.1 ∈ ws0 := ws0_of 1482 (by decide +kernel) (by decide +kernel)
theorem wd_1483 : Cond.fieldLink RX11 161 (TX11 12).1 (TX11 12).2.1 (TX11 12).2.2.1 ∈ ws0 := ws0_of 1483 (by decide +kernel) (by decide +kernel)
theorem wd_1484 : Cond.fieldLink RX11 31 (TX11 13).1 (TX11 13).2.1 (TX11 13).2.2.1 ∈ ws0 := ws0_of 1484 (by decide +kernel) (by decide +kernel)
theorem wd_1485 : Cond.fieldLink RX11 194 (TX11 14).1 (TX11 14).2.1 (TX11 14).2.2.1 ∈ ws0 := ws0_of 1485 (by decide +kernel) (by decide +kernel)
theorem wd_1486 : Cond.fieldLink RX11 34 (TX11 15).1 (TX11 15).2.1 (TX11 15).2.2.1 ∈ ws0 := ws0_of 1486 (by decide +kernel) (by decide +kernel)
theorem wd_1487 : Cond.fieldLink RX11 37 (TX11 16).1 (TX11 16).2.1 (TX11 16).2.2.1 ∈ ws0 := ws0_of 1487 (by decide +kernel) (by decide +kernel)
theorem wd_1488 : Cond.fieldLink RX11 40 (TX11 17).1 (TX11 17).2.1 (TX11 17).2.2.1 ∈ ws0 := ws0_of 1488 (by decide +kernel) (by decide +kernel)
theorem wd_1489 : Cond.fieldLink RX11 43 (TX11 18).1 (TX11 18).2.1 (TX11 18).2.2.1 ∈ ws0 := ws0_of 1489 (by decide +kernel) (by decide +kernel)
theorem wd_1490 : Cond.fieldLink RX11 46 (TX11 19).1 (TX11 19).2.1 (TX11 19).2.2.1 ∈ ws0 := ws0_of 1490 (by decide +kernel) (by decide +kernel)
theorem wd_1491 : Cond.fieldLink RX11 49 (TX11 20).1 (TX11 20).2.1 (TX11 20).2.2.1 ∈ ws0 := ws0_of 1491 (by decide +kernel) (by decide +kernel)
theorem wd_1492 : Cond.fieldLink RX11 207 (TX11 21).1 (TX11 21).2.1 (TX11 21).2.2.1 ∈ ws0 := ws0_of 1492 (by decide +kernel) (by decide +kernel)
theorem wd_1493 : Cond.fieldLink RX11 52 (TX11 22).1 (TX11 22).2.1 (TX11 22).2.2.1 ∈ ws0 := ws0_of 1493 (by decide +kernel) (by decide +kernel)
theorem wd_1494 : Cond.fieldLink RX11 55 (TX11 23).1 (TX11 23).2.1 (TX11 23).2.2.1 ∈ ws0 := ws0_of 1494 (by decide +kernel) (by decide +kernel)
theorem wd_1495 : Cond.fieldLink RX11 58 (TX11 24).1 (TX11 24).2.1 (TX11 24).2.2.1 ∈ ws0 := ws0_of 1495 (by decide +kernel) (by decide +kernel)
theorem wd_1496 : Cond.fieldLink RX11 61 (TX11 25).1 (TX11 25).2.1 (TX11 25).2.2.1 ∈ ws0 := ws0_of 1496 (by decide +kernel) (by decide +kernel)
theorem wd_1497 : Cond.fieldLink RX11 64 (TX11 26).1 (TX11 26).2.1 (TX11 26).2.2.1 ∈ ws0 := ws0_of 1497 (by decide +kernel) (by decide +kernel)
theorem wd_1498 : Cond.fieldLink RX11 67 (TX11 27).1 (TX11 27).2.1 (TX11 27).2.2.1 ∈ ws0 := ws0_of 1498 (by decide +kernel) (by decide +kernel)
theorem wd_1499 : Cond.fieldLink RX11 71 (TX11 28).1 (TX11 28).2.1 (TX11 28).2.2.1 ∈ ws0 := ws0_of 1499 (by decide +kernel) (by decide +kernel)
theorem wd_1500 : Cond.fieldLink RX11 273 (TX11 29).1 (TX11 29).2.1 (TX11 29).2.2.1 ∈ ws0 := ws0_of 1500 (by decide +kernel) (by decide +kernel)
theorem wd_1501 : Cond.fieldLink RX11 74 (TX11 30).1 (TX11 30).2.1 (TX11 30).2.2.1 ∈ ws0 := ws0_of 1501 (by decide +kernel) (by decide +kernel)
theorem wd_1502 : Cond.fieldLink RX11 299 (TX11 31).1 (TX11 31).2.1 (TX11 31).2.2.1 ∈ ws0 := ws0_of 1502 (by decide +kernel) (by decide +kernel)
theorem wd_1503 : Cond.fieldLink RX11 302 (TX11 32).1 (TX11 32).2.1 (TX11 32).2.2.1 ∈ ws0 := ws0_of 1503 (by decide +kernel) (by decide +kernel)
theorem wd_1504 : Cond.fieldLink RX11 77 (TX11 33).1 (TX11 33).2.1 (TX11 33).2.2.1 ∈ ws0 := ws0_of 1504 (by decide +kernel) (by decide +kernel)
theorem wd_1505 : Cond.fieldLink RX11 80 (TX11 34).1 (TX11 34).2.1 (TX11 34).2.2.1 ∈ ws0 := ws0_of 1505 (by decide +kernel) (by decide +kernel)
theorem wd_1506 : Cond.fieldLink RX11 83 (TX11 35).1 (TX11 35).2.1 (TX11 35).2.2.1 ∈ ws0 := ws0_of 1506 (by decide +kernel) (by decide +kernel)
theorem wd_1507 : Cond.fieldLink RX11 86 (TX11 36).1 (TX11 36).2.1 (TX11 36).2.2.1 ∈ ws0 := ws0_of 1507 (by decide +kernel) (by decide +kernel)
theorem wd_1508 : Cond.fieldLink RX11 89 (TX11 37).1 (TX11 37).2.1 (TX11 37).2.2.1 ∈ ws0 := ws0_of 1508 (by decide +kernel) (by decide +kernel)
theorem wd_1509 : Cond.fieldLink RX11 92 (TX11 38).1 (TX11 38).2.1 (TX11 38).2.2.1 ∈ ws0 := ws0_of 1509 (by decide +kernel) (by decide +kernel)
theorem wd_1510 : Cond.fieldLink RX11 321 (TX11 39).1 (TX11 39).2.1 (TX11 39).2.2.1 ∈ ws0 := ws0_of 1510 (by decide +kernel) (by decide +kernel)
theorem wd_1511 : Cond.fieldLink RX11 95 (TX11 40).1 (TX11 40).2.1 (TX11 40).2.2.1 ∈ ws0 := ws0_of 1511 (by decide +kernel) (by decide +kernel)
theorem wd_1512 : Cond.fieldLink RX11 98 (TX11 41).1 (TX11 41).2.1 (TX11 41).2.2.1 ∈ ws0 := ws0_of 1512 (by decide +kernel) (by decide +kernel)
theorem wd_1513 : Cond.fieldLink RX11 101 (TX11 42).1 (TX11 42).2.1 (TX11 42).2.2.1 ∈ ws0 := ws0_of 1513 (by decide +kernel) (by decide +kernel)
theorem wd_1514 : Cond.fieldLink RX11 104 (TX11 43).1 (TX11 43).2.1 (TX11 43).2.2.1 ∈ ws0 := ws0_of 1514 (by decide +kernel) (by decide +kernel)
theorem wd_1515 : Cond.fieldLink RX11 285 (TX11 44).1 (TX11 44).2.1 (TX11 44).2.2.1 ∈ ws0 := ws0_of 1515 (by decide +kernel) (by decide +kernel)
theorem wd_1616 : Cond.methodLink RX11 111 yX11_in ∈ ws0 := ws0_of 1616 (by decide +kernel) (by decide +kernel)
theorem wd_1617 : Cond.static yX11_in ∈ ws0 := ws0_of 1617 (by decide +kernel) (by decide +kernel)
theorem wd_1619 : Cond.methodLink RX11 118 yX11_holds ∈ ws0 := ws0_of 1619 (by decide +kernel) (by decide +kernel)
theorem wd_1621 : Cond.instanceMethod yX11_holds ∈ ws0 := ws0_of 1621 (by decide +kernel) (by decide +kernel)
theorem wd_1623 : Cond.constantLong RX11 122 255 ∈ ws0 := ws0_of 1623 (by decide +kernel) (by decide +kernel)
theorem wd_1628 : Cond.methodLink RX11 124 yX11_isLetter ∈ ws0 := ws0_of 1628 (by decide +kernel) (by decide +kernel)
theorem wd_1629 : Cond.static yX11_isLetter ∈ ws0 := ws0_of 1629 (by decide +kernel) (by decide +kernel)
theorem wd_1643 : Cond.methodLink RX11 127 yX11_of ∈ ws0 := ws0_of 1643 (by decide +kernel) (by decide +kernel)
theorem wd_1645 : Cond.instanceMethod yX11_of ∈ ws0 := ws0_of 1645 (by decide +kernel) (by decide +kernel)
theorem wd_1651 : Cond.methodLink RX11 131 yX11_isLanguage ∈ ws0 := ws0_of 1651 (by decide +kernel) (by decide +kernel)
theorem wd_1652 : Cond.static yX11_isLanguage ∈ ws0 := ws0_of 1652 (by decide +kernel) (by decide +kernel)
theorem wd_1654 : Cond.methodLink RX11 134 yX11_areWeights ∈ ws0 := ws0_of 1654 (by decide +kernel) (by decide +kernel)
theorem wd_1655 : Cond.static yX11_areWeights ∈ ws0 := ws0_of 1655 (by decide +kernel) (by decide +kernel)
theorem wd_1657 : Cond.methodLink RX11 137 yX11_weighs ∈ ws0 := ws0_of 1657 (by decide +kernel) (by decide +kernel)
theorem wd_1659 : Cond.instanceMethod yX11_weighs ∈ ws0 := ws0_of 1659 (by decide +kernel) (by decide +kernel)
theorem wd_1665 : Cond.methodLink RX11 141 yX11_contraction ∈ ws0 := ws0_of 1665 (by decide +kernel) (by decide +kernel)
theorem wd_1667 : Cond.instanceMethod yX11_contraction ∈ ws0 := ws0_of 1667 (by decide +kernel) (by decide +kernel)
theorem wd_1677 : Cond.methodLink RX11 145 yX11_isSlot ∈ ws0 := ws0_of 1677 (by decide +kernel) (by decide +kernel)
theorem wd_1678 : Cond.static yX11_isSlot ∈ ws0 := ws0_of 1678 (by decide +kernel) (by decide +kernel)
theorem wd_1680 : Cond.methodLink RX11 148 yX11_letterAt ∈ ws0 := ws0_of 1680 (by decide +kernel) (by decide +kernel)
theorem wd_1682 : Cond.instanceMethod yX11_letterAt ∈ ws0 := ws0_of 1682 (by decide +kernel) (by decide +kernel)
theorem wd_1688 : Cond.methodLink RX11 151 yX11_lays ∈ ws0 := ws0_of 1688 (by decide +kernel) (by decide +kernel)
theorem wd_1690 : Cond.instanceMethod yX11_lays ∈ ws0 := ws0_of 1690 (by decide +kernel) (by decide +kernel)
theorem wd_1716 : Cond.methodLink RX11 190 yX11_formed ∈ ws0 := ws0_of 1716 (by decide +kernel) (by decide +kernel)
theorem wd_1718 : Cond.instanceMethod yX11_formed ∈ ws0 := ws0_of 1718 (by decide +kernel) (by decide +kernel)
theorem wd_1720 : Cond.methodLink RX11 184 yX11_loads ∈ ws0 := ws0_of 1720 (by decide +kernel) (by decide +kernel)
theorem wd_1722 : Cond.instanceMethod yX11_loads ∈ ws0 := ws0_of 1722 (by decide +kernel) (by decide +kernel)
theorem wd_1724 : Cond.methodLink RX11 187 yX11_forms ∈ ws0 := ws0_of 1724 (by decide +kernel) (by decide +kernel)
theorem wd_1726 : Cond.instanceMethod yX11_forms ∈ ws0 := ws0_of 1726 (by decide +kernel) (by decide +kernel)
theorem wd_1728 : Cond.methodLink RX11 178 yX11_folds ∈ ws0 := ws0_of 1728 (by decide +kernel) (by decide +kernel)
theorem wd_1730 : Cond.instanceMethod yX11_folds ∈ ws0 := ws0_of 1730 (by decide +kernel) (by decide +kernel)
theorem wd_1732 : Cond.methodLink RX11 165 yX11_doubles ∈ ws0 := ws0_of 1732 (by decide +kernel) (by decide +kernel)
theorem wd_1734 : Cond.instanceMethod yX11_doubles ∈ ws0 := ws0_of 1734 (by decide +kernel) (by decide +kernel)
theorem wd_1736 : Cond.methodLink RX11 175 yX11_splitsAll ∈ ws0 := ws0_of 1736 (by decide +kernel) (by decide +kernel)
theorem wd_1738 : Cond.instanceMethod yX11_splitsAll ∈ ws0 := ws0_of 1738 (by decide +kernel) (by decide +kernel)
theorem wd_1740 : Cond.methodLink RX11 181 yX11_joinsAll ∈ ws0 := ws0_of 1740 (by decide +kernel) (by decide +kernel)
theorem wd_1742 : Cond.instanceMethod yX11_joinsAll ∈ ws0 := ws0_of 1742 (by decide +kernel) (by decide +kernel)
theorem wd_1744 : Cond.methodLink RX11 168 yX11_joined ∈ ws0 := ws0_of 1744 (by decide +kernel) (by decide +kernel)
theorem wd_1746 : Cond.instanceMethod yX11_joined ∈ ws0 := ws0_of 1746 (by decide +kernel) (by decide +kernel)
theorem wd_1748 : Cond.methodLink RX11 171 yX11_takesOut ∈ ws0 := ws0_of 1748 (by decide +kernel) (by decide +kernel)
theorem wd_1750 : Cond.instanceMethod yX11_takesOut ∈ ws0 := ws0_of 1750 (by decide +kernel) (by decide +kernel)
theorem wd_1756 : Cond.methodLink RX11 197 yX11_putsAside ∈ ws0 := ws0_of 1756 (by decide +kernel) (by decide +kernel)
theorem wd_1758 : Cond.instanceMethod yX11_putsAside ∈ ws0 := ws0_of 1758 (by decide +kernel) (by decide +kernel)
theorem wd_1760 : Cond.methodLink RX11 200 yX11_isAside ∈ ws0 := ws0_of 1760 (by decide +kernel) (by decide +kernel)
theorem wd_1762 : Cond.instanceMethod yX11_isAside ∈ ws0 := ws0_of 1762 (by decide +kernel) (by decide +kernel)
theorem wd_1768 : Cond.methodLink RX11 221 yX11_closesIsolates ∈ ws0 := ws0_of 1768 (by decide +kernel) (by decide +kernel)
theorem wd_1770 : Cond.instanceMethod yX11_closesIsolates ∈ ws0 := ws0_of 1770 (by decide +kernel) (by decide +kernel)
theorem wd_1772 : Cond.methodLink RX11 204 yX11_directionAt ∈ ws0 := ws0_of 1772 (by decide +kernel) (by decide +kernel)
theorem wd_1774 : Cond.instanceMethod yX11_directionAt ∈ ws0 := ws0_of 1774 (by decide +kernel) (by decide +kernel)
theorem wd_1776 : Cond.methodLink RX11 214 yX11_baseOf ∈ ws0 := ws0_of 1776 (by decide +kernel) (by decide +kernel)
theorem wd_1778 : Cond.instanceMethod yX11_baseOf ∈ ws0 := ws0_of 1778 (by decide +kernel) (by decide +kernel)
theorem wd_1784 : Cond.methodLink RX11 243 yX11_isPlace ∈ ws0 := ws0_of 1784 (by decide +kernel) (by decide +kernel)
theorem wd_1786 : Cond.instanceMethod yX11_isPlace ∈ ws0 := ws0_of 1786 (by decide +kernel) (by decide +kernel)
theorem wd_1788 : Cond.methodLink RX11 240 yX11_laysLevels ∈ ws0 := ws0_of 1788 (by decide +kernel) (by decide +kernel)
theorem wd_1790 : Cond.instanceMethod yX11_laysLevels ∈ ws0 := ws0_of 1790 (by decide +kernel) (by decide +kernel)
theorem wd_1792 : Cond.methodLink RX11 224 yX11_laysFrames ∈ ws0 := ws0_of 1792 (by decide +kernel) (by decide +kernel)
theorem wd_1794 : Cond.instanceMethod yX11_laysFrames ∈ ws0 := ws0_of 1794 (by decide +kernel) (by decide +kernel)
theorem wd_1796 : Cond.methodLink RX11 210 yX11_begins ∈ ws0 := ws0_of 1796 (by decide +kernel) (by decide +kernel)
theorem wd_1798 : Cond.instanceMethod yX11_begins ∈ ws0 := ws0_of 1798 (by decide +kernel) (by decide +kernel)
theorem wd_1800 : Cond.methodLink RX11 228 yX11_laysNumbers ∈ ws0 := ws0_of 1800 (by decide +kernel) (by decide +kernel)
theorem wd_1802 : Cond.instanceMethod yX11_laysNumbers ∈ ws0 := ws0_of 1802 (by decide +kernel) (by decide +kernel)
theorem wd_1804 : Cond.methodLink RX11 231 yX11_laysPartners ∈ ws0 := ws0_of 1804 (by decide +kernel) (by decide +kernel)
theorem wd_1806 : Cond.instanceMethod yX11_laysPartners ∈ ws0 := ws0_of 1806 (by decide +kernel) (by decide +kernel)
theorem wd_1808 : Cond.methodLink RX11 234 yX11_settlesPartners ∈ ws0 := ws0_of 1808 (by decide +kernel) (by decide +kernel)
theorem wd_1810 : Cond.instanceMethod yX11_settlesPartners ∈ ws0 := ws0_of 1810 (by decide +kernel) (by decide +kernel)
theorem wd_1812 : Cond.methodLink RX11 217 yX11_goes ∈ ws0 := ws0_of 1812 (by decide +kernel) (by decide +kernel)
theorem wd_1814 : Cond.instanceMethod yX11_goes ∈ ws0 := ws0_of 1814 (by decide +kernel) (by decide +kernel)
theorem wd_1816 : Cond.methodLink RX11 237 yX11_settlesOthers ∈ ws0 := ws0_of 1816 (by decide +kernel) (by decide +kernel)
theorem wd_1818 : Cond.instanceMethod yX11_settlesOthers ∈ ws0 := ws0_of 1818 (by decide +kernel) (by decide +kernel)
theorem wd_1824 : Cond.methodLink RX11 246 yX11_laysOrder ∈ ws0 := ws0_of 1824 (by decide +kernel) (by decide +kernel)
theorem wd_1826 : Cond.instanceMethod yX11_laysOrder ∈ ws0 := ws0_of 1826 (by decide +kernel) (by decide +kernel)
theorem wd_1832 : Cond.methodLink RX11 249 yX11_isCluster ∈ ws0 := ws0_of 1832 (by decide +kernel) (by decide +kernel)
theorem wd_1834 : Cond.instanceMethod yX11_isCluster ∈ ws0 := ws0_of 1834 (by decide +kernel) (by decide +kernel)
theorem wd_1836 : Cond.methodLink RX11 252 yX11_kindAt ∈ ws0 := ws0_of 1836 (by decide +kernel) (by decide +kernel)
theorem wd_1838 : Cond.instanceMethod yX11_kindAt ∈ ws0 := ws0_of 1838 (by decide +kernel) (by decide +kernel)
theorem wd_1844 : Cond.methodLink RX11 267 yX11_laysWords ∈ ws0 := ws0_of 1844 (by decide +kernel) (by decide +kernel)
theorem wd_1846 : Cond.instanceMethod yX11_laysWords ∈ ws0 := ws0_of 1846 (by decide +kernel) (by decide +kernel)
theorem wd_1848 : Cond.methodLink RX11 261 yX11_wordEnd ∈ ws0 := ws0_of 1848 (by decide +kernel) (by decide +kernel)
theorem wd_1850 : Cond.instanceMethod yX11_wordEnd ∈ ws0 := ws0_of 1850 (by decide +kernel) (by decide +kernel)
theorem wd_1852 : Cond.methodLink RX11 255 yX11_isWordAt ∈ ws0 := ws0_of 1852 (by decide +kernel) (by decide +kernel)
theorem wd_1854 : Cond.instanceMethod yX11_isWordAt ∈ ws0 := ws0_of 1854 (by decide +kernel) (by decide +kernel)
theorem wd_1856 : Cond.methodLink RX11 258 yX11_isEdge ∈ ws0 := ws0_of 1856 (by decide +kernel) (by decide +kernel)
theorem wd_1858 : Cond.instanceMethod yX11_isEdge ∈ ws0 := ws0_of 1858 (by decide +kernel) (by decide +kernel)
theorem wd_1860 : Cond.methodLink RX11 270 yX11_isBreak ∈ ws0 := ws0_of 1860 (by decide +kernel) (by decide +kernel)
theorem wd_1862 : Cond.instanceMethod yX11_isBreak ∈ ws0 := ws0_of 1862 (by decide +kernel) (by decide +kernel)
theorem wd_1864 : Cond.methodLink RX11 264 yX11_clusterAhead ∈ ws0 := ws0_of 1864 (by decide +kernel) (by decide +kernel)
theorem wd_1866 : Cond.instanceMethod yX11_clusterAhead ∈ ws0 := ws0_of 1866 (by decide +kernel) (by decide +kernel)
theorem wd_1876 : Cond.methodLink RX11 276 yX11_keyed ∈ ws0 := ws0_of 1876 (by decide +kernel) (by decide +kernel)
theorem wd_1878 : Cond.instanceMethod yX11_keyed ∈ ws0 := ws0_of 1878 (by decide +kernel) (by decide +kernel)
theorem wd_1880 : Cond.methodLink RX11 279 yX11_compares ∈ ws0 := ws0_of 1880 (by decide +kernel) (by decide +kernel)
theorem wd_1882 : Cond.instanceMethod yX11_compares ∈ ws0 := ws0_of 1882 (by decide +kernel) (by decide +kernel)
theorem wd_1892 : Cond.methodLink RX11 282 yX11_finds ∈ ws0 := ws0_of 1892 (by decide +kernel) (by decide +kernel)
theorem wd_1894 : Cond.instanceMethod yX11_finds ∈ ws0 := ws0_of 1894 (by decide +kernel) (by decide +kernel)
theorem wd_1900 : Cond.methodLink RX11 295 yX11_readsPattern ∈ ws0 := ws0_of 1900 (by decide +kernel) (by decide +kernel)
theorem wd_1902 : Cond.instanceMethod yX11_readsPattern ∈ ws0 := ws0_of 1902 (by decide +kernel) (by decide +kernel)
theorem wd_1904 : Cond.methodLink RX11 288 yX11_taping ∈ ws0 := ws0_of 1904 (by decide +kernel) (by decide +kernel)
theorem wd_1906 : Cond.instanceMethod yX11_taping ∈ ws0 := ws0_of 1906 (by decide +kernel) (by decide +kernel)
theorem wd_1908 : Cond.methodLink RX11 292 yX11_readsSet ∈ ws0 := ws0_of 1908 (by decide +kernel) (by decide +kernel)
theorem wd_1910 : Cond.instanceMethod yX11_readsSet ∈ ws0 := ws0_of 1910 (by decide +kernel) (by decide +kernel)
theorem wd_1916 : Cond.methodLink RX11 314 yX11_matches ∈ ws0 := ws0_of 1916 (by decide +kernel) (by decide +kernel)
theorem wd_1918 : Cond.instanceMethod yX11_matches ∈ ws0 := ws0_of 1918 (by decide +kernel) (by decide +kernel)
theorem wd_1920 : Cond.methodLink RX11 311 yX11_takes ∈ ws0 := ws0_of 1920 (by decide +kernel) (by decide +kernel)
theorem wd_1922 : Cond.instanceMethod yX11_takes ∈ ws0 := ws0_of 1922 (by decide +kernel) (by decide +kernel)
theorem wd_1924 : Cond.methodLink RX11 308 yX11_hasLetter ∈ ws0 := ws0_of 1924 (by decide +kernel) (by decide +kernel)
theorem wd_1926 : Cond.instanceMethod yX11_hasLetter ∈ ws0 := ws0_of 1926 (by decide +kernel) (by decide +kernel)
theorem wd_1928 : Cond.methodLink RX11 305 yX11_isCapital ∈ ws0 := ws0_of 1928 (by decide +kernel) (by decide +kernel)
theorem wd_1930 : Cond.instanceMethod yX11_isCapital ∈ ws0 := ws0_of 1930 (by decide +kernel) (by decide +kernel)
theorem wd_1936 : Cond.methodLink RX11 331 yX11_transliterated ∈ ws0 := ws0_of 1936 (by decide +kernel) (by decide +kernel)
theorem wd_1938 : Cond.instanceMethod yX11_transliterated ∈ ws0 := ws0_of 1938 (by decide +kernel) (by decide +kernel)
theorem wd_1940 : Cond.methodLink RX11 327 yX11_passes ∈ ws0 := ws0_of 1940 (by decide +kernel) (by decide +kernel)
theorem wd_1942 : Cond.instanceMethod yX11_passes ∈ ws0 := ws0_of 1942 (by decide +kernel) (by decide +kernel)
theorem wd_1944 : Cond.methodLink RX11 324 yX11_ruleFor ∈ ws0 := ws0_of 1944 (by decide +kernel) (by decide +kernel)
theorem wd_1946 : Cond.instanceMethod yX11_ruleFor ∈ ws0 := ws0_of 1946 (by decide +kernel) (by decide +kernel)
theorem wd_1948 : Cond.methodLink RX11 317 yX11_stand ∈ ws0 := ws0_of 1948 (by decide +kernel) (by decide +kernel)
theorem wd_1950 : Cond.instanceMethod yX11_stand ∈ ws0 := ws0_of 1950 (by decide +kernel) (by decide +kernel)
theorem wd_1956 : Cond.constant RX11 334 999999 ∈ ws0 := ws0_of 1956 (by decide +kernel) (by decide +kernel)
theorem wd_1957 : Cond.methodLink RX11 335 yX11_classFor ∈ ws0 := ws0_of 1957 (by decide +kernel) (by decide +kernel)
theorem wd_1959 : Cond.instanceMethod yX11_classFor ∈ ws0 := ws0_of 1959 (by decide +kernel) (by decide +kernel)
theorem wd_1965 : Cond.methodLink RX11 353 yX11_readsMessage ∈ ws0 := ws0_of 1965 (by decide +kernel) (by decide +kernel)
theorem wd_1967 : Cond.instanceMethod yX11_readsMessage ∈ ws0 := ws0_of 1967 (by decide +kernel) (by decide +kernel)
theorem wd_1969 : Cond.methodLink RX11 344 yX11_readsCase ∈ ws0 := ws0_of 1969 (by decide +kernel) (by decide +kernel)
theorem wd_1971 : Cond.instanceMethod yX11_readsCase ∈ ws0 := ws0_of 1971 (by decide +kernel) (by decide +kernel)
theorem wd_1973 : Cond.methodLink RX11 347 yX11_isHeard ∈ ws0 := ws0_of 1973 (by decide +kernel) (by decide +kernel)
theorem wd_1975 : Cond.instanceMethod yX11_isHeard ∈ ws0 := ws0_of 1975 (by decide +kernel) (by decide +kernel)
theorem wd_1977 : Cond.methodLink RX11 350 yX11_putsNumber ∈ ws0 := ws0_of 1977 (by decide +kernel) (by decide +kernel)
theorem wd_1979 : Cond.instanceMethod yX11_putsNumber ∈ ws0 := ws0_of 1979 (by decide +kernel) (by decide +kernel)
theorem wd_1981 : Cond.methodLink RX11 341 yX11_puts ∈ ws0 := ws0_of 1981 (by decide +kernel) (by decide +kernel)
theorem wd_1983 : Cond.instanceMethod yX11_puts ∈ ws0 := ws0_of 1983 (by decide +kernel) (by decide +kernel)
theorem wd_1997 : Cond.methodLink RX11 356 yX11_decodes ∈ ws0 := ws0_of 1997 (by decide +kernel) (by decide +kernel)
theorem wd_1999 : Cond.instanceMethod yX11_decodes ∈ ws0 := ws0_of 1999 (by decide +kernel) (by decide +kernel)
