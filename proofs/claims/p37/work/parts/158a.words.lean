theorem inC_0 : ∀ x ∈ u_ws RX0 TX0 1, x ∈ ws0 := by
  have h : (u_ws RX0 TX0 1).all (fun w => decide (w ∈ lw_tbl) && goodWord w) = true := by decide +kernel
  intro x hx
  have h1 := List.all_eq_true.mp h x hx
  simp only [Bool.and_eq_true, decide_eq_true_eq] at h1
  exact List.mem_filter.mpr h1
theorem inC_1 : ∀ x ∈ u_ws RX1 TX1 6, x ∈ ws0 := by
  have h : (u_ws RX1 TX1 6).all (fun w => decide (w ∈ lw_tbl) && goodWord w) = true := by decide +kernel
  intro x hx
  have h1 := List.all_eq_true.mp h x hx
  simp only [Bool.and_eq_true, decide_eq_true_eq] at h1
  exact List.mem_filter.mpr h1
theorem inC_2 : ∀ x ∈ u_ws RX2 TX2 7, x ∈ ws0 := by
  have h : (u_ws RX2 TX2 7).all (fun w => decide (w ∈ lw_tbl) && goodWord w) = true := by decide +kernel
  intro x hx
  have h1 := List.all_eq_true.mp h x hx
  simp only [Bool.and_eq_true, decide_eq_true_eq] at h1
  exact List.mem_filter.mpr h1
theorem inC_3 : ∀ x ∈ u_ws RX3 TX3 12, x ∈ ws0 := by
  have h : (u_ws RX3 TX3 12).all (fun w => decide (w ∈ lw_tbl) && goodWord w) = true := by decide +kernel
  intro x hx
  have h1 := List.all_eq_true.mp h x hx
  simp only [Bool.and_eq_true, decide_eq_true_eq] at h1
  exact List.mem_filter.mpr h1
theorem inC_4 : ∀ x ∈ u_ws RX4 TX4 4, x ∈ ws0 := by
  have h : (u_ws RX4 TX4 4).all (fun w => decide (w ∈ lw_tbl) && goodWord w) = true := by decide +kernel
  intro x hx
  have h1 := List.all_eq_true.mp h x hx
  simp only [Bool.and_eq_true, decide_eq_true_eq] at h1
  exact List.mem_filter.mpr h1
theorem inC_5 : ∀ x ∈ u_ws RX5 TX5 5, x ∈ ws0 := by
  have h : (u_ws RX5 TX5 5).all (fun w => decide (w ∈ lw_tbl) && goodWord w) = true := by decide +kernel
  intro x hx
  have h1 := List.all_eq_true.mp h x hx
  simp only [Bool.and_eq_true, decide_eq_true_eq] at h1
  exact List.mem_filter.mpr h1
theorem inC_6 : ∀ x ∈ u_ws RX6 TX6 7, x ∈ ws0 := by
  have h : (u_ws RX6 TX6 7).all (fun w => decide (w ∈ lw_tbl) && goodWord w) = true := by decide +kernel
  intro x hx
  have h1 := List.all_eq_true.mp h x hx
  simp only [Bool.and_eq_true, decide_eq_true_eq] at h1
  exact List.mem_filter.mpr h1
theorem inC_7 : ∀ x ∈ u_ws RX7 TX7 2, x ∈ ws0 := by
  have h : (u_ws RX7 TX7 2).all (fun w => decide (w ∈ lw_tbl) && goodWord w) = true := by decide +kernel
  intro x hx
  have h1 := List.all_eq_true.mp h x hx
  simp only [Bool.and_eq_true, decide_eq_true_eq] at h1
  exact List.mem_filter.mpr h1
theorem inC_8 : ∀ x ∈ u_ws RX8 TX8 5, x ∈ ws0 := by
  have h : (u_ws RX8 TX8 5).all (fun w => decide (w ∈ lw_tbl) && goodWord w) = true := by decide +kernel
  intro x hx
  have h1 := List.all_eq_true.mp h x hx
  simp only [Bool.and_eq_true, decide_eq_true_eq] at h1
  exact List.mem_filter.mpr h1
theorem inC_9 : ∀ x ∈ u_ws RX9 TX9 15, x ∈ ws0 := by
  have h : (u_ws RX9 TX9 15).all (fun w => decide (w ∈ lw_tbl) && goodWord w) = true := by decide +kernel
  intro x hx
  have h1 := List.all_eq_true.mp h x hx
  simp only [Bool.and_eq_true, decide_eq_true_eq] at h1
  exact List.mem_filter.mpr h1
theorem inC_10 : ∀ x ∈ u_ws RX10 TX10 20, x ∈ ws0 := by
  have h : (u_ws RX10 TX10 20).all (fun w => decide (w ∈ lw_tbl) && goodWord w) = true := by decide +kernel
  intro x hx
  have h1 := List.all_eq_true.mp h x hx
  simp only [Bool.and_eq_true, decide_eq_true_eq] at h1
  exact List.mem_filter.mpr h1
def codesL : List Cond := [Cond.code yX10_checkLetter cX10_checkLetter 1 none,
  Cond.code yX10_isLetter cX10_isLetter 1 (some .boolean),
  Cond.code yX10_isWithin cX10_isWithin 3 (some .boolean),
  Cond.code yX10_checkArgument cX10_checkArgument 1 none,
  Cond.code yX9_tell cX9_tell 6 none,
  Cond.code yX10_setCell cX10_setCell 3 none,
  Cond.code yX9_tellSplit cX9_tellSplit 4 none,
  Cond.code yX9_tellCapital cX9_tellCapital 4 none,
  Cond.code yX9_partnerOf cX9_partnerOf 2 (some .int),
  Cond.code yX10_cellOf cX10_cellOf 3 (some .int),
  Cond.code yX9_tellPartners cX9_tellPartners 3 none,
  Cond.code yX10_languageOf cX10_languageOf 3 (some (.object "LetterTables$Language")),
  Cond.code yX9_languageAt cX9_languageAt 2 (some (.object "LetterTables$Language")),
  Cond.code yX10_checkWeights cX10_checkWeights 3 none,
  Cond.code yX2_weighUnit cX2_weighUnit 5 none,
  Cond.code yX9_copyFrom cX9_copyFrom 3 none,
  Cond.code yX10_copyCells cX10_copyCells 3 none,
  Cond.code yX2_copyFrom cX2_copyFrom 3 none,
  Cond.code yX7_takeOver cX7_takeOver 3 none,
  Cond.code yX7_get cX7_get 2 (some .int),
  Cond.code yX7_add cX7_add 2 (some .boolean),
  Cond.code yX6_copyFrom cX6_copyFrom 2 none,
  Cond.code yX6_tell cX6_tell 8 none,
  Cond.code yX8_copyFrom cX8_copyFrom 2 none,
  Cond.code yX8_tell cX8_tell 6 none,
  Cond.code yX10_textOf cX10_textOf 2 (some (.object "LetterTables$Row")),
  Cond.code yX7_size cX7_size 1 (some .int),
  Cond.code yX9_takeWord cX9_takeWord 2 (some .boolean),
  Cond.code yX9_wordCount cX9_wordCount 1 (some .int),
  Cond.code yX9_nextRule cX9_nextRule 1 (some (.object "LetterTables$Rule")),
  Cond.code yX9_countRule cX9_countRule 1 (some .int),
  Cond.code yX7_cutTo cX7_cutTo 2 none,
  Cond.code yX10_checkPlace cX10_checkPlace 2 none,
  Cond.code yX1_formInto cX1_formInto 4 (some .boolean),
  Cond.code yX1_splitInto cX1_splitInto 5 (some .boolean),
  Cond.code yX1_splitLetter cX1_splitLetter 8 (some .int),
  Cond.code yX7_removeLast cX7_removeLast 2 (some .int),
  Cond.code yX9_splitOneOf cX9_splitOneOf 2 (some .int),
  Cond.code yX9_splitOtherOf cX9_splitOtherOf 2 (some .int),
  Cond.code yX1_sortMarks cX1_sortMarks 6 none,
  Cond.code yX9_joinsOf cX9_joinsOf 2 (some .int),
  Cond.code yX7_set cX7_set 3 none,
  Cond.code yX1_joinInto cX1_joinInto 8 (some .boolean),
  Cond.code yX1_startFor cX1_startFor 6 (some .int),
  Cond.code yX9_joinedOf cX9_joinedOf 4 (some .int),
  Cond.code yX1_foldInto cX1_foldInto 5 (some .boolean),
  Cond.code yX1_capitalInto cX1_capitalInto 5 none,
  Cond.code yX9_capitalOneOf cX9_capitalOneOf 2 (some .int),
  Cond.code yX9_capitalOtherOf cX9_capitalOtherOf 2 (some .int),
  Cond.code yX1_addUnmarked cX1_addUnmarked 4 none,
  Cond.code yX1_skeletonInto cX1_skeletonInto 4 (some .boolean),
  Cond.code yX9_likeOf cX9_likeOf 2 (some .int),
  Cond.code yX10_checkForm cX10_checkForm 1 none,
  Cond.code yX7_isLike cX7_isLike 2 (some .boolean),
  Cond.code yX7_holds cX7_holds 4 (some .boolean),
  Cond.code yX3_baseFrom cX3_baseFrom 7 (some .int),
  Cond.code yX9_directionOf cX9_directionOf 2 (some .int),
  Cond.code yX3_isIsolate cX3_isIsolate 1 (some .boolean),
  Cond.code yX3_lookAt cX3_lookAt 5 none,
  Cond.code yX3_layFrames cX3_layFrames 6 none,
  Cond.code yX3_addFrame cX3_addFrame 4 (some .int),
  Cond.code yX3_aroundIsolate cX3_aroundIsolate 4 (some .int),
  Cond.code yX3_isEmbed cX3_isEmbed 1 (some .boolean),
  Cond.code yX3_levelWithin cX3_levelWithin 8 (some .int),
  Cond.code yX3_wayOf cX3_wayOf 1 (some .int),
  Cond.code yX7_refill cX7_refill 4 none,
  Cond.code yX3_gather cX3_gather 5 none,
  Cond.code yX3_settleNumbers cX3_settleNumbers 5 none,
  Cond.code yX3_settlePartners cX3_settlePartners 5 none,
  Cond.code yX3_matchPartners cX3_matchPartners 3 none,
  Cond.code yX9_isOpening cX9_isOpening 2 (some .boolean),
  Cond.code yX9_isClosing cX9_isClosing 2 (some .boolean),
  Cond.code yX3_closeLast cX3_closeLast 4 none,
  Cond.code yX3_pairWay cX3_pairWay 8 (some .int),
  Cond.code yX3_plainWay cX3_plainWay 3 (some .int),
  Cond.code yX3_wayAhead cX3_wayAhead 4 (some .int),
  Cond.code yX3_settleRest cX3_settleRest 4 none,
  Cond.code yX3_wayBehind cX3_wayBehind 4 (some .int),
  Cond.code yX3_tellLevels cX3_tellLevels 6 none,
  Cond.code yX3_levelAt cX3_levelAt 2 (some .int),
  Cond.code yX3_screen cX3_screen 3 (some (.object "LetterTables$Row")),
  Cond.code yX3_turnRows cX3_turnRows 5 none,
  Cond.code yX7_turn cX7_turn 6 none,
  Cond.code yX0_clusterBreaks cX0_clusterBreaks 5 (some .long),
  Cond.code yX0_kindAt cX0_kindAt 3 (some .int),
  Cond.code yX9_kindOf cX9_kindOf 2 (some .int),
  Cond.code yX7_placeOf cX7_placeOf 3 (some .int),
  Cond.code yX0_isBeginning cX0_isBeginning 3 (some .boolean),
  Cond.code yX0_isMarked cX0_isMarked 3 (some .boolean),
  Cond.code yX2_unitsInto cX2_unitsInto 5 none,
  Cond.code yX2_contractionOf cX2_contractionOf 4 (some .int),
  Cond.code yX2_orderOf cX2_orderOf 9 (some .int),
  Cond.code yX2_nextWeighing cX2_nextWeighing 5 (some .int),
  Cond.code yX2_weightOf cX2_weightOf 3 (some .int),
  Cond.code yX2_keyInto cX2_keyInto 6 none,
  Cond.code yX10_endOfFound cX10_endOfFound 9 (some .int),
  Cond.code yX1_foldedEnd cX1_foldedEnd 2 (some .int),
  Cond.code yX5_read cX5_read 3 (some .boolean),
  Cond.code yX5_readPiece cX5_readPiece 6 (some .boolean),
  Cond.code yX5_readSet cX5_readSet 5 (some .int),
  Cond.code yX5_readLetter cX5_readLetter 5 (some .int),
  Cond.code yX5_setOf cX5_setOf 1 (some .int),
  Cond.code yX5_size cX5_size 1 (some .int),
  Cond.code yX5_endFrom cX5_endFrom 7 (some .int),
  Cond.code yX9_capitalsInto cX9_capitalsInto 5 none,
  Cond.code yX5_withSkips cX5_withSkips 4 (some .int),
  Cond.code yX5_statesBehind cX5_statesBehind 7 (some .int),
  Cond.code yX5_isTaken cX5_isTaken 6 (some .boolean),
  Cond.code yX5_isInSet cX5_isInSet 7 (some .boolean),
  Cond.code yX9_passInto cX9_passInto 9 (some .boolean),
  Cond.code yX9_fittingRule cX9_fittingRule 7 (some (.object "LetterTables$Rule")),
  Cond.code yX8_fits cX8_fits 7 (some .boolean),
  Cond.code yX8_sourceOf cX8_sourceOf 2 (some (.object "LetterTables$Row")),
  Cond.code yX8_putTarget cX8_putTarget 5 (some .boolean),
  Cond.code yX10_isNumber cX10_isNumber 1 (some .boolean),
  Cond.code yX2_classFor cX2_classFor 3 (some .int),
  Cond.code yX6_fits cX6_fits 3 (some .boolean),
  Cond.code yX6_remainder cX6_remainder 2 (some .int),
  Cond.code yX6_classTold cX6_classTold 1 (some .int),
  Cond.code yX4_begin cX4_begin 1 none,
  Cond.code yX4_tellNumber cX4_tellNumber 3 none,
  Cond.code yX4_readAll cX4_readAll 1 (some .boolean),
  Cond.code yX4_readPieces cX4_readPieces 7 (some .int),
  Cond.code yX4_readBraces cX4_readBraces 6 (some .int),
  Cond.code yX4_digitAt cX4_digitAt 3 (some .int),
  Cond.code yX4_putNumber cX4_putNumber 6 none,
  Cond.code yX4_putByte cX4_putByte 3 none,
  Cond.code yX4_readCases cX4_readCases 11 (some .int),
  Cond.code yX4_keyEnd cX4_keyEnd 2 (some .int),
  Cond.code yX4_isFitting cX4_isFitting 3 (some .boolean),
  Cond.code yX4_result cX4_result 1 (some (.object "LetterTables$Row")),
  Cond.code yX10_decodeInto cX10_decodeInto 8 (some .int),
  Cond.code yX2_addContraction cX2_addContraction 3 (some .int),
  Cond.code yX2_contractionCount cX2_contractionCount 1 (some .int),
  Cond.code yX10_isRange cX10_isRange 2 (some .boolean),
  Cond.code yX2_nextPlural cX2_nextPlural 1 (some (.object "LetterTables$PluralRule")),
  Cond.code yX2_countPlural cX2_countPlural 1 (some .int),
  Cond.code yX0_wordBreaks cX0_wordBreaks 14 (some .long),
  Cond.code yX0_seamlessEnds cX0_seamlessEnds 9 (some .long),
  Cond.code yX0_clusterEnd cX0_clusterEnd 6 (some .int),
  Cond.code yX0_wordEnd cX0_wordEnd 11 (some .int),
  Cond.code yX0_seamlessLimit cX0_seamlessLimit 6 (some .int),
  Cond.code yX9_wordAt cX9_wordAt 2 (some (.object "LetterTables$Row")),
  Cond.code yX0_isWordBreak cX0_isWordBreak 4 (some .boolean),
  Cond.code yX0_isLineBreak cX0_isLineBreak 2 (some .boolean)]
set_option maxRecDepth 100000 in
theorem codesL_in : GoodIn lw_tbl codesL := goodIn_p codesL [446, 449, 452, 523, 543, 546, 554, 562, 570, 573, 593, 601, 605, 609, 613, 626, 629, 633, 638, 642, 646, 650, 654, 659, 663, 672, 677, 681, 686, 694, 700, 719, 726, 736, 740, 747, 752, 757, 761, 765, 769, 773, 777, 781, 785, 791, 795, 799, 803, 807, 811, 815, 818, 829, 833, 841, 847, 850, 858, 863, 868, 873, 876, 880, 883, 887, 891, 895, 900, 904, 908, 913, 918, 922, 926, 930, 934, 938, 942, 946, 954, 958, 962, 971, 976, 981, 985, 988, 991, 1004, 1011, 1016, 1020, 1024, 1033, 1042, 1046, 1055, 1061, 1066, 1070, 1075, 1081, 1090, 1094, 1102, 1106, 1110, 1114, 1123, 1129, 1133, 1137, 1145, 1156, 1161, 1165, 1168, 1173, 1182, 1187, 1192, 1196, 1201, 1205, 1210, 1215, 1219, 1223, 1227, 1233, 1245, 1259, 1264, 1271, 1275, 1281, 1318, 1323, 1327, 1331, 1335, 1340, 1344, 1347] rfl (by decide +kernel)
theorem codesL_at {w : Cond} (i : Nat) (h : codesL[i]? = some w) (g : goodWord w = true) : w ∈ ws0 := List.mem_filter.mpr ⟨(codesL_in w (List.mem_of_getElem? h)).1, g⟩
set_option maxRecDepth 20000 in
theorem wd_446 : Cond.code yX10_checkLetter cX10_checkLetter 1 none ∈ ws0 := codesL_at 0 rfl (by decide +kernel)
set_option maxRecDepth 20000 in
theorem wd_449 : Cond.code yX10_isLetter cX10_isLetter 1 (some .boolean) ∈ ws0 := codesL_at 1 rfl (by decide +kernel)
set_option maxRecDepth 20000 in
theorem wd_452 : Cond.code yX10_isWithin cX10_isWithin 3 (some .boolean) ∈ ws0 := codesL_at 2 rfl (by decide +kernel)
set_option maxRecDepth 20000 in
theorem wd_523 : Cond.code yX10_checkArgument cX10_checkArgument 1 none ∈ ws0 := codesL_at 3 rfl (by decide +kernel)
set_option maxRecDepth 20000 in
theorem wd_543 : Cond.code yX9_tell cX9_tell 6 none ∈ ws0 := codesL_at 4 rfl (by decide +kernel)
set_option maxRecDepth 20000 in
theorem wd_546 : Cond.code yX10_setCell cX10_setCell 3 none ∈ ws0 := codesL_at 5 rfl (by decide +kernel)
set_option maxRecDepth 20000 in
theorem wd_554 : Cond.code yX9_tellSplit cX9_tellSplit 4 none ∈ ws0 := codesL_at 6 rfl (by decide +kernel)
set_option maxRecDepth 20000 in
theorem wd_562 : Cond.code yX9_tellCapital cX9_tellCapital 4 none ∈ ws0 := codesL_at 7 rfl (by decide +kernel)
set_option maxRecDepth 20000 in
theorem wd_570 : Cond.code yX9_partnerOf cX9_partnerOf 2 (some .int) ∈ ws0 := codesL_at 8 rfl (by decide +kernel)
set_option maxRecDepth 20000 in
theorem wd_573 : Cond.code yX10_cellOf cX10_cellOf 3 (some .int) ∈ ws0 := codesL_at 9 rfl (by decide +kernel)
set_option maxRecDepth 20000 in
theorem wd_593 : Cond.code yX9_tellPartners cX9_tellPartners 3 none ∈ ws0 := codesL_at 10 rfl (by decide +kernel)
set_option maxRecDepth 20000 in
theorem wd_601 : Cond.code yX10_languageOf cX10_languageOf 3 (some (.object "LetterTables$Language")) ∈ ws0 := codesL_at 11 rfl (by decide +kernel)
set_option maxRecDepth 20000 in
theorem wd_605 : Cond.code yX9_languageAt cX9_languageAt 2 (some (.object "LetterTables$Language")) ∈ ws0 := codesL_at 12 rfl (by decide +kernel)
set_option maxRecDepth 20000 in
theorem wd_609 : Cond.code yX10_checkWeights cX10_checkWeights 3 none ∈ ws0 := codesL_at 13 rfl (by decide +kernel)
set_option maxRecDepth 20000 in
theorem wd_613 : Cond.code yX2_weighUnit cX2_weighUnit 5 none ∈ ws0 := codesL_at 14 rfl (by decide +kernel)
set_option maxRecDepth 20000 in
theorem wd_626 : Cond.code yX9_copyFrom cX9_copyFrom 3 none ∈ ws0 := codesL_at 15 rfl (by decide +kernel)
set_option maxRecDepth 20000 in
theorem wd_629 : Cond.code yX10_copyCells cX10_copyCells 3 none ∈ ws0 := codesL_at 16 rfl (by decide +kernel)
set_option maxRecDepth 20000 in
theorem wd_633 : Cond.code yX2_copyFrom cX2_copyFrom 3 none ∈ ws0 := codesL_at 17 rfl (by decide +kernel)
set_option maxRecDepth 20000 in
theorem wd_638 : Cond.code yX7_takeOver cX7_takeOver 3 none ∈ ws0 := codesL_at 18 rfl (by decide +kernel)
set_option maxRecDepth 20000 in
theorem wd_642 : Cond.code yX7_get cX7_get 2 (some .int) ∈ ws0 := codesL_at 19 rfl (by decide +kernel)
set_option maxRecDepth 20000 in
theorem wd_646 : Cond.code yX7_add cX7_add 2 (some .boolean) ∈ ws0 := codesL_at 20 rfl (by decide +kernel)
set_option maxRecDepth 20000 in
theorem wd_650 : Cond.code yX6_copyFrom cX6_copyFrom 2 none ∈ ws0 := codesL_at 21 rfl (by decide +kernel)
set_option maxRecDepth 20000 in
theorem wd_654 : Cond.code yX6_tell cX6_tell 8 none ∈ ws0 := codesL_at 22 rfl (by decide +kernel)
set_option maxRecDepth 20000 in
theorem wd_659 : Cond.code yX8_copyFrom cX8_copyFrom 2 none ∈ ws0 := codesL_at 23 rfl (by decide +kernel)
set_option maxRecDepth 20000 in
theorem wd_663 : Cond.code yX8_tell cX8_tell 6 none ∈ ws0 := codesL_at 24 rfl (by decide +kernel)
set_option maxRecDepth 20000 in
theorem wd_672 : Cond.code yX10_textOf cX10_textOf 2 (some (.object "LetterTables$Row")) ∈ ws0 := codesL_at 25 rfl (by decide +kernel)
set_option maxRecDepth 20000 in
theorem wd_677 : Cond.code yX7_size cX7_size 1 (some .int) ∈ ws0 := codesL_at 26 rfl (by decide +kernel)
set_option maxRecDepth 20000 in
theorem wd_681 : Cond.code yX9_takeWord cX9_takeWord 2 (some .boolean) ∈ ws0 := codesL_at 27 rfl (by decide +kernel)
set_option maxRecDepth 20000 in
theorem wd_686 : Cond.code yX9_wordCount cX9_wordCount 1 (some .int) ∈ ws0 := codesL_at 28 rfl (by decide +kernel)
set_option maxRecDepth 20000 in
theorem wd_694 : Cond.code yX9_nextRule cX9_nextRule 1 (some (.object "LetterTables$Rule")) ∈ ws0 := codesL_at 29 rfl (by decide +kernel)
set_option maxRecDepth 20000 in
theorem wd_700 : Cond.code yX9_countRule cX9_countRule 1 (some .int) ∈ ws0 := codesL_at 30 rfl (by decide +kernel)
set_option maxRecDepth 20000 in
theorem wd_719 : Cond.code yX7_cutTo cX7_cutTo 2 none ∈ ws0 := codesL_at 31 rfl (by decide +kernel)
set_option maxRecDepth 20000 in
theorem wd_726 : Cond.code yX10_checkPlace cX10_checkPlace 2 none ∈ ws0 := codesL_at 32 rfl (by decide +kernel)
set_option maxRecDepth 20000 in
theorem wd_736 : Cond.code yX1_formInto cX1_formInto 4 (some .boolean) ∈ ws0 := codesL_at 33 rfl (by decide +kernel)
set_option maxRecDepth 20000 in
theorem wd_740 : Cond.code yX1_splitInto cX1_splitInto 5 (some .boolean) ∈ ws0 := codesL_at 34 rfl (by decide +kernel)
set_option maxRecDepth 20000 in
theorem wd_747 : Cond.code yX1_splitLetter cX1_splitLetter 8 (some .int) ∈ ws0 := codesL_at 35 rfl (by decide +kernel)
set_option maxRecDepth 20000 in
theorem wd_752 : Cond.code yX7_removeLast cX7_removeLast 2 (some .int) ∈ ws0 := codesL_at 36 rfl (by decide +kernel)
set_option maxRecDepth 20000 in
theorem wd_757 : Cond.code yX9_splitOneOf cX9_splitOneOf 2 (some .int) ∈ ws0 := codesL_at 37 rfl (by decide +kernel)
set_option maxRecDepth 20000 in
theorem wd_761 : Cond.code yX9_splitOtherOf cX9_splitOtherOf 2 (some .int) ∈ ws0 := codesL_at 38 rfl (by decide +kernel)
set_option maxRecDepth 20000 in
theorem wd_765 : Cond.code yX1_sortMarks cX1_sortMarks 6 none ∈ ws0 := codesL_at 39 rfl (by decide +kernel)
set_option maxRecDepth 20000 in
theorem wd_769 : Cond.code yX9_joinsOf cX9_joinsOf 2 (some .int) ∈ ws0 := codesL_at 40 rfl (by decide +kernel)
set_option maxRecDepth 20000 in
theorem wd_773 : Cond.code yX7_set cX7_set 3 none ∈ ws0 := codesL_at 41 rfl (by decide +kernel)
set_option maxRecDepth 20000 in
theorem wd_777 : Cond.code yX1_joinInto cX1_joinInto 8 (some .boolean) ∈ ws0 := codesL_at 42 rfl (by decide +kernel)
set_option maxRecDepth 20000 in
theorem wd_781 : Cond.code yX1_startFor cX1_startFor 6 (some .int) ∈ ws0 := codesL_at 43 rfl (by decide +kernel)
set_option maxRecDepth 20000 in
theorem wd_785 : Cond.code yX9_joinedOf cX9_joinedOf 4 (some .int) ∈ ws0 := codesL_at 44 rfl (by decide +kernel)
set_option maxRecDepth 20000 in
theorem wd_791 : Cond.code yX1_foldInto cX1_foldInto 5 (some .boolean) ∈ ws0 := codesL_at 45 rfl (by decide +kernel)
set_option maxRecDepth 20000 in
theorem wd_795 : Cond.code yX1_capitalInto cX1_capitalInto 5 none ∈ ws0 := codesL_at 46 rfl (by decide +kernel)
set_option maxRecDepth 20000 in
theorem wd_799 : Cond.code yX9_capitalOneOf cX9_capitalOneOf 2 (some .int) ∈ ws0 := codesL_at 47 rfl (by decide +kernel)
set_option maxRecDepth 20000 in
theorem wd_803 : Cond.code yX9_capitalOtherOf cX9_capitalOtherOf 2 (some .int) ∈ ws0 := codesL_at 48 rfl (by decide +kernel)
set_option maxRecDepth 20000 in
theorem wd_807 : Cond.code yX1_addUnmarked cX1_addUnmarked 4 none ∈ ws0 := codesL_at 49 rfl (by decide +kernel)
set_option maxRecDepth 20000 in
theorem wd_811 : Cond.code yX1_skeletonInto cX1_skeletonInto 4 (some .boolean) ∈ ws0 := codesL_at 50 rfl (by decide +kernel)
set_option maxRecDepth 20000 in
theorem wd_815 : Cond.code yX9_likeOf cX9_likeOf 2 (some .int) ∈ ws0 := codesL_at 51 rfl (by decide +kernel)
set_option maxRecDepth 20000 in
theorem wd_818 : Cond.code yX10_checkForm cX10_checkForm 1 none ∈ ws0 := codesL_at 52 rfl (by decide +kernel)
set_option maxRecDepth 20000 in
theorem wd_829 : Cond.code yX7_isLike cX7_isLike 2 (some .boolean) ∈ ws0 := codesL_at 53 rfl (by decide +kernel)
set_option maxRecDepth 20000 in
theorem wd_833 : Cond.code yX7_holds cX7_holds 4 (some .boolean) ∈ ws0 := codesL_at 54 rfl (by decide +kernel)
set_option maxRecDepth 20000 in
theorem wd_841 : Cond.code yX3_baseFrom cX3_baseFrom 7 (some .int) ∈ ws0 := codesL_at 55 rfl (by decide +kernel)
set_option maxRecDepth 20000 in
theorem wd_847 : Cond.code yX9_directionOf cX9_directionOf 2 (some .int) ∈ ws0 := codesL_at 56 rfl (by decide +kernel)
set_option maxRecDepth 20000 in
theorem wd_850 : Cond.code yX3_isIsolate cX3_isIsolate 1 (some .boolean) ∈ ws0 := codesL_at 57 rfl (by decide +kernel)
set_option maxRecDepth 20000 in
theorem wd_858 : Cond.code yX3_lookAt cX3_lookAt 5 none ∈ ws0 := codesL_at 58 rfl (by decide +kernel)
set_option maxRecDepth 20000 in
theorem wd_863 : Cond.code yX3_layFrames cX3_layFrames 6 none ∈ ws0 := codesL_at 59 rfl (by decide +kernel)
set_option maxRecDepth 20000 in
theorem wd_868 : Cond.code yX3_addFrame cX3_addFrame 4 (some .int) ∈ ws0 := codesL_at 60 rfl (by decide +kernel)
set_option maxRecDepth 20000 in
theorem wd_873 : Cond.code yX3_aroundIsolate cX3_aroundIsolate 4 (some .int) ∈ ws0 := codesL_at 61 rfl (by decide +kernel)
set_option maxRecDepth 20000 in
theorem wd_876 : Cond.code yX3_isEmbed cX3_isEmbed 1 (some .boolean) ∈ ws0 := codesL_at 62 rfl (by decide +kernel)
set_option maxRecDepth 20000 in
theorem wd_880 : Cond.code yX3_levelWithin cX3_levelWithin 8 (some .int) ∈ ws0 := codesL_at 63 rfl (by decide +kernel)
set_option maxRecDepth 20000 in
theorem wd_883 : Cond.code yX3_wayOf cX3_wayOf 1 (some .int) ∈ ws0 := codesL_at 64 rfl (by decide +kernel)
set_option maxRecDepth 20000 in
theorem wd_887 : Cond.code yX7_refill cX7_refill 4 none ∈ ws0 := codesL_at 65 rfl (by decide +kernel)
set_option maxRecDepth 20000 in
theorem wd_891 : Cond.code yX3_gather cX3_gather 5 none ∈ ws0 := codesL_at 66 rfl (by decide +kernel)
set_option maxRecDepth 20000 in
theorem wd_895 : Cond.code yX3_settleNumbers cX3_settleNumbers 5 none ∈ ws0 := codesL_at 67 rfl (by decide +kernel)
set_option maxRecDepth 20000 in
theorem wd_900 : Cond.code yX3_settlePartners cX3_settlePartners 5 none ∈ ws0 := codesL_at 68 rfl (by decide +kernel)
set_option maxRecDepth 20000 in
theorem wd_904 : Cond.code yX3_matchPartners cX3_matchPartners 3 none ∈ ws0 := codesL_at 69 rfl (by decide +kernel)
set_option maxRecDepth 20000 in
theorem wd_908 : Cond.code yX9_isOpening cX9_isOpening 2 (some .boolean) ∈ ws0 := codesL_at 70 rfl (by decide +kernel)
set_option maxRecDepth 20000 in
theorem wd_913 : Cond.code yX9_isClosing cX9_isClosing 2 (some .boolean) ∈ ws0 := codesL_at 71 rfl (by decide +kernel)
set_option maxRecDepth 20000 in
theorem wd_918 : Cond.code yX3_closeLast cX3_closeLast 4 none ∈ ws0 := codesL_at 72 rfl (by decide +kernel)
set_option maxRecDepth 20000 in
theorem wd_922 : Cond.code yX3_pairWay cX3_pairWay 8 (some .int) ∈ ws0 := codesL_at 73 rfl (by decide +kernel)
set_option maxRecDepth 20000 in
theorem wd_926 : Cond.code yX3_plainWay cX3_plainWay 3 (some .int) ∈ ws0 := codesL_at 74 rfl (by decide +kernel)
set_option maxRecDepth 20000 in
theorem wd_930 : Cond.code yX3_wayAhead cX3_wayAhead 4 (some .int) ∈ ws0 := codesL_at 75 rfl (by decide +kernel)
set_option maxRecDepth 20000 in
theorem wd_934 : Cond.code yX3_settleRest cX3_settleRest 4 none ∈ ws0 := codesL_at 76 rfl (by decide +kernel)
set_option maxRecDepth 20000 in
theorem wd_938 : Cond.code yX3_wayBehind cX3_wayBehind 4 (some .int) ∈ ws0 := codesL_at 77 rfl (by decide +kernel)
set_option maxRecDepth 20000 in
theorem wd_942 : Cond.code yX3_tellLevels cX3_tellLevels 6 none ∈ ws0 := codesL_at 78 rfl (by decide +kernel)
set_option maxRecDepth 20000 in
theorem wd_946 : Cond.code yX3_levelAt cX3_levelAt 2 (some .int) ∈ ws0 := codesL_at 79 rfl (by decide +kernel)
set_option maxRecDepth 20000 in
theorem wd_954 : Cond.code yX3_screen cX3_screen 3 (some (.object "LetterTables$Row")) ∈ ws0 := codesL_at 80 rfl (by decide +kernel)
set_option maxRecDepth 20000 in
theorem wd_958 : Cond.code yX3_turnRows cX3_turnRows 5 none ∈ ws0 := codesL_at 81 rfl (by decide +kernel)
set_option maxRecDepth 20000 in
theorem wd_962 : Cond.code yX7_turn cX7_turn 6 none ∈ ws0 := codesL_at 82 rfl (by decide +kernel)
set_option maxRecDepth 20000 in
theorem wd_971 : Cond.code yX0_clusterBreaks cX0_clusterBreaks 5 (some .long) ∈ ws0 := codesL_at 83 rfl (by decide +kernel)
set_option maxRecDepth 20000 in
theorem wd_976 : Cond.code yX0_kindAt cX0_kindAt 3 (some .int) ∈ ws0 := codesL_at 84 rfl (by decide +kernel)
set_option maxRecDepth 20000 in
theorem wd_981 : Cond.code yX9_kindOf cX9_kindOf 2 (some .int) ∈ ws0 := codesL_at 85 rfl (by decide +kernel)
set_option maxRecDepth 20000 in
theorem wd_985 : Cond.code yX7_placeOf cX7_placeOf 3 (some .int) ∈ ws0 := codesL_at 86 rfl (by decide +kernel)
set_option maxRecDepth 20000 in
theorem wd_988 : Cond.code yX0_isBeginning cX0_isBeginning 3 (some .boolean) ∈ ws0 := codesL_at 87 rfl (by decide +kernel)
set_option maxRecDepth 20000 in
theorem wd_991 : Cond.code yX0_isMarked cX0_isMarked 3 (some .boolean) ∈ ws0 := codesL_at 88 rfl (by decide +kernel)
set_option maxRecDepth 20000 in
theorem wd_1004 : Cond.code yX2_unitsInto cX2_unitsInto 5 none ∈ ws0 := codesL_at 89 rfl (by decide +kernel)
set_option maxRecDepth 20000 in
theorem wd_1011 : Cond.code yX2_contractionOf cX2_contractionOf 4 (some .int) ∈ ws0 := codesL_at 90 rfl (by decide +kernel)
set_option maxRecDepth 20000 in
theorem wd_1016 : Cond.code yX2_orderOf cX2_orderOf 9 (some .int) ∈ ws0 := codesL_at 91 rfl (by decide +kernel)
set_option maxRecDepth 20000 in
theorem wd_1020 : Cond.code yX2_nextWeighing cX2_nextWeighing 5 (some .int) ∈ ws0 := codesL_at 92 rfl (by decide +kernel)
set_option maxRecDepth 20000 in
theorem wd_1024 : Cond.code yX2_weightOf cX2_weightOf 3 (some .int) ∈ ws0 := codesL_at 93 rfl (by decide +kernel)
set_option maxRecDepth 20000 in
theorem wd_1033 : Cond.code yX2_keyInto cX2_keyInto 6 none ∈ ws0 := codesL_at 94 rfl (by decide +kernel)
set_option maxRecDepth 20000 in
theorem wd_1042 : Cond.code yX10_endOfFound cX10_endOfFound 9 (some .int) ∈ ws0 := codesL_at 95 rfl (by decide +kernel)
set_option maxRecDepth 20000 in
theorem wd_1046 : Cond.code yX1_foldedEnd cX1_foldedEnd 2 (some .int) ∈ ws0 := codesL_at 96 rfl (by decide +kernel)
set_option maxRecDepth 20000 in
theorem wd_1055 : Cond.code yX5_read cX5_read 3 (some .boolean) ∈ ws0 := codesL_at 97 rfl (by decide +kernel)
set_option maxRecDepth 20000 in
theorem wd_1061 : Cond.code yX5_readPiece cX5_readPiece 6 (some .boolean) ∈ ws0 := codesL_at 98 rfl (by decide +kernel)
set_option maxRecDepth 20000 in
theorem wd_1066 : Cond.code yX5_readSet cX5_readSet 5 (some .int) ∈ ws0 := codesL_at 99 rfl (by decide +kernel)
set_option maxRecDepth 20000 in
theorem wd_1070 : Cond.code yX5_readLetter cX5_readLetter 5 (some .int) ∈ ws0 := codesL_at 100 rfl (by decide +kernel)
set_option maxRecDepth 20000 in
theorem wd_1075 : Cond.code yX5_setOf cX5_setOf 1 (some .int) ∈ ws0 := codesL_at 101 rfl (by decide +kernel)
set_option maxRecDepth 20000 in
theorem wd_1081 : Cond.code yX5_size cX5_size 1 (some .int) ∈ ws0 := codesL_at 102 rfl (by decide +kernel)
set_option maxRecDepth 20000 in
theorem wd_1090 : Cond.code yX5_endFrom cX5_endFrom 7 (some .int) ∈ ws0 := codesL_at 103 rfl (by decide +kernel)
set_option maxRecDepth 20000 in
theorem wd_1094 : Cond.code yX9_capitalsInto cX9_capitalsInto 5 none ∈ ws0 := codesL_at 104 rfl (by decide +kernel)
set_option maxRecDepth 20000 in
theorem wd_1102 : Cond.code yX5_withSkips cX5_withSkips 4 (some .int) ∈ ws0 := codesL_at 105 rfl (by decide +kernel)
set_option maxRecDepth 20000 in
theorem wd_1106 : Cond.code yX5_statesBehind cX5_statesBehind 7 (some .int) ∈ ws0 := codesL_at 106 rfl (by decide +kernel)
set_option maxRecDepth 20000 in
theorem wd_1110 : Cond.code yX5_isTaken cX5_isTaken 6 (some .boolean) ∈ ws0 := codesL_at 107 rfl (by decide +kernel)
set_option maxRecDepth 20000 in
theorem wd_1114 : Cond.code yX5_isInSet cX5_isInSet 7 (some .boolean) ∈ ws0 := codesL_at 108 rfl (by decide +kernel)
set_option maxRecDepth 20000 in
theorem wd_1123 : Cond.code yX9_passInto cX9_passInto 9 (some .boolean) ∈ ws0 := codesL_at 109 rfl (by decide +kernel)
set_option maxRecDepth 20000 in
theorem wd_1129 : Cond.code yX9_fittingRule cX9_fittingRule 7 (some (.object "LetterTables$Rule")) ∈ ws0 := codesL_at 110 rfl (by decide +kernel)
set_option maxRecDepth 20000 in
theorem wd_1133 : Cond.code yX8_fits cX8_fits 7 (some .boolean) ∈ ws0 := codesL_at 111 rfl (by decide +kernel)
set_option maxRecDepth 20000 in
theorem wd_1137 : Cond.code yX8_sourceOf cX8_sourceOf 2 (some (.object "LetterTables$Row")) ∈ ws0 := codesL_at 112 rfl (by decide +kernel)
set_option maxRecDepth 20000 in
theorem wd_1145 : Cond.code yX8_putTarget cX8_putTarget 5 (some .boolean) ∈ ws0 := codesL_at 113 rfl (by decide +kernel)
set_option maxRecDepth 20000 in
theorem wd_1156 : Cond.code yX10_isNumber cX10_isNumber 1 (some .boolean) ∈ ws0 := codesL_at 114 rfl (by decide +kernel)
set_option maxRecDepth 20000 in
theorem wd_1161 : Cond.code yX2_classFor cX2_classFor 3 (some .int) ∈ ws0 := codesL_at 115 rfl (by decide +kernel)
set_option maxRecDepth 20000 in
theorem wd_1165 : Cond.code yX6_fits cX6_fits 3 (some .boolean) ∈ ws0 := codesL_at 116 rfl (by decide +kernel)
set_option maxRecDepth 20000 in
theorem wd_1168 : Cond.code yX6_remainder cX6_remainder 2 (some .int) ∈ ws0 := codesL_at 117 rfl (by decide +kernel)
set_option maxRecDepth 20000 in
theorem wd_1173 : Cond.code yX6_classTold cX6_classTold 1 (some .int) ∈ ws0 := codesL_at 118 rfl (by decide +kernel)
set_option maxRecDepth 20000 in
theorem wd_1182 : Cond.code yX4_begin cX4_begin 1 none ∈ ws0 := codesL_at 119 rfl (by decide +kernel)
set_option maxRecDepth 20000 in
theorem wd_1187 : Cond.code yX4_tellNumber cX4_tellNumber 3 none ∈ ws0 := codesL_at 120 rfl (by decide +kernel)
set_option maxRecDepth 20000 in
theorem wd_1192 : Cond.code yX4_readAll cX4_readAll 1 (some .boolean) ∈ ws0 := codesL_at 121 rfl (by decide +kernel)
set_option maxRecDepth 20000 in
theorem wd_1196 : Cond.code yX4_readPieces cX4_readPieces 7 (some .int) ∈ ws0 := codesL_at 122 rfl (by decide +kernel)
set_option maxRecDepth 20000 in
theorem wd_1201 : Cond.code yX4_readBraces cX4_readBraces 6 (some .int) ∈ ws0 := codesL_at 123 rfl (by decide +kernel)
set_option maxRecDepth 20000 in
theorem wd_1205 : Cond.code yX4_digitAt cX4_digitAt 3 (some .int) ∈ ws0 := codesL_at 124 rfl (by decide +kernel)
set_option maxRecDepth 20000 in
theorem wd_1210 : Cond.code yX4_putNumber cX4_putNumber 6 none ∈ ws0 := codesL_at 125 rfl (by decide +kernel)
set_option maxRecDepth 20000 in
theorem wd_1215 : Cond.code yX4_putByte cX4_putByte 3 none ∈ ws0 := codesL_at 126 rfl (by decide +kernel)
set_option maxRecDepth 20000 in
theorem wd_1219 : Cond.code yX4_readCases cX4_readCases 11 (some .int) ∈ ws0 := codesL_at 127 rfl (by decide +kernel)
set_option maxRecDepth 20000 in
theorem wd_1223 : Cond.code yX4_keyEnd cX4_keyEnd 2 (some .int) ∈ ws0 := codesL_at 128 rfl (by decide +kernel)
set_option maxRecDepth 20000 in
theorem wd_1227 : Cond.code yX4_isFitting cX4_isFitting 3 (some .boolean) ∈ ws0 := codesL_at 129 rfl (by decide +kernel)
set_option maxRecDepth 20000 in
theorem wd_1233 : Cond.code yX4_result cX4_result 1 (some (.object "LetterTables$Row")) ∈ ws0 := codesL_at 130 rfl (by decide +kernel)
set_option maxRecDepth 20000 in
theorem wd_1245 : Cond.code yX10_decodeInto cX10_decodeInto 8 (some .int) ∈ ws0 := codesL_at 131 rfl (by decide +kernel)
set_option maxRecDepth 20000 in
theorem wd_1259 : Cond.code yX2_addContraction cX2_addContraction 3 (some .int) ∈ ws0 := codesL_at 132 rfl (by decide +kernel)
set_option maxRecDepth 20000 in
theorem wd_1264 : Cond.code yX2_contractionCount cX2_contractionCount 1 (some .int) ∈ ws0 := codesL_at 133 rfl (by decide +kernel)
set_option maxRecDepth 20000 in
theorem wd_1271 : Cond.code yX10_isRange cX10_isRange 2 (some .boolean) ∈ ws0 := codesL_at 134 rfl (by decide +kernel)
set_option maxRecDepth 20000 in
theorem wd_1275 : Cond.code yX2_nextPlural cX2_nextPlural 1 (some (.object "LetterTables$PluralRule")) ∈ ws0 := codesL_at 135 rfl (by decide +kernel)
set_option maxRecDepth 20000 in
theorem wd_1281 : Cond.code yX2_countPlural cX2_countPlural 1 (some .int) ∈ ws0 := codesL_at 136 rfl (by decide +kernel)
set_option maxRecDepth 20000 in
theorem wd_1318 : Cond.code yX0_wordBreaks cX0_wordBreaks 14 (some .long) ∈ ws0 := codesL_at 137 rfl (by decide +kernel)
set_option maxRecDepth 20000 in
theorem wd_1323 : Cond.code yX0_seamlessEnds cX0_seamlessEnds 9 (some .long) ∈ ws0 := codesL_at 138 rfl (by decide +kernel)
set_option maxRecDepth 20000 in
theorem wd_1327 : Cond.code yX0_clusterEnd cX0_clusterEnd 6 (some .int) ∈ ws0 := codesL_at 139 rfl (by decide +kernel)
set_option maxRecDepth 20000 in
theorem wd_1331 : Cond.code yX0_wordEnd cX0_wordEnd 11 (some .int) ∈ ws0 := codesL_at 140 rfl (by decide +kernel)
set_option maxRecDepth 20000 in
theorem wd_1335 : Cond.code yX0_seamlessLimit cX0_seamlessLimit 6 (some .int) ∈ ws0 := codesL_at 141 rfl (by decide +kernel)
set_option maxRecDepth 20000 in
theorem wd_1340 : Cond.code yX9_wordAt cX9_wordAt 2 (some (.object "LetterTables$Row")) ∈ ws0 := codesL_at 142 rfl (by decide +kernel)
set_option maxRecDepth 20000 in
theorem wd_1344 : Cond.code yX0_isWordBreak cX0_isWordBreak 4 (some .boolean) ∈ ws0 := codesL_at 143 rfl (by decide +kernel)
set_option maxRecDepth 20000 in
theorem wd_1347 : Cond.code yX0_isLineBreak cX0_isLineBreak 2 (some .boolean) ∈ ws0 := codesL_at 144 rfl (by decide +kernel)
theorem wd_1 : Cond.selects RX10 yX10_languageOf yX10_languageOf ∈ ws0 := ws0_of 1 (by decide +kernel) (by decide +kernel)
theorem wd_2 : Cond.selects RX10 yX10_textOf yX10_textOf ∈ ws0 := ws0_of 2 (by decide +kernel) (by decide +kernel)
theorem wd_3 : Cond.selects RX1 yX1_splitLetter yX1_splitLetter ∈ ws0 := ws0_of 3 (by decide +kernel) (by decide +kernel)
theorem wd_4 : Cond.selects RX1 yX1_sortMarks yX1_sortMarks ∈ ws0 := ws0_of 4 (by decide +kernel) (by decide +kernel)
theorem wd_5 : Cond.selects RX1 yX1_startFor yX1_startFor ∈ ws0 := ws0_of 5 (by decide +kernel) (by decide +kernel)
theorem wd_6 : Cond.selects RX1 yX1_capitalInto yX1_capitalInto ∈ ws0 := ws0_of 6 (by decide +kernel) (by decide +kernel)
theorem wd_7 : Cond.selects RX1 yX1_addUnmarked yX1_addUnmarked ∈ ws0 := ws0_of 7 (by decide +kernel) (by decide +kernel)
theorem wd_8 : Cond.selects RX3 yX3_layFrames yX3_layFrames ∈ ws0 := ws0_of 8 (by decide +kernel) (by decide +kernel)
theorem wd_9 : Cond.selects RX3 yX3_addFrame yX3_addFrame ∈ ws0 := ws0_of 9 (by decide +kernel) (by decide +kernel)
theorem wd_10 : Cond.selects RX3 yX3_aroundIsolate yX3_aroundIsolate ∈ ws0 := ws0_of 10 (by decide +kernel) (by decide +kernel)
theorem wd_11 : Cond.selects RX3 yX3_levelWithin yX3_levelWithin ∈ ws0 := ws0_of 11 (by decide +kernel) (by decide +kernel)
theorem wd_12 : Cond.selects RX3 yX3_gather yX3_gather ∈ ws0 := ws0_of 12 (by decide +kernel) (by decide +kernel)
theorem wd_13 : Cond.selects RX3 yX3_settleNumbers yX3_settleNumbers ∈ ws0 := ws0_of 13 (by decide +kernel) (by decide +kernel)
theorem wd_14 : Cond.selects RX3 yX3_settlePartners yX3_settlePartners ∈ ws0 := ws0_of 14 (by decide +kernel) (by decide +kernel)
theorem wd_15 : Cond.selects RX3 yX3_matchPartners yX3_matchPartners ∈ ws0 := ws0_of 15 (by decide +kernel) (by decide +kernel)
theorem wd_16 : Cond.selects RX3 yX3_closeLast yX3_closeLast ∈ ws0 := ws0_of 16 (by decide +kernel) (by decide +kernel)
theorem wd_17 : Cond.selects RX3 yX3_pairWay yX3_pairWay ∈ ws0 := ws0_of 17 (by decide +kernel) (by decide +kernel)
theorem wd_18 : Cond.selects RX3 yX3_plainWay yX3_plainWay ∈ ws0 := ws0_of 18 (by decide +kernel) (by decide +kernel)
theorem wd_19 : Cond.selects RX3 yX3_wayAhead yX3_wayAhead ∈ ws0 := ws0_of 19 (by decide +kernel) (by decide +kernel)
theorem wd_20 : Cond.selects RX3 yX3_settleRest yX3_settleRest ∈ ws0 := ws0_of 20 (by decide +kernel) (by decide +kernel)
theorem wd_21 : Cond.selects RX3 yX3_wayBehind yX3_wayBehind ∈ ws0 := ws0_of 21 (by decide +kernel) (by decide +kernel)
theorem wd_22 : Cond.selects RX3 yX3_tellLevels yX3_tellLevels ∈ ws0 := ws0_of 22 (by decide +kernel) (by decide +kernel)
theorem wd_23 : Cond.selects RX3 yX3_turnRows yX3_turnRows ∈ ws0 := ws0_of 23 (by decide +kernel) (by decide +kernel)
theorem wd_24 : Cond.selects RX0 yX0_kindAt yX0_kindAt ∈ ws0 := ws0_of 24 (by decide +kernel) (by decide +kernel)
theorem wd_25 : Cond.selects RX2 yX2_nextWeighing yX2_nextWeighing ∈ ws0 := ws0_of 25 (by decide +kernel) (by decide +kernel)
theorem wd_26 : Cond.selects RX2 yX2_weightOf yX2_weightOf ∈ ws0 := ws0_of 26 (by decide +kernel) (by decide +kernel)
theorem wd_27 : Cond.selects RX10 yX10_endOfFound yX10_endOfFound ∈ ws0 := ws0_of 27 (by decide +kernel) (by decide +kernel)
theorem wd_28 : Cond.selects RX5 yX5_readPiece yX5_readPiece ∈ ws0 := ws0_of 28 (by decide +kernel) (by decide +kernel)
theorem wd_29 : Cond.selects RX5 yX5_readSet yX5_readSet ∈ ws0 := ws0_of 29 (by decide +kernel) (by decide +kernel)
theorem wd_30 : Cond.selects RX5 yX5_readLetter yX5_readLetter ∈ ws0 := ws0_of 30 (by decide +kernel) (by decide +kernel)
theorem wd_31 : Cond.selects RX5 yX5_withSkips yX5_withSkips ∈ ws0 := ws0_of 31 (by decide +kernel) (by decide +kernel)
theorem wd_32 : Cond.selects RX5 yX5_statesBehind yX5_statesBehind ∈ ws0 := ws0_of 32 (by decide +kernel) (by decide +kernel)
theorem wd_33 : Cond.selects RX5 yX5_isTaken yX5_isTaken ∈ ws0 := ws0_of 33 (by decide +kernel) (by decide +kernel)
theorem wd_34 : Cond.selects RX5 yX5_isInSet yX5_isInSet ∈ ws0 := ws0_of 34 (by decide +kernel) (by decide +kernel)
theorem wd_35 : Cond.selects RX9 yX9_fittingRule yX9_fittingRule ∈ ws0 := ws0_of 35 (by decide +kernel) (by decide +kernel)
theorem wd_36 : Cond.selects RX4 yX4_readPieces yX4_readPieces ∈ ws0 := ws0_of 36 (by decide +kernel) (by decide +kernel)
theorem wd_37 : Cond.selects RX4 yX4_readBraces yX4_readBraces ∈ ws0 := ws0_of 37 (by decide +kernel) (by decide +kernel)
theorem wd_38 : Cond.selects RX4 yX4_digitAt yX4_digitAt ∈ ws0 := ws0_of 38 (by decide +kernel) (by decide +kernel)
theorem wd_39 : Cond.selects RX4 yX4_putNumber yX4_putNumber ∈ ws0 := ws0_of 39 (by decide +kernel) (by decide +kernel)
theorem wd_40 : Cond.selects RX4 yX4_putByte yX4_putByte ∈ ws0 := ws0_of 40 (by decide +kernel) (by decide +kernel)
theorem wd_41 : Cond.selects RX4 yX4_readCases yX4_readCases ∈ ws0 := ws0_of 41 (by decide +kernel) (by decide +kernel)
theorem wd_42 : Cond.selects RX4 yX4_keyEnd yX4_keyEnd ∈ ws0 := ws0_of 42 (by decide +kernel) (by decide +kernel)
theorem wd_43 : Cond.selects RX4 yX4_isFitting yX4_isFitting ∈ ws0 := ws0_of 43 (by decide +kernel) (by decide +kernel)
theorem wd_44 : Cond.selects RX10 yX10_decodeInto yX10_decodeInto ∈ ws0 := ws0_of 44 (by decide +kernel) (by decide +kernel)
theorem wd_45 : Cond.selects RX0 yX0_seamlessEnds yX0_seamlessEnds ∈ ws0 := ws0_of 45 (by decide +kernel) (by decide +kernel)
theorem wd_46 : Cond.selects RX0 yX0_clusterEnd yX0_clusterEnd ∈ ws0 := ws0_of 46 (by decide +kernel) (by decide +kernel)
theorem wd_47 : Cond.selects RX0 yX0_wordEnd yX0_wordEnd ∈ ws0 := ws0_of 47 (by decide +kernel) (by decide +kernel)
theorem wd_48 : Cond.selects RX0 yX0_seamlessLimit yX0_seamlessLimit ∈ ws0 := ws0_of 48 (by decide +kernel) (by decide +kernel)
theorem wd_50 : Cond.initialized RX10 ∈ ws0 := ws0_of 50 (by decide +kernel) (by decide +kernel)
theorem wd_51 : Cond.initialized RX9 ∈ ws0 := ws0_of 51 (by decide +kernel) (by decide +kernel)
theorem wd_52 : Cond.initialized RX2 ∈ ws0 := ws0_of 52 (by decide +kernel) (by decide +kernel)
theorem wd_53 : Cond.initialized RX7 ∈ ws0 := ws0_of 53 (by decide +kernel) (by decide +kernel)
theorem wd_54 : Cond.initialized RX6 ∈ ws0 := ws0_of 54 (by decide +kernel) (by decide +kernel)
theorem wd_55 : Cond.initialized RX8 ∈ ws0 := ws0_of 55 (by decide +kernel) (by decide +kernel)
theorem wd_56 : Cond.initialized RX1 ∈ ws0 := ws0_of 56 (by decide +kernel) (by decide +kernel)
theorem wd_57 : Cond.initialized RX3 ∈ ws0 := ws0_of 57 (by decide +kernel) (by decide +kernel)
theorem wd_58 : Cond.initialized RX0 ∈ ws0 := ws0_of 58 (by decide +kernel) (by decide +kernel)
theorem wd_59 : Cond.initialized RX5 ∈ ws0 := ws0_of 59 (by decide +kernel) (by decide +kernel)
theorem wd_60 : Cond.initialized RX4 ∈ ws0 := ws0_of 60 (by decide +kernel) (by decide +kernel)
theorem wd_64 : Cond.initialized (exN 1) ∈ ws0 := ws0_of 64 (by decide +kernel) (by decide +kernel)
theorem wd_65 : Cond.initialized (exN 2) ∈ ws0 := ws0_of 65 (by decide +kernel) (by decide +kernel)
theorem wd_66 : Cond.initialized (exN 3) ∈ ws0 := ws0_of 66 (by decide +kernel) (by decide +kernel)
theorem wd_97 : Cond.fieldLink RX7 9 (TX7 0).1 (TX7 0).2.1 (TX7 0).2.2.1 ∈ ws0 := ws0_of 97 (by decide +kernel) (by decide +kernel)
theorem wd_98 : Cond.fieldLink RX7 15 (TX7 1).1 (TX7 1).2.1 (TX7 1).2.2.1 ∈ ws0 := ws0_of 98 (by decide +kernel) (by decide +kernel)
theorem wd_112 : Cond.fieldLink RX6 13 (TX6 0).1 (TX6 0).2.1 (TX6 0).2.2.1 ∈ ws0 := ws0_of 112 (by decide +kernel) (by decide +kernel)
theorem wd_113 : Cond.fieldLink RX6 7 (TX6 1).1 (TX6 1).2.1 (TX6 1).2.2.1 ∈ ws0 := ws0_of 113 (by decide +kernel) (by decide +kernel)
theorem wd_114 : Cond.fieldLink RX6 16 (TX6 2).1 (TX6 2).2.1 (TX6 2).2.2.1 ∈ ws0 := ws0_of 114 (by decide +kernel) (by decide +kernel)
theorem wd_115 : Cond.fieldLink RX6 19 (TX6 3).1 (TX6 3).2.1 (TX6 3).2.2.1 ∈ ws0 := ws0_of 115 (by decide +kernel) (by decide +kernel)
theorem wd_116 : Cond.fieldLink RX6 22 (TX6 4).1 (TX6 4).2.1 (TX6 4).2.2.1 ∈ ws0 := ws0_of 116 (by decide +kernel) (by decide +kernel)
theorem wd_117 : Cond.fieldLink RX6 25 (TX6 5).1 (TX6 5).2.1 (TX6 5).2.2.1 ∈ ws0 := ws0_of 117 (by decide +kernel) (by decide +kernel)
theorem wd_118 : Cond.fieldLink RX6 28 (TX6 6).1 (TX6 6).2.1 (TX6 6).2.2.1 ∈ ws0 := ws0_of 118 (by decide +kernel) (by decide +kernel)
theorem wd_134 : Cond.fieldLink RX2 9 (TX2 0).1 (TX2 0).2.1 (TX2 0).2.2.1 ∈ ws0 := ws0_of 134 (by decide +kernel) (by decide +kernel)
theorem wd_135 : Cond.fieldLink RX2 15 (TX2 1).1 (TX2 1).2.1 (TX2 1).2.2.1 ∈ ws0 := ws0_of 135 (by decide +kernel) (by decide +kernel)
theorem wd_136 : Cond.fieldLink RX2 18 (TX2 2).1 (TX2 2).2.1 (TX2 2).2.2.1 ∈ ws0 := ws0_of 136 (by decide +kernel) (by decide +kernel)
theorem wd_137 : Cond.fieldLink RX2 26 (TX2 3).1 (TX2 3).2.1 (TX2 3).2.2.1 ∈ ws0 := ws0_of 137 (by decide +kernel) (by decide +kernel)
theorem wd_138 : Cond.fieldLink RX2 30 (TX2 4).1 (TX2 4).2.1 (TX2 4).2.2.1 ∈ ws0 := ws0_of 138 (by decide +kernel) (by decide +kernel)
theorem wd_139 : Cond.fieldLink RX2 35 (TX2 5).1 (TX2 5).2.1 (TX2 5).2.2.1 ∈ ws0 := ws0_of 139 (by decide +kernel) (by decide +kernel)
theorem wd_140 : Cond.fieldLink RX2 52 (TX2 6).1 (TX2 6).2.1 (TX2 6).2.2.1 ∈ ws0 := ws0_of 140 (by decide +kernel) (by decide +kernel)
theorem wd_168 : Cond.fieldLink RX8 29 (TX8 0).1 (TX8 0).2.1 (TX8 0).2.2.1 ∈ ws0 := ws0_of 168 (by decide +kernel) (by decide +kernel)
theorem wd_169 : Cond.fieldLink RX8 14 (TX8 1).1 (TX8 1).2.1 (TX8 1).2.2.1 ∈ ws0 := ws0_of 169 (by decide +kernel) (by decide +kernel)
theorem wd_170 : Cond.fieldLink RX8 20 (TX8 2).1 (TX8 2).2.1 (TX8 2).2.2.1 ∈ ws0 := ws0_of 170 (by decide +kernel) (by decide +kernel)
theorem wd_171 : Cond.fieldLink RX8 23 (TX8 3).1 (TX8 3).2.1 (TX8 3).2.2.1 ∈ ws0 := ws0_of 171 (by decide +kernel) (by decide +kernel)
theorem wd_172 : Cond.fieldLink RX8 26 (TX8 4).1 (TX8 4).2.1 (TX8 4).2.2.1 ∈ ws0 := ws0_of 172 (by decide +kernel) (by decide +kernel)
theorem wd_184 : Cond.fieldLink RX9 9 (TX9 0).1 (TX9 0).2.1 (TX9 0).2.2.1 ∈ ws0 := ws0_of 184 (by decide +kernel) (by decide +kernel)
theorem wd_185 : Cond.fieldLink RX9 15 (TX9 1).1 (TX9 1).2.1 (TX9 1).2.2.1 ∈ ws0 := ws0_of 185 (by decide +kernel) (by decide +kernel)
theorem wd_186 : Cond.fieldLink RX9 18 (TX9 2).1 (TX9 2).2.1 (TX9 2).2.2.1 ∈ ws0 := ws0_of 186 (by decide +kernel) (by decide +kernel)
theorem wd_187 : Cond.fieldLink RX9 21 (TX9 3).1 (TX9 3).2.1 (TX9 3).2.2.1 ∈ ws0 := ws0_of 187 (by decide +kernel) (by decide +kernel)
theorem wd_188 : Cond.fieldLink RX9 24 (TX9 4).1 (TX9 4).2.1 (TX9 4).2.2.1 ∈ ws0 := ws0_of 188 (by decide +kernel) (by decide +kernel)
theorem wd_189 : Cond.fieldLink RX9 27 (TX9 5).1 (TX9 5).2.1 (TX9 5).2.2.1 ∈ ws0 := ws0_of 189 (by decide +kernel) (by decide +kernel)
theorem wd_190 : Cond.fieldLink RX9 30 (TX9 6).1 (TX9 6).2.1 (TX9 6).2.2.1 ∈ ws0 := ws0_of 190 (by decide +kernel) (by decide +kernel)
theorem wd_191 : Cond.fieldLink RX9 33 (TX9 7).1 (TX9 7).2.1 (TX9 7).2.2.1 ∈ ws0 := ws0_of 191 (by decide +kernel) (by decide +kernel)
theorem wd_192 : Cond.fieldLink RX9 36 (TX9 8).1 (TX9 8).2.1 (TX9 8).2.2.1 ∈ ws0 := ws0_of 192 (by decide +kernel) (by decide +kernel)
theorem wd_193 : Cond.fieldLink RX9 39 (TX9 9).1 (TX9 9).2.1 (TX9 9).2.2.1 ∈ ws0 := ws0_of 193 (by decide +kernel) (by decide +kernel)
theorem wd_194 : Cond.fieldLink RX9 48 (TX9 10).1 (TX9 10).2.1 (TX9 10).2.2.1 ∈ ws0 := ws0_of 194 (by decide +kernel) (by decide +kernel)
theorem wd_195 : Cond.fieldLink RX9 55 (TX9 11).1 (TX9 11).2.1 (TX9 11).2.2.1 ∈ ws0 := ws0_of 195 (by decide +kernel) (by decide +kernel)
theorem wd_196 : Cond.fieldLink RX9 81 (TX9 12).1 (TX9 12).2.1 (TX9 12).2.2.1 ∈ ws0 := ws0_of 196 (by decide +kernel) (by decide +kernel)
theorem wd_197 : Cond.fieldLink RX9 64 (TX9 13).1 (TX9 13).2.1 (TX9 13).2.2.1 ∈ ws0 := ws0_of 197 (by decide +kernel) (by decide +kernel)
theorem wd_198 : Cond.fieldLink RX9 88 (TX9 14).1 (TX9 14).2.1 (TX9 14).2.2.1 ∈ ws0 := ws0_of 198 (by decide +kernel) (by decide +kernel)
theorem wd_241 : Cond.fieldLink RX1 9 (TX1 0).1 (TX1 0).2.1 (TX1 0).2.2.1 ∈ ws0 := ws0_of 241 (by decide +kernel) (by decide +kernel)
theorem wd_242 : Cond.fieldLink RX1 20 (TX1 1).1 (TX1 1).2.1 (TX1 1).2.2.1 ∈ ws0 := ws0_of 242 (by decide +kernel) (by decide +kernel)
theorem wd_243 : Cond.fieldLink RX1 24 (TX1 2).1 (TX1 2).2.1 (TX1 2).2.2.1 ∈ ws0 := ws0_of 243 (by decide +kernel) (by decide +kernel)
theorem wd_244 : Cond.fieldLink RX1 27 (TX1 3).1 (TX1 3).2.1 (TX1 3).2.2.1 ∈ ws0 := ws0_of 244 (by decide +kernel) (by decide +kernel)
theorem wd_245 : Cond.fieldLink RX1 30 (TX1 4).1 (TX1 4).2.1 (TX1 4).2.2.1 ∈ ws0 := ws0_of 245 (by decide +kernel) (by decide +kernel)
theorem wd_246 : Cond.fieldLink RX1 33 (TX1 5).1 (TX1 5).2.1 (TX1 5).2.2.1 ∈ ws0 := ws0_of 246 (by decide +kernel) (by decide +kernel)
theorem wd_268 : Cond.fieldLink RX3 9 (TX3 0).1 (TX3 0).2.1 (TX3 0).2.2.1 ∈ ws0 := ws0_of 268 (by decide +kernel) (by decide +kernel)
theorem wd_269 : Cond.fieldLink RX3 20 (TX3 1).1 (TX3 1).2.1 (TX3 1).2.2.1 ∈ ws0 := ws0_of 269 (by decide +kernel) (by decide +kernel)
theorem wd_270 : Cond.fieldLink RX3 24 (TX3 2).1 (TX3 2).2.1 (TX3 2).2.2.1 ∈ ws0 := ws0_of 270 (by decide +kernel) (by decide +kernel)
theorem wd_271 : Cond.fieldLink RX3 27 (TX3 3).1 (TX3 3).2.1 (TX3 3).2.2.1 ∈ ws0 := ws0_of 271 (by decide +kernel) (by decide +kernel)
theorem wd_272 : Cond.fieldLink RX3 30 (TX3 4).1 (TX3 4).2.1 (TX3 4).2.2.1 ∈ ws0 := ws0_of 272 (by decide +kernel) (by decide +kernel)
theorem wd_273 : Cond.fieldLink RX3 33 (TX3 5).1 (TX3 5).2.1 (TX3 5).2.2.1 ∈ ws0 := ws0_of 273 (by decide +kernel) (by decide +kernel)
theorem wd_274 : Cond.fieldLink RX3 36 (TX3 6).1 (TX3 6).2.1 (TX3 6).2.2.1 ∈ ws0 := ws0_of 274 (by decide +kernel) (by decide +kernel)
theorem wd_275 : Cond.fieldLink RX3 39 (TX3 7).1 (TX3 7).2.1 (TX3 7).2.2.1 ∈ ws0 := ws0_of 275 (by decide +kernel) (by decide +kernel)
theorem wd_276 : Cond.fieldLink RX3 42 (TX3 8).1 (TX3 8).2.1 (TX3 8).2.2.1 ∈ ws0 := ws0_of 276 (by decide +kernel) (by decide +kernel)
theorem wd_277 : Cond.fieldLink RX3 45 (TX3 9).1 (TX3 9).2.1 (TX3 9).2.2.1 ∈ ws0 := ws0_of 277 (by decide +kernel) (by decide +kernel)
theorem wd_278 : Cond.fieldLink RX3 48 (TX3 10).1 (TX3 10).2.1 (TX3 10).2.2.1 ∈ ws0 := ws0_of 278 (by decide +kernel) (by decide +kernel)
theorem wd_279 : Cond.fieldLink RX3 51 (TX3 11).1 (TX3 11).2.1 (TX3 11).2.2.1 ∈ ws0 := ws0_of 279 (by decide +kernel) (by decide +kernel)
theorem wd_311 : Cond.fieldLink RX0 9 (TX0 0).1 (TX0 0).2.1 (TX0 0).2.2.1 ∈ ws0 := ws0_of 311 (by decide +kernel) (by decide +kernel)
theorem wd_323 : Cond.fieldLink RX5 14 (TX5 0).1 (TX5 0).2.1 (TX5 0).2.2.1 ∈ ws0 := ws0_of 323 (by decide +kernel) (by decide +kernel)
theorem wd_324 : Cond.fieldLink RX5 20 (TX5 1).1 (TX5 1).2.1 (TX5 1).2.2.1 ∈ ws0 := ws0_of 324 (by decide +kernel) (by decide +kernel)
theorem wd_325 : Cond.fieldLink RX5 23 (TX5 2).1 (TX5 2).2.1 (TX5 2).2.2.1 ∈ ws0 := ws0_of 325 (by decide +kernel) (by decide +kernel)
theorem wd_326 : Cond.fieldLink RX5 26 (TX5 3).1 (TX5 3).2.1 (TX5 3).2.2.1 ∈ ws0 := ws0_of 326 (by decide +kernel) (by decide +kernel)
theorem wd_327 : Cond.fieldLink RX5 36 (TX5 4).1 (TX5 4).2.1 (TX5 4).2.2.1 ∈ ws0 := ws0_of 327 (by decide +kernel) (by decide +kernel)
theorem wd_347 : Cond.fieldLink RX4 9 (TX4 0).1 (TX4 0).2.1 (TX4 0).2.2.1 ∈ ws0 := ws0_of 347 (by decide +kernel) (by decide +kernel)
theorem wd_348 : Cond.fieldLink RX4 20 (TX4 1).1 (TX4 1).2.1 (TX4 1).2.2.1 ∈ ws0 := ws0_of 348 (by decide +kernel) (by decide +kernel)
theorem wd_349 : Cond.fieldLink RX4 23 (TX4 2).1 (TX4 2).2.1 (TX4 2).2.2.1 ∈ ws0 := ws0_of 349 (by decide +kernel) (by decide +kernel)
theorem wd_350 : Cond.fieldLink RX4 26 (TX4 3).1 (TX4 3).2.1 (TX4 3).2.2.1 ∈ ws0 := ws0_of 350 (by decide +kernel) (by decide +kernel)
theorem wd_360 : Cond.fieldLink RX10 12 (TX10 0).1 (TX10 0).2.1 (TX10 0).2.2.1 ∈ ws0 := ws0_of 360 (by decide +kernel) (by decide +kernel)
theorem wd_361 : Cond.fieldLink RX10 16 (TX10 1).1 (TX10 1).2.1 (TX10 1).2.2.1 ∈ ws0 := ws0_of 361 (by decide +kernel) (by decide +kernel)
theorem wd_362 : Cond.fieldLink RX10 221 (TX10 2).1 (TX10 2).2.1 (TX10 2).2.2.1 ∈ ws0 := ws0_of 362 (by decide +kernel) (by decide +kernel)
theorem wd_363 : Cond.fieldLink RX10 22 (TX10 3).1 (TX10 3).2.1 (TX10 3).2.2.1 ∈ ws0 := ws0_of 363 (by decide +kernel) (by decide +kernel)
theorem wd_364 : Cond.fieldLink RX10 29 (TX10 4).1 (TX10 4).2.1 (TX10 4).2.2.1 ∈ ws0 := ws0_of 364 (by decide +kernel) (by decide +kernel)
theorem wd_365 : Cond.fieldLink RX10 33 (TX10 5).1 (TX10 5).2.1 (TX10 5).2.2.1 ∈ ws0 := ws0_of 365 (by decide +kernel) (by decide +kernel)
theorem wd_366 : Cond.fieldLink RX10 41 (TX10 6).1 (TX10 6).2.1 (TX10 6).2.2.1 ∈ ws0 := ws0_of 366 (by decide +kernel) (by decide +kernel)
theorem wd_367 : Cond.fieldLink RX10 48 (TX10 7).1 (TX10 7).2.1 (TX10 7).2.2.1 ∈ ws0 := ws0_of 367 (by decide +kernel) (by decide +kernel)
theorem wd_368 : Cond.fieldLink RX10 55 (TX10 8).1 (TX10 8).2.1 (TX10 8).2.2.1 ∈ ws0 := ws0_of 368 (by decide +kernel) (by decide +kernel)
theorem wd_369 : Cond.fieldLink RX10 62 (TX10 9).1 (TX10 9).2.1 (TX10 9).2.2.1 ∈ ws0 := ws0_of 369 (by decide +kernel) (by decide +kernel)
theorem wd_370 : Cond.fieldLink RX10 66 (TX10 10).1 (TX10 10).2.1 (TX10 10).2.2.1 ∈ ws0 := ws0_of 370 (by decide +kernel) (by decide +kernel)
theorem wd_371 : Cond.fieldLink RX10 319 (TX10 11).1 (TX10 11).2.1 (TX10 11).2.2.1 ∈ ws0 := ws0_of 371 (by decide +kernel) (by decide +kernel)
theorem wd_372 : Cond.fieldLink RX10 74 (TX10 12).1 (TX10 12).2.1 (TX10 12).2.2.1 ∈ ws0 := ws0_of 372 (by decide +kernel) (by decide +kernel)
theorem wd_373 : Cond.fieldLink RX10 78 (TX10 13).1 (TX10 13).2.1 (TX10 13).2.2.1 ∈ ws0 := ws0_of 373 (by decide +kernel) (by decide +kernel)
theorem wd_374 : Cond.fieldLink RX10 81 (TX10 14).1 (TX10 14).2.1 (TX10 14).2.2.1 ∈ ws0 := ws0_of 374 (by decide +kernel) (by decide +kernel)
theorem wd_375 : Cond.fieldLink RX10 84 (TX10 15).1 (TX10 15).2.1 (TX10 15).2.2.1 ∈ ws0 := ws0_of 375 (by decide +kernel) (by decide +kernel)
theorem wd_376 : Cond.fieldLink RX10 87 (TX10 16).1 (TX10 16).2.1 (TX10 16).2.2.1 ∈ ws0 := ws0_of 376 (by decide +kernel) (by decide +kernel)
theorem wd_377 : Cond.fieldLink RX10 90 (TX10 17).1 (TX10 17).2.1 (TX10 17).2.2.1 ∈ ws0 := ws0_of 377 (by decide +kernel) (by decide +kernel)
theorem wd_378 : Cond.fieldLink RX10 93 (TX10 18).1 (TX10 18).2.1 (TX10 18).2.2.1 ∈ ws0 := ws0_of 378 (by decide +kernel) (by decide +kernel)
theorem wd_379 : Cond.fieldLink RX10 96 (TX10 19).1 (TX10 19).2.1 (TX10 19).2.2.1 ∈ ws0 := ws0_of 379 (by decide +kernel) (by decide +kernel)
theorem wd_444 : Cond.methodLink RX10 124 yX10_checkLetter ∈ ws0 := ws0_of 444 (by decide +kernel) (by decide +kernel)
theorem wd_445 : Cond.static yX10_checkLetter ∈ ws0 := ws0_of 445 (by decide +kernel) (by decide +kernel)
theorem wd_447 : Cond.methodLink RX10 127 yX10_isLetter ∈ ws0 := ws0_of 447 (by decide +kernel) (by decide +kernel)
theorem wd_448 : Cond.static yX10_isLetter ∈ ws0 := ws0_of 448 (by decide +kernel) (by decide +kernel)
theorem wd_450 : Cond.methodLink RX10 99 yX10_isWithin ∈ ws0 := ws0_of 450 (by decide +kernel) (by decide +kernel)
theorem wd_451 : Cond.static yX10_isWithin ∈ ws0 := ws0_of 451 (by decide +kernel) (by decide +kernel)
theorem wd_453 : Cond.classLink RX10 230 (exN 1) ∈ ws0 := ws0_of 453 (by decide +kernel) (by decide +kernel)
theorem wd_495 : Cond.methodLink RX10 234 (Bundle.initS (exN 1)) ∈ ws0 := ws0_of 495 (by decide +kernel) (by decide +kernel)
theorem wd_521 : Cond.methodLink RX10 103 yX10_checkArgument ∈ ws0 := ws0_of 521 (by decide +kernel) (by decide +kernel)
theorem wd_522 : Cond.static yX10_checkArgument ∈ ws0 := ws0_of 522 (by decide +kernel) (by decide +kernel)
theorem wd_524 : Cond.classLink RX10 370 (exN 2) ∈ ws0 := ws0_of 524 (by decide +kernel) (by decide +kernel)
theorem wd_534 : Cond.methodLink RX10 374 (Bundle.initS (exN 2)) ∈ ws0 := ws0_of 534 (by decide +kernel) (by decide +kernel)
theorem wd_540 : Cond.methodLink RX10 130 yX9_tell ∈ ws0 := ws0_of 540 (by decide +kernel) (by decide +kernel)
theorem wd_541 : Cond.instanceMethod yX9_tell ∈ ws0 := ws0_of 541 (by decide +kernel) (by decide +kernel)
theorem wd_542 : Cond.selects RX9 yX9_tell yX9_tell ∈ ws0 := ws0_of 542 (by decide +kernel) (by decide +kernel)
theorem wd_545 : Cond.static yX10_setCell ∈ ws0 := ws0_of 545 (by decide +kernel) (by decide +kernel)
theorem wd_551 : Cond.methodLink RX10 134 yX9_tellSplit ∈ ws0 := ws0_of 551 (by decide +kernel) (by decide +kernel)
theorem wd_552 : Cond.instanceMethod yX9_tellSplit ∈ ws0 := ws0_of 552 (by decide +kernel) (by decide +kernel)
theorem wd_553 : Cond.selects RX9 yX9_tellSplit yX9_tellSplit ∈ ws0 := ws0_of 553 (by decide +kernel) (by decide +kernel)
theorem wd_559 : Cond.methodLink RX10 138 yX9_tellCapital ∈ ws0 := ws0_of 559 (by decide +kernel) (by decide +kernel)
theorem wd_560 : Cond.instanceMethod yX9_tellCapital ∈ ws0 := ws0_of 560 (by decide +kernel) (by decide +kernel)
theorem wd_561 : Cond.selects RX9 yX9_tellCapital yX9_tellCapital ∈ ws0 := ws0_of 561 (by decide +kernel) (by decide +kernel)
theorem wd_567 : Cond.methodLink RX10 141 yX9_partnerOf ∈ ws0 := ws0_of 567 (by decide +kernel) (by decide +kernel)
theorem wd_568 : Cond.instanceMethod yX9_partnerOf ∈ ws0 := ws0_of 568 (by decide +kernel) (by decide +kernel)
theorem wd_569 : Cond.selects RX9 yX9_partnerOf yX9_partnerOf ∈ ws0 := ws0_of 569 (by decide +kernel) (by decide +kernel)
theorem wd_572 : Cond.static yX10_cellOf ∈ ws0 := ws0_of 572 (by decide +kernel) (by decide +kernel)
theorem wd_574 : Cond.classLink RX10 111 (exN 3) ∈ ws0 := ws0_of 574 (by decide +kernel) (by decide +kernel)
theorem wd_584 : Cond.methodLink RX10 115 (Bundle.initS (exN 3)) ∈ ws0 := ws0_of 584 (by decide +kernel) (by decide +kernel)
theorem wd_590 : Cond.methodLink RX10 147 yX9_tellPartners ∈ ws0 := ws0_of 590 (by decide +kernel) (by decide +kernel)
theorem wd_591 : Cond.instanceMethod yX9_tellPartners ∈ ws0 := ws0_of 591 (by decide +kernel) (by decide +kernel)
theorem wd_592 : Cond.selects RX9 yX9_tellPartners yX9_tellPartners ∈ ws0 := ws0_of 592 (by decide +kernel) (by decide +kernel)
theorem wd_598 : Cond.methodLink RX10 151 yX10_languageOf ∈ ws0 := ws0_of 598 (by decide +kernel) (by decide +kernel)
theorem wd_600 : Cond.instanceMethod yX10_languageOf ∈ ws0 := ws0_of 600 (by decide +kernel) (by decide +kernel)
theorem wd_602 : Cond.methodLink RX10 379 yX9_languageAt ∈ ws0 := ws0_of 602 (by decide +kernel) (by decide +kernel)
theorem wd_603 : Cond.instanceMethod yX9_languageAt ∈ ws0 := ws0_of 603 (by decide +kernel) (by decide +kernel)
theorem wd_604 : Cond.selects RX9 yX9_languageAt yX9_languageAt ∈ ws0 := ws0_of 604 (by decide +kernel) (by decide +kernel)
theorem wd_607 : Cond.methodLink RX10 155 yX10_checkWeights ∈ ws0 := ws0_of 607 (by decide +kernel) (by decide +kernel)
theorem wd_608 : Cond.static yX10_checkWeights ∈ ws0 := ws0_of 608 (by decide +kernel) (by decide +kernel)
theorem wd_610 : Cond.methodLink RX10 158 yX2_weighUnit ∈ ws0 := ws0_of 610 (by decide +kernel) (by decide +kernel)
theorem wd_611 : Cond.instanceMethod yX2_weighUnit ∈ ws0 := ws0_of 611 (by decide +kernel) (by decide +kernel)
theorem wd_612 : Cond.selects RX2 yX2_weighUnit yX2_weighUnit ∈ ws0 := ws0_of 612 (by decide +kernel) (by decide +kernel)
theorem wd_623 : Cond.methodLink RX10 227 yX9_copyFrom ∈ ws0 := ws0_of 623 (by decide +kernel) (by decide +kernel)
theorem wd_624 : Cond.instanceMethod yX9_copyFrom ∈ ws0 := ws0_of 624 (by decide +kernel) (by decide +kernel)
theorem wd_625 : Cond.selects RX9 yX9_copyFrom yX9_copyFrom ∈ ws0 := ws0_of 625 (by decide +kernel) (by decide +kernel)
theorem wd_628 : Cond.static yX10_copyCells ∈ ws0 := ws0_of 628 (by decide +kernel) (by decide +kernel)
theorem wd_630 : Cond.methodLink RX9 73 yX2_copyFrom ∈ ws0 := ws0_of 630 (by decide +kernel) (by decide +kernel)
theorem wd_631 : Cond.instanceMethod yX2_copyFrom ∈ ws0 := ws0_of 631 (by decide +kernel) (by decide +kernel)
theorem wd_632 : Cond.selects RX2 yX2_copyFrom yX2_copyFrom ∈ ws0 := ws0_of 632 (by decide +kernel) (by decide +kernel)
theorem wd_635 : Cond.methodLink RX2 44 yX7_takeOver ∈ ws0 := ws0_of 635 (by decide +kernel) (by decide +kernel)
theorem wd_636 : Cond.instanceMethod yX7_takeOver ∈ ws0 := ws0_of 636 (by decide +kernel) (by decide +kernel)
theorem wd_637 : Cond.selects RX7 yX7_takeOver yX7_takeOver ∈ ws0 := ws0_of 637 (by decide +kernel) (by decide +kernel)
theorem wd_639 : Cond.methodLink RX7 19 yX7_get ∈ ws0 := ws0_of 639 (by decide +kernel) (by decide +kernel)
theorem wd_640 : Cond.instanceMethod yX7_get ∈ ws0 := ws0_of 640 (by decide +kernel) (by decide +kernel)
theorem wd_641 : Cond.selects RX7 yX7_get yX7_get ∈ ws0 := ws0_of 641 (by decide +kernel) (by decide +kernel)
theorem wd_643 : Cond.methodLink RX7 27 yX7_add ∈ ws0 := ws0_of 643 (by decide +kernel) (by decide +kernel)
theorem wd_644 : Cond.instanceMethod yX7_add ∈ ws0 := ws0_of 644 (by decide +kernel) (by decide +kernel)
theorem wd_645 : Cond.selects RX7 yX7_add yX7_add ∈ ws0 := ws0_of 645 (by decide +kernel) (by decide +kernel)
theorem wd_647 : Cond.methodLink RX2 48 yX6_copyFrom ∈ ws0 := ws0_of 647 (by decide +kernel) (by decide +kernel)
theorem wd_648 : Cond.instanceMethod yX6_copyFrom ∈ ws0 := ws0_of 648 (by decide +kernel) (by decide +kernel)
theorem wd_649 : Cond.selects RX6 yX6_copyFrom yX6_copyFrom ∈ ws0 := ws0_of 649 (by decide +kernel) (by decide +kernel)
theorem wd_651 : Cond.methodLink RX6 31 yX6_tell ∈ ws0 := ws0_of 651 (by decide +kernel) (by decide +kernel)
theorem wd_652 : Cond.instanceMethod yX6_tell ∈ ws0 := ws0_of 652 (by decide +kernel) (by decide +kernel)
theorem wd_653 : Cond.selects RX6 yX6_tell yX6_tell ∈ ws0 := ws0_of 653 (by decide +kernel) (by decide +kernel)
theorem wd_655 : Cond.methodLink RX9 77 yX7_takeOver ∈ ws0 := ws0_of 655 (by decide +kernel) (by decide +kernel)
theorem wd_656 : Cond.methodLink RX9 85 yX8_copyFrom ∈ ws0 := ws0_of 656 (by decide +kernel) (by decide +kernel)
theorem wd_657 : Cond.instanceMethod yX8_copyFrom ∈ ws0 := ws0_of 657 (by decide +kernel) (by decide +kernel)
theorem wd_658 : Cond.selects RX8 yX8_copyFrom yX8_copyFrom ∈ ws0 := ws0_of 658 (by decide +kernel) (by decide +kernel)
theorem wd_660 : Cond.methodLink RX8 37 yX8_tell ∈ ws0 := ws0_of 660 (by decide +kernel) (by decide +kernel)
theorem wd_661 : Cond.instanceMethod yX8_tell ∈ ws0 := ws0_of 661 (by decide +kernel) (by decide +kernel)
theorem wd_662 : Cond.selects RX8 yX8_tell yX8_tell ∈ ws0 := ws0_of 662 (by decide +kernel) (by decide +kernel)
theorem wd_664 : Cond.methodLink RX8 33 yX7_takeOver ∈ ws0 := ws0_of 664 (by decide +kernel) (by decide +kernel)
theorem wd_669 : Cond.methodLink RX10 194 yX10_textOf ∈ ws0 := ws0_of 669 (by decide +kernel) (by decide +kernel)
theorem wd_671 : Cond.instanceMethod yX10_textOf ∈ ws0 := ws0_of 671 (by decide +kernel) (by decide +kernel)
theorem wd_674 : Cond.methodLink RX10 107 yX7_size ∈ ws0 := ws0_of 674 (by decide +kernel) (by decide +kernel)
theorem wd_675 : Cond.instanceMethod yX7_size ∈ ws0 := ws0_of 675 (by decide +kernel) (by decide +kernel)
theorem wd_676 : Cond.selects RX7 yX7_size yX7_size ∈ ws0 := ws0_of 676 (by decide +kernel) (by decide +kernel)
theorem wd_678 : Cond.methodLink RX10 198 yX9_takeWord ∈ ws0 := ws0_of 678 (by decide +kernel) (by decide +kernel)
theorem wd_679 : Cond.instanceMethod yX9_takeWord ∈ ws0 := ws0_of 679 (by decide +kernel) (by decide +kernel)
theorem wd_680 : Cond.selects RX9 yX9_takeWord yX9_takeWord ∈ ws0 := ws0_of 680 (by decide +kernel) (by decide +kernel)
theorem wd_683 : Cond.methodLink RX10 204 yX9_wordCount ∈ ws0 := ws0_of 683 (by decide +kernel) (by decide +kernel)
theorem wd_684 : Cond.instanceMethod yX9_wordCount ∈ ws0 := ws0_of 684 (by decide +kernel) (by decide +kernel)
theorem wd_685 : Cond.selects RX9 yX9_wordCount yX9_wordCount ∈ ws0 := ws0_of 685 (by decide +kernel) (by decide +kernel)
theorem wd_691 : Cond.methodLink RX10 207 yX9_nextRule ∈ ws0 := ws0_of 691 (by decide +kernel) (by decide +kernel)
theorem wd_692 : Cond.instanceMethod yX9_nextRule ∈ ws0 := ws0_of 692 (by decide +kernel) (by decide +kernel)
theorem wd_693 : Cond.selects RX9 yX9_nextRule yX9_nextRule ∈ ws0 := ws0_of 693 (by decide +kernel) (by decide +kernel)
theorem wd_696 : Cond.methodLink RX10 213 yX8_tell ∈ ws0 := ws0_of 696 (by decide +kernel) (by decide +kernel)
theorem wd_697 : Cond.methodLink RX10 218 yX9_countRule ∈ ws0 := ws0_of 697 (by decide +kernel) (by decide +kernel)
theorem wd_698 : Cond.instanceMethod yX9_countRule ∈ ws0 := ws0_of 698 (by decide +kernel) (by decide +kernel)
theorem wd_699 : Cond.selects RX9 yX9_countRule yX9_countRule ∈ ws0 := ws0_of 699 (by decide +kernel) (by decide +kernel)
theorem wd_710 : Cond.methodLink RX10 120 yX7_add ∈ ws0 := ws0_of 710 (by decide +kernel) (by decide +kernel)
theorem wd_716 : Cond.methodLink RX10 237 yX7_cutTo ∈ ws0 := ws0_of 716 (by decide +kernel) (by decide +kernel)
theorem wd_717 : Cond.instanceMethod yX7_cutTo ∈ ws0 := ws0_of 717 (by decide +kernel) (by decide +kernel)
theorem wd_718 : Cond.selects RX7 yX7_cutTo yX7_cutTo ∈ ws0 := ws0_of 718 (by decide +kernel) (by decide +kernel)
theorem wd_724 : Cond.methodLink RX10 240 yX10_checkPlace ∈ ws0 := ws0_of 724 (by decide +kernel) (by decide +kernel)
theorem wd_725 : Cond.static yX10_checkPlace ∈ ws0 := ws0_of 725 (by decide +kernel) (by decide +kernel)
theorem wd_728 : Cond.methodLink RX10 243 yX7_get ∈ ws0 := ws0_of 728 (by decide +kernel) (by decide +kernel)
theorem wd_733 : Cond.methodLink RX10 246 yX1_formInto ∈ ws0 := ws0_of 733 (by decide +kernel) (by decide +kernel)
theorem wd_734 : Cond.instanceMethod yX1_formInto ∈ ws0 := ws0_of 734 (by decide +kernel) (by decide +kernel)
theorem wd_735 : Cond.selects RX1 yX1_formInto yX1_formInto ∈ ws0 := ws0_of 735 (by decide +kernel) (by decide +kernel)
theorem wd_737 : Cond.methodLink RX1 36 yX1_splitInto ∈ ws0 := ws0_of 737 (by decide +kernel) (by decide +kernel)
theorem wd_738 : Cond.instanceMethod yX1_splitInto ∈ ws0 := ws0_of 738 (by decide +kernel) (by decide +kernel)
theorem wd_739 : Cond.selects RX1 yX1_splitInto yX1_splitInto ∈ ws0 := ws0_of 739 (by decide +kernel) (by decide +kernel)
theorem wd_741 : Cond.methodLink RX1 49 yX7_cutTo ∈ ws0 := ws0_of 741 (by decide +kernel) (by decide +kernel)
theorem wd_742 : Cond.methodLink RX1 52 yX7_size ∈ ws0 := ws0_of 742 (by decide +kernel) (by decide +kernel)
theorem wd_743 : Cond.methodLink RX1 56 yX7_get ∈ ws0 := ws0_of 743 (by decide +kernel) (by decide +kernel)
theorem wd_744 : Cond.methodLink RX1 60 yX1_splitLetter ∈ ws0 := ws0_of 744 (by decide +kernel) (by decide +kernel)
theorem wd_746 : Cond.instanceMethod yX1_splitLetter ∈ ws0 := ws0_of 746 (by decide +kernel) (by decide +kernel)
theorem wd_748 : Cond.methodLink RX1 68 yX7_add ∈ ws0 := ws0_of 748 (by decide +kernel) (by decide +kernel)
theorem wd_749 : Cond.methodLink RX1 72 yX7_removeLast ∈ ws0 := ws0_of 749 (by decide +kernel) (by decide +kernel)
theorem wd_750 : Cond.instanceMethod yX7_removeLast ∈ ws0 := ws0_of 750 (by decide +kernel) (by decide +kernel)
theorem wd_751 : Cond.selects RX7 yX7_removeLast yX7_removeLast ∈ ws0 := ws0_of 751 (by decide +kernel) (by decide +kernel)
theorem wd_753 : Cond.methodLink RX7 23 yX7_cutTo ∈ ws0 := ws0_of 753 (by decide +kernel) (by decide +kernel)
theorem wd_754 : Cond.methodLink RX1 75 yX9_splitOneOf ∈ ws0 := ws0_of 754 (by decide +kernel) (by decide +kernel)
theorem wd_755 : Cond.instanceMethod yX9_splitOneOf ∈ ws0 := ws0_of 755 (by decide +kernel) (by decide +kernel)
theorem wd_756 : Cond.selects RX9 yX9_splitOneOf yX9_splitOneOf ∈ ws0 := ws0_of 756 (by decide +kernel) (by decide +kernel)
theorem wd_758 : Cond.methodLink RX1 80 yX9_splitOtherOf ∈ ws0 := ws0_of 758 (by decide +kernel) (by decide +kernel)
theorem wd_759 : Cond.instanceMethod yX9_splitOtherOf ∈ ws0 := ws0_of 759 (by decide +kernel) (by decide +kernel)
theorem wd_760 : Cond.selects RX9 yX9_splitOtherOf yX9_splitOtherOf ∈ ws0 := ws0_of 760 (by decide +kernel) (by decide +kernel)
theorem wd_762 : Cond.methodLink RX1 64 yX1_sortMarks ∈ ws0 := ws0_of 762 (by decide +kernel) (by decide +kernel)
theorem wd_764 : Cond.instanceMethod yX1_sortMarks ∈ ws0 := ws0_of 764 (by decide +kernel) (by decide +kernel)
theorem wd_766 : Cond.methodLink RX1 83 yX9_joinsOf ∈ ws0 := ws0_of 766 (by decide +kernel) (by decide +kernel)
theorem wd_767 : Cond.instanceMethod yX9_joinsOf ∈ ws0 := ws0_of 767 (by decide +kernel) (by decide +kernel)
theorem wd_768 : Cond.selects RX9 yX9_joinsOf yX9_joinsOf ∈ ws0 := ws0_of 768 (by decide +kernel) (by decide +kernel)
theorem wd_770 : Cond.methodLink RX1 86 yX7_set ∈ ws0 := ws0_of 770 (by decide +kernel) (by decide +kernel)
theorem wd_771 : Cond.instanceMethod yX7_set ∈ ws0 := ws0_of 771 (by decide +kernel) (by decide +kernel)
theorem wd_772 : Cond.selects RX7 yX7_set yX7_set ∈ ws0 := ws0_of 772 (by decide +kernel) (by decide +kernel)
theorem wd_774 : Cond.methodLink RX1 40 yX1_joinInto ∈ ws0 := ws0_of 774 (by decide +kernel) (by decide +kernel)
theorem wd_775 : Cond.instanceMethod yX1_joinInto ∈ ws0 := ws0_of 775 (by decide +kernel) (by decide +kernel)
theorem wd_776 : Cond.selects RX1 yX1_joinInto yX1_joinInto ∈ ws0 := ws0_of 776 (by decide +kernel) (by decide +kernel)
theorem wd_778 : Cond.methodLink RX1 90 yX1_startFor ∈ ws0 := ws0_of 778 (by decide +kernel) (by decide +kernel)
theorem wd_780 : Cond.instanceMethod yX1_startFor ∈ ws0 := ws0_of 780 (by decide +kernel) (by decide +kernel)
theorem wd_782 : Cond.methodLink RX1 94 yX9_joinedOf ∈ ws0 := ws0_of 782 (by decide +kernel) (by decide +kernel)
theorem wd_783 : Cond.instanceMethod yX9_joinedOf ∈ ws0 := ws0_of 783 (by decide +kernel) (by decide +kernel)
theorem wd_784 : Cond.selects RX9 yX9_joinedOf yX9_joinedOf ∈ ws0 := ws0_of 784 (by decide +kernel) (by decide +kernel)
theorem wd_786 : Cond.methodLink RX9 103 yX9_splitOneOf ∈ ws0 := ws0_of 786 (by decide +kernel) (by decide +kernel)
theorem wd_787 : Cond.methodLink RX9 106 yX9_splitOtherOf ∈ ws0 := ws0_of 787 (by decide +kernel) (by decide +kernel)
theorem wd_788 : Cond.methodLink RX1 43 yX1_foldInto ∈ ws0 := ws0_of 788 (by decide +kernel) (by decide +kernel)
theorem wd_789 : Cond.instanceMethod yX1_foldInto ∈ ws0 := ws0_of 789 (by decide +kernel) (by decide +kernel)
theorem wd_790 : Cond.selects RX1 yX1_foldInto yX1_foldInto ∈ ws0 := ws0_of 790 (by decide +kernel) (by decide +kernel)
theorem wd_792 : Cond.methodLink RX1 98 yX1_capitalInto ∈ ws0 := ws0_of 792 (by decide +kernel) (by decide +kernel)
theorem wd_794 : Cond.instanceMethod yX1_capitalInto ∈ ws0 := ws0_of 794 (by decide +kernel) (by decide +kernel)
theorem wd_796 : Cond.methodLink RX1 106 yX9_capitalOneOf ∈ ws0 := ws0_of 796 (by decide +kernel) (by decide +kernel)
theorem wd_797 : Cond.instanceMethod yX9_capitalOneOf ∈ ws0 := ws0_of 797 (by decide +kernel) (by decide +kernel)
theorem wd_798 : Cond.selects RX9 yX9_capitalOneOf yX9_capitalOneOf ∈ ws0 := ws0_of 798 (by decide +kernel) (by decide +kernel)
theorem wd_800 : Cond.methodLink RX1 109 yX9_capitalOtherOf ∈ ws0 := ws0_of 800 (by decide +kernel) (by decide +kernel)
theorem wd_801 : Cond.instanceMethod yX9_capitalOtherOf ∈ ws0 := ws0_of 801 (by decide +kernel) (by decide +kernel)
theorem wd_802 : Cond.selects RX9 yX9_capitalOtherOf yX9_capitalOtherOf ∈ ws0 := ws0_of 802 (by decide +kernel) (by decide +kernel)
theorem wd_804 : Cond.methodLink RX1 102 yX1_addUnmarked ∈ ws0 := ws0_of 804 (by decide +kernel) (by decide +kernel)
theorem wd_806 : Cond.instanceMethod yX1_addUnmarked ∈ ws0 := ws0_of 806 (by decide +kernel) (by decide +kernel)
theorem wd_808 : Cond.methodLink RX1 46 yX1_skeletonInto ∈ ws0 := ws0_of 808 (by decide +kernel) (by decide +kernel)
theorem wd_809 : Cond.instanceMethod yX1_skeletonInto ∈ ws0 := ws0_of 809 (by decide +kernel) (by decide +kernel)
theorem wd_810 : Cond.selects RX1 yX1_skeletonInto yX1_skeletonInto ∈ ws0 := ws0_of 810 (by decide +kernel) (by decide +kernel)
theorem wd_812 : Cond.methodLink RX1 112 yX9_likeOf ∈ ws0 := ws0_of 812 (by decide +kernel) (by decide +kernel)
theorem wd_813 : Cond.instanceMethod yX9_likeOf ∈ ws0 := ws0_of 813 (by decide +kernel) (by decide +kernel)
theorem wd_814 : Cond.selects RX9 yX9_likeOf yX9_likeOf ∈ ws0 := ws0_of 814 (by decide +kernel) (by decide +kernel)
theorem wd_816 : Cond.methodLink RX10 250 yX10_checkForm ∈ ws0 := ws0_of 816 (by decide +kernel) (by decide +kernel)
theorem wd_817 : Cond.static yX10_checkForm ∈ ws0 := ws0_of 817 (by decide +kernel) (by decide +kernel)
theorem wd_820 : Cond.methodLink RX10 253 yX7_takeOver ∈ ws0 := ws0_of 820 (by decide +kernel) (by decide +kernel)
theorem wd_825 : Cond.methodLink RX10 256 yX1_skeletonInto ∈ ws0 := ws0_of 825 (by decide +kernel) (by decide +kernel)
theorem wd_826 : Cond.methodLink RX10 260 yX7_isLike ∈ ws0 := ws0_of 826 (by decide +kernel) (by decide +kernel)
theorem wd_827 : Cond.instanceMethod yX7_isLike ∈ ws0 := ws0_of 827 (by decide +kernel) (by decide +kernel)
theorem wd_828 : Cond.selects RX7 yX7_isLike yX7_isLike ∈ ws0 := ws0_of 828 (by decide +kernel) (by decide +kernel)
theorem wd_830 : Cond.methodLink RX7 31 yX7_holds ∈ ws0 := ws0_of 830 (by decide +kernel) (by decide +kernel)
theorem wd_831 : Cond.instanceMethod yX7_holds ∈ ws0 := ws0_of 831 (by decide +kernel) (by decide +kernel)
theorem wd_832 : Cond.selects RX7 yX7_holds yX7_holds ∈ ws0 := ws0_of 832 (by decide +kernel) (by decide +kernel)
theorem wd_838 : Cond.methodLink RX10 263 yX3_baseFrom ∈ ws0 := ws0_of 838 (by decide +kernel) (by decide +kernel)
theorem wd_839 : Cond.instanceMethod yX3_baseFrom ∈ ws0 := ws0_of 839 (by decide +kernel) (by decide +kernel)
theorem wd_840 : Cond.selects RX3 yX3_baseFrom yX3_baseFrom ∈ ws0 := ws0_of 840 (by decide +kernel) (by decide +kernel)
theorem wd_842 : Cond.methodLink RX3 54 yX7_size ∈ ws0 := ws0_of 842 (by decide +kernel) (by decide +kernel)
theorem wd_843 : Cond.methodLink RX3 58 yX7_get ∈ ws0 := ws0_of 843 (by decide +kernel) (by decide +kernel)
theorem wd_844 : Cond.methodLink RX3 62 yX9_directionOf ∈ ws0 := ws0_of 844 (by decide +kernel) (by decide +kernel)
theorem wd_845 : Cond.instanceMethod yX9_directionOf ∈ ws0 := ws0_of 845 (by decide +kernel) (by decide +kernel)
theorem wd_846 : Cond.selects RX9 yX9_directionOf yX9_directionOf ∈ ws0 := ws0_of 846 (by decide +kernel) (by decide +kernel)
theorem wd_848 : Cond.methodLink RX3 67 yX3_isIsolate ∈ ws0 := ws0_of 848 (by decide +kernel) (by decide +kernel)
theorem wd_849 : Cond.static yX3_isIsolate ∈ ws0 := ws0_of 849 (by decide +kernel) (by decide +kernel)
theorem wd_855 : Cond.methodLink RX10 267 yX3_lookAt ∈ ws0 := ws0_of 855 (by decide +kernel) (by decide +kernel)
theorem wd_856 : Cond.instanceMethod yX3_lookAt ∈ ws0 := ws0_of 856 (by decide +kernel) (by decide +kernel)
theorem wd_857 : Cond.selects RX3 yX3_lookAt yX3_lookAt ∈ ws0 := ws0_of 857 (by decide +kernel) (by decide +kernel)
theorem wd_859 : Cond.methodLink RX3 71 yX3_baseFrom ∈ ws0 := ws0_of 859 (by decide +kernel) (by decide +kernel)
theorem wd_860 : Cond.methodLink RX3 75 yX3_layFrames ∈ ws0 := ws0_of 860 (by decide +kernel) (by decide +kernel)
theorem wd_862 : Cond.instanceMethod yX3_layFrames ∈ ws0 := ws0_of 862 (by decide +kernel) (by decide +kernel)
theorem wd_864 : Cond.methodLink RX3 101 yX7_cutTo ∈ ws0 := ws0_of 864 (by decide +kernel) (by decide +kernel)
theorem wd_865 : Cond.methodLink RX3 104 yX3_addFrame ∈ ws0 := ws0_of 865 (by decide +kernel) (by decide +kernel)
theorem wd_867 : Cond.instanceMethod yX3_addFrame ∈ ws0 := ws0_of 867 (by decide +kernel) (by decide +kernel)
theorem wd_869 : Cond.methodLink RX3 111 yX7_add ∈ ws0 := ws0_of 869 (by decide +kernel) (by decide +kernel)
theorem wd_870 : Cond.methodLink RX3 108 yX3_aroundIsolate ∈ ws0 := ws0_of 870 (by decide +kernel) (by decide +kernel)
theorem wd_872 : Cond.instanceMethod yX3_aroundIsolate ∈ ws0 := ws0_of 872 (by decide +kernel) (by decide +kernel)
theorem wd_874 : Cond.methodLink RX3 114 yX3_isEmbed ∈ ws0 := ws0_of 874 (by decide +kernel) (by decide +kernel)
theorem wd_875 : Cond.static yX3_isEmbed ∈ ws0 := ws0_of 875 (by decide +kernel) (by decide +kernel)
theorem wd_877 : Cond.methodLink RX3 117 yX3_levelWithin ∈ ws0 := ws0_of 877 (by decide +kernel) (by decide +kernel)
theorem wd_879 : Cond.instanceMethod yX3_levelWithin ∈ ws0 := ws0_of 879 (by decide +kernel) (by decide +kernel)
theorem wd_881 : Cond.methodLink RX3 86 yX3_wayOf ∈ ws0 := ws0_of 881 (by decide +kernel) (by decide +kernel)
theorem wd_882 : Cond.static yX3_wayOf ∈ ws0 := ws0_of 882 (by decide +kernel) (by decide +kernel)
theorem wd_884 : Cond.methodLink RX3 79 yX7_refill ∈ ws0 := ws0_of 884 (by decide +kernel) (by decide +kernel)
theorem wd_885 : Cond.instanceMethod yX7_refill ∈ ws0 := ws0_of 885 (by decide +kernel) (by decide +kernel)
theorem wd_886 : Cond.selects RX7 yX7_refill yX7_refill ∈ ws0 := ws0_of 886 (by decide +kernel) (by decide +kernel)
theorem wd_888 : Cond.methodLink RX3 83 yX3_gather ∈ ws0 := ws0_of 888 (by decide +kernel) (by decide +kernel)
theorem wd_890 : Cond.instanceMethod yX3_gather ∈ ws0 := ws0_of 890 (by decide +kernel) (by decide +kernel)
theorem wd_892 : Cond.methodLink RX3 89 yX3_settleNumbers ∈ ws0 := ws0_of 892 (by decide +kernel) (by decide +kernel)
theorem wd_894 : Cond.instanceMethod yX3_settleNumbers ∈ ws0 := ws0_of 894 (by decide +kernel) (by decide +kernel)
theorem wd_896 : Cond.methodLink RX3 121 yX7_set ∈ ws0 := ws0_of 896 (by decide +kernel) (by decide +kernel)
theorem wd_897 : Cond.methodLink RX3 92 yX3_settlePartners ∈ ws0 := ws0_of 897 (by decide +kernel) (by decide +kernel)
theorem wd_899 : Cond.instanceMethod yX3_settlePartners ∈ ws0 := ws0_of 899 (by decide +kernel) (by decide +kernel)
theorem wd_901 : Cond.methodLink RX3 124 yX3_matchPartners ∈ ws0 := ws0_of 901 (by decide +kernel) (by decide +kernel)
theorem wd_903 : Cond.instanceMethod yX3_matchPartners ∈ ws0 := ws0_of 903 (by decide +kernel) (by decide +kernel)
theorem wd_905 : Cond.methodLink RX3 130 yX9_isOpening ∈ ws0 := ws0_of 905 (by decide +kernel) (by decide +kernel)
theorem wd_906 : Cond.instanceMethod yX9_isOpening ∈ ws0 := ws0_of 906 (by decide +kernel) (by decide +kernel)
theorem wd_907 : Cond.selects RX9 yX9_isOpening yX9_isOpening ∈ ws0 := ws0_of 907 (by decide +kernel) (by decide +kernel)
theorem wd_909 : Cond.methodLink RX9 99 yX9_partnerOf ∈ ws0 := ws0_of 909 (by decide +kernel) (by decide +kernel)
theorem wd_910 : Cond.methodLink RX3 133 yX9_isClosing ∈ ws0 := ws0_of 910 (by decide +kernel) (by decide +kernel)
theorem wd_911 : Cond.instanceMethod yX9_isClosing ∈ ws0 := ws0_of 911 (by decide +kernel) (by decide +kernel)
theorem wd_912 : Cond.selects RX9 yX9_isClosing yX9_isClosing ∈ ws0 := ws0_of 912 (by decide +kernel) (by decide +kernel)
theorem wd_914 : Cond.methodLink RX3 136 yX9_partnerOf ∈ ws0 := ws0_of 914 (by decide +kernel) (by decide +kernel)
theorem wd_915 : Cond.methodLink RX3 139 yX3_closeLast ∈ ws0 := ws0_of 915 (by decide +kernel) (by decide +kernel)
theorem wd_917 : Cond.instanceMethod yX3_closeLast ∈ ws0 := ws0_of 917 (by decide +kernel) (by decide +kernel)
theorem wd_919 : Cond.methodLink RX3 127 yX3_pairWay ∈ ws0 := ws0_of 919 (by decide +kernel) (by decide +kernel)
theorem wd_921 : Cond.instanceMethod yX3_pairWay ∈ ws0 := ws0_of 921 (by decide +kernel) (by decide +kernel)
theorem wd_923 : Cond.methodLink RX3 142 yX3_plainWay ∈ ws0 := ws0_of 923 (by decide +kernel) (by decide +kernel)
theorem wd_925 : Cond.instanceMethod yX3_plainWay ∈ ws0 := ws0_of 925 (by decide +kernel) (by decide +kernel)
theorem wd_927 : Cond.methodLink RX3 145 yX3_wayAhead ∈ ws0 := ws0_of 927 (by decide +kernel) (by decide +kernel)
theorem wd_929 : Cond.instanceMethod yX3_wayAhead ∈ ws0 := ws0_of 929 (by decide +kernel) (by decide +kernel)
theorem wd_931 : Cond.methodLink RX3 95 yX3_settleRest ∈ ws0 := ws0_of 931 (by decide +kernel) (by decide +kernel)
theorem wd_933 : Cond.instanceMethod yX3_settleRest ∈ ws0 := ws0_of 933 (by decide +kernel) (by decide +kernel)
theorem wd_935 : Cond.methodLink RX3 149 yX3_wayBehind ∈ ws0 := ws0_of 935 (by decide +kernel) (by decide +kernel)
theorem wd_937 : Cond.instanceMethod yX3_wayBehind ∈ ws0 := ws0_of 937 (by decide +kernel) (by decide +kernel)
theorem wd_939 : Cond.methodLink RX3 98 yX3_tellLevels ∈ ws0 := ws0_of 939 (by decide +kernel) (by decide +kernel)
theorem wd_941 : Cond.instanceMethod yX3_tellLevels ∈ ws0 := ws0_of 941 (by decide +kernel) (by decide +kernel)
theorem wd_943 : Cond.methodLink RX10 271 yX3_levelAt ∈ ws0 := ws0_of 943 (by decide +kernel) (by decide +kernel)
theorem wd_944 : Cond.instanceMethod yX3_levelAt ∈ ws0 := ws0_of 944 (by decide +kernel) (by decide +kernel)
theorem wd_945 : Cond.selects RX3 yX3_levelAt yX3_levelAt ∈ ws0 := ws0_of 945 (by decide +kernel) (by decide +kernel)
theorem wd_951 : Cond.methodLink RX10 274 yX3_screen ∈ ws0 := ws0_of 951 (by decide +kernel) (by decide +kernel)
theorem wd_952 : Cond.instanceMethod yX3_screen ∈ ws0 := ws0_of 952 (by decide +kernel) (by decide +kernel)
theorem wd_953 : Cond.selects RX3 yX3_screen yX3_screen ∈ ws0 := ws0_of 953 (by decide +kernel) (by decide +kernel)
theorem wd_955 : Cond.methodLink RX3 152 yX3_turnRows ∈ ws0 := ws0_of 955 (by decide +kernel) (by decide +kernel)
theorem wd_957 : Cond.instanceMethod yX3_turnRows ∈ ws0 := ws0_of 957 (by decide +kernel) (by decide +kernel)
theorem wd_959 : Cond.methodLink RX3 155 yX7_turn ∈ ws0 := ws0_of 959 (by decide +kernel) (by decide +kernel)
theorem wd_960 : Cond.instanceMethod yX7_turn ∈ ws0 := ws0_of 960 (by decide +kernel) (by decide +kernel)
theorem wd_961 : Cond.selects RX7 yX7_turn yX7_turn ∈ ws0 := ws0_of 961 (by decide +kernel) (by decide +kernel)
theorem wd_963 : Cond.methodLink RX7 35 yX7_set ∈ ws0 := ws0_of 963 (by decide +kernel) (by decide +kernel)
theorem wd_968 : Cond.methodLink RX10 278 yX0_clusterBreaks ∈ ws0 := ws0_of 968 (by decide +kernel) (by decide +kernel)
theorem wd_969 : Cond.instanceMethod yX0_clusterBreaks ∈ ws0 := ws0_of 969 (by decide +kernel) (by decide +kernel)
theorem wd_970 : Cond.selects RX0 yX0_clusterBreaks yX0_clusterBreaks ∈ ws0 := ws0_of 970 (by decide +kernel) (by decide +kernel)
theorem wd_972 : Cond.methodLink RX0 30 yX7_size ∈ ws0 := ws0_of 972 (by decide +kernel) (by decide +kernel)
theorem wd_973 : Cond.methodLink RX0 34 yX0_kindAt ∈ ws0 := ws0_of 973 (by decide +kernel) (by decide +kernel)
theorem wd_975 : Cond.instanceMethod yX0_kindAt ∈ ws0 := ws0_of 975 (by decide +kernel) (by decide +kernel)
theorem wd_977 : Cond.methodLink RX0 19 yX7_get ∈ ws0 := ws0_of 977 (by decide +kernel) (by decide +kernel)
theorem wd_978 : Cond.methodLink RX0 25 yX9_kindOf ∈ ws0 := ws0_of 978 (by decide +kernel) (by decide +kernel)
theorem wd_979 : Cond.instanceMethod yX9_kindOf ∈ ws0 := ws0_of 979 (by decide +kernel) (by decide +kernel)
theorem wd_980 : Cond.selects RX9 yX9_kindOf yX9_kindOf ∈ ws0 := ws0_of 980 (by decide +kernel) (by decide +kernel)
theorem wd_982 : Cond.methodLink RX10 282 yX7_placeOf ∈ ws0 := ws0_of 982 (by decide +kernel) (by decide +kernel)
theorem wd_983 : Cond.instanceMethod yX7_placeOf ∈ ws0 := ws0_of 983 (by decide +kernel) (by decide +kernel)
theorem wd_984 : Cond.selects RX7 yX7_placeOf yX7_placeOf ∈ ws0 := ws0_of 984 (by decide +kernel) (by decide +kernel)
theorem wd_986 : Cond.methodLink RX10 285 yX0_isBeginning ∈ ws0 := ws0_of 986 (by decide +kernel) (by decide +kernel)
theorem wd_987 : Cond.static yX0_isBeginning ∈ ws0 := ws0_of 987 (by decide +kernel) (by decide +kernel)
theorem wd_989 : Cond.methodLink RX0 15 yX0_isMarked ∈ ws0 := ws0_of 989 (by decide +kernel) (by decide +kernel)
theorem wd_990 : Cond.static yX0_isMarked ∈ ws0 := ws0_of 990 (by decide +kernel) (by decide +kernel)
theorem wd_1000 : Cond.methodLink RX10 293 yX1_splitInto ∈ ws0 := ws0_of 1000 (by decide +kernel) (by decide +kernel)
theorem wd_1001 : Cond.methodLink RX10 296 yX2_unitsInto ∈ ws0 := ws0_of 1001 (by decide +kernel) (by decide +kernel)
theorem wd_1002 : Cond.instanceMethod yX2_unitsInto ∈ ws0 := ws0_of 1002 (by decide +kernel) (by decide +kernel)
theorem wd_1003 : Cond.selects RX2 yX2_unitsInto yX2_unitsInto ∈ ws0 := ws0_of 1003 (by decide +kernel) (by decide +kernel)
theorem wd_1005 : Cond.methodLink RX2 72 yX7_cutTo ∈ ws0 := ws0_of 1005 (by decide +kernel) (by decide +kernel)
theorem wd_1006 : Cond.methodLink RX2 60 yX7_size ∈ ws0 := ws0_of 1006 (by decide +kernel) (by decide +kernel)
theorem wd_1007 : Cond.methodLink RX2 64 yX7_get ∈ ws0 := ws0_of 1007 (by decide +kernel) (by decide +kernel)
theorem wd_1008 : Cond.methodLink RX2 75 yX2_contractionOf ∈ ws0 := ws0_of 1008 (by decide +kernel) (by decide +kernel)
theorem wd_1009 : Cond.instanceMethod yX2_contractionOf ∈ ws0 := ws0_of 1009 (by decide +kernel) (by decide +kernel)
theorem wd_1010 : Cond.selects RX2 yX2_contractionOf yX2_contractionOf ∈ ws0 := ws0_of 1010 (by decide +kernel) (by decide +kernel)
theorem wd_1012 : Cond.methodLink RX2 68 yX7_add ∈ ws0 := ws0_of 1012 (by decide +kernel) (by decide +kernel)
theorem wd_1013 : Cond.methodLink RX10 300 yX2_orderOf ∈ ws0 := ws0_of 1013 (by decide +kernel) (by decide +kernel)
theorem wd_1014 : Cond.instanceMethod yX2_orderOf ∈ ws0 := ws0_of 1014 (by decide +kernel) (by decide +kernel)
theorem wd_1015 : Cond.selects RX2 yX2_orderOf yX2_orderOf ∈ ws0 := ws0_of 1015 (by decide +kernel) (by decide +kernel)
theorem wd_1017 : Cond.methodLink RX2 82 yX2_nextWeighing ∈ ws0 := ws0_of 1017 (by decide +kernel) (by decide +kernel)
theorem wd_1019 : Cond.instanceMethod yX2_nextWeighing ∈ ws0 := ws0_of 1019 (by decide +kernel) (by decide +kernel)
theorem wd_1021 : Cond.methodLink RX2 79 yX2_weightOf ∈ ws0 := ws0_of 1021 (by decide +kernel) (by decide +kernel)
theorem wd_1023 : Cond.instanceMethod yX2_weightOf ∈ ws0 := ws0_of 1023 (by decide +kernel) (by decide +kernel)
theorem wd_1030 : Cond.methodLink RX10 304 yX2_keyInto ∈ ws0 := ws0_of 1030 (by decide +kernel) (by decide +kernel)
theorem wd_1031 : Cond.instanceMethod yX2_keyInto ∈ ws0 := ws0_of 1031 (by decide +kernel) (by decide +kernel)
theorem wd_1032 : Cond.selects RX2 yX2_keyInto yX2_keyInto ∈ ws0 := ws0_of 1032 (by decide +kernel) (by decide +kernel)
theorem wd_1038 : Cond.methodLink RX10 307 yX1_foldInto ∈ ws0 := ws0_of 1038 (by decide +kernel) (by decide +kernel)
theorem wd_1039 : Cond.methodLink RX10 310 yX10_endOfFound ∈ ws0 := ws0_of 1039 (by decide +kernel) (by decide +kernel)
theorem wd_1041 : Cond.instanceMethod yX10_endOfFound ∈ ws0 := ws0_of 1041 (by decide +kernel) (by decide +kernel)
theorem wd_1043 : Cond.methodLink RX10 384 yX1_foldedEnd ∈ ws0 := ws0_of 1043 (by decide +kernel) (by decide +kernel)
theorem wd_1044 : Cond.instanceMethod yX1_foldedEnd ∈ ws0 := ws0_of 1044 (by decide +kernel) (by decide +kernel)
theorem wd_1045 : Cond.selects RX1 yX1_foldedEnd yX1_foldedEnd ∈ ws0 := ws0_of 1045 (by decide +kernel) (by decide +kernel)
theorem wd_1047 : Cond.methodLink RX10 387 yX7_holds ∈ ws0 := ws0_of 1047 (by decide +kernel) (by decide +kernel)
theorem wd_1052 : Cond.methodLink RX10 314 yX5_read ∈ ws0 := ws0_of 1052 (by decide +kernel) (by decide +kernel)
theorem wd_1053 : Cond.instanceMethod yX5_read ∈ ws0 := ws0_of 1053 (by decide +kernel) (by decide +kernel)
theorem wd_1054 : Cond.selects RX5 yX5_read yX5_read ∈ ws0 := ws0_of 1054 (by decide +kernel) (by decide +kernel)
theorem wd_1056 : Cond.methodLink RX5 33 yX7_cutTo ∈ ws0 := ws0_of 1056 (by decide +kernel) (by decide +kernel)
theorem wd_1057 : Cond.methodLink RX5 29 yX7_size ∈ ws0 := ws0_of 1057 (by decide +kernel) (by decide +kernel)
theorem wd_1058 : Cond.methodLink RX5 40 yX5_readPiece ∈ ws0 := ws0_of 1058 (by decide +kernel) (by decide +kernel)
theorem wd_1060 : Cond.instanceMethod yX5_readPiece ∈ ws0 := ws0_of 1060 (by decide +kernel) (by decide +kernel)
theorem wd_1062 : Cond.methodLink RX5 44 yX7_get ∈ ws0 := ws0_of 1062 (by decide +kernel) (by decide +kernel)
theorem wd_1063 : Cond.methodLink RX5 48 yX5_readSet ∈ ws0 := ws0_of 1063 (by decide +kernel) (by decide +kernel)
theorem wd_1065 : Cond.instanceMethod yX5_readSet ∈ ws0 := ws0_of 1065 (by decide +kernel) (by decide +kernel)
theorem wd_1067 : Cond.methodLink RX5 56 yX5_readLetter ∈ ws0 := ws0_of 1067 (by decide +kernel) (by decide +kernel)
theorem wd_1069 : Cond.instanceMethod yX5_readLetter ∈ ws0 := ws0_of 1069 (by decide +kernel) (by decide +kernel)
theorem wd_1073 : Cond.methodLink RX5 59 yX5_setOf ∈ ws0 := ws0_of 1073 (by decide +kernel) (by decide +kernel)
theorem wd_1074 : Cond.static yX5_setOf ∈ ws0 := ws0_of 1074 (by decide +kernel) (by decide +kernel)
theorem wd_1076 : Cond.methodLink RX5 52 yX7_add ∈ ws0 := ws0_of 1076 (by decide +kernel) (by decide +kernel)
theorem wd_1078 : Cond.methodLink RX10 323 yX5_size ∈ ws0 := ws0_of 1078 (by decide +kernel) (by decide +kernel)
theorem wd_1079 : Cond.instanceMethod yX5_size ∈ ws0 := ws0_of 1079 (by decide +kernel) (by decide +kernel)
theorem wd_1080 : Cond.selects RX5 yX5_size yX5_size ∈ ws0 := ws0_of 1080 (by decide +kernel) (by decide +kernel)
theorem wd_1087 : Cond.methodLink RX10 326 yX5_endFrom ∈ ws0 := ws0_of 1087 (by decide +kernel) (by decide +kernel)
theorem wd_1088 : Cond.instanceMethod yX5_endFrom ∈ ws0 := ws0_of 1088 (by decide +kernel) (by decide +kernel)
theorem wd_1089 : Cond.selects RX5 yX5_endFrom yX5_endFrom ∈ ws0 := ws0_of 1089 (by decide +kernel) (by decide +kernel)
theorem wd_1091 : Cond.methodLink RX5 69 yX9_capitalsInto ∈ ws0 := ws0_of 1091 (by decide +kernel) (by decide +kernel)
theorem wd_1092 : Cond.instanceMethod yX9_capitalsInto ∈ ws0 := ws0_of 1092 (by decide +kernel) (by decide +kernel)
theorem wd_1093 : Cond.selects RX9 yX9_capitalsInto yX9_capitalsInto ∈ ws0 := ws0_of 1093 (by decide +kernel) (by decide +kernel)
theorem wd_1095 : Cond.methodLink RX9 109 yX7_refill ∈ ws0 := ws0_of 1095 (by decide +kernel) (by decide +kernel)
theorem wd_1096 : Cond.methodLink RX9 113 yX9_capitalOneOf ∈ ws0 := ws0_of 1096 (by decide +kernel) (by decide +kernel)
theorem wd_1097 : Cond.methodLink RX9 116 yX9_capitalOtherOf ∈ ws0 := ws0_of 1097 (by decide +kernel) (by decide +kernel)
theorem wd_1098 : Cond.methodLink RX9 119 yX7_set ∈ ws0 := ws0_of 1098 (by decide +kernel) (by decide +kernel)
theorem wd_1099 : Cond.methodLink RX5 75 yX5_withSkips ∈ ws0 := ws0_of 1099 (by decide +kernel) (by decide +kernel)
theorem wd_1101 : Cond.instanceMethod yX5_withSkips ∈ ws0 := ws0_of 1101 (by decide +kernel) (by decide +kernel)
theorem wd_1103 : Cond.methodLink RX5 78 yX5_statesBehind ∈ ws0 := ws0_of 1103 (by decide +kernel) (by decide +kernel)
theorem wd_1105 : Cond.instanceMethod yX5_statesBehind ∈ ws0 := ws0_of 1105 (by decide +kernel) (by decide +kernel)
theorem wd_1107 : Cond.methodLink RX5 82 yX5_isTaken ∈ ws0 := ws0_of 1107 (by decide +kernel) (by decide +kernel)
theorem wd_1109 : Cond.instanceMethod yX5_isTaken ∈ ws0 := ws0_of 1109 (by decide +kernel) (by decide +kernel)
theorem wd_1111 : Cond.methodLink RX5 86 yX5_isInSet ∈ ws0 := ws0_of 1111 (by decide +kernel) (by decide +kernel)
theorem wd_1113 : Cond.instanceMethod yX5_isInSet ∈ ws0 := ws0_of 1113 (by decide +kernel) (by decide +kernel)
theorem wd_1115 : Cond.methodLink RX5 90 yX9_kindOf ∈ ws0 := ws0_of 1115 (by decide +kernel) (by decide +kernel)
theorem wd_1120 : Cond.methodLink RX10 330 yX9_passInto ∈ ws0 := ws0_of 1120 (by decide +kernel) (by decide +kernel)
theorem wd_1121 : Cond.instanceMethod yX9_passInto ∈ ws0 := ws0_of 1121 (by decide +kernel) (by decide +kernel)
theorem wd_1122 : Cond.selects RX9 yX9_passInto yX9_passInto ∈ ws0 := ws0_of 1122 (by decide +kernel) (by decide +kernel)
theorem wd_1124 : Cond.methodLink RX9 122 yX7_cutTo ∈ ws0 := ws0_of 1124 (by decide +kernel) (by decide +kernel)
theorem wd_1125 : Cond.methodLink RX9 125 yX7_size ∈ ws0 := ws0_of 1125 (by decide +kernel) (by decide +kernel)
theorem wd_1126 : Cond.methodLink RX9 129 yX9_fittingRule ∈ ws0 := ws0_of 1126 (by decide +kernel) (by decide +kernel)
theorem wd_1128 : Cond.instanceMethod yX9_fittingRule ∈ ws0 := ws0_of 1128 (by decide +kernel) (by decide +kernel)
theorem wd_1130 : Cond.methodLink RX9 148 yX8_fits ∈ ws0 := ws0_of 1130 (by decide +kernel) (by decide +kernel)
theorem wd_1131 : Cond.instanceMethod yX8_fits ∈ ws0 := ws0_of 1131 (by decide +kernel) (by decide +kernel)
theorem wd_1132 : Cond.selects RX8 yX8_fits yX8_fits ∈ ws0 := ws0_of 1132 (by decide +kernel) (by decide +kernel)
theorem wd_1134 : Cond.methodLink RX8 41 yX8_sourceOf ∈ ws0 := ws0_of 1134 (by decide +kernel) (by decide +kernel)
theorem wd_1135 : Cond.instanceMethod yX8_sourceOf ∈ ws0 := ws0_of 1135 (by decide +kernel) (by decide +kernel)
theorem wd_1136 : Cond.selects RX8 yX8_sourceOf yX8_sourceOf ∈ ws0 := ws0_of 1136 (by decide +kernel) (by decide +kernel)
theorem wd_1138 : Cond.methodLink RX8 45 yX7_size ∈ ws0 := ws0_of 1138 (by decide +kernel) (by decide +kernel)
theorem wd_1139 : Cond.methodLink RX8 49 yX7_holds ∈ ws0 := ws0_of 1139 (by decide +kernel) (by decide +kernel)
theorem wd_1140 : Cond.methodLink RX9 133 yX7_get ∈ ws0 := ws0_of 1140 (by decide +kernel) (by decide +kernel)
theorem wd_1141 : Cond.methodLink RX9 136 yX7_add ∈ ws0 := ws0_of 1141 (by decide +kernel) (by decide +kernel)
theorem wd_1142 : Cond.methodLink RX9 140 yX8_putTarget ∈ ws0 := ws0_of 1142 (by decide +kernel) (by decide +kernel)
theorem wd_1143 : Cond.instanceMethod yX8_putTarget ∈ ws0 := ws0_of 1143 (by decide +kernel) (by decide +kernel)
theorem wd_1144 : Cond.selects RX8 yX8_putTarget yX8_putTarget ∈ ws0 := ws0_of 1144 (by decide +kernel) (by decide +kernel)
theorem wd_1146 : Cond.methodLink RX8 53 yX7_get ∈ ws0 := ws0_of 1146 (by decide +kernel) (by decide +kernel)
theorem wd_1147 : Cond.methodLink RX8 57 yX7_add ∈ ws0 := ws0_of 1147 (by decide +kernel) (by decide +kernel)
theorem wd_1148 : Cond.methodLink RX9 144 yX8_sourceOf ∈ ws0 := ws0_of 1148 (by decide +kernel) (by decide +kernel)
theorem wd_1154 : Cond.methodLink RX10 336 yX10_isNumber ∈ ws0 := ws0_of 1154 (by decide +kernel) (by decide +kernel)
theorem wd_1155 : Cond.static yX10_isNumber ∈ ws0 := ws0_of 1155 (by decide +kernel) (by decide +kernel)
theorem wd_1157 : Cond.constant RX10 365 999999 ∈ ws0 := ws0_of 1157 (by decide +kernel) (by decide +kernel)
theorem wd_1158 : Cond.methodLink RX10 339 yX2_classFor ∈ ws0 := ws0_of 1158 (by decide +kernel) (by decide +kernel)
theorem wd_1159 : Cond.instanceMethod yX2_classFor ∈ ws0 := ws0_of 1159 (by decide +kernel) (by decide +kernel)
theorem wd_1160 : Cond.selects RX2 yX2_classFor yX2_classFor ∈ ws0 := ws0_of 1160 (by decide +kernel) (by decide +kernel)
theorem wd_1162 : Cond.methodLink RX2 90 yX6_fits ∈ ws0 := ws0_of 1162 (by decide +kernel) (by decide +kernel)
theorem wd_1163 : Cond.instanceMethod yX6_fits ∈ ws0 := ws0_of 1163 (by decide +kernel) (by decide +kernel)
theorem wd_1164 : Cond.selects RX6 yX6_fits yX6_fits ∈ ws0 := ws0_of 1164 (by decide +kernel) (by decide +kernel)
theorem wd_1166 : Cond.methodLink RX6 35 yX6_remainder ∈ ws0 := ws0_of 1166 (by decide +kernel) (by decide +kernel)
theorem wd_1167 : Cond.static yX6_remainder ∈ ws0 := ws0_of 1167 (by decide +kernel) (by decide +kernel)
theorem wd_1170 : Cond.methodLink RX2 93 yX6_classTold ∈ ws0 := ws0_of 1170 (by decide +kernel) (by decide +kernel)
theorem wd_1171 : Cond.instanceMethod yX6_classTold ∈ ws0 := ws0_of 1171 (by decide +kernel) (by decide +kernel)
theorem wd_1172 : Cond.selects RX6 yX6_classTold yX6_classTold ∈ ws0 := ws0_of 1172 (by decide +kernel) (by decide +kernel)
theorem wd_1179 : Cond.methodLink RX10 342 yX4_begin ∈ ws0 := ws0_of 1179 (by decide +kernel) (by decide +kernel)
theorem wd_1180 : Cond.instanceMethod yX4_begin ∈ ws0 := ws0_of 1180 (by decide +kernel) (by decide +kernel)
theorem wd_1181 : Cond.selects RX4 yX4_begin yX4_begin ∈ ws0 := ws0_of 1181 (by decide +kernel) (by decide +kernel)
theorem wd_1183 : Cond.methodLink RX4 29 yX7_cutTo ∈ ws0 := ws0_of 1183 (by decide +kernel) (by decide +kernel)
theorem wd_1184 : Cond.methodLink RX10 345 yX4_tellNumber ∈ ws0 := ws0_of 1184 (by decide +kernel) (by decide +kernel)
theorem wd_1185 : Cond.instanceMethod yX4_tellNumber ∈ ws0 := ws0_of 1185 (by decide +kernel) (by decide +kernel)
theorem wd_1186 : Cond.selects RX4 yX4_tellNumber yX4_tellNumber ∈ ws0 := ws0_of 1186 (by decide +kernel) (by decide +kernel)
theorem wd_1188 : Cond.methodLink RX4 32 yX7_add ∈ ws0 := ws0_of 1188 (by decide +kernel) (by decide +kernel)
theorem wd_1189 : Cond.methodLink RX10 348 yX4_readAll ∈ ws0 := ws0_of 1189 (by decide +kernel) (by decide +kernel)
theorem wd_1190 : Cond.instanceMethod yX4_readAll ∈ ws0 := ws0_of 1190 (by decide +kernel) (by decide +kernel)
theorem wd_1191 : Cond.selects RX4 yX4_readAll yX4_readAll ∈ ws0 := ws0_of 1191 (by decide +kernel) (by decide +kernel)
theorem wd_1193 : Cond.methodLink RX4 36 yX4_readPieces ∈ ws0 := ws0_of 1193 (by decide +kernel) (by decide +kernel)
theorem wd_1195 : Cond.instanceMethod yX4_readPieces ∈ ws0 := ws0_of 1195 (by decide +kernel) (by decide +kernel)
theorem wd_1197 : Cond.methodLink RX4 44 yX7_get ∈ ws0 := ws0_of 1197 (by decide +kernel) (by decide +kernel)
theorem wd_1198 : Cond.methodLink RX4 48 yX4_readBraces ∈ ws0 := ws0_of 1198 (by decide +kernel) (by decide +kernel)
theorem wd_1200 : Cond.instanceMethod yX4_readBraces ∈ ws0 := ws0_of 1200 (by decide +kernel) (by decide +kernel)
theorem wd_1202 : Cond.methodLink RX4 59 yX4_digitAt ∈ ws0 := ws0_of 1202 (by decide +kernel) (by decide +kernel)
theorem wd_1204 : Cond.instanceMethod yX4_digitAt ∈ ws0 := ws0_of 1204 (by decide +kernel) (by decide +kernel)
theorem wd_1207 : Cond.methodLink RX4 62 yX4_putNumber ∈ ws0 := ws0_of 1207 (by decide +kernel) (by decide +kernel)
theorem wd_1209 : Cond.instanceMethod yX4_putNumber ∈ ws0 := ws0_of 1209 (by decide +kernel) (by decide +kernel)
theorem wd_1211 : Cond.constant RX4 76 100000 ∈ ws0 := ws0_of 1211 (by decide +kernel) (by decide +kernel)
theorem wd_1212 : Cond.methodLink RX4 55 yX4_putByte ∈ ws0 := ws0_of 1212 (by decide +kernel) (by decide +kernel)
theorem wd_1214 : Cond.instanceMethod yX4_putByte ∈ ws0 := ws0_of 1214 (by decide +kernel) (by decide +kernel)
theorem wd_1216 : Cond.methodLink RX4 65 yX4_readCases ∈ ws0 := ws0_of 1216 (by decide +kernel) (by decide +kernel)
theorem wd_1218 : Cond.instanceMethod yX4_readCases ∈ ws0 := ws0_of 1218 (by decide +kernel) (by decide +kernel)
theorem wd_1220 : Cond.methodLink RX4 69 yX4_keyEnd ∈ ws0 := ws0_of 1220 (by decide +kernel) (by decide +kernel)
theorem wd_1222 : Cond.instanceMethod yX4_keyEnd ∈ ws0 := ws0_of 1222 (by decide +kernel) (by decide +kernel)
theorem wd_1224 : Cond.methodLink RX4 72 yX4_isFitting ∈ ws0 := ws0_of 1224 (by decide +kernel) (by decide +kernel)
theorem wd_1226 : Cond.instanceMethod yX4_isFitting ∈ ws0 := ws0_of 1226 (by decide +kernel) (by decide +kernel)
theorem wd_1228 : Cond.methodLink RX4 40 yX7_size ∈ ws0 := ws0_of 1228 (by decide +kernel) (by decide +kernel)
theorem wd_1230 : Cond.methodLink RX10 354 yX4_result ∈ ws0 := ws0_of 1230 (by decide +kernel) (by decide +kernel)
theorem wd_1231 : Cond.instanceMethod yX4_result ∈ ws0 := ws0_of 1231 (by decide +kernel) (by decide +kernel)
theorem wd_1232 : Cond.selects RX4 yX4_result yX4_result ∈ ws0 := ws0_of 1232 (by decide +kernel) (by decide +kernel)
theorem wd_1242 : Cond.methodLink RX10 359 yX10_decodeInto ∈ ws0 := ws0_of 1242 (by decide +kernel) (by decide +kernel)
theorem wd_1244 : Cond.instanceMethod yX10_decodeInto ∈ ws0 := ws0_of 1244 (by decide +kernel) (by decide +kernel)
theorem wd_1255 : Cond.methodLink RX10 164 yX2_contractionOf ∈ ws0 := ws0_of 1255 (by decide +kernel) (by decide +kernel)
theorem wd_1256 : Cond.methodLink RX10 168 yX2_addContraction ∈ ws0 := ws0_of 1256 (by decide +kernel) (by decide +kernel)
theorem wd_1257 : Cond.instanceMethod yX2_addContraction ∈ ws0 := ws0_of 1257 (by decide +kernel) (by decide +kernel)
theorem wd_1258 : Cond.selects RX2 yX2_addContraction yX2_addContraction ∈ ws0 := ws0_of 1258 (by decide +kernel) (by decide +kernel)
theorem wd_1261 : Cond.methodLink RX10 173 yX2_contractionCount ∈ ws0 := ws0_of 1261 (by decide +kernel) (by decide +kernel)
theorem wd_1262 : Cond.instanceMethod yX2_contractionCount ∈ ws0 := ws0_of 1262 (by decide +kernel) (by decide +kernel)
theorem wd_1263 : Cond.selects RX2 yX2_contractionCount yX2_contractionCount ∈ ws0 := ws0_of 1263 (by decide +kernel) (by decide +kernel)
theorem wd_1269 : Cond.methodLink RX10 176 yX10_isRange ∈ ws0 := ws0_of 1269 (by decide +kernel) (by decide +kernel)
theorem wd_1270 : Cond.static yX10_isRange ∈ ws0 := ws0_of 1270 (by decide +kernel) (by decide +kernel)
theorem wd_1272 : Cond.methodLink RX10 180 yX2_nextPlural ∈ ws0 := ws0_of 1272 (by decide +kernel) (by decide +kernel)
theorem wd_1273 : Cond.instanceMethod yX2_nextPlural ∈ ws0 := ws0_of 1273 (by decide +kernel) (by decide +kernel)
theorem wd_1274 : Cond.selects RX2 yX2_nextPlural yX2_nextPlural ∈ ws0 := ws0_of 1274 (by decide +kernel) (by decide +kernel)
theorem wd_1277 : Cond.methodLink RX10 186 yX6_tell ∈ ws0 := ws0_of 1277 (by decide +kernel) (by decide +kernel)
theorem wd_1278 : Cond.methodLink RX10 191 yX2_countPlural ∈ ws0 := ws0_of 1278 (by decide +kernel) (by decide +kernel)
theorem wd_1279 : Cond.instanceMethod yX2_countPlural ∈ ws0 := ws0_of 1279 (by decide +kernel) (by decide +kernel)
theorem wd_1280 : Cond.selects RX2 yX2_countPlural yX2_countPlural ∈ ws0 := ws0_of 1280 (by decide +kernel) (by decide +kernel)
theorem wd_1301 : Cond.constantLong RX10 118 255 ∈ ws0 := ws0_of 1301 (by decide +kernel) (by decide +kernel)
theorem wd_1310 : Cond.constantLong RX10 357 8 ∈ ws0 := ws0_of 1310 (by decide +kernel) (by decide +kernel)
theorem wd_1315 : Cond.methodLink RX10 289 yX0_wordBreaks ∈ ws0 := ws0_of 1315 (by decide +kernel) (by decide +kernel)
theorem wd_1316 : Cond.instanceMethod yX0_wordBreaks ∈ ws0 := ws0_of 1316 (by decide +kernel) (by decide +kernel)
theorem wd_1317 : Cond.selects RX0 yX0_wordBreaks yX0_wordBreaks ∈ ws0 := ws0_of 1317 (by decide +kernel) (by decide +kernel)
theorem wd_1319 : Cond.methodLink RX0 38 yX0_clusterBreaks ∈ ws0 := ws0_of 1319 (by decide +kernel) (by decide +kernel)
theorem wd_1320 : Cond.methodLink RX0 42 yX0_seamlessEnds ∈ ws0 := ws0_of 1320 (by decide +kernel) (by decide +kernel)
theorem wd_1322 : Cond.instanceMethod yX0_seamlessEnds ∈ ws0 := ws0_of 1322 (by decide +kernel) (by decide +kernel)
theorem wd_1324 : Cond.methodLink RX0 54 yX0_clusterEnd ∈ ws0 := ws0_of 1324 (by decide +kernel) (by decide +kernel)
theorem wd_1326 : Cond.instanceMethod yX0_clusterEnd ∈ ws0 := ws0_of 1326 (by decide +kernel) (by decide +kernel)
theorem wd_1328 : Cond.methodLink RX0 58 yX0_wordEnd ∈ ws0 := ws0_of 1328 (by decide +kernel) (by decide +kernel)
theorem wd_1330 : Cond.instanceMethod yX0_wordEnd ∈ ws0 := ws0_of 1330 (by decide +kernel) (by decide +kernel)
theorem wd_1332 : Cond.methodLink RX0 62 yX0_seamlessLimit ∈ ws0 := ws0_of 1332 (by decide +kernel) (by decide +kernel)
theorem wd_1334 : Cond.instanceMethod yX0_seamlessLimit ∈ ws0 := ws0_of 1334 (by decide +kernel) (by decide +kernel)
theorem wd_1336 : Cond.methodLink RX0 65 yX9_wordCount ∈ ws0 := ws0_of 1336 (by decide +kernel) (by decide +kernel)
theorem wd_1337 : Cond.methodLink RX0 68 yX9_wordAt ∈ ws0 := ws0_of 1337 (by decide +kernel) (by decide +kernel)
theorem wd_1338 : Cond.instanceMethod yX9_wordAt ∈ ws0 := ws0_of 1338 (by decide +kernel) (by decide +kernel)
theorem wd_1339 : Cond.selects RX9 yX9_wordAt yX9_wordAt ∈ ws0 := ws0_of 1339 (by decide +kernel) (by decide +kernel)
theorem wd_1341 : Cond.methodLink RX0 72 yX7_holds ∈ ws0 := ws0_of 1341 (by decide +kernel) (by decide +kernel)
theorem wd_1342 : Cond.methodLink RX0 46 yX0_isWordBreak ∈ ws0 := ws0_of 1342 (by decide +kernel) (by decide +kernel)
theorem wd_1343 : Cond.static yX0_isWordBreak ∈ ws0 := ws0_of 1343 (by decide +kernel) (by decide +kernel)
theorem wd_1345 : Cond.methodLink RX0 50 yX0_isLineBreak ∈ ws0 := ws0_of 1345 (by decide +kernel) (by decide +kernel)
theorem wd_1346 : Cond.static yX0_isLineBreak ∈ ws0 := ws0_of 1346 (by decide +kernel) (by decide +kernel)
