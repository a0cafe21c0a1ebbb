def codesW : List Cond := [Cond.code yL_cell cL_cell 2 (some .int),
  Cond.code yL_low cL_low 2 (some .int),
  Cond.code yL_act cL_act 10 (some .int),
  Cond.code yL_tells cL_tells 5 (some .int),
  Cond.code yX10_letter cX10_letter 6 none,
  Cond.code yX10_split cX10_split 5 none,
  Cond.code yX10_capital cX10_capital 5 none,
  Cond.code yX10_partners cX10_partners 3 none,
  Cond.code yX10_weigh cX10_weigh 7 none,
  Cond.code yL_first cL_first 5 (some .int),
  Cond.code yX10_use cX10_use 2 none,
  Cond.code yX10_addWord cX10_addWord 3 (some .int),
  Cond.code yX10_addRule cX10_addRule 12 (some .int),
  Cond.code yX10_save cX10_save 1 (some .int),
  Cond.code yX10_put cX10_put 4 (some .int),
  Cond.code yX10_clear cX10_clear 4 (some .int),
  Cond.code yX10_at cX10_at 4 (some .int),
  Cond.code yX10_form cX10_form 6 (some .int),
  Cond.code yX10_looksLike cX10_looksLike 5 (some .boolean),
  Cond.code yX10_base cX10_base 2 (some .int),
  Cond.code yX10_level cX10_level 5 (some .int),
  Cond.code yX10_shown cX10_shown 5 (some .int),
  Cond.code yX10_bySight cX10_bySight 11 (some .int),
  Cond.code yX10_bySense cX10_bySense 10 (some .int),
  Cond.code yX10_compare cX10_compare 9 (some .int),
  Cond.code yX10_key cX10_key 6 (some .int),
  Cond.code yX10_find cX10_find 10 (some .int),
  Cond.code yX10_pattern cX10_pattern 3 (some .int),
  Cond.code yX10_match cX10_match 4 (some .int),
  Cond.code yX10_transliterate cX10_transliterate 7 (some .int),
  Cond.code yX10_classOf cX10_classOf 4 (some .int),
  Cond.code yX10_message cX10_message 8 (some .int),
  Cond.code yX10_encode cX10_encode 7 (some .int),
  Cond.code yX10_decode cX10_decode 4 (some .int),
  Cond.code yX10_contract cX10_contract 9 (some .int),
  Cond.code yX10_plural cX10_plural 12 (some .int),
  Cond.code yX10_feed cX10_feed 5 (some .int),
  Cond.code yL_areAlike cL_areAlike 6 (some .boolean),
  Cond.code yX10_word cX10_word 8 (some .long),
  Cond.code yX10_breaks cX10_breaks 4 (some .long),
  Cond.code yL_areFormsSo cL_areFormsSo 6 (some .boolean),
  Cond.code yL_areSame cL_areSame 5 (some .boolean),
  Cond.code yL_isShownSo cL_isShownSo 13 (some .boolean),
  Cond.code yL_areBreaksSo cL_areBreaksSo 14 (some .boolean)]
set_option maxRecDepth 100000 in
theorem codesW_in : GoodIn lw_tbl codesW := goodIn_p codesW [423, 426, 430, 439, 443, 550, 558, 566, 597, 617, 621, 668, 690, 704, 709, 715, 723, 732, 824, 837, 854, 950, 967, 995, 999, 1029, 1037, 1051, 1085, 1119, 1153, 1178, 1237, 1241, 1254, 1268, 1299, 1305, 1309, 1314, 1350, 1353, 1356, 1359] rfl (by decide +kernel)
theorem codesW_at {w : Cond} (i : Nat) (h : codesW[i]? = some w) (g : goodWord w = true) : w ∈ ws0 := List.mem_filter.mpr ⟨(codesW_in w (List.mem_of_getElem? h)).1, g⟩
set_option maxRecDepth 20000 in
theorem wd_423 : Cond.code yL_cell cL_cell 2 (some .int) ∈ ws0 := codesW_at 0 rfl (by decide +kernel)
set_option maxRecDepth 20000 in
theorem wd_426 : Cond.code yL_low cL_low 2 (some .int) ∈ ws0 := codesW_at 1 rfl (by decide +kernel)
set_option maxRecDepth 20000 in
theorem wd_430 : Cond.code yL_act cL_act 10 (some .int) ∈ ws0 := codesW_at 2 rfl (by decide +kernel)
set_option maxRecDepth 20000 in
theorem wd_439 : Cond.code yL_tells cL_tells 5 (some .int) ∈ ws0 := codesW_at 3 rfl (by decide +kernel)
set_option maxRecDepth 20000 in
theorem wd_443 : Cond.code yX10_letter cX10_letter 6 none ∈ ws0 := codesW_at 4 rfl (by decide +kernel)
set_option maxRecDepth 20000 in
theorem wd_550 : Cond.code yX10_split cX10_split 5 none ∈ ws0 := codesW_at 5 rfl (by decide +kernel)
set_option maxRecDepth 20000 in
theorem wd_558 : Cond.code yX10_capital cX10_capital 5 none ∈ ws0 := codesW_at 6 rfl (by decide +kernel)
set_option maxRecDepth 20000 in
theorem wd_566 : Cond.code yX10_partners cX10_partners 3 none ∈ ws0 := codesW_at 7 rfl (by decide +kernel)
set_option maxRecDepth 20000 in
theorem wd_597 : Cond.code yX10_weigh cX10_weigh 7 none ∈ ws0 := codesW_at 8 rfl (by decide +kernel)
set_option maxRecDepth 20000 in
theorem wd_617 : Cond.code yL_first cL_first 5 (some .int) ∈ ws0 := codesW_at 9 rfl (by decide +kernel)
set_option maxRecDepth 20000 in
theorem wd_621 : Cond.code yX10_use cX10_use 2 none ∈ ws0 := codesW_at 10 rfl (by decide +kernel)
set_option maxRecDepth 20000 in
theorem wd_668 : Cond.code yX10_addWord cX10_addWord 3 (some .int) ∈ ws0 := codesW_at 11 rfl (by decide +kernel)
set_option maxRecDepth 20000 in
theorem wd_690 : Cond.code yX10_addRule cX10_addRule 12 (some .int) ∈ ws0 := codesW_at 12 rfl (by decide +kernel)
set_option maxRecDepth 20000 in
theorem wd_704 : Cond.code yX10_save cX10_save 1 (some .int) ∈ ws0 := codesW_at 13 rfl (by decide +kernel)
set_option maxRecDepth 20000 in
theorem wd_709 : Cond.code yX10_put cX10_put 4 (some .int) ∈ ws0 := codesW_at 14 rfl (by decide +kernel)
set_option maxRecDepth 20000 in
theorem wd_715 : Cond.code yX10_clear cX10_clear 4 (some .int) ∈ ws0 := codesW_at 15 rfl (by decide +kernel)
set_option maxRecDepth 20000 in
theorem wd_723 : Cond.code yX10_at cX10_at 4 (some .int) ∈ ws0 := codesW_at 16 rfl (by decide +kernel)
set_option maxRecDepth 20000 in
theorem wd_732 : Cond.code yX10_form cX10_form 6 (some .int) ∈ ws0 := codesW_at 17 rfl (by decide +kernel)
set_option maxRecDepth 20000 in
theorem wd_824 : Cond.code yX10_looksLike cX10_looksLike 5 (some .boolean) ∈ ws0 := codesW_at 18 rfl (by decide +kernel)
set_option maxRecDepth 20000 in
theorem wd_837 : Cond.code yX10_base cX10_base 2 (some .int) ∈ ws0 := codesW_at 19 rfl (by decide +kernel)
set_option maxRecDepth 20000 in
theorem wd_854 : Cond.code yX10_level cX10_level 5 (some .int) ∈ ws0 := codesW_at 20 rfl (by decide +kernel)
set_option maxRecDepth 20000 in
theorem wd_950 : Cond.code yX10_shown cX10_shown 5 (some .int) ∈ ws0 := codesW_at 21 rfl (by decide +kernel)
set_option maxRecDepth 20000 in
theorem wd_967 : Cond.code yX10_bySight cX10_bySight 11 (some .int) ∈ ws0 := codesW_at 22 rfl (by decide +kernel)
set_option maxRecDepth 20000 in
theorem wd_995 : Cond.code yX10_bySense cX10_bySense 10 (some .int) ∈ ws0 := codesW_at 23 rfl (by decide +kernel)
set_option maxRecDepth 20000 in
theorem wd_999 : Cond.code yX10_compare cX10_compare 9 (some .int) ∈ ws0 := codesW_at 24 rfl (by decide +kernel)
set_option maxRecDepth 20000 in
theorem wd_1029 : Cond.code yX10_key cX10_key 6 (some .int) ∈ ws0 := codesW_at 25 rfl (by decide +kernel)
set_option maxRecDepth 20000 in
theorem wd_1037 : Cond.code yX10_find cX10_find 10 (some .int) ∈ ws0 := codesW_at 26 rfl (by decide +kernel)
set_option maxRecDepth 20000 in
theorem wd_1051 : Cond.code yX10_pattern cX10_pattern 3 (some .int) ∈ ws0 := codesW_at 27 rfl (by decide +kernel)
set_option maxRecDepth 20000 in
theorem wd_1085 : Cond.code yX10_match cX10_match 4 (some .int) ∈ ws0 := codesW_at 28 rfl (by decide +kernel)
set_option maxRecDepth 20000 in
theorem wd_1119 : Cond.code yX10_transliterate cX10_transliterate 7 (some .int) ∈ ws0 := codesW_at 29 rfl (by decide +kernel)
set_option maxRecDepth 20000 in
theorem wd_1153 : Cond.code yX10_classOf cX10_classOf 4 (some .int) ∈ ws0 := codesW_at 30 rfl (by decide +kernel)
set_option maxRecDepth 20000 in
theorem wd_1178 : Cond.code yX10_message cX10_message 8 (some .int) ∈ ws0 := codesW_at 31 rfl (by decide +kernel)
set_option maxRecDepth 20000 in
theorem wd_1237 : Cond.code yX10_encode cX10_encode 7 (some .int) ∈ ws0 := codesW_at 32 rfl (by decide +kernel)
set_option maxRecDepth 20000 in
theorem wd_1241 : Cond.code yX10_decode cX10_decode 4 (some .int) ∈ ws0 := codesW_at 33 rfl (by decide +kernel)
set_option maxRecDepth 20000 in
theorem wd_1254 : Cond.code yX10_contract cX10_contract 9 (some .int) ∈ ws0 := codesW_at 34 rfl (by decide +kernel)
set_option maxRecDepth 20000 in
theorem wd_1268 : Cond.code yX10_plural cX10_plural 12 (some .int) ∈ ws0 := codesW_at 35 rfl (by decide +kernel)
set_option maxRecDepth 20000 in
theorem wd_1299 : Cond.code yX10_feed cX10_feed 5 (some .int) ∈ ws0 := codesW_at 36 rfl (by decide +kernel)
set_option maxRecDepth 20000 in
theorem wd_1305 : Cond.code yL_areAlike cL_areAlike 6 (some .boolean) ∈ ws0 := codesW_at 37 rfl (by decide +kernel)
set_option maxRecDepth 20000 in
theorem wd_1309 : Cond.code yX10_word cX10_word 8 (some .long) ∈ ws0 := codesW_at 38 rfl (by decide +kernel)
set_option maxRecDepth 20000 in
theorem wd_1314 : Cond.code yX10_breaks cX10_breaks 4 (some .long) ∈ ws0 := codesW_at 39 rfl (by decide +kernel)
set_option maxRecDepth 20000 in
theorem wd_1350 : Cond.code yL_areFormsSo cL_areFormsSo 6 (some .boolean) ∈ ws0 := codesW_at 40 rfl (by decide +kernel)
set_option maxRecDepth 20000 in
theorem wd_1353 : Cond.code yL_areSame cL_areSame 5 (some .boolean) ∈ ws0 := codesW_at 41 rfl (by decide +kernel)
set_option maxRecDepth 20000 in
theorem wd_1356 : Cond.code yL_isShownSo cL_isShownSo 13 (some .boolean) ∈ ws0 := codesW_at 42 rfl (by decide +kernel)
set_option maxRecDepth 20000 in
theorem wd_1359 : Cond.code yL_areBreaksSo cL_areBreaksSo 14 (some .boolean) ∈ ws0 := codesW_at 43 rfl (by decide +kernel)
theorem wd_49 : Cond.initialized RL ∈ ws0 := ws0_of 49 (by decide +kernel) (by decide +kernel)
theorem wd_421 : Cond.methodLink RL 188 yL_cell ∈ ws0 := ws0_of 421 (by decide +kernel) (by decide +kernel)
theorem wd_422 : Cond.static yL_cell ∈ ws0 := ws0_of 422 (by decide +kernel) (by decide +kernel)
theorem wd_424 : Cond.methodLink RL 137 yL_low ∈ ws0 := ws0_of 424 (by decide +kernel) (by decide +kernel)
theorem wd_425 : Cond.static yL_low ∈ ws0 := ws0_of 425 (by decide +kernel) (by decide +kernel)
theorem wd_427 : Cond.constant RL 7 2147483647 ∈ ws0 := ws0_of 427 (by decide +kernel) (by decide +kernel)
theorem wd_428 : Cond.methodLink RL 192 yL_act ∈ ws0 := ws0_of 428 (by decide +kernel) (by decide +kernel)
theorem wd_429 : Cond.static yL_act ∈ ws0 := ws0_of 429 (by decide +kernel) (by decide +kernel)
theorem wd_431 : Cond.methodLink RL 140 yL_does ∈ ws0 := ws0_of 431 (by decide +kernel) (by decide +kernel)
theorem wd_432 : Cond.static yL_does ∈ ws0 := ws0_of 432 (by decide +kernel) (by decide +kernel)
theorem wd_433 : Cond.codeWith yL_does cL_does 6 (some .int) [(0, 281, 282, 68), (0, 281, 287, 71), (0, 281, 292, 73)] ∈ ws0 := ws0_of 433 (by decide +kernel) (by decide +kernel)
theorem wd_437 : Cond.methodLink RL 8 yL_tells ∈ ws0 := ws0_of 437 (by decide +kernel) (by decide +kernel)
theorem wd_438 : Cond.static yL_tells ∈ ws0 := ws0_of 438 (by decide +kernel) (by decide +kernel)
theorem wd_440 : Cond.methodLink RL 75 yX10_letter ∈ ws0 := ws0_of 440 (by decide +kernel) (by decide +kernel)
theorem wd_441 : Cond.instanceMethod yX10_letter ∈ ws0 := ws0_of 441 (by decide +kernel) (by decide +kernel)
theorem wd_442 : Cond.selects RX10 yX10_letter yX10_letter ∈ ws0 := ws0_of 442 (by decide +kernel) (by decide +kernel)
theorem wd_547 : Cond.methodLink RL 79 yX10_split ∈ ws0 := ws0_of 547 (by decide +kernel) (by decide +kernel)
theorem wd_548 : Cond.instanceMethod yX10_split ∈ ws0 := ws0_of 548 (by decide +kernel) (by decide +kernel)
theorem wd_549 : Cond.selects RX10 yX10_split yX10_split ∈ ws0 := ws0_of 549 (by decide +kernel) (by decide +kernel)
theorem wd_555 : Cond.methodLink RL 83 yX10_capital ∈ ws0 := ws0_of 555 (by decide +kernel) (by decide +kernel)
theorem wd_556 : Cond.instanceMethod yX10_capital ∈ ws0 := ws0_of 556 (by decide +kernel) (by decide +kernel)
theorem wd_557 : Cond.selects RX10 yX10_capital yX10_capital ∈ ws0 := ws0_of 557 (by decide +kernel) (by decide +kernel)
theorem wd_563 : Cond.methodLink RL 86 yX10_partners ∈ ws0 := ws0_of 563 (by decide +kernel) (by decide +kernel)
theorem wd_564 : Cond.instanceMethod yX10_partners ∈ ws0 := ws0_of 564 (by decide +kernel) (by decide +kernel)
theorem wd_565 : Cond.selects RX10 yX10_partners yX10_partners ∈ ws0 := ws0_of 565 (by decide +kernel) (by decide +kernel)
theorem wd_594 : Cond.methodLink RL 90 yX10_weigh ∈ ws0 := ws0_of 594 (by decide +kernel) (by decide +kernel)
theorem wd_595 : Cond.instanceMethod yX10_weigh ∈ ws0 := ws0_of 595 (by decide +kernel) (by decide +kernel)
theorem wd_596 : Cond.selects RX10 yX10_weigh yX10_weigh ∈ ws0 := ws0_of 596 (by decide +kernel) (by decide +kernel)
theorem wd_615 : Cond.methodLink RL 14 yL_first ∈ ws0 := ws0_of 615 (by decide +kernel) (by decide +kernel)
theorem wd_616 : Cond.static yL_first ∈ ws0 := ws0_of 616 (by decide +kernel) (by decide +kernel)
theorem wd_618 : Cond.methodLink RL 93 yX10_use ∈ ws0 := ws0_of 618 (by decide +kernel) (by decide +kernel)
theorem wd_619 : Cond.instanceMethod yX10_use ∈ ws0 := ws0_of 619 (by decide +kernel) (by decide +kernel)
theorem wd_620 : Cond.selects RX10 yX10_use yX10_use ∈ ws0 := ws0_of 620 (by decide +kernel) (by decide +kernel)
theorem wd_665 : Cond.methodLink RL 97 yX10_addWord ∈ ws0 := ws0_of 665 (by decide +kernel) (by decide +kernel)
theorem wd_666 : Cond.instanceMethod yX10_addWord ∈ ws0 := ws0_of 666 (by decide +kernel) (by decide +kernel)
theorem wd_667 : Cond.selects RX10 yX10_addWord yX10_addWord ∈ ws0 := ws0_of 667 (by decide +kernel) (by decide +kernel)
theorem wd_687 : Cond.methodLink RL 100 yX10_addRule ∈ ws0 := ws0_of 687 (by decide +kernel) (by decide +kernel)
theorem wd_688 : Cond.instanceMethod yX10_addRule ∈ ws0 := ws0_of 688 (by decide +kernel) (by decide +kernel)
theorem wd_689 : Cond.selects RX10 yX10_addRule yX10_addRule ∈ ws0 := ws0_of 689 (by decide +kernel) (by decide +kernel)
theorem wd_701 : Cond.methodLink RL 103 yX10_save ∈ ws0 := ws0_of 701 (by decide +kernel) (by decide +kernel)
theorem wd_702 : Cond.instanceMethod yX10_save ∈ ws0 := ws0_of 702 (by decide +kernel) (by decide +kernel)
theorem wd_703 : Cond.selects RX10 yX10_save yX10_save ∈ ws0 := ws0_of 703 (by decide +kernel) (by decide +kernel)
theorem wd_706 : Cond.methodLink RL 106 yX10_put ∈ ws0 := ws0_of 706 (by decide +kernel) (by decide +kernel)
theorem wd_707 : Cond.instanceMethod yX10_put ∈ ws0 := ws0_of 707 (by decide +kernel) (by decide +kernel)
theorem wd_708 : Cond.selects RX10 yX10_put yX10_put ∈ ws0 := ws0_of 708 (by decide +kernel) (by decide +kernel)
theorem wd_712 : Cond.methodLink RL 109 yX10_clear ∈ ws0 := ws0_of 712 (by decide +kernel) (by decide +kernel)
theorem wd_713 : Cond.instanceMethod yX10_clear ∈ ws0 := ws0_of 713 (by decide +kernel) (by decide +kernel)
theorem wd_714 : Cond.selects RX10 yX10_clear yX10_clear ∈ ws0 := ws0_of 714 (by decide +kernel) (by decide +kernel)
theorem wd_720 : Cond.methodLink RL 112 yX10_at ∈ ws0 := ws0_of 720 (by decide +kernel) (by decide +kernel)
theorem wd_721 : Cond.instanceMethod yX10_at ∈ ws0 := ws0_of 721 (by decide +kernel) (by decide +kernel)
theorem wd_722 : Cond.selects RX10 yX10_at yX10_at ∈ ws0 := ws0_of 722 (by decide +kernel) (by decide +kernel)
theorem wd_729 : Cond.methodLink RL 115 yX10_form ∈ ws0 := ws0_of 729 (by decide +kernel) (by decide +kernel)
theorem wd_730 : Cond.instanceMethod yX10_form ∈ ws0 := ws0_of 730 (by decide +kernel) (by decide +kernel)
theorem wd_731 : Cond.selects RX10 yX10_form yX10_form ∈ ws0 := ws0_of 731 (by decide +kernel) (by decide +kernel)
theorem wd_821 : Cond.methodLink RL 118 yX10_looksLike ∈ ws0 := ws0_of 821 (by decide +kernel) (by decide +kernel)
theorem wd_822 : Cond.instanceMethod yX10_looksLike ∈ ws0 := ws0_of 822 (by decide +kernel) (by decide +kernel)
theorem wd_823 : Cond.selects RX10 yX10_looksLike yX10_looksLike ∈ ws0 := ws0_of 823 (by decide +kernel) (by decide +kernel)
theorem wd_834 : Cond.methodLink RL 122 yX10_base ∈ ws0 := ws0_of 834 (by decide +kernel) (by decide +kernel)
theorem wd_835 : Cond.instanceMethod yX10_base ∈ ws0 := ws0_of 835 (by decide +kernel) (by decide +kernel)
theorem wd_836 : Cond.selects RX10 yX10_base yX10_base ∈ ws0 := ws0_of 836 (by decide +kernel) (by decide +kernel)
theorem wd_851 : Cond.methodLink RL 17 yX10_level ∈ ws0 := ws0_of 851 (by decide +kernel) (by decide +kernel)
theorem wd_852 : Cond.instanceMethod yX10_level ∈ ws0 := ws0_of 852 (by decide +kernel) (by decide +kernel)
theorem wd_853 : Cond.selects RX10 yX10_level yX10_level ∈ ws0 := ws0_of 853 (by decide +kernel) (by decide +kernel)
theorem wd_947 : Cond.methodLink RL 23 yX10_shown ∈ ws0 := ws0_of 947 (by decide +kernel) (by decide +kernel)
theorem wd_948 : Cond.instanceMethod yX10_shown ∈ ws0 := ws0_of 948 (by decide +kernel) (by decide +kernel)
theorem wd_949 : Cond.selects RX10 yX10_shown yX10_shown ∈ ws0 := ws0_of 949 (by decide +kernel) (by decide +kernel)
theorem wd_964 : Cond.methodLink RL 26 yX10_bySight ∈ ws0 := ws0_of 964 (by decide +kernel) (by decide +kernel)
theorem wd_965 : Cond.instanceMethod yX10_bySight ∈ ws0 := ws0_of 965 (by decide +kernel) (by decide +kernel)
theorem wd_966 : Cond.selects RX10 yX10_bySight yX10_bySight ∈ ws0 := ws0_of 966 (by decide +kernel) (by decide +kernel)
theorem wd_992 : Cond.methodLink RL 30 yX10_bySense ∈ ws0 := ws0_of 992 (by decide +kernel) (by decide +kernel)
theorem wd_993 : Cond.instanceMethod yX10_bySense ∈ ws0 := ws0_of 993 (by decide +kernel) (by decide +kernel)
theorem wd_994 : Cond.selects RX10 yX10_bySense yX10_bySense ∈ ws0 := ws0_of 994 (by decide +kernel) (by decide +kernel)
theorem wd_996 : Cond.methodLink RL 33 yX10_compare ∈ ws0 := ws0_of 996 (by decide +kernel) (by decide +kernel)
theorem wd_997 : Cond.instanceMethod yX10_compare ∈ ws0 := ws0_of 997 (by decide +kernel) (by decide +kernel)
theorem wd_998 : Cond.selects RX10 yX10_compare yX10_compare ∈ ws0 := ws0_of 998 (by decide +kernel) (by decide +kernel)
theorem wd_1026 : Cond.methodLink RL 36 yX10_key ∈ ws0 := ws0_of 1026 (by decide +kernel) (by decide +kernel)
theorem wd_1027 : Cond.instanceMethod yX10_key ∈ ws0 := ws0_of 1027 (by decide +kernel) (by decide +kernel)
theorem wd_1028 : Cond.selects RX10 yX10_key yX10_key ∈ ws0 := ws0_of 1028 (by decide +kernel) (by decide +kernel)
theorem wd_1034 : Cond.methodLink RL 39 yX10_find ∈ ws0 := ws0_of 1034 (by decide +kernel) (by decide +kernel)
theorem wd_1035 : Cond.instanceMethod yX10_find ∈ ws0 := ws0_of 1035 (by decide +kernel) (by decide +kernel)
theorem wd_1036 : Cond.selects RX10 yX10_find yX10_find ∈ ws0 := ws0_of 1036 (by decide +kernel) (by decide +kernel)
theorem wd_1048 : Cond.methodLink RL 42 yX10_pattern ∈ ws0 := ws0_of 1048 (by decide +kernel) (by decide +kernel)
theorem wd_1049 : Cond.instanceMethod yX10_pattern ∈ ws0 := ws0_of 1049 (by decide +kernel) (by decide +kernel)
theorem wd_1050 : Cond.selects RX10 yX10_pattern yX10_pattern ∈ ws0 := ws0_of 1050 (by decide +kernel) (by decide +kernel)
theorem wd_1082 : Cond.methodLink RL 46 yX10_match ∈ ws0 := ws0_of 1082 (by decide +kernel) (by decide +kernel)
theorem wd_1083 : Cond.instanceMethod yX10_match ∈ ws0 := ws0_of 1083 (by decide +kernel) (by decide +kernel)
theorem wd_1084 : Cond.selects RX10 yX10_match yX10_match ∈ ws0 := ws0_of 1084 (by decide +kernel) (by decide +kernel)
theorem wd_1116 : Cond.methodLink RL 50 yX10_transliterate ∈ ws0 := ws0_of 1116 (by decide +kernel) (by decide +kernel)
theorem wd_1117 : Cond.instanceMethod yX10_transliterate ∈ ws0 := ws0_of 1117 (by decide +kernel) (by decide +kernel)
theorem wd_1118 : Cond.selects RX10 yX10_transliterate yX10_transliterate ∈ ws0 := ws0_of 1118 (by decide +kernel) (by decide +kernel)
theorem wd_1150 : Cond.methodLink RL 53 yX10_classOf ∈ ws0 := ws0_of 1150 (by decide +kernel) (by decide +kernel)
theorem wd_1151 : Cond.instanceMethod yX10_classOf ∈ ws0 := ws0_of 1151 (by decide +kernel) (by decide +kernel)
theorem wd_1152 : Cond.selects RX10 yX10_classOf yX10_classOf ∈ ws0 := ws0_of 1152 (by decide +kernel) (by decide +kernel)
theorem wd_1174 : Cond.constant RL 56 333333 ∈ ws0 := ws0_of 1174 (by decide +kernel) (by decide +kernel)
theorem wd_1175 : Cond.methodLink RL 57 yX10_message ∈ ws0 := ws0_of 1175 (by decide +kernel) (by decide +kernel)
theorem wd_1176 : Cond.instanceMethod yX10_message ∈ ws0 := ws0_of 1176 (by decide +kernel) (by decide +kernel)
theorem wd_1177 : Cond.selects RX10 yX10_message yX10_message ∈ ws0 := ws0_of 1177 (by decide +kernel) (by decide +kernel)
theorem wd_1234 : Cond.methodLink RL 61 yX10_encode ∈ ws0 := ws0_of 1234 (by decide +kernel) (by decide +kernel)
theorem wd_1235 : Cond.instanceMethod yX10_encode ∈ ws0 := ws0_of 1235 (by decide +kernel) (by decide +kernel)
theorem wd_1236 : Cond.selects RX10 yX10_encode yX10_encode ∈ ws0 := ws0_of 1236 (by decide +kernel) (by decide +kernel)
theorem wd_1238 : Cond.methodLink RL 65 yX10_decode ∈ ws0 := ws0_of 1238 (by decide +kernel) (by decide +kernel)
theorem wd_1239 : Cond.instanceMethod yX10_decode ∈ ws0 := ws0_of 1239 (by decide +kernel) (by decide +kernel)
theorem wd_1240 : Cond.selects RX10 yX10_decode yX10_decode ∈ ws0 := ws0_of 1240 (by decide +kernel) (by decide +kernel)
theorem wd_1247 : Cond.constant RL 70 (-9999999) ∈ ws0 := ws0_of 1247 (by decide +kernel) (by decide +kernel)
theorem wd_1248 : Cond.methodLink RL 143 yL_more ∈ ws0 := ws0_of 1248 (by decide +kernel) (by decide +kernel)
theorem wd_1249 : Cond.static yL_more ∈ ws0 := ws0_of 1249 (by decide +kernel) (by decide +kernel)
theorem wd_1250 : Cond.codeWith yL_more cL_more 8 (some .int) [(0, 49, 50, 68), (0, 49, 55, 71), (0, 49, 60, 73)] ∈ ws0 := ws0_of 1250 (by decide +kernel) (by decide +kernel)
theorem wd_1251 : Cond.methodLink RL 125 yX10_contract ∈ ws0 := ws0_of 1251 (by decide +kernel) (by decide +kernel)
theorem wd_1252 : Cond.instanceMethod yX10_contract ∈ ws0 := ws0_of 1252 (by decide +kernel) (by decide +kernel)
theorem wd_1253 : Cond.selects RX10 yX10_contract yX10_contract ∈ ws0 := ws0_of 1253 (by decide +kernel) (by decide +kernel)
theorem wd_1265 : Cond.methodLink RL 129 yX10_plural ∈ ws0 := ws0_of 1265 (by decide +kernel) (by decide +kernel)
theorem wd_1266 : Cond.instanceMethod yX10_plural ∈ ws0 := ws0_of 1266 (by decide +kernel) (by decide +kernel)
theorem wd_1267 : Cond.selects RX10 yX10_plural yX10_plural ∈ ws0 := ws0_of 1267 (by decide +kernel) (by decide +kernel)
theorem wd_1282 : Cond.constantLong RL 147 76 ∈ ws0 := ws0_of 1282 (by decide +kernel) (by decide +kernel)
theorem wd_1283 : Cond.constantLong RL 149 77 ∈ ws0 := ws0_of 1283 (by decide +kernel) (by decide +kernel)
theorem wd_1284 : Cond.constantLong RL 151 46 ∈ ws0 := ws0_of 1284 (by decide +kernel) (by decide +kernel)
theorem wd_1285 : Cond.constantLong RL 153 42 ∈ ws0 := ws0_of 1285 (by decide +kernel) (by decide +kernel)
theorem wd_1286 : Cond.constantLong RL 155 63 ∈ ws0 := ws0_of 1286 (by decide +kernel) (by decide +kernel)
theorem wd_1287 : Cond.constantLong RL 157 60 ∈ ws0 := ws0_of 1287 (by decide +kernel) (by decide +kernel)
theorem wd_1288 : Cond.constantLong RL 159 33 ∈ ws0 := ws0_of 1288 (by decide +kernel) (by decide +kernel)
theorem wd_1289 : Cond.constantLong RL 161 123 ∈ ws0 := ws0_of 1289 (by decide +kernel) (by decide +kernel)
theorem wd_1290 : Cond.constantLong RL 163 125 ∈ ws0 := ws0_of 1290 (by decide +kernel) (by decide +kernel)
theorem wd_1291 : Cond.constantLong RL 165 48 ∈ ws0 := ws0_of 1291 (by decide +kernel) (by decide +kernel)
theorem wd_1292 : Cond.constantLong RL 167 32 ∈ ws0 := ws0_of 1292 (by decide +kernel) (by decide +kernel)
theorem wd_1293 : Cond.methodLink RL 169 yL_feed ∈ ws0 := ws0_of 1293 (by decide +kernel) (by decide +kernel)
theorem wd_1294 : Cond.static yL_feed ∈ ws0 := ws0_of 1294 (by decide +kernel) (by decide +kernel)
theorem wd_1295 : Cond.codeWith yL_feed cL_feed 5 (some .int) [(0, 6, 7, 71), (0, 6, 12, 73)] ∈ ws0 := ws0_of 1295 (by decide +kernel) (by decide +kernel)
theorem wd_1296 : Cond.methodLink RL 133 yX10_feed ∈ ws0 := ws0_of 1296 (by decide +kernel) (by decide +kernel)
theorem wd_1297 : Cond.instanceMethod yX10_feed ∈ ws0 := ws0_of 1297 (by decide +kernel) (by decide +kernel)
theorem wd_1298 : Cond.selects RX10 yX10_feed yX10_feed ∈ ws0 := ws0_of 1298 (by decide +kernel) (by decide +kernel)
theorem wd_1302 : Cond.constant RL 172 1200000 ∈ ws0 := ws0_of 1302 (by decide +kernel) (by decide +kernel)
theorem wd_1303 : Cond.methodLink RL 196 yL_areAlike ∈ ws0 := ws0_of 1303 (by decide +kernel) (by decide +kernel)
theorem wd_1304 : Cond.static yL_areAlike ∈ ws0 := ws0_of 1304 (by decide +kernel) (by decide +kernel)
theorem wd_1306 : Cond.methodLink RL 173 yX10_word ∈ ws0 := ws0_of 1306 (by decide +kernel) (by decide +kernel)
theorem wd_1307 : Cond.instanceMethod yX10_word ∈ ws0 := ws0_of 1307 (by decide +kernel) (by decide +kernel)
theorem wd_1308 : Cond.selects RX10 yX10_word yX10_word ∈ ws0 := ws0_of 1308 (by decide +kernel) (by decide +kernel)
theorem wd_1311 : Cond.methodLink RL 177 yX10_breaks ∈ ws0 := ws0_of 1311 (by decide +kernel) (by decide +kernel)
theorem wd_1312 : Cond.instanceMethod yX10_breaks ∈ ws0 := ws0_of 1312 (by decide +kernel) (by decide +kernel)
theorem wd_1313 : Cond.selects RX10 yX10_breaks yX10_breaks ∈ ws0 := ws0_of 1313 (by decide +kernel) (by decide +kernel)
theorem wd_1348 : Cond.methodLink RL 200 yL_areFormsSo ∈ ws0 := ws0_of 1348 (by decide +kernel) (by decide +kernel)
theorem wd_1349 : Cond.static yL_areFormsSo ∈ ws0 := ws0_of 1349 (by decide +kernel) (by decide +kernel)
theorem wd_1351 : Cond.methodLink RL 181 yL_areSame ∈ ws0 := ws0_of 1351 (by decide +kernel) (by decide +kernel)
theorem wd_1352 : Cond.static yL_areSame ∈ ws0 := ws0_of 1352 (by decide +kernel) (by decide +kernel)
theorem wd_1354 : Cond.methodLink RL 204 yL_isShownSo ∈ ws0 := ws0_of 1354 (by decide +kernel) (by decide +kernel)
theorem wd_1355 : Cond.static yL_isShownSo ∈ ws0 := ws0_of 1355 (by decide +kernel) (by decide +kernel)
theorem wd_1357 : Cond.methodLink RL 207 yL_areBreaksSo ∈ ws0 := ws0_of 1357 (by decide +kernel) (by decide +kernel)
theorem wd_1358 : Cond.static yL_areBreaksSo ∈ ws0 := ws0_of 1358 (by decide +kernel) (by decide +kernel)
theorem wd_1360 : Cond.constantLong RL 185 (-1) ∈ ws0 := ws0_of 1360 (by decide +kernel) (by decide +kernel)
theorem yd_L_act : yL_act.cls ≠ "java/lang/invoke/MethodHandle" ∧ yL_act.cls ≠ "java/lang/invoke/VarHandle" ∧ (parseMethodDescriptor yL_act.desc).map (fun d => d.parameters.length) = some 2 := ⟨by decide +kernel, by decide +kernel, by decide +kernel⟩
theorem yd_L_areAlike : yL_areAlike.cls ≠ "java/lang/invoke/MethodHandle" ∧ yL_areAlike.cls ≠ "java/lang/invoke/VarHandle" ∧ (parseMethodDescriptor yL_areAlike.desc).map (fun d => d.parameters.length) = some 2 := ⟨by decide +kernel, by decide +kernel, by decide +kernel⟩
theorem yd_L_areBreaksSo : yL_areBreaksSo.cls ≠ "java/lang/invoke/MethodHandle" ∧ yL_areBreaksSo.cls ≠ "java/lang/invoke/VarHandle" ∧ (parseMethodDescriptor yL_areBreaksSo.desc).map (fun d => d.parameters.length) = some 2 := ⟨by decide +kernel, by decide +kernel, by decide +kernel⟩
theorem yd_L_areFormsSo : yL_areFormsSo.cls ≠ "java/lang/invoke/MethodHandle" ∧ yL_areFormsSo.cls ≠ "java/lang/invoke/VarHandle" ∧ (parseMethodDescriptor yL_areFormsSo.desc).map (fun d => d.parameters.length) = some 2 := ⟨by decide +kernel, by decide +kernel, by decide +kernel⟩
theorem yd_L_areSame : yL_areSame.cls ≠ "java/lang/invoke/MethodHandle" ∧ yL_areSame.cls ≠ "java/lang/invoke/VarHandle" ∧ (parseMethodDescriptor yL_areSame.desc).map (fun d => d.parameters.length) = some 3 := ⟨by decide +kernel, by decide +kernel, by decide +kernel⟩
theorem yd_L_cell : yL_cell.cls ≠ "java/lang/invoke/MethodHandle" ∧ yL_cell.cls ≠ "java/lang/invoke/VarHandle" ∧ (parseMethodDescriptor yL_cell.desc).map (fun d => d.parameters.length) = some 2 := ⟨by decide +kernel, by decide +kernel, by decide +kernel⟩
theorem yd_L_does : yL_does.cls ≠ "java/lang/invoke/MethodHandle" ∧ yL_does.cls ≠ "java/lang/invoke/VarHandle" ∧ (parseMethodDescriptor yL_does.desc).map (fun d => d.parameters.length) = some 5 := ⟨by decide +kernel, by decide +kernel, by decide +kernel⟩
theorem yd_L_feed : yL_feed.cls ≠ "java/lang/invoke/MethodHandle" ∧ yL_feed.cls ≠ "java/lang/invoke/VarHandle" ∧ (parseMethodDescriptor yL_feed.desc).map (fun d => d.parameters.length) = some 3 := ⟨by decide +kernel, by decide +kernel, by decide +kernel⟩
theorem yd_L_first : yL_first.cls ≠ "java/lang/invoke/MethodHandle" ∧ yL_first.cls ≠ "java/lang/invoke/VarHandle" ∧ (parseMethodDescriptor yL_first.desc).map (fun d => d.parameters.length) = some 5 := ⟨by decide +kernel, by decide +kernel, by decide +kernel⟩
theorem yd_L_isShownSo : yL_isShownSo.cls ≠ "java/lang/invoke/MethodHandle" ∧ yL_isShownSo.cls ≠ "java/lang/invoke/VarHandle" ∧ (parseMethodDescriptor yL_isShownSo.desc).map (fun d => d.parameters.length) = some 3 := ⟨by decide +kernel, by decide +kernel, by decide +kernel⟩
theorem yd_L_low : yL_low.cls ≠ "java/lang/invoke/MethodHandle" ∧ yL_low.cls ≠ "java/lang/invoke/VarHandle" ∧ (parseMethodDescriptor yL_low.desc).map (fun d => d.parameters.length) = some 2 := ⟨by decide +kernel, by decide +kernel, by decide +kernel⟩
theorem yd_L_more : yL_more.cls ≠ "java/lang/invoke/MethodHandle" ∧ yL_more.cls ≠ "java/lang/invoke/VarHandle" ∧ (parseMethodDescriptor yL_more.desc).map (fun d => d.parameters.length) = some 7 := ⟨by decide +kernel, by decide +kernel, by decide +kernel⟩
theorem yd_L_tells : yL_tells.cls ≠ "java/lang/invoke/MethodHandle" ∧ yL_tells.cls ≠ "java/lang/invoke/VarHandle" ∧ (parseMethodDescriptor yL_tells.desc).map (fun d => d.parameters.length) = some 5 := ⟨by decide +kernel, by decide +kernel, by decide +kernel⟩
theorem yd_X10_addRule : yX10_addRule.cls = RX10 ∧ yX10_addRule.cls ≠ "java/lang/invoke/MethodHandle" ∧ yX10_addRule.cls ≠ "java/lang/invoke/VarHandle" ∧ (parseMethodDescriptor yX10_addRule.desc).map (fun d => d.parameters.length) = some 5 := ⟨rfl, by decide +kernel, by decide +kernel, by decide +kernel⟩
theorem yd_X10_addWord : yX10_addWord.cls = RX10 ∧ yX10_addWord.cls ≠ "java/lang/invoke/MethodHandle" ∧ yX10_addWord.cls ≠ "java/lang/invoke/VarHandle" ∧ (parseMethodDescriptor yX10_addWord.desc).map (fun d => d.parameters.length) = some 1 := ⟨rfl, by decide +kernel, by decide +kernel, by decide +kernel⟩
theorem yd_X10_at : yX10_at.cls = RX10 ∧ yX10_at.cls ≠ "java/lang/invoke/MethodHandle" ∧ yX10_at.cls ≠ "java/lang/invoke/VarHandle" ∧ (parseMethodDescriptor yX10_at.desc).map (fun d => d.parameters.length) = some 2 := ⟨rfl, by decide +kernel, by decide +kernel, by decide +kernel⟩
theorem yd_X10_base : yX10_base.cls = RX10 ∧ yX10_base.cls ≠ "java/lang/invoke/MethodHandle" ∧ yX10_base.cls ≠ "java/lang/invoke/VarHandle" ∧ (parseMethodDescriptor yX10_base.desc).map (fun d => d.parameters.length) = some 1 := ⟨rfl, by decide +kernel, by decide +kernel, by decide +kernel⟩
theorem yd_X10_breaks : yX10_breaks.cls = RX10 ∧ yX10_breaks.cls ≠ "java/lang/invoke/MethodHandle" ∧ yX10_breaks.cls ≠ "java/lang/invoke/VarHandle" ∧ (parseMethodDescriptor yX10_breaks.desc).map (fun d => d.parameters.length) = some 2 := ⟨rfl, by decide +kernel, by decide +kernel, by decide +kernel⟩
theorem yd_X10_bySense : yX10_bySense.cls = RX10 ∧ yX10_bySense.cls ≠ "java/lang/invoke/MethodHandle" ∧ yX10_bySense.cls ≠ "java/lang/invoke/VarHandle" ∧ (parseMethodDescriptor yX10_bySense.desc).map (fun d => d.parameters.length) = some 3 := ⟨rfl, by decide +kernel, by decide +kernel, by decide +kernel⟩
theorem yd_X10_bySight : yX10_bySight.cls = RX10 ∧ yX10_bySight.cls ≠ "java/lang/invoke/MethodHandle" ∧ yX10_bySight.cls ≠ "java/lang/invoke/VarHandle" ∧ (parseMethodDescriptor yX10_bySight.desc).map (fun d => d.parameters.length) = some 3 := ⟨rfl, by decide +kernel, by decide +kernel, by decide +kernel⟩
theorem yd_X10_capital : yX10_capital.cls = RX10 ∧ yX10_capital.cls ≠ "java/lang/invoke/MethodHandle" ∧ yX10_capital.cls ≠ "java/lang/invoke/VarHandle" ∧ (parseMethodDescriptor yX10_capital.desc).map (fun d => d.parameters.length) = some 3 := ⟨rfl, by decide +kernel, by decide +kernel, by decide +kernel⟩
theorem yd_X10_classOf : yX10_classOf.cls = RX10 ∧ yX10_classOf.cls ≠ "java/lang/invoke/MethodHandle" ∧ yX10_classOf.cls ≠ "java/lang/invoke/VarHandle" ∧ (parseMethodDescriptor yX10_classOf.desc).map (fun d => d.parameters.length) = some 2 := ⟨rfl, by decide +kernel, by decide +kernel, by decide +kernel⟩
theorem yd_X10_clear : yX10_clear.cls = RX10 ∧ yX10_clear.cls ≠ "java/lang/invoke/MethodHandle" ∧ yX10_clear.cls ≠ "java/lang/invoke/VarHandle" ∧ (parseMethodDescriptor yX10_clear.desc).map (fun d => d.parameters.length) = some 1 := ⟨rfl, by decide +kernel, by decide +kernel, by decide +kernel⟩
theorem yd_X10_compare : yX10_compare.cls = RX10 ∧ yX10_compare.cls ≠ "java/lang/invoke/MethodHandle" ∧ yX10_compare.cls ≠ "java/lang/invoke/VarHandle" ∧ (parseMethodDescriptor yX10_compare.desc).map (fun d => d.parameters.length) = some 3 := ⟨rfl, by decide +kernel, by decide +kernel, by decide +kernel⟩
theorem yd_X10_contract : yX10_contract.cls = RX10 ∧ yX10_contract.cls ≠ "java/lang/invoke/MethodHandle" ∧ yX10_contract.cls ≠ "java/lang/invoke/VarHandle" ∧ (parseMethodDescriptor yX10_contract.desc).map (fun d => d.parameters.length) = some 6 := ⟨rfl, by decide +kernel, by decide +kernel, by decide +kernel⟩
theorem yd_X10_decode : yX10_decode.cls = RX10 ∧ yX10_decode.cls ≠ "java/lang/invoke/MethodHandle" ∧ yX10_decode.cls ≠ "java/lang/invoke/VarHandle" ∧ (parseMethodDescriptor yX10_decode.desc).map (fun d => d.parameters.length) = some 1 := ⟨rfl, by decide +kernel, by decide +kernel, by decide +kernel⟩
theorem yd_X10_encode : yX10_encode.cls = RX10 ∧ yX10_encode.cls ≠ "java/lang/invoke/MethodHandle" ∧ yX10_encode.cls ≠ "java/lang/invoke/VarHandle" ∧ (parseMethodDescriptor yX10_encode.desc).map (fun d => d.parameters.length) = some 1 := ⟨rfl, by decide +kernel, by decide +kernel, by decide +kernel⟩
theorem yd_X10_feed : yX10_feed.cls = RX10 ∧ yX10_feed.cls ≠ "java/lang/invoke/MethodHandle" ∧ yX10_feed.cls ≠ "java/lang/invoke/VarHandle" ∧ (parseMethodDescriptor yX10_feed.desc).map (fun d => d.parameters.length) = some 2 := ⟨rfl, by decide +kernel, by decide +kernel, by decide +kernel⟩
theorem yd_X10_find : yX10_find.cls = RX10 ∧ yX10_find.cls ≠ "java/lang/invoke/MethodHandle" ∧ yX10_find.cls ≠ "java/lang/invoke/VarHandle" ∧ (parseMethodDescriptor yX10_find.desc).map (fun d => d.parameters.length) = some 3 := ⟨rfl, by decide +kernel, by decide +kernel, by decide +kernel⟩
theorem yd_X10_form : yX10_form.cls = RX10 ∧ yX10_form.cls ≠ "java/lang/invoke/MethodHandle" ∧ yX10_form.cls ≠ "java/lang/invoke/VarHandle" ∧ (parseMethodDescriptor yX10_form.desc).map (fun d => d.parameters.length) = some 3 := ⟨rfl, by decide +kernel, by decide +kernel, by decide +kernel⟩
theorem yd_X10_key : yX10_key.cls = RX10 ∧ yX10_key.cls ≠ "java/lang/invoke/MethodHandle" ∧ yX10_key.cls ≠ "java/lang/invoke/VarHandle" ∧ (parseMethodDescriptor yX10_key.desc).map (fun d => d.parameters.length) = some 3 := ⟨rfl, by decide +kernel, by decide +kernel, by decide +kernel⟩
theorem yd_X10_letter : yX10_letter.cls = RX10 ∧ yX10_letter.cls ≠ "java/lang/invoke/MethodHandle" ∧ yX10_letter.cls ≠ "java/lang/invoke/VarHandle" ∧ (parseMethodDescriptor yX10_letter.desc).map (fun d => d.parameters.length) = some 5 := ⟨rfl, by decide +kernel, by decide +kernel, by decide +kernel⟩
theorem yd_X10_level : yX10_level.cls = RX10 ∧ yX10_level.cls ≠ "java/lang/invoke/MethodHandle" ∧ yX10_level.cls ≠ "java/lang/invoke/VarHandle" ∧ (parseMethodDescriptor yX10_level.desc).map (fun d => d.parameters.length) = some 3 := ⟨rfl, by decide +kernel, by decide +kernel, by decide +kernel⟩
theorem yd_X10_looksLike : yX10_looksLike.cls = RX10 ∧ yX10_looksLike.cls ≠ "java/lang/invoke/MethodHandle" ∧ yX10_looksLike.cls ≠ "java/lang/invoke/VarHandle" ∧ (parseMethodDescriptor yX10_looksLike.desc).map (fun d => d.parameters.length) = some 2 := ⟨rfl, by decide +kernel, by decide +kernel, by decide +kernel⟩
theorem yd_X10_match : yX10_match.cls = RX10 ∧ yX10_match.cls ≠ "java/lang/invoke/MethodHandle" ∧ yX10_match.cls ≠ "java/lang/invoke/VarHandle" ∧ (parseMethodDescriptor yX10_match.desc).map (fun d => d.parameters.length) = some 2 := ⟨rfl, by decide +kernel, by decide +kernel, by decide +kernel⟩
theorem yd_X10_message : yX10_message.cls = RX10 ∧ yX10_message.cls ≠ "java/lang/invoke/MethodHandle" ∧ yX10_message.cls ≠ "java/lang/invoke/VarHandle" ∧ (parseMethodDescriptor yX10_message.desc).map (fun d => d.parameters.length) = some 5 := ⟨rfl, by decide +kernel, by decide +kernel, by decide +kernel⟩
theorem yd_X10_partners : yX10_partners.cls = RX10 ∧ yX10_partners.cls ≠ "java/lang/invoke/MethodHandle" ∧ yX10_partners.cls ≠ "java/lang/invoke/VarHandle" ∧ (parseMethodDescriptor yX10_partners.desc).map (fun d => d.parameters.length) = some 2 := ⟨rfl, by decide +kernel, by decide +kernel, by decide +kernel⟩
theorem yd_X10_pattern : yX10_pattern.cls = RX10 ∧ yX10_pattern.cls ≠ "java/lang/invoke/MethodHandle" ∧ yX10_pattern.cls ≠ "java/lang/invoke/VarHandle" ∧ (parseMethodDescriptor yX10_pattern.desc).map (fun d => d.parameters.length) = some 0 := ⟨rfl, by decide +kernel, by decide +kernel, by decide +kernel⟩
theorem yd_X10_plural : yX10_plural.cls = RX10 ∧ yX10_plural.cls ≠ "java/lang/invoke/MethodHandle" ∧ yX10_plural.cls ≠ "java/lang/invoke/VarHandle" ∧ (parseMethodDescriptor yX10_plural.desc).map (fun d => d.parameters.length) = some 8 := ⟨rfl, by decide +kernel, by decide +kernel, by decide +kernel⟩
theorem yd_X10_put : yX10_put.cls = RX10 ∧ yX10_put.cls ≠ "java/lang/invoke/MethodHandle" ∧ yX10_put.cls ≠ "java/lang/invoke/VarHandle" ∧ (parseMethodDescriptor yX10_put.desc).map (fun d => d.parameters.length) = some 2 := ⟨rfl, by decide +kernel, by decide +kernel, by decide +kernel⟩
theorem yd_X10_save : yX10_save.cls = RX10 ∧ yX10_save.cls ≠ "java/lang/invoke/MethodHandle" ∧ yX10_save.cls ≠ "java/lang/invoke/VarHandle" ∧ (parseMethodDescriptor yX10_save.desc).map (fun d => d.parameters.length) = some 0 := ⟨rfl, by decide +kernel, by decide +kernel, by decide +kernel⟩
theorem yd_X10_shown : yX10_shown.cls = RX10 ∧ yX10_shown.cls ≠ "java/lang/invoke/MethodHandle" ∧ yX10_shown.cls ≠ "java/lang/invoke/VarHandle" ∧ (parseMethodDescriptor yX10_shown.desc).map (fun d => d.parameters.length) = some 3 := ⟨rfl, by decide +kernel, by decide +kernel, by decide +kernel⟩
theorem yd_X10_split : yX10_split.cls = RX10 ∧ yX10_split.cls ≠ "java/lang/invoke/MethodHandle" ∧ yX10_split.cls ≠ "java/lang/invoke/VarHandle" ∧ (parseMethodDescriptor yX10_split.desc).map (fun d => d.parameters.length) = some 3 := ⟨rfl, by decide +kernel, by decide +kernel, by decide +kernel⟩
theorem yd_X10_transliterate : yX10_transliterate.cls = RX10 ∧ yX10_transliterate.cls ≠ "java/lang/invoke/MethodHandle" ∧ yX10_transliterate.cls ≠ "java/lang/invoke/VarHandle" ∧ (parseMethodDescriptor yX10_transliterate.desc).map (fun d => d.parameters.length) = some 3 := ⟨rfl, by decide +kernel, by decide +kernel, by decide +kernel⟩
theorem yd_X10_use : yX10_use.cls = RX10 ∧ yX10_use.cls ≠ "java/lang/invoke/MethodHandle" ∧ yX10_use.cls ≠ "java/lang/invoke/VarHandle" ∧ (parseMethodDescriptor yX10_use.desc).map (fun d => d.parameters.length) = some 1 := ⟨rfl, by decide +kernel, by decide +kernel, by decide +kernel⟩
theorem yd_X10_weigh : yX10_weigh.cls = RX10 ∧ yX10_weigh.cls ≠ "java/lang/invoke/MethodHandle" ∧ yX10_weigh.cls ≠ "java/lang/invoke/VarHandle" ∧ (parseMethodDescriptor yX10_weigh.desc).map (fun d => d.parameters.length) = some 5 := ⟨rfl, by decide +kernel, by decide +kernel, by decide +kernel⟩
theorem yd_X10_word : yX10_word.cls = RX10 ∧ yX10_word.cls ≠ "java/lang/invoke/MethodHandle" ∧ yX10_word.cls ≠ "java/lang/invoke/VarHandle" ∧ (parseMethodDescriptor yX10_word.desc).map (fun d => d.parameters.length) = some 1 := ⟨rfl, by decide +kernel, by decide +kernel, by decide +kernel⟩
theorem gk_L_100 : GoodIn ws0 (wsV RL 100 RX10 yX10_addRule (WSM yX10_addRule cX10_addRule 12 (some .int))) := goodV wd_687 wd_688 wd_689 wd_50 wd_690
theorem gk_L_103 : GoodIn ws0 (wsV RL 103 RX10 yX10_save (WSM yX10_save cX10_save 1 (some .int))) := goodV wd_701 wd_702 wd_703 wd_50 wd_704
theorem gk_L_106 : GoodIn ws0 (wsV RL 106 RX10 yX10_put (WSM yX10_put cX10_put 4 (some .int))) := goodV wd_706 wd_707 wd_708 wd_50 wd_709
theorem gk_L_109 : GoodIn ws0 (wsV RL 109 RX10 yX10_clear (WSM yX10_clear cX10_clear 4 (some .int))) := goodV wd_712 wd_713 wd_714 wd_50 wd_715
theorem gk_L_112 : GoodIn ws0 (wsV RL 112 RX10 yX10_at (WSM yX10_at cX10_at 4 (some .int))) := goodV wd_720 wd_721 wd_722 wd_50 wd_723
theorem gk_L_115 : GoodIn ws0 (wsV RL 115 RX10 yX10_form (WSM yX10_form cX10_form 6 (some .int))) := goodV wd_729 wd_730 wd_731 wd_50 wd_732
theorem gk_L_118 : GoodIn ws0 (wsV RL 118 RX10 yX10_looksLike (WSM yX10_looksLike cX10_looksLike 5 (some .boolean))) := goodV wd_821 wd_822 wd_823 wd_50 wd_824
theorem gk_L_122 : GoodIn ws0 (wsV RL 122 RX10 yX10_base (WSM yX10_base cX10_base 2 (some .int))) := goodV wd_834 wd_835 wd_836 wd_50 wd_837
theorem gk_L_125 : GoodIn ws0 (wsV RL 125 RX10 yX10_contract (WSM yX10_contract cX10_contract 9 (some .int))) := goodV wd_1251 wd_1252 wd_1253 wd_50 wd_1254
theorem gk_L_129 : GoodIn ws0 (wsV RL 129 RX10 yX10_plural (WSM yX10_plural cX10_plural 12 (some .int))) := goodV wd_1265 wd_1266 wd_1267 wd_50 wd_1268
theorem gk_L_133 : GoodIn ws0 (wsV RL 133 RX10 yX10_feed (WSM yX10_feed cX10_feed 5 (some .int))) := goodV wd_1296 wd_1297 wd_1298 wd_50 wd_1299
theorem gk_L_137 : GoodIn ws0 (va_wsS RL 137 yL_low (WSM yL_low cL_low 2 (some .int))) := goodS wd_424 wd_425 wd_49 wd_426
theorem gk_L_14 : GoodIn ws0 (va_wsS RL 14 yL_first (WSM yL_first cL_first 5 (some .int))) := goodS wd_615 wd_616 wd_49 wd_617
theorem gk_L_17 : GoodIn ws0 (wsV RL 17 RX10 yX10_level (WSM yX10_level cX10_level 5 (some .int))) := goodV wd_851 wd_852 wd_853 wd_50 wd_854
theorem gk_L_173 : GoodIn ws0 (wsV RL 173 RX10 yX10_word (WSM yX10_word cX10_word 8 (some .long))) := goodV wd_1306 wd_1307 wd_1308 wd_50 wd_1309
theorem gk_L_177 : GoodIn ws0 (wsV RL 177 RX10 yX10_breaks (WSM yX10_breaks cX10_breaks 4 (some .long))) := goodV wd_1311 wd_1312 wd_1313 wd_50 wd_1314
theorem gk_L_181 : GoodIn ws0 (va_wsS RL 181 yL_areSame (WSM yL_areSame cL_areSame 5 (some .boolean))) := goodS wd_1351 wd_1352 wd_49 wd_1353
theorem gk_L_188 : GoodIn ws0 (va_wsS RL 188 yL_cell (WSM yL_cell cL_cell 2 (some .int))) := goodS wd_421 wd_422 wd_49 wd_423
theorem gk_L_192 : GoodIn ws0 (va_wsS RL 192 yL_act (WSM yL_act cL_act 10 (some .int))) := goodS wd_428 wd_429 wd_49 wd_430
theorem gk_L_196 : GoodIn ws0 (va_wsS RL 196 yL_areAlike (WSM yL_areAlike cL_areAlike 6 (some .boolean))) := goodS wd_1303 wd_1304 wd_49 wd_1305
theorem gk_L_200 : GoodIn ws0 (va_wsS RL 200 yL_areFormsSo (WSM yL_areFormsSo cL_areFormsSo 6 (some .boolean))) := goodS wd_1348 wd_1349 wd_49 wd_1350
theorem gk_L_204 : GoodIn ws0 (va_wsS RL 204 yL_isShownSo (WSM yL_isShownSo cL_isShownSo 13 (some .boolean))) := goodS wd_1354 wd_1355 wd_49 wd_1356
theorem gk_L_207 : GoodIn ws0 (va_wsS RL 207 yL_areBreaksSo (WSM yL_areBreaksSo cL_areBreaksSo 14 (some .boolean))) := goodS wd_1357 wd_1358 wd_49 wd_1359
theorem gk_L_23 : GoodIn ws0 (wsV RL 23 RX10 yX10_shown (WSM yX10_shown cX10_shown 5 (some .int))) := goodV wd_947 wd_948 wd_949 wd_50 wd_950
theorem gk_L_26 : GoodIn ws0 (wsV RL 26 RX10 yX10_bySight (WSM yX10_bySight cX10_bySight 11 (some .int))) := goodV wd_964 wd_965 wd_966 wd_50 wd_967
theorem gk_L_30 : GoodIn ws0 (wsV RL 30 RX10 yX10_bySense (WSM yX10_bySense cX10_bySense 10 (some .int))) := goodV wd_992 wd_993 wd_994 wd_50 wd_995
theorem gk_L_33 : GoodIn ws0 (wsV RL 33 RX10 yX10_compare (WSM yX10_compare cX10_compare 9 (some .int))) := goodV wd_996 wd_997 wd_998 wd_50 wd_999
theorem gk_L_36 : GoodIn ws0 (wsV RL 36 RX10 yX10_key (WSM yX10_key cX10_key 6 (some .int))) := goodV wd_1026 wd_1027 wd_1028 wd_50 wd_1029
theorem gk_L_39 : GoodIn ws0 (wsV RL 39 RX10 yX10_find (WSM yX10_find cX10_find 10 (some .int))) := goodV wd_1034 wd_1035 wd_1036 wd_50 wd_1037
theorem gk_L_42 : GoodIn ws0 (wsV RL 42 RX10 yX10_pattern (WSM yX10_pattern cX10_pattern 3 (some .int))) := goodV wd_1048 wd_1049 wd_1050 wd_50 wd_1051
theorem gk_L_46 : GoodIn ws0 (wsV RL 46 RX10 yX10_match (WSM yX10_match cX10_match 4 (some .int))) := goodV wd_1082 wd_1083 wd_1084 wd_50 wd_1085
theorem gk_L_50 : GoodIn ws0 (wsV RL 50 RX10 yX10_transliterate (WSM yX10_transliterate cX10_transliterate 7 (some .int))) := goodV wd_1116 wd_1117 wd_1118 wd_50 wd_1119
theorem gk_L_53 : GoodIn ws0 (wsV RL 53 RX10 yX10_classOf (WSM yX10_classOf cX10_classOf 4 (some .int))) := goodV wd_1150 wd_1151 wd_1152 wd_50 wd_1153
theorem gk_L_57 : GoodIn ws0 (wsV RL 57 RX10 yX10_message (WSM yX10_message cX10_message 8 (some .int))) := goodV wd_1175 wd_1176 wd_1177 wd_50 wd_1178
theorem gk_L_61 : GoodIn ws0 (wsV RL 61 RX10 yX10_encode (WSM yX10_encode cX10_encode 7 (some .int))) := goodV wd_1234 wd_1235 wd_1236 wd_50 wd_1237
theorem gk_L_65 : GoodIn ws0 (wsV RL 65 RX10 yX10_decode (WSM yX10_decode cX10_decode 4 (some .int))) := goodV wd_1238 wd_1239 wd_1240 wd_50 wd_1241
theorem gk_L_75 : GoodIn ws0 (wsV RL 75 RX10 yX10_letter (WSM yX10_letter cX10_letter 6 none)) := goodV wd_440 wd_441 wd_442 wd_50 wd_443
theorem gk_L_79 : GoodIn ws0 (wsV RL 79 RX10 yX10_split (WSM yX10_split cX10_split 5 none)) := goodV wd_547 wd_548 wd_549 wd_50 wd_550
theorem gk_L_8 : GoodIn ws0 (va_wsS RL 8 yL_tells (WSM yL_tells cL_tells 5 (some .int))) := goodS wd_437 wd_438 wd_49 wd_439
theorem gk_L_83 : GoodIn ws0 (wsV RL 83 RX10 yX10_capital (WSM yX10_capital cX10_capital 5 none)) := goodV wd_555 wd_556 wd_557 wd_50 wd_558
theorem gk_L_86 : GoodIn ws0 (wsV RL 86 RX10 yX10_partners (WSM yX10_partners cX10_partners 3 none)) := goodV wd_563 wd_564 wd_565 wd_50 wd_566
theorem gk_L_90 : GoodIn ws0 (wsV RL 90 RX10 yX10_weigh (WSM yX10_weigh cX10_weigh 7 none)) := goodV wd_594 wd_595 wd_596 wd_50 wd_597
theorem gk_L_93 : GoodIn ws0 (wsV RL 93 RX10 yX10_use (WSM yX10_use cX10_use 2 none)) := goodV wd_618 wd_619 wd_620 wd_50 wd_621
theorem gk_L_97 : GoodIn ws0 (wsV RL 97 RX10 yX10_addWord (WSM yX10_addWord cX10_addWord 3 (some .int))) := goodV wd_665 wd_666 wd_667 wd_50 wd_668
