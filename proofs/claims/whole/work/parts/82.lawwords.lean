def codesW : List Cond := [Cond.code yX10_word cX10_word 8 (some .long),
  Cond.code yX10_feed cX10_feed 5 (some .int),
  Cond.code yX10_letter cX10_letter 6 none,
  Cond.code yX10_split cX10_split 5 none,
  Cond.code yX10_capital cX10_capital 5 none,
  Cond.code yX10_partners cX10_partners 3 none,
  Cond.code yX10_weigh cX10_weigh 7 none,
  Cond.code yX10_contract cX10_contract 9 (some .int),
  Cond.code yX10_plural cX10_plural 12 (some .int),
  Cond.code yX10_addWord cX10_addWord 3 (some .int),
  Cond.code yX10_addRule cX10_addRule 12 (some .int),
  Cond.code yX10_save cX10_save 1 (some .int),
  Cond.code yX10_use cX10_use 2 none,
  Cond.code yX10_put cX10_put 4 (some .int),
  Cond.code yX10_clear cX10_clear 4 (some .int),
  Cond.code yX10_at cX10_at 4 (some .int),
  Cond.code yX10_form cX10_form 6 (some .int),
  Cond.code yX10_looksLike cX10_looksLike 5 (some .boolean),
  Cond.code yX10_base cX10_base 2 (some .int),
  Cond.code yX10_level cX10_level 5 (some .int),
  Cond.code yX10_shown cX10_shown 5 (some .int),
  Cond.code yX10_bySight cX10_bySight 11 (some .int),
  Cond.code yX10_breaks cX10_breaks 4 (some .long),
  Cond.code yX10_bySense cX10_bySense 10 (some .int),
  Cond.code yX10_compare cX10_compare 9 (some .int),
  Cond.code yX10_key cX10_key 6 (some .int),
  Cond.code yX10_find cX10_find 10 (some .int),
  Cond.code yX10_pattern cX10_pattern 3 (some .int),
  Cond.code yX10_match cX10_match 4 (some .int),
  Cond.code yX10_transliterate cX10_transliterate 7 (some .int),
  Cond.code yX10_classOf cX10_classOf 4 (some .int),
  Cond.code yX10_message cX10_message 8 (some .int),
  Cond.code yX10_encode cX10_encode 7 (some .int),
  Cond.code yX10_decode cX10_decode 4 (some .int),
  Cond.code yX11_thrown cX11_thrown 1 (some .int),
  Cond.code yX11_feed cX11_feed 5 (some .int),
  Cond.code yX11_letter cX11_letter 7 none,
  Cond.code yX11_split cX11_split 5 none,
  Cond.code yX11_capital cX11_capital 5 none,
  Cond.code yX11_partners cX11_partners 5 none,
  Cond.code yX11_weigh cX11_weigh 6 none,
  Cond.code yX11_contract cX11_contract 11 (some .int),
  Cond.code yX11_plural cX11_plural 11 (some .int),
  Cond.code yX11_addWord cX11_addWord 5 (some .int),
  Cond.code yX11_addRule cX11_addRule 9 (some .int),
  Cond.code yX11_save cX11_save 2 (some .int),
  Cond.code yX11_use cX11_use 3 none,
  Cond.code yX11_put cX11_put 4 (some .int),
  Cond.code yX11_clear cX11_clear 3 (some .int),
  Cond.code yX11_at cX11_at 4 (some .int),
  Cond.code yX11_form cX11_form 8 (some .int),
  Cond.code yX11_looksLike cX11_looksLike 5 (some .boolean),
  Cond.code yX11_base cX11_base 2 (some .int),
  Cond.code yX11_level cX11_level 4 (some .int),
  Cond.code yX11_shown cX11_shown 4 (some .int),
  Cond.code yX11_bySight cX11_bySight 5 (some .int),
  Cond.code yX11_breaks cX11_breaks 6 (some .long),
  Cond.code yX11_bySense cX11_bySense 5 (some .int),
  Cond.code yX11_compare cX11_compare 8 (some .int),
  Cond.code yX11_key cX11_key 6 (some .int),
  Cond.code yX11_find cX11_find 7 (some .int),
  Cond.code yX11_pattern cX11_pattern 2 (some .int),
  Cond.code yX11_match cX11_match 4 (some .int),
  Cond.code yX11_transliterate cX11_transliterate 7 (some .int),
  Cond.code yX11_classOf cX11_classOf 3 (some .int),
  Cond.code yX11_message cX11_message 8 (some .int),
  Cond.code yX11_word cX11_word 6 (some .long),
  Cond.code yX11_encode cX11_encode 6 (some .int),
  Cond.code yX11_decode cX11_decode 3 (some .int)]
set_option maxRecDepth 100000 in
theorem codesW_in : GoodIn lw_tbl codesW := goodIn_p codesW [484, 502, 605, 641, 652, 663, 682, 706, 729, 752, 779, 800, 831, 839, 847, 858, 869, 964, 980, 1000, 1099, 1119, 1150, 1190, 1197, 1224, 1235, 1252, 1289, 1326, 1363, 1390, 1452, 1459, 1611, 1615, 1627, 1634, 1638, 1642, 1650, 1664, 1672, 1676, 1687, 1695, 1699, 1703, 1707, 1711, 1715, 1755, 1767, 1783, 1823, 1831, 1843, 1871, 1875, 1887, 1891, 1899, 1915, 1935, 1955, 1964, 1988, 1992, 1996] rfl (by decide +kernel)
theorem codesW_at {w : Cond} (i : Nat) (h : codesW[i]? = some w) (g : goodWord w = true) : w ∈ ws0 := List.mem_filter.mpr ⟨(codesW_in w (List.mem_of_getElem? h)).1, g⟩
set_option maxRecDepth 20000 in
theorem wd_484 : Cond.code yX10_word cX10_word 8 (some .long) ∈ ws0 := codesW_at 0 rfl (by decide +kernel)
set_option maxRecDepth 20000 in
theorem wd_502 : Cond.code yX10_feed cX10_feed 5 (some .int) ∈ ws0 := codesW_at 1 rfl (by decide +kernel)
set_option maxRecDepth 20000 in
theorem wd_605 : Cond.code yX10_letter cX10_letter 6 none ∈ ws0 := codesW_at 2 rfl (by decide +kernel)
set_option maxRecDepth 20000 in
theorem wd_641 : Cond.code yX10_split cX10_split 5 none ∈ ws0 := codesW_at 3 rfl (by decide +kernel)
set_option maxRecDepth 20000 in
theorem wd_652 : Cond.code yX10_capital cX10_capital 5 none ∈ ws0 := codesW_at 4 rfl (by decide +kernel)
set_option maxRecDepth 20000 in
theorem wd_663 : Cond.code yX10_partners cX10_partners 3 none ∈ ws0 := codesW_at 5 rfl (by decide +kernel)
set_option maxRecDepth 20000 in
theorem wd_682 : Cond.code yX10_weigh cX10_weigh 7 none ∈ ws0 := codesW_at 6 rfl (by decide +kernel)
set_option maxRecDepth 20000 in
theorem wd_706 : Cond.code yX10_contract cX10_contract 9 (some .int) ∈ ws0 := codesW_at 7 rfl (by decide +kernel)
set_option maxRecDepth 20000 in
theorem wd_729 : Cond.code yX10_plural cX10_plural 12 (some .int) ∈ ws0 := codesW_at 8 rfl (by decide +kernel)
set_option maxRecDepth 20000 in
theorem wd_752 : Cond.code yX10_addWord cX10_addWord 3 (some .int) ∈ ws0 := codesW_at 9 rfl (by decide +kernel)
set_option maxRecDepth 20000 in
theorem wd_779 : Cond.code yX10_addRule cX10_addRule 12 (some .int) ∈ ws0 := codesW_at 10 rfl (by decide +kernel)
set_option maxRecDepth 20000 in
theorem wd_800 : Cond.code yX10_save cX10_save 1 (some .int) ∈ ws0 := codesW_at 11 rfl (by decide +kernel)
set_option maxRecDepth 20000 in
theorem wd_831 : Cond.code yX10_use cX10_use 2 none ∈ ws0 := codesW_at 12 rfl (by decide +kernel)
set_option maxRecDepth 20000 in
theorem wd_839 : Cond.code yX10_put cX10_put 4 (some .int) ∈ ws0 := codesW_at 13 rfl (by decide +kernel)
set_option maxRecDepth 20000 in
theorem wd_847 : Cond.code yX10_clear cX10_clear 4 (some .int) ∈ ws0 := codesW_at 14 rfl (by decide +kernel)
set_option maxRecDepth 20000 in
theorem wd_858 : Cond.code yX10_at cX10_at 4 (some .int) ∈ ws0 := codesW_at 15 rfl (by decide +kernel)
set_option maxRecDepth 20000 in
theorem wd_869 : Cond.code yX10_form cX10_form 6 (some .int) ∈ ws0 := codesW_at 16 rfl (by decide +kernel)
set_option maxRecDepth 20000 in
theorem wd_964 : Cond.code yX10_looksLike cX10_looksLike 5 (some .boolean) ∈ ws0 := codesW_at 17 rfl (by decide +kernel)
set_option maxRecDepth 20000 in
theorem wd_980 : Cond.code yX10_base cX10_base 2 (some .int) ∈ ws0 := codesW_at 18 rfl (by decide +kernel)
set_option maxRecDepth 20000 in
theorem wd_1000 : Cond.code yX10_level cX10_level 5 (some .int) ∈ ws0 := codesW_at 19 rfl (by decide +kernel)
set_option maxRecDepth 20000 in
theorem wd_1099 : Cond.code yX10_shown cX10_shown 5 (some .int) ∈ ws0 := codesW_at 20 rfl (by decide +kernel)
set_option maxRecDepth 20000 in
theorem wd_1119 : Cond.code yX10_bySight cX10_bySight 11 (some .int) ∈ ws0 := codesW_at 21 rfl (by decide +kernel)
set_option maxRecDepth 20000 in
theorem wd_1150 : Cond.code yX10_breaks cX10_breaks 4 (some .long) ∈ ws0 := codesW_at 22 rfl (by decide +kernel)
set_option maxRecDepth 20000 in
theorem wd_1190 : Cond.code yX10_bySense cX10_bySense 10 (some .int) ∈ ws0 := codesW_at 23 rfl (by decide +kernel)
set_option maxRecDepth 20000 in
theorem wd_1197 : Cond.code yX10_compare cX10_compare 9 (some .int) ∈ ws0 := codesW_at 24 rfl (by decide +kernel)
set_option maxRecDepth 20000 in
theorem wd_1224 : Cond.code yX10_key cX10_key 6 (some .int) ∈ ws0 := codesW_at 25 rfl (by decide +kernel)
set_option maxRecDepth 20000 in
theorem wd_1235 : Cond.code yX10_find cX10_find 10 (some .int) ∈ ws0 := codesW_at 26 rfl (by decide +kernel)
set_option maxRecDepth 20000 in
theorem wd_1252 : Cond.code yX10_pattern cX10_pattern 3 (some .int) ∈ ws0 := codesW_at 27 rfl (by decide +kernel)
set_option maxRecDepth 20000 in
theorem wd_1289 : Cond.code yX10_match cX10_match 4 (some .int) ∈ ws0 := codesW_at 28 rfl (by decide +kernel)
set_option maxRecDepth 20000 in
theorem wd_1326 : Cond.code yX10_transliterate cX10_transliterate 7 (some .int) ∈ ws0 := codesW_at 29 rfl (by decide +kernel)
set_option maxRecDepth 20000 in
theorem wd_1363 : Cond.code yX10_classOf cX10_classOf 4 (some .int) ∈ ws0 := codesW_at 30 rfl (by decide +kernel)
set_option maxRecDepth 20000 in
theorem wd_1390 : Cond.code yX10_message cX10_message 8 (some .int) ∈ ws0 := codesW_at 31 rfl (by decide +kernel)
set_option maxRecDepth 20000 in
theorem wd_1452 : Cond.code yX10_encode cX10_encode 7 (some .int) ∈ ws0 := codesW_at 32 rfl (by decide +kernel)
set_option maxRecDepth 20000 in
theorem wd_1459 : Cond.code yX10_decode cX10_decode 4 (some .int) ∈ ws0 := codesW_at 33 rfl (by decide +kernel)
set_option maxRecDepth 20000 in
theorem wd_1611 : Cond.code yX11_thrown cX11_thrown 1 (some .int) ∈ ws0 := codesW_at 34 rfl (by decide +kernel)
set_option maxRecDepth 20000 in
theorem wd_1615 : Cond.code yX11_feed cX11_feed 5 (some .int) ∈ ws0 := codesW_at 35 rfl (by decide +kernel)
set_option maxRecDepth 20000 in
theorem wd_1627 : Cond.code yX11_letter cX11_letter 7 none ∈ ws0 := codesW_at 36 rfl (by decide +kernel)
set_option maxRecDepth 20000 in
theorem wd_1634 : Cond.code yX11_split cX11_split 5 none ∈ ws0 := codesW_at 37 rfl (by decide +kernel)
set_option maxRecDepth 20000 in
theorem wd_1638 : Cond.code yX11_capital cX11_capital 5 none ∈ ws0 := codesW_at 38 rfl (by decide +kernel)
set_option maxRecDepth 20000 in
theorem wd_1642 : Cond.code yX11_partners cX11_partners 5 none ∈ ws0 := codesW_at 39 rfl (by decide +kernel)
set_option maxRecDepth 20000 in
theorem wd_1650 : Cond.code yX11_weigh cX11_weigh 6 none ∈ ws0 := codesW_at 40 rfl (by decide +kernel)
set_option maxRecDepth 20000 in
theorem wd_1664 : Cond.code yX11_contract cX11_contract 11 (some .int) ∈ ws0 := codesW_at 41 rfl (by decide +kernel)
set_option maxRecDepth 20000 in
theorem wd_1672 : Cond.code yX11_plural cX11_plural 11 (some .int) ∈ ws0 := codesW_at 42 rfl (by decide +kernel)
set_option maxRecDepth 20000 in
theorem wd_1676 : Cond.code yX11_addWord cX11_addWord 5 (some .int) ∈ ws0 := codesW_at 43 rfl (by decide +kernel)
set_option maxRecDepth 20000 in
theorem wd_1687 : Cond.code yX11_addRule cX11_addRule 9 (some .int) ∈ ws0 := codesW_at 44 rfl (by decide +kernel)
set_option maxRecDepth 20000 in
theorem wd_1695 : Cond.code yX11_save cX11_save 2 (some .int) ∈ ws0 := codesW_at 45 rfl (by decide +kernel)
set_option maxRecDepth 20000 in
theorem wd_1699 : Cond.code yX11_use cX11_use 3 none ∈ ws0 := codesW_at 46 rfl (by decide +kernel)
set_option maxRecDepth 20000 in
theorem wd_1703 : Cond.code yX11_put cX11_put 4 (some .int) ∈ ws0 := codesW_at 47 rfl (by decide +kernel)
set_option maxRecDepth 20000 in
theorem wd_1707 : Cond.code yX11_clear cX11_clear 3 (some .int) ∈ ws0 := codesW_at 48 rfl (by decide +kernel)
set_option maxRecDepth 20000 in
theorem wd_1711 : Cond.code yX11_at cX11_at 4 (some .int) ∈ ws0 := codesW_at 49 rfl (by decide +kernel)
set_option maxRecDepth 20000 in
theorem wd_1715 : Cond.code yX11_form cX11_form 8 (some .int) ∈ ws0 := codesW_at 50 rfl (by decide +kernel)
set_option maxRecDepth 20000 in
theorem wd_1755 : Cond.code yX11_looksLike cX11_looksLike 5 (some .boolean) ∈ ws0 := codesW_at 51 rfl (by decide +kernel)
set_option maxRecDepth 20000 in
theorem wd_1767 : Cond.code yX11_base cX11_base 2 (some .int) ∈ ws0 := codesW_at 52 rfl (by decide +kernel)
set_option maxRecDepth 20000 in
theorem wd_1783 : Cond.code yX11_level cX11_level 4 (some .int) ∈ ws0 := codesW_at 53 rfl (by decide +kernel)
set_option maxRecDepth 20000 in
theorem wd_1823 : Cond.code yX11_shown cX11_shown 4 (some .int) ∈ ws0 := codesW_at 54 rfl (by decide +kernel)
set_option maxRecDepth 20000 in
theorem wd_1831 : Cond.code yX11_bySight cX11_bySight 5 (some .int) ∈ ws0 := codesW_at 55 rfl (by decide +kernel)
set_option maxRecDepth 20000 in
theorem wd_1843 : Cond.code yX11_breaks cX11_breaks 6 (some .long) ∈ ws0 := codesW_at 56 rfl (by decide +kernel)
set_option maxRecDepth 20000 in
theorem wd_1871 : Cond.code yX11_bySense cX11_bySense 5 (some .int) ∈ ws0 := codesW_at 57 rfl (by decide +kernel)
set_option maxRecDepth 20000 in
theorem wd_1875 : Cond.code yX11_compare cX11_compare 8 (some .int) ∈ ws0 := codesW_at 58 rfl (by decide +kernel)
set_option maxRecDepth 20000 in
theorem wd_1887 : Cond.code yX11_key cX11_key 6 (some .int) ∈ ws0 := codesW_at 59 rfl (by decide +kernel)
set_option maxRecDepth 20000 in
theorem wd_1891 : Cond.code yX11_find cX11_find 7 (some .int) ∈ ws0 := codesW_at 60 rfl (by decide +kernel)
set_option maxRecDepth 20000 in
theorem wd_1899 : Cond.code yX11_pattern cX11_pattern 2 (some .int) ∈ ws0 := codesW_at 61 rfl (by decide +kernel)
set_option maxRecDepth 20000 in
theorem wd_1915 : Cond.code yX11_match cX11_match 4 (some .int) ∈ ws0 := codesW_at 62 rfl (by decide +kernel)
set_option maxRecDepth 20000 in
theorem wd_1935 : Cond.code yX11_transliterate cX11_transliterate 7 (some .int) ∈ ws0 := codesW_at 63 rfl (by decide +kernel)
set_option maxRecDepth 20000 in
theorem wd_1955 : Cond.code yX11_classOf cX11_classOf 3 (some .int) ∈ ws0 := codesW_at 64 rfl (by decide +kernel)
set_option maxRecDepth 20000 in
theorem wd_1964 : Cond.code yX11_message cX11_message 8 (some .int) ∈ ws0 := codesW_at 65 rfl (by decide +kernel)
set_option maxRecDepth 20000 in
theorem wd_1988 : Cond.code yX11_word cX11_word 6 (some .long) ∈ ws0 := codesW_at 66 rfl (by decide +kernel)
set_option maxRecDepth 20000 in
theorem wd_1992 : Cond.code yX11_encode cX11_encode 6 (some .int) ∈ ws0 := codesW_at 67 rfl (by decide +kernel)
set_option maxRecDepth 20000 in
theorem wd_1996 : Cond.code yX11_decode cX11_decode 3 (some .int) ∈ ws0 := codesW_at 68 rfl (by decide +kernel)
theorem wd_108 : Cond.initialized RL ∈ ws0 := ws0_of 108 (by decide +kernel) (by decide +kernel)
theorem wd_481 : Cond.methodLink RL 246 yX10_word ∈ ws0 := ws0_of 481 (by decide +kernel) (by decide +kernel)
theorem wd_482 : Cond.instanceMethod yX10_word ∈ ws0 := ws0_of 482 (by decide +kernel) (by decide +kernel)
theorem wd_483 : Cond.selects RX10 yX10_word yX10_word ∈ ws0 := ws0_of 483 (by decide +kernel) (by decide +kernel)
theorem wd_494 : Cond.methodLink RL 135 yL_feed ∈ ws0 := ws0_of 494 (by decide +kernel) (by decide +kernel)
theorem wd_495 : Cond.static yL_feed ∈ ws0 := ws0_of 495 (by decide +kernel) (by decide +kernel)
theorem wd_496 : Cond.codeWith yL_feed cL_feed 6 (some .int) [(0, 11, 14, 13), (0, 11, 18, 15)] ∈ ws0 := ws0_of 496 (by decide +kernel) (by decide +kernel)
theorem wd_499 : Cond.methodLink RL 7 yX10_feed ∈ ws0 := ws0_of 499 (by decide +kernel) (by decide +kernel)
theorem wd_500 : Cond.instanceMethod yX10_feed ∈ ws0 := ws0_of 500 (by decide +kernel) (by decide +kernel)
theorem wd_501 : Cond.selects RX10 yX10_feed yX10_feed ∈ ws0 := ws0_of 501 (by decide +kernel) (by decide +kernel)
theorem wd_598 : Cond.methodLink RL 144 yL_letter ∈ ws0 := ws0_of 598 (by decide +kernel) (by decide +kernel)
theorem wd_599 : Cond.static yL_letter ∈ ws0 := ws0_of 599 (by decide +kernel) (by decide +kernel)
theorem wd_600 : Cond.codeWith yL_letter cL_letter 7 (some .int) [(0, 11, 14, 21), (0, 11, 18, 13)] ∈ ws0 := ws0_of 600 (by decide +kernel) (by decide +kernel)
theorem wd_602 : Cond.methodLink RL 17 yX10_letter ∈ ws0 := ws0_of 602 (by decide +kernel) (by decide +kernel)
theorem wd_603 : Cond.instanceMethod yX10_letter ∈ ws0 := ws0_of 603 (by decide +kernel) (by decide +kernel)
theorem wd_604 : Cond.selects RX10 yX10_letter yX10_letter ∈ ws0 := ws0_of 604 (by decide +kernel) (by decide +kernel)
theorem wd_635 : Cond.methodLink RL 148 yL_split ∈ ws0 := ws0_of 635 (by decide +kernel) (by decide +kernel)
theorem wd_636 : Cond.static yL_split ∈ ws0 := ws0_of 636 (by decide +kernel) (by decide +kernel)
theorem wd_637 : Cond.codeWith yL_split cL_split 5 (some .int) [(0, 7, 10, 21), (0, 7, 14, 13)] ∈ ws0 := ws0_of 637 (by decide +kernel) (by decide +kernel)
theorem wd_638 : Cond.methodLink RL 23 yX10_split ∈ ws0 := ws0_of 638 (by decide +kernel) (by decide +kernel)
theorem wd_639 : Cond.instanceMethod yX10_split ∈ ws0 := ws0_of 639 (by decide +kernel) (by decide +kernel)
theorem wd_640 : Cond.selects RX10 yX10_split yX10_split ∈ ws0 := ws0_of 640 (by decide +kernel) (by decide +kernel)
theorem wd_646 : Cond.methodLink RL 152 yL_capital ∈ ws0 := ws0_of 646 (by decide +kernel) (by decide +kernel)
theorem wd_647 : Cond.static yL_capital ∈ ws0 := ws0_of 647 (by decide +kernel) (by decide +kernel)
theorem wd_648 : Cond.codeWith yL_capital cL_capital 5 (some .int) [(0, 7, 10, 21), (0, 7, 14, 13)] ∈ ws0 := ws0_of 648 (by decide +kernel) (by decide +kernel)
theorem wd_649 : Cond.methodLink RL 27 yX10_capital ∈ ws0 := ws0_of 649 (by decide +kernel) (by decide +kernel)
theorem wd_650 : Cond.instanceMethod yX10_capital ∈ ws0 := ws0_of 650 (by decide +kernel) (by decide +kernel)
theorem wd_651 : Cond.selects RX10 yX10_capital yX10_capital ∈ ws0 := ws0_of 651 (by decide +kernel) (by decide +kernel)
theorem wd_657 : Cond.methodLink RL 155 yL_partners ∈ ws0 := ws0_of 657 (by decide +kernel) (by decide +kernel)
theorem wd_658 : Cond.static yL_partners ∈ ws0 := ws0_of 658 (by decide +kernel) (by decide +kernel)
theorem wd_659 : Cond.codeWith yL_partners cL_partners 4 (some .int) [(0, 6, 9, 21), (0, 6, 12, 15)] ∈ ws0 := ws0_of 659 (by decide +kernel) (by decide +kernel)
theorem wd_660 : Cond.methodLink RL 30 yX10_partners ∈ ws0 := ws0_of 660 (by decide +kernel) (by decide +kernel)
theorem wd_661 : Cond.instanceMethod yX10_partners ∈ ws0 := ws0_of 661 (by decide +kernel) (by decide +kernel)
theorem wd_662 : Cond.selects RX10 yX10_partners yX10_partners ∈ ws0 := ws0_of 662 (by decide +kernel) (by decide +kernel)
theorem wd_676 : Cond.methodLink RL 159 yL_weigh ∈ ws0 := ws0_of 676 (by decide +kernel) (by decide +kernel)
theorem wd_677 : Cond.static yL_weigh ∈ ws0 := ws0_of 677 (by decide +kernel) (by decide +kernel)
theorem wd_678 : Cond.codeWith yL_weigh cL_weigh 7 (some .int) [(0, 11, 14, 21), (0, 11, 18, 13)] ∈ ws0 := ws0_of 678 (by decide +kernel) (by decide +kernel)
theorem wd_679 : Cond.methodLink RL 34 yX10_weigh ∈ ws0 := ws0_of 679 (by decide +kernel) (by decide +kernel)
theorem wd_680 : Cond.instanceMethod yX10_weigh ∈ ws0 := ws0_of 680 (by decide +kernel) (by decide +kernel)
theorem wd_681 : Cond.selects RX10 yX10_weigh yX10_weigh ∈ ws0 := ws0_of 681 (by decide +kernel) (by decide +kernel)
theorem wd_700 : Cond.methodLink RL 162 yL_contract ∈ ws0 := ws0_of 700 (by decide +kernel) (by decide +kernel)
theorem wd_701 : Cond.static yL_contract ∈ ws0 := ws0_of 701 (by decide +kernel) (by decide +kernel)
theorem wd_702 : Cond.codeWith yL_contract cL_contract 9 (some .int) [(0, 18, 21, 21), (0, 18, 25, 13), (0, 18, 29, 15)] ∈ ws0 := ws0_of 702 (by decide +kernel) (by decide +kernel)
theorem wd_703 : Cond.methodLink RL 37 yX10_contract ∈ ws0 := ws0_of 703 (by decide +kernel) (by decide +kernel)
theorem wd_704 : Cond.instanceMethod yX10_contract ∈ ws0 := ws0_of 704 (by decide +kernel) (by decide +kernel)
theorem wd_705 : Cond.selects RX10 yX10_contract yX10_contract ∈ ws0 := ws0_of 705 (by decide +kernel) (by decide +kernel)
theorem wd_723 : Cond.methodLink RL 166 yL_plural ∈ ws0 := ws0_of 723 (by decide +kernel) (by decide +kernel)
theorem wd_724 : Cond.static yL_plural ∈ ws0 := ws0_of 724 (by decide +kernel) (by decide +kernel)
theorem wd_725 : Cond.codeWith yL_plural cL_plural 11 (some .int) [(0, 22, 25, 21), (0, 22, 29, 13), (0, 22, 33, 15)] ∈ ws0 := ws0_of 725 (by decide +kernel) (by decide +kernel)
theorem wd_726 : Cond.methodLink RL 41 yX10_plural ∈ ws0 := ws0_of 726 (by decide +kernel) (by decide +kernel)
theorem wd_727 : Cond.instanceMethod yX10_plural ∈ ws0 := ws0_of 727 (by decide +kernel) (by decide +kernel)
theorem wd_728 : Cond.selects RX10 yX10_plural yX10_plural ∈ ws0 := ws0_of 728 (by decide +kernel) (by decide +kernel)
theorem wd_746 : Cond.methodLink RL 170 yL_addWord ∈ ws0 := ws0_of 746 (by decide +kernel) (by decide +kernel)
theorem wd_747 : Cond.static yL_addWord ∈ ws0 := ws0_of 747 (by decide +kernel) (by decide +kernel)
theorem wd_748 : Cond.codeWith yL_addWord cL_addWord 4 (some .int) [(0, 9, 12, 21), (0, 9, 15, 15)] ∈ ws0 := ws0_of 748 (by decide +kernel) (by decide +kernel)
theorem wd_749 : Cond.methodLink RL 45 yX10_addWord ∈ ws0 := ws0_of 749 (by decide +kernel) (by decide +kernel)
theorem wd_750 : Cond.instanceMethod yX10_addWord ∈ ws0 := ws0_of 750 (by decide +kernel) (by decide +kernel)
theorem wd_751 : Cond.selects RX10 yX10_addWord yX10_addWord ∈ ws0 := ws0_of 751 (by decide +kernel) (by decide +kernel)
theorem wd_773 : Cond.methodLink RL 174 yL_addRule ∈ ws0 := ws0_of 773 (by decide +kernel) (by decide +kernel)
theorem wd_774 : Cond.static yL_addRule ∈ ws0 := ws0_of 774 (by decide +kernel) (by decide +kernel)
theorem wd_775 : Cond.codeWith yL_addRule cL_addRule 8 (some .int) [(0, 16, 19, 21), (0, 16, 23, 13), (0, 16, 27, 15)] ∈ ws0 := ws0_of 775 (by decide +kernel) (by decide +kernel)
theorem wd_776 : Cond.methodLink RL 49 yX10_addRule ∈ ws0 := ws0_of 776 (by decide +kernel) (by decide +kernel)
theorem wd_777 : Cond.instanceMethod yX10_addRule ∈ ws0 := ws0_of 777 (by decide +kernel) (by decide +kernel)
theorem wd_778 : Cond.selects RX10 yX10_addRule yX10_addRule ∈ ws0 := ws0_of 778 (by decide +kernel) (by decide +kernel)
theorem wd_794 : Cond.methodLink RL 178 yL_save ∈ ws0 := ws0_of 794 (by decide +kernel) (by decide +kernel)
theorem wd_795 : Cond.static yL_save ∈ ws0 := ws0_of 795 (by decide +kernel) (by decide +kernel)
theorem wd_796 : Cond.codeWith yL_save cL_save 3 (some .int) [(0, 8, 11, 15)] ∈ ws0 := ws0_of 796 (by decide +kernel) (by decide +kernel)
theorem wd_797 : Cond.methodLink RL 53 yX10_save ∈ ws0 := ws0_of 797 (by decide +kernel) (by decide +kernel)
theorem wd_798 : Cond.instanceMethod yX10_save ∈ ws0 := ws0_of 798 (by decide +kernel) (by decide +kernel)
theorem wd_799 : Cond.selects RX10 yX10_save yX10_save ∈ ws0 := ws0_of 799 (by decide +kernel) (by decide +kernel)
theorem wd_825 : Cond.methodLink RL 182 yL_use ∈ ws0 := ws0_of 825 (by decide +kernel) (by decide +kernel)
theorem wd_826 : Cond.static yL_use ∈ ws0 := ws0_of 826 (by decide +kernel) (by decide +kernel)
theorem wd_827 : Cond.codeWith yL_use cL_use 3 (some .int) [(0, 5, 8, 21)] ∈ ws0 := ws0_of 827 (by decide +kernel) (by decide +kernel)
theorem wd_828 : Cond.methodLink RL 57 yX10_use ∈ ws0 := ws0_of 828 (by decide +kernel) (by decide +kernel)
theorem wd_829 : Cond.instanceMethod yX10_use ∈ ws0 := ws0_of 829 (by decide +kernel) (by decide +kernel)
theorem wd_830 : Cond.selects RX10 yX10_use yX10_use ∈ ws0 := ws0_of 830 (by decide +kernel) (by decide +kernel)
theorem wd_833 : Cond.methodLink RL 186 yL_put ∈ ws0 := ws0_of 833 (by decide +kernel) (by decide +kernel)
theorem wd_834 : Cond.static yL_put ∈ ws0 := ws0_of 834 (by decide +kernel) (by decide +kernel)
theorem wd_835 : Cond.codeWith yL_put cL_put 5 (some .int) [(0, 10, 13, 21), (0, 10, 17, 15)] ∈ ws0 := ws0_of 835 (by decide +kernel) (by decide +kernel)
theorem wd_836 : Cond.methodLink RL 61 yX10_put ∈ ws0 := ws0_of 836 (by decide +kernel) (by decide +kernel)
theorem wd_837 : Cond.instanceMethod yX10_put ∈ ws0 := ws0_of 837 (by decide +kernel) (by decide +kernel)
theorem wd_838 : Cond.selects RX10 yX10_put yX10_put ∈ ws0 := ws0_of 838 (by decide +kernel) (by decide +kernel)
theorem wd_841 : Cond.methodLink RL 190 yL_clear ∈ ws0 := ws0_of 841 (by decide +kernel) (by decide +kernel)
theorem wd_842 : Cond.static yL_clear ∈ ws0 := ws0_of 842 (by decide +kernel) (by decide +kernel)
theorem wd_843 : Cond.codeWith yL_clear cL_clear 4 (some .int) [(0, 9, 12, 21)] ∈ ws0 := ws0_of 843 (by decide +kernel) (by decide +kernel)
theorem wd_844 : Cond.methodLink RL 65 yX10_clear ∈ ws0 := ws0_of 844 (by decide +kernel) (by decide +kernel)
theorem wd_845 : Cond.instanceMethod yX10_clear ∈ ws0 := ws0_of 845 (by decide +kernel) (by decide +kernel)
theorem wd_846 : Cond.selects RX10 yX10_clear yX10_clear ∈ ws0 := ws0_of 846 (by decide +kernel) (by decide +kernel)
theorem wd_852 : Cond.methodLink RL 193 yL_at ∈ ws0 := ws0_of 852 (by decide +kernel) (by decide +kernel)
theorem wd_853 : Cond.static yL_at ∈ ws0 := ws0_of 853 (by decide +kernel) (by decide +kernel)
theorem wd_854 : Cond.codeWith yL_at cL_at 5 (some .int) [(0, 10, 13, 21)] ∈ ws0 := ws0_of 854 (by decide +kernel) (by decide +kernel)
theorem wd_855 : Cond.methodLink RL 68 yX10_at ∈ ws0 := ws0_of 855 (by decide +kernel) (by decide +kernel)
theorem wd_856 : Cond.instanceMethod yX10_at ∈ ws0 := ws0_of 856 (by decide +kernel) (by decide +kernel)
theorem wd_857 : Cond.selects RX10 yX10_at yX10_at ∈ ws0 := ws0_of 857 (by decide +kernel) (by decide +kernel)
theorem wd_863 : Cond.methodLink RL 196 yL_form ∈ ws0 := ws0_of 863 (by decide +kernel) (by decide +kernel)
theorem wd_864 : Cond.static yL_form ∈ ws0 := ws0_of 864 (by decide +kernel) (by decide +kernel)
theorem wd_865 : Cond.codeWith yL_form cL_form 6 (some .int) [(0, 12, 15, 21), (0, 12, 19, 13), (0, 12, 23, 15)] ∈ ws0 := ws0_of 865 (by decide +kernel) (by decide +kernel)
theorem wd_866 : Cond.methodLink RL 71 yX10_form ∈ ws0 := ws0_of 866 (by decide +kernel) (by decide +kernel)
theorem wd_867 : Cond.instanceMethod yX10_form ∈ ws0 := ws0_of 867 (by decide +kernel) (by decide +kernel)
theorem wd_868 : Cond.selects RX10 yX10_form yX10_form ∈ ws0 := ws0_of 868 (by decide +kernel) (by decide +kernel)
theorem wd_958 : Cond.methodLink RL 200 yL_looksLike ∈ ws0 := ws0_of 958 (by decide +kernel) (by decide +kernel)
theorem wd_959 : Cond.static yL_looksLike ∈ ws0 := ws0_of 959 (by decide +kernel) (by decide +kernel)
theorem wd_960 : Cond.codeWith yL_looksLike cL_looksLike 5 (some .int) [(0, 17, 20, 21), (0, 17, 24, 15)] ∈ ws0 := ws0_of 960 (by decide +kernel) (by decide +kernel)
theorem wd_961 : Cond.methodLink RL 75 yX10_looksLike ∈ ws0 := ws0_of 961 (by decide +kernel) (by decide +kernel)
theorem wd_962 : Cond.instanceMethod yX10_looksLike ∈ ws0 := ws0_of 962 (by decide +kernel) (by decide +kernel)
theorem wd_963 : Cond.selects RX10 yX10_looksLike yX10_looksLike ∈ ws0 := ws0_of 963 (by decide +kernel) (by decide +kernel)
theorem wd_974 : Cond.methodLink RL 203 yL_base ∈ ws0 := ws0_of 974 (by decide +kernel) (by decide +kernel)
theorem wd_975 : Cond.static yL_base ∈ ws0 := ws0_of 975 (by decide +kernel) (by decide +kernel)
theorem wd_976 : Cond.codeWith yL_base cL_base 4 (some .int) [(0, 9, 12, 21)] ∈ ws0 := ws0_of 976 (by decide +kernel) (by decide +kernel)
theorem wd_977 : Cond.methodLink RL 79 yX10_base ∈ ws0 := ws0_of 977 (by decide +kernel) (by decide +kernel)
theorem wd_978 : Cond.instanceMethod yX10_base ∈ ws0 := ws0_of 978 (by decide +kernel) (by decide +kernel)
theorem wd_979 : Cond.selects RX10 yX10_base yX10_base ∈ ws0 := ws0_of 979 (by decide +kernel) (by decide +kernel)
theorem wd_994 : Cond.methodLink RL 206 yL_level ∈ ws0 := ws0_of 994 (by decide +kernel) (by decide +kernel)
theorem wd_995 : Cond.static yL_level ∈ ws0 := ws0_of 995 (by decide +kernel) (by decide +kernel)
theorem wd_996 : Cond.codeWith yL_level cL_level 6 (some .int) [(0, 12, 15, 21), (0, 12, 19, 13)] ∈ ws0 := ws0_of 996 (by decide +kernel) (by decide +kernel)
theorem wd_997 : Cond.methodLink RL 82 yX10_level ∈ ws0 := ws0_of 997 (by decide +kernel) (by decide +kernel)
theorem wd_998 : Cond.instanceMethod yX10_level ∈ ws0 := ws0_of 998 (by decide +kernel) (by decide +kernel)
theorem wd_999 : Cond.selects RX10 yX10_level yX10_level ∈ ws0 := ws0_of 999 (by decide +kernel) (by decide +kernel)
theorem wd_1093 : Cond.methodLink RL 209 yL_shown ∈ ws0 := ws0_of 1093 (by decide +kernel) (by decide +kernel)
theorem wd_1094 : Cond.static yL_shown ∈ ws0 := ws0_of 1094 (by decide +kernel) (by decide +kernel)
theorem wd_1095 : Cond.codeWith yL_shown cL_shown 6 (some .int) [(0, 12, 15, 21), (0, 12, 19, 13)] ∈ ws0 := ws0_of 1095 (by decide +kernel) (by decide +kernel)
theorem wd_1096 : Cond.methodLink RL 85 yX10_shown ∈ ws0 := ws0_of 1096 (by decide +kernel) (by decide +kernel)
theorem wd_1097 : Cond.instanceMethod yX10_shown ∈ ws0 := ws0_of 1097 (by decide +kernel) (by decide +kernel)
theorem wd_1098 : Cond.selects RX10 yX10_shown yX10_shown ∈ ws0 := ws0_of 1098 (by decide +kernel) (by decide +kernel)
theorem wd_1113 : Cond.methodLink RL 212 yL_bySight ∈ ws0 := ws0_of 1113 (by decide +kernel) (by decide +kernel)
theorem wd_1114 : Cond.static yL_bySight ∈ ws0 := ws0_of 1114 (by decide +kernel) (by decide +kernel)
theorem wd_1115 : Cond.codeWith yL_bySight cL_bySight 6 (some .int) [(0, 12, 15, 21)] ∈ ws0 := ws0_of 1115 (by decide +kernel) (by decide +kernel)
theorem wd_1116 : Cond.methodLink RL 88 yX10_bySight ∈ ws0 := ws0_of 1116 (by decide +kernel) (by decide +kernel)
theorem wd_1117 : Cond.instanceMethod yX10_bySight ∈ ws0 := ws0_of 1117 (by decide +kernel) (by decide +kernel)
theorem wd_1118 : Cond.selects RX10 yX10_bySight yX10_bySight ∈ ws0 := ws0_of 1118 (by decide +kernel) (by decide +kernel)
theorem wd_1144 : Cond.methodLink RL 216 yL_breaks ∈ ws0 := ws0_of 1144 (by decide +kernel) (by decide +kernel)
theorem wd_1145 : Cond.static yL_breaks ∈ ws0 := ws0_of 1145 (by decide +kernel) (by decide +kernel)
theorem wd_1146 : Cond.codeWith yL_breaks cL_breaks 5 (some .int) [(0, 9, 12, 21), (0, 9, 16, 13)] ∈ ws0 := ws0_of 1146 (by decide +kernel) (by decide +kernel)
theorem wd_1147 : Cond.methodLink RL 92 yX10_breaks ∈ ws0 := ws0_of 1147 (by decide +kernel) (by decide +kernel)
theorem wd_1148 : Cond.instanceMethod yX10_breaks ∈ ws0 := ws0_of 1148 (by decide +kernel) (by decide +kernel)
theorem wd_1149 : Cond.selects RX10 yX10_breaks yX10_breaks ∈ ws0 := ws0_of 1149 (by decide +kernel) (by decide +kernel)
theorem wd_1184 : Cond.methodLink RL 219 yL_bySense ∈ ws0 := ws0_of 1184 (by decide +kernel) (by decide +kernel)
theorem wd_1185 : Cond.static yL_bySense ∈ ws0 := ws0_of 1185 (by decide +kernel) (by decide +kernel)
theorem wd_1186 : Cond.codeWith yL_bySense cL_bySense 6 (some .int) [(0, 12, 15, 21)] ∈ ws0 := ws0_of 1186 (by decide +kernel) (by decide +kernel)
theorem wd_1187 : Cond.methodLink RL 96 yX10_bySense ∈ ws0 := ws0_of 1187 (by decide +kernel) (by decide +kernel)
theorem wd_1188 : Cond.instanceMethod yX10_bySense ∈ ws0 := ws0_of 1188 (by decide +kernel) (by decide +kernel)
theorem wd_1189 : Cond.selects RX10 yX10_bySense yX10_bySense ∈ ws0 := ws0_of 1189 (by decide +kernel) (by decide +kernel)
theorem wd_1191 : Cond.methodLink RL 222 yL_compare ∈ ws0 := ws0_of 1191 (by decide +kernel) (by decide +kernel)
theorem wd_1192 : Cond.static yL_compare ∈ ws0 := ws0_of 1192 (by decide +kernel) (by decide +kernel)
theorem wd_1193 : Cond.codeWith yL_compare cL_compare 6 (some .int) [(0, 12, 15, 21), (0, 12, 19, 15)] ∈ ws0 := ws0_of 1193 (by decide +kernel) (by decide +kernel)
theorem wd_1194 : Cond.methodLink RL 99 yX10_compare ∈ ws0 := ws0_of 1194 (by decide +kernel) (by decide +kernel)
theorem wd_1195 : Cond.instanceMethod yX10_compare ∈ ws0 := ws0_of 1195 (by decide +kernel) (by decide +kernel)
theorem wd_1196 : Cond.selects RX10 yX10_compare yX10_compare ∈ ws0 := ws0_of 1196 (by decide +kernel) (by decide +kernel)
theorem wd_1218 : Cond.methodLink RL 225 yL_key ∈ ws0 := ws0_of 1218 (by decide +kernel) (by decide +kernel)
theorem wd_1219 : Cond.static yL_key ∈ ws0 := ws0_of 1219 (by decide +kernel) (by decide +kernel)
theorem wd_1220 : Cond.codeWith yL_key cL_key 6 (some .int) [(0, 12, 15, 21), (0, 12, 19, 15)] ∈ ws0 := ws0_of 1220 (by decide +kernel) (by decide +kernel)
theorem wd_1221 : Cond.methodLink RL 102 yX10_key ∈ ws0 := ws0_of 1221 (by decide +kernel) (by decide +kernel)
theorem wd_1222 : Cond.instanceMethod yX10_key ∈ ws0 := ws0_of 1222 (by decide +kernel) (by decide +kernel)
theorem wd_1223 : Cond.selects RX10 yX10_key yX10_key ∈ ws0 := ws0_of 1223 (by decide +kernel) (by decide +kernel)
theorem wd_1229 : Cond.methodLink RL 228 yL_find ∈ ws0 := ws0_of 1229 (by decide +kernel) (by decide +kernel)
theorem wd_1230 : Cond.static yL_find ∈ ws0 := ws0_of 1230 (by decide +kernel) (by decide +kernel)
theorem wd_1231 : Cond.codeWith yL_find cL_find 6 (some .int) [(0, 12, 15, 21), (0, 12, 19, 13), (0, 12, 23, 15)] ∈ ws0 := ws0_of 1231 (by decide +kernel) (by decide +kernel)
theorem wd_1232 : Cond.methodLink RL 105 yX10_find ∈ ws0 := ws0_of 1232 (by decide +kernel) (by decide +kernel)
theorem wd_1233 : Cond.instanceMethod yX10_find ∈ ws0 := ws0_of 1233 (by decide +kernel) (by decide +kernel)
theorem wd_1234 : Cond.selects RX10 yX10_find yX10_find ∈ ws0 := ws0_of 1234 (by decide +kernel) (by decide +kernel)
theorem wd_1246 : Cond.methodLink RL 231 yL_pattern ∈ ws0 := ws0_of 1246 (by decide +kernel) (by decide +kernel)
theorem wd_1247 : Cond.static yL_pattern ∈ ws0 := ws0_of 1247 (by decide +kernel) (by decide +kernel)
theorem wd_1248 : Cond.codeWith yL_pattern cL_pattern 3 (some .int) [(0, 8, 11, 15)] ∈ ws0 := ws0_of 1248 (by decide +kernel) (by decide +kernel)
theorem wd_1249 : Cond.methodLink RL 108 yX10_pattern ∈ ws0 := ws0_of 1249 (by decide +kernel) (by decide +kernel)
theorem wd_1250 : Cond.instanceMethod yX10_pattern ∈ ws0 := ws0_of 1250 (by decide +kernel) (by decide +kernel)
theorem wd_1251 : Cond.selects RX10 yX10_pattern yX10_pattern ∈ ws0 := ws0_of 1251 (by decide +kernel) (by decide +kernel)
theorem wd_1283 : Cond.methodLink RL 234 yL_match ∈ ws0 := ws0_of 1283 (by decide +kernel) (by decide +kernel)
theorem wd_1284 : Cond.static yL_match ∈ ws0 := ws0_of 1284 (by decide +kernel) (by decide +kernel)
theorem wd_1285 : Cond.codeWith yL_match cL_match 5 (some .int) [(0, 10, 13, 21), (0, 10, 17, 15)] ∈ ws0 := ws0_of 1285 (by decide +kernel) (by decide +kernel)
theorem wd_1286 : Cond.methodLink RL 111 yX10_match ∈ ws0 := ws0_of 1286 (by decide +kernel) (by decide +kernel)
theorem wd_1287 : Cond.instanceMethod yX10_match ∈ ws0 := ws0_of 1287 (by decide +kernel) (by decide +kernel)
theorem wd_1288 : Cond.selects RX10 yX10_match yX10_match ∈ ws0 := ws0_of 1288 (by decide +kernel) (by decide +kernel)
theorem wd_1320 : Cond.methodLink RL 237 yL_transliterate ∈ ws0 := ws0_of 1320 (by decide +kernel) (by decide +kernel)
theorem wd_1321 : Cond.static yL_transliterate ∈ ws0 := ws0_of 1321 (by decide +kernel) (by decide +kernel)
theorem wd_1322 : Cond.codeWith yL_transliterate cL_transliterate 6 (some .int) [(0, 12, 15, 21), (0, 12, 19, 15)] ∈ ws0 := ws0_of 1322 (by decide +kernel) (by decide +kernel)
theorem wd_1323 : Cond.methodLink RL 114 yX10_transliterate ∈ ws0 := ws0_of 1323 (by decide +kernel) (by decide +kernel)
theorem wd_1324 : Cond.instanceMethod yX10_transliterate ∈ ws0 := ws0_of 1324 (by decide +kernel) (by decide +kernel)
theorem wd_1325 : Cond.selects RX10 yX10_transliterate yX10_transliterate ∈ ws0 := ws0_of 1325 (by decide +kernel) (by decide +kernel)
theorem wd_1357 : Cond.methodLink RL 240 yL_classOf ∈ ws0 := ws0_of 1357 (by decide +kernel) (by decide +kernel)
theorem wd_1358 : Cond.static yL_classOf ∈ ws0 := ws0_of 1358 (by decide +kernel) (by decide +kernel)
theorem wd_1359 : Cond.codeWith yL_classOf cL_classOf 5 (some .int) [(0, 10, 13, 21), (0, 10, 17, 13)] ∈ ws0 := ws0_of 1359 (by decide +kernel) (by decide +kernel)
theorem wd_1360 : Cond.methodLink RL 117 yX10_classOf ∈ ws0 := ws0_of 1360 (by decide +kernel) (by decide +kernel)
theorem wd_1361 : Cond.instanceMethod yX10_classOf ∈ ws0 := ws0_of 1361 (by decide +kernel) (by decide +kernel)
theorem wd_1362 : Cond.selects RX10 yX10_classOf yX10_classOf ∈ ws0 := ws0_of 1362 (by decide +kernel) (by decide +kernel)
theorem wd_1384 : Cond.methodLink RL 243 yL_message ∈ ws0 := ws0_of 1384 (by decide +kernel) (by decide +kernel)
theorem wd_1385 : Cond.static yL_message ∈ ws0 := ws0_of 1385 (by decide +kernel) (by decide +kernel)
theorem wd_1386 : Cond.codeWith yL_message cL_message 8 (some .int) [(0, 16, 19, 21), (0, 16, 23, 13), (0, 16, 27, 15)] ∈ ws0 := ws0_of 1386 (by decide +kernel) (by decide +kernel)
theorem wd_1387 : Cond.methodLink RL 120 yX10_message ∈ ws0 := ws0_of 1387 (by decide +kernel) (by decide +kernel)
theorem wd_1388 : Cond.instanceMethod yX10_message ∈ ws0 := ws0_of 1388 (by decide +kernel) (by decide +kernel)
theorem wd_1389 : Cond.selects RX10 yX10_message yX10_message ∈ ws0 := ws0_of 1389 (by decide +kernel) (by decide +kernel)
theorem wd_1446 : Cond.methodLink RL 251 yL_encode ∈ ws0 := ws0_of 1446 (by decide +kernel) (by decide +kernel)
theorem wd_1447 : Cond.static yL_encode ∈ ws0 := ws0_of 1447 (by decide +kernel) (by decide +kernel)
theorem wd_1448 : Cond.codeWith yL_encode cL_encode 4 (some .int) [(0, 9, 12, 21)] ∈ ws0 := ws0_of 1448 (by decide +kernel) (by decide +kernel)
theorem wd_1449 : Cond.methodLink RL 123 yX10_encode ∈ ws0 := ws0_of 1449 (by decide +kernel) (by decide +kernel)
theorem wd_1450 : Cond.instanceMethod yX10_encode ∈ ws0 := ws0_of 1450 (by decide +kernel) (by decide +kernel)
theorem wd_1451 : Cond.selects RX10 yX10_encode yX10_encode ∈ ws0 := ws0_of 1451 (by decide +kernel) (by decide +kernel)
theorem wd_1453 : Cond.methodLink RL 254 yL_decode ∈ ws0 := ws0_of 1453 (by decide +kernel) (by decide +kernel)
theorem wd_1454 : Cond.static yL_decode ∈ ws0 := ws0_of 1454 (by decide +kernel) (by decide +kernel)
theorem wd_1455 : Cond.codeWith yL_decode cL_decode 4 (some .int) [(0, 9, 12, 21), (0, 9, 15, 15)] ∈ ws0 := ws0_of 1455 (by decide +kernel) (by decide +kernel)
theorem wd_1456 : Cond.methodLink RL 126 yX10_decode ∈ ws0 := ws0_of 1456 (by decide +kernel) (by decide +kernel)
theorem wd_1457 : Cond.instanceMethod yX10_decode ∈ ws0 := ws0_of 1457 (by decide +kernel) (by decide +kernel)
theorem wd_1458 : Cond.selects RX10 yX10_decode yX10_decode ∈ ws0 := ws0_of 1458 (by decide +kernel) (by decide +kernel)
theorem wd_1608 : Cond.methodLink RL 141 yX11_thrown ∈ ws0 := ws0_of 1608 (by decide +kernel) (by decide +kernel)
theorem wd_1609 : Cond.instanceMethod yX11_thrown ∈ ws0 := ws0_of 1609 (by decide +kernel) (by decide +kernel)
theorem wd_1610 : Cond.selects RX11 yX11_thrown yX11_thrown ∈ ws0 := ws0_of 1610 (by decide +kernel) (by decide +kernel)
theorem wd_1612 : Cond.methodLink RL 140 yX11_feed ∈ ws0 := ws0_of 1612 (by decide +kernel) (by decide +kernel)
theorem wd_1613 : Cond.instanceMethod yX11_feed ∈ ws0 := ws0_of 1613 (by decide +kernel) (by decide +kernel)
theorem wd_1614 : Cond.selects RX11 yX11_feed yX11_feed ∈ ws0 := ws0_of 1614 (by decide +kernel) (by decide +kernel)
theorem wd_1624 : Cond.methodLink RL 147 yX11_letter ∈ ws0 := ws0_of 1624 (by decide +kernel) (by decide +kernel)
theorem wd_1625 : Cond.instanceMethod yX11_letter ∈ ws0 := ws0_of 1625 (by decide +kernel) (by decide +kernel)
theorem wd_1626 : Cond.selects RX11 yX11_letter yX11_letter ∈ ws0 := ws0_of 1626 (by decide +kernel) (by decide +kernel)
theorem wd_1631 : Cond.methodLink RL 151 yX11_split ∈ ws0 := ws0_of 1631 (by decide +kernel) (by decide +kernel)
theorem wd_1632 : Cond.instanceMethod yX11_split ∈ ws0 := ws0_of 1632 (by decide +kernel) (by decide +kernel)
theorem wd_1633 : Cond.selects RX11 yX11_split yX11_split ∈ ws0 := ws0_of 1633 (by decide +kernel) (by decide +kernel)
theorem wd_1635 : Cond.methodLink RL 154 yX11_capital ∈ ws0 := ws0_of 1635 (by decide +kernel) (by decide +kernel)
theorem wd_1636 : Cond.instanceMethod yX11_capital ∈ ws0 := ws0_of 1636 (by decide +kernel) (by decide +kernel)
theorem wd_1637 : Cond.selects RX11 yX11_capital yX11_capital ∈ ws0 := ws0_of 1637 (by decide +kernel) (by decide +kernel)
theorem wd_1639 : Cond.methodLink RL 158 yX11_partners ∈ ws0 := ws0_of 1639 (by decide +kernel) (by decide +kernel)
theorem wd_1640 : Cond.instanceMethod yX11_partners ∈ ws0 := ws0_of 1640 (by decide +kernel) (by decide +kernel)
theorem wd_1641 : Cond.selects RX11 yX11_partners yX11_partners ∈ ws0 := ws0_of 1641 (by decide +kernel) (by decide +kernel)
theorem wd_1647 : Cond.methodLink RL 161 yX11_weigh ∈ ws0 := ws0_of 1647 (by decide +kernel) (by decide +kernel)
theorem wd_1648 : Cond.instanceMethod yX11_weigh ∈ ws0 := ws0_of 1648 (by decide +kernel) (by decide +kernel)
theorem wd_1649 : Cond.selects RX11 yX11_weigh yX11_weigh ∈ ws0 := ws0_of 1649 (by decide +kernel) (by decide +kernel)
theorem wd_1661 : Cond.methodLink RL 165 yX11_contract ∈ ws0 := ws0_of 1661 (by decide +kernel) (by decide +kernel)
theorem wd_1662 : Cond.instanceMethod yX11_contract ∈ ws0 := ws0_of 1662 (by decide +kernel) (by decide +kernel)
theorem wd_1663 : Cond.selects RX11 yX11_contract yX11_contract ∈ ws0 := ws0_of 1663 (by decide +kernel) (by decide +kernel)
theorem wd_1669 : Cond.methodLink RL 169 yX11_plural ∈ ws0 := ws0_of 1669 (by decide +kernel) (by decide +kernel)
theorem wd_1670 : Cond.instanceMethod yX11_plural ∈ ws0 := ws0_of 1670 (by decide +kernel) (by decide +kernel)
theorem wd_1671 : Cond.selects RX11 yX11_plural yX11_plural ∈ ws0 := ws0_of 1671 (by decide +kernel) (by decide +kernel)
theorem wd_1673 : Cond.methodLink RL 173 yX11_addWord ∈ ws0 := ws0_of 1673 (by decide +kernel) (by decide +kernel)
theorem wd_1674 : Cond.instanceMethod yX11_addWord ∈ ws0 := ws0_of 1674 (by decide +kernel) (by decide +kernel)
theorem wd_1675 : Cond.selects RX11 yX11_addWord yX11_addWord ∈ ws0 := ws0_of 1675 (by decide +kernel) (by decide +kernel)
theorem wd_1684 : Cond.methodLink RL 177 yX11_addRule ∈ ws0 := ws0_of 1684 (by decide +kernel) (by decide +kernel)
theorem wd_1685 : Cond.instanceMethod yX11_addRule ∈ ws0 := ws0_of 1685 (by decide +kernel) (by decide +kernel)
theorem wd_1686 : Cond.selects RX11 yX11_addRule yX11_addRule ∈ ws0 := ws0_of 1686 (by decide +kernel) (by decide +kernel)
theorem wd_1692 : Cond.methodLink RL 181 yX11_save ∈ ws0 := ws0_of 1692 (by decide +kernel) (by decide +kernel)
theorem wd_1693 : Cond.instanceMethod yX11_save ∈ ws0 := ws0_of 1693 (by decide +kernel) (by decide +kernel)
theorem wd_1694 : Cond.selects RX11 yX11_save yX11_save ∈ ws0 := ws0_of 1694 (by decide +kernel) (by decide +kernel)
theorem wd_1696 : Cond.methodLink RL 185 yX11_use ∈ ws0 := ws0_of 1696 (by decide +kernel) (by decide +kernel)
theorem wd_1697 : Cond.instanceMethod yX11_use ∈ ws0 := ws0_of 1697 (by decide +kernel) (by decide +kernel)
theorem wd_1698 : Cond.selects RX11 yX11_use yX11_use ∈ ws0 := ws0_of 1698 (by decide +kernel) (by decide +kernel)
theorem wd_1700 : Cond.methodLink RL 189 yX11_put ∈ ws0 := ws0_of 1700 (by decide +kernel) (by decide +kernel)
theorem wd_1701 : Cond.instanceMethod yX11_put ∈ ws0 := ws0_of 1701 (by decide +kernel) (by decide +kernel)
theorem wd_1702 : Cond.selects RX11 yX11_put yX11_put ∈ ws0 := ws0_of 1702 (by decide +kernel) (by decide +kernel)
theorem wd_1704 : Cond.methodLink RL 192 yX11_clear ∈ ws0 := ws0_of 1704 (by decide +kernel) (by decide +kernel)
theorem wd_1705 : Cond.instanceMethod yX11_clear ∈ ws0 := ws0_of 1705 (by decide +kernel) (by decide +kernel)
theorem wd_1706 : Cond.selects RX11 yX11_clear yX11_clear ∈ ws0 := ws0_of 1706 (by decide +kernel) (by decide +kernel)
theorem wd_1708 : Cond.methodLink RL 195 yX11_at ∈ ws0 := ws0_of 1708 (by decide +kernel) (by decide +kernel)
theorem wd_1709 : Cond.instanceMethod yX11_at ∈ ws0 := ws0_of 1709 (by decide +kernel) (by decide +kernel)
theorem wd_1710 : Cond.selects RX11 yX11_at yX11_at ∈ ws0 := ws0_of 1710 (by decide +kernel) (by decide +kernel)
theorem wd_1712 : Cond.methodLink RL 199 yX11_form ∈ ws0 := ws0_of 1712 (by decide +kernel) (by decide +kernel)
theorem wd_1713 : Cond.instanceMethod yX11_form ∈ ws0 := ws0_of 1713 (by decide +kernel) (by decide +kernel)
theorem wd_1714 : Cond.selects RX11 yX11_form yX11_form ∈ ws0 := ws0_of 1714 (by decide +kernel) (by decide +kernel)
theorem wd_1752 : Cond.methodLink RL 202 yX11_looksLike ∈ ws0 := ws0_of 1752 (by decide +kernel) (by decide +kernel)
theorem wd_1753 : Cond.instanceMethod yX11_looksLike ∈ ws0 := ws0_of 1753 (by decide +kernel) (by decide +kernel)
theorem wd_1754 : Cond.selects RX11 yX11_looksLike yX11_looksLike ∈ ws0 := ws0_of 1754 (by decide +kernel) (by decide +kernel)
theorem wd_1764 : Cond.methodLink RL 205 yX11_base ∈ ws0 := ws0_of 1764 (by decide +kernel) (by decide +kernel)
theorem wd_1765 : Cond.instanceMethod yX11_base ∈ ws0 := ws0_of 1765 (by decide +kernel) (by decide +kernel)
theorem wd_1766 : Cond.selects RX11 yX11_base yX11_base ∈ ws0 := ws0_of 1766 (by decide +kernel) (by decide +kernel)
theorem wd_1780 : Cond.methodLink RL 208 yX11_level ∈ ws0 := ws0_of 1780 (by decide +kernel) (by decide +kernel)
theorem wd_1781 : Cond.instanceMethod yX11_level ∈ ws0 := ws0_of 1781 (by decide +kernel) (by decide +kernel)
theorem wd_1782 : Cond.selects RX11 yX11_level yX11_level ∈ ws0 := ws0_of 1782 (by decide +kernel) (by decide +kernel)
theorem wd_1820 : Cond.methodLink RL 211 yX11_shown ∈ ws0 := ws0_of 1820 (by decide +kernel) (by decide +kernel)
theorem wd_1821 : Cond.instanceMethod yX11_shown ∈ ws0 := ws0_of 1821 (by decide +kernel) (by decide +kernel)
theorem wd_1822 : Cond.selects RX11 yX11_shown yX11_shown ∈ ws0 := ws0_of 1822 (by decide +kernel) (by decide +kernel)
theorem wd_1828 : Cond.methodLink RL 215 yX11_bySight ∈ ws0 := ws0_of 1828 (by decide +kernel) (by decide +kernel)
theorem wd_1829 : Cond.instanceMethod yX11_bySight ∈ ws0 := ws0_of 1829 (by decide +kernel) (by decide +kernel)
theorem wd_1830 : Cond.selects RX11 yX11_bySight yX11_bySight ∈ ws0 := ws0_of 1830 (by decide +kernel) (by decide +kernel)
theorem wd_1840 : Cond.methodLink RL 218 yX11_breaks ∈ ws0 := ws0_of 1840 (by decide +kernel) (by decide +kernel)
theorem wd_1841 : Cond.instanceMethod yX11_breaks ∈ ws0 := ws0_of 1841 (by decide +kernel) (by decide +kernel)
theorem wd_1842 : Cond.selects RX11 yX11_breaks yX11_breaks ∈ ws0 := ws0_of 1842 (by decide +kernel) (by decide +kernel)
theorem wd_1868 : Cond.methodLink RL 221 yX11_bySense ∈ ws0 := ws0_of 1868 (by decide +kernel) (by decide +kernel)
theorem wd_1869 : Cond.instanceMethod yX11_bySense ∈ ws0 := ws0_of 1869 (by decide +kernel) (by decide +kernel)
theorem wd_1870 : Cond.selects RX11 yX11_bySense yX11_bySense ∈ ws0 := ws0_of 1870 (by decide +kernel) (by decide +kernel)
theorem wd_1872 : Cond.methodLink RL 224 yX11_compare ∈ ws0 := ws0_of 1872 (by decide +kernel) (by decide +kernel)
theorem wd_1873 : Cond.instanceMethod yX11_compare ∈ ws0 := ws0_of 1873 (by decide +kernel) (by decide +kernel)
theorem wd_1874 : Cond.selects RX11 yX11_compare yX11_compare ∈ ws0 := ws0_of 1874 (by decide +kernel) (by decide +kernel)
theorem wd_1884 : Cond.methodLink RL 227 yX11_key ∈ ws0 := ws0_of 1884 (by decide +kernel) (by decide +kernel)
theorem wd_1885 : Cond.instanceMethod yX11_key ∈ ws0 := ws0_of 1885 (by decide +kernel) (by decide +kernel)
theorem wd_1886 : Cond.selects RX11 yX11_key yX11_key ∈ ws0 := ws0_of 1886 (by decide +kernel) (by decide +kernel)
theorem wd_1888 : Cond.methodLink RL 230 yX11_find ∈ ws0 := ws0_of 1888 (by decide +kernel) (by decide +kernel)
theorem wd_1889 : Cond.instanceMethod yX11_find ∈ ws0 := ws0_of 1889 (by decide +kernel) (by decide +kernel)
theorem wd_1890 : Cond.selects RX11 yX11_find yX11_find ∈ ws0 := ws0_of 1890 (by decide +kernel) (by decide +kernel)
theorem wd_1896 : Cond.methodLink RL 233 yX11_pattern ∈ ws0 := ws0_of 1896 (by decide +kernel) (by decide +kernel)
theorem wd_1897 : Cond.instanceMethod yX11_pattern ∈ ws0 := ws0_of 1897 (by decide +kernel) (by decide +kernel)
theorem wd_1898 : Cond.selects RX11 yX11_pattern yX11_pattern ∈ ws0 := ws0_of 1898 (by decide +kernel) (by decide +kernel)
theorem wd_1912 : Cond.methodLink RL 236 yX11_match ∈ ws0 := ws0_of 1912 (by decide +kernel) (by decide +kernel)
theorem wd_1913 : Cond.instanceMethod yX11_match ∈ ws0 := ws0_of 1913 (by decide +kernel) (by decide +kernel)
theorem wd_1914 : Cond.selects RX11 yX11_match yX11_match ∈ ws0 := ws0_of 1914 (by decide +kernel) (by decide +kernel)
theorem wd_1932 : Cond.methodLink RL 239 yX11_transliterate ∈ ws0 := ws0_of 1932 (by decide +kernel) (by decide +kernel)
theorem wd_1933 : Cond.instanceMethod yX11_transliterate ∈ ws0 := ws0_of 1933 (by decide +kernel) (by decide +kernel)
theorem wd_1934 : Cond.selects RX11 yX11_transliterate yX11_transliterate ∈ ws0 := ws0_of 1934 (by decide +kernel) (by decide +kernel)
theorem wd_1952 : Cond.methodLink RL 242 yX11_classOf ∈ ws0 := ws0_of 1952 (by decide +kernel) (by decide +kernel)
theorem wd_1953 : Cond.instanceMethod yX11_classOf ∈ ws0 := ws0_of 1953 (by decide +kernel) (by decide +kernel)
theorem wd_1954 : Cond.selects RX11 yX11_classOf yX11_classOf ∈ ws0 := ws0_of 1954 (by decide +kernel) (by decide +kernel)
theorem wd_1961 : Cond.methodLink RL 245 yX11_message ∈ ws0 := ws0_of 1961 (by decide +kernel) (by decide +kernel)
theorem wd_1962 : Cond.instanceMethod yX11_message ∈ ws0 := ws0_of 1962 (by decide +kernel) (by decide +kernel)
theorem wd_1963 : Cond.selects RX11 yX11_message yX11_message ∈ ws0 := ws0_of 1963 (by decide +kernel) (by decide +kernel)
theorem wd_1985 : Cond.methodLink RL 250 yX11_word ∈ ws0 := ws0_of 1985 (by decide +kernel) (by decide +kernel)
theorem wd_1986 : Cond.instanceMethod yX11_word ∈ ws0 := ws0_of 1986 (by decide +kernel) (by decide +kernel)
theorem wd_1987 : Cond.selects RX11 yX11_word yX11_word ∈ ws0 := ws0_of 1987 (by decide +kernel) (by decide +kernel)
theorem wd_1989 : Cond.methodLink RL 253 yX11_encode ∈ ws0 := ws0_of 1989 (by decide +kernel) (by decide +kernel)
theorem wd_1990 : Cond.instanceMethod yX11_encode ∈ ws0 := ws0_of 1990 (by decide +kernel) (by decide +kernel)
theorem wd_1991 : Cond.selects RX11 yX11_encode yX11_encode ∈ ws0 := ws0_of 1991 (by decide +kernel) (by decide +kernel)
theorem wd_1993 : Cond.methodLink RL 256 yX11_decode ∈ ws0 := ws0_of 1993 (by decide +kernel) (by decide +kernel)
theorem wd_1994 : Cond.instanceMethod yX11_decode ∈ ws0 := ws0_of 1994 (by decide +kernel) (by decide +kernel)
theorem wd_1995 : Cond.selects RX11 yX11_decode yX11_decode ∈ ws0 := ws0_of 1995 (by decide +kernel) (by decide +kernel)
theorem wd_2001 : Cond.constantLong RL 133 4294967295 ∈ ws0 := ws0_of 2001 (by decide +kernel) (by decide +kernel)
theorem kc_746 : KD 746 = 22 := by decide +kernel
theorem yd_L_addRule : yL_addRule.cls ≠ "java/lang/invoke/MethodHandle" ∧ yL_addRule.cls ≠ "java/lang/invoke/VarHandle" ∧ (parseMethodDescriptor yL_addRule.desc).map (fun d => d.parameters.length) = some 7 := ⟨by decide +kernel, by decide +kernel, by decide +kernel⟩
theorem yd_L_addWord : yL_addWord.cls ≠ "java/lang/invoke/MethodHandle" ∧ yL_addWord.cls ≠ "java/lang/invoke/VarHandle" ∧ (parseMethodDescriptor yL_addWord.desc).map (fun d => d.parameters.length) = some 3 := ⟨by decide +kernel, by decide +kernel, by decide +kernel⟩
theorem yd_L_at : yL_at.cls ≠ "java/lang/invoke/MethodHandle" ∧ yL_at.cls ≠ "java/lang/invoke/VarHandle" ∧ (parseMethodDescriptor yL_at.desc).map (fun d => d.parameters.length) = some 4 := ⟨by decide +kernel, by decide +kernel, by decide +kernel⟩
theorem yd_L_base : yL_base.cls ≠ "java/lang/invoke/MethodHandle" ∧ yL_base.cls ≠ "java/lang/invoke/VarHandle" ∧ (parseMethodDescriptor yL_base.desc).map (fun d => d.parameters.length) = some 3 := ⟨by decide +kernel, by decide +kernel, by decide +kernel⟩
theorem yd_L_breaks : yL_breaks.cls ≠ "java/lang/invoke/MethodHandle" ∧ yL_breaks.cls ≠ "java/lang/invoke/VarHandle" ∧ (parseMethodDescriptor yL_breaks.desc).map (fun d => d.parameters.length) = some 4 := ⟨by decide +kernel, by decide +kernel, by decide +kernel⟩
theorem yd_L_bySense : yL_bySense.cls ≠ "java/lang/invoke/MethodHandle" ∧ yL_bySense.cls ≠ "java/lang/invoke/VarHandle" ∧ (parseMethodDescriptor yL_bySense.desc).map (fun d => d.parameters.length) = some 5 := ⟨by decide +kernel, by decide +kernel, by decide +kernel⟩
theorem yd_L_bySight : yL_bySight.cls ≠ "java/lang/invoke/MethodHandle" ∧ yL_bySight.cls ≠ "java/lang/invoke/VarHandle" ∧ (parseMethodDescriptor yL_bySight.desc).map (fun d => d.parameters.length) = some 5 := ⟨by decide +kernel, by decide +kernel, by decide +kernel⟩
theorem yd_L_capital : yL_capital.cls ≠ "java/lang/invoke/MethodHandle" ∧ yL_capital.cls ≠ "java/lang/invoke/VarHandle" ∧ (parseMethodDescriptor yL_capital.desc).map (fun d => d.parameters.length) = some 4 := ⟨by decide +kernel, by decide +kernel, by decide +kernel⟩
theorem yd_L_classOf : yL_classOf.cls ≠ "java/lang/invoke/MethodHandle" ∧ yL_classOf.cls ≠ "java/lang/invoke/VarHandle" ∧ (parseMethodDescriptor yL_classOf.desc).map (fun d => d.parameters.length) = some 4 := ⟨by decide +kernel, by decide +kernel, by decide +kernel⟩
theorem yd_L_clear : yL_clear.cls ≠ "java/lang/invoke/MethodHandle" ∧ yL_clear.cls ≠ "java/lang/invoke/VarHandle" ∧ (parseMethodDescriptor yL_clear.desc).map (fun d => d.parameters.length) = some 3 := ⟨by decide +kernel, by decide +kernel, by decide +kernel⟩
theorem yd_L_compare : yL_compare.cls ≠ "java/lang/invoke/MethodHandle" ∧ yL_compare.cls ≠ "java/lang/invoke/VarHandle" ∧ (parseMethodDescriptor yL_compare.desc).map (fun d => d.parameters.length) = some 5 := ⟨by decide +kernel, by decide +kernel, by decide +kernel⟩
theorem yd_L_contract : yL_contract.cls ≠ "java/lang/invoke/MethodHandle" ∧ yL_contract.cls ≠ "java/lang/invoke/VarHandle" ∧ (parseMethodDescriptor yL_contract.desc).map (fun d => d.parameters.length) = some 8 := ⟨by decide +kernel, by decide +kernel, by decide +kernel⟩
theorem yd_L_decode : yL_decode.cls ≠ "java/lang/invoke/MethodHandle" ∧ yL_decode.cls ≠ "java/lang/invoke/VarHandle" ∧ (parseMethodDescriptor yL_decode.desc).map (fun d => d.parameters.length) = some 3 := ⟨by decide +kernel, by decide +kernel, by decide +kernel⟩
theorem yd_L_encode : yL_encode.cls ≠ "java/lang/invoke/MethodHandle" ∧ yL_encode.cls ≠ "java/lang/invoke/VarHandle" ∧ (parseMethodDescriptor yL_encode.desc).map (fun d => d.parameters.length) = some 3 := ⟨by decide +kernel, by decide +kernel, by decide +kernel⟩
theorem yd_L_feed : yL_feed.cls ≠ "java/lang/invoke/MethodHandle" ∧ yL_feed.cls ≠ "java/lang/invoke/VarHandle" ∧ (parseMethodDescriptor yL_feed.desc).map (fun d => d.parameters.length) = some 4 := ⟨by decide +kernel, by decide +kernel, by decide +kernel⟩
theorem yd_L_find : yL_find.cls ≠ "java/lang/invoke/MethodHandle" ∧ yL_find.cls ≠ "java/lang/invoke/VarHandle" ∧ (parseMethodDescriptor yL_find.desc).map (fun d => d.parameters.length) = some 5 := ⟨by decide +kernel, by decide +kernel, by decide +kernel⟩
theorem yd_L_form : yL_form.cls ≠ "java/lang/invoke/MethodHandle" ∧ yL_form.cls ≠ "java/lang/invoke/VarHandle" ∧ (parseMethodDescriptor yL_form.desc).map (fun d => d.parameters.length) = some 5 := ⟨by decide +kernel, by decide +kernel, by decide +kernel⟩
theorem yd_L_key : yL_key.cls ≠ "java/lang/invoke/MethodHandle" ∧ yL_key.cls ≠ "java/lang/invoke/VarHandle" ∧ (parseMethodDescriptor yL_key.desc).map (fun d => d.parameters.length) = some 5 := ⟨by decide +kernel, by decide +kernel, by decide +kernel⟩
theorem yd_L_letter : yL_letter.cls ≠ "java/lang/invoke/MethodHandle" ∧ yL_letter.cls ≠ "java/lang/invoke/VarHandle" ∧ (parseMethodDescriptor yL_letter.desc).map (fun d => d.parameters.length) = some 6 := ⟨by decide +kernel, by decide +kernel, by decide +kernel⟩
theorem yd_L_level : yL_level.cls ≠ "java/lang/invoke/MethodHandle" ∧ yL_level.cls ≠ "java/lang/invoke/VarHandle" ∧ (parseMethodDescriptor yL_level.desc).map (fun d => d.parameters.length) = some 5 := ⟨by decide +kernel, by decide +kernel, by decide +kernel⟩
theorem yd_L_looksLike : yL_looksLike.cls ≠ "java/lang/invoke/MethodHandle" ∧ yL_looksLike.cls ≠ "java/lang/invoke/VarHandle" ∧ (parseMethodDescriptor yL_looksLike.desc).map (fun d => d.parameters.length) = some 4 := ⟨by decide +kernel, by decide +kernel, by decide +kernel⟩
theorem yd_L_match : yL_match.cls ≠ "java/lang/invoke/MethodHandle" ∧ yL_match.cls ≠ "java/lang/invoke/VarHandle" ∧ (parseMethodDescriptor yL_match.desc).map (fun d => d.parameters.length) = some 4 := ⟨by decide +kernel, by decide +kernel, by decide +kernel⟩
theorem yd_L_message : yL_message.cls ≠ "java/lang/invoke/MethodHandle" ∧ yL_message.cls ≠ "java/lang/invoke/VarHandle" ∧ (parseMethodDescriptor yL_message.desc).map (fun d => d.parameters.length) = some 7 := ⟨by decide +kernel, by decide +kernel, by decide +kernel⟩
theorem yd_L_partners : yL_partners.cls ≠ "java/lang/invoke/MethodHandle" ∧ yL_partners.cls ≠ "java/lang/invoke/VarHandle" ∧ (parseMethodDescriptor yL_partners.desc).map (fun d => d.parameters.length) = some 3 := ⟨by decide +kernel, by decide +kernel, by decide +kernel⟩
theorem yd_L_pattern : yL_pattern.cls ≠ "java/lang/invoke/MethodHandle" ∧ yL_pattern.cls ≠ "java/lang/invoke/VarHandle" ∧ (parseMethodDescriptor yL_pattern.desc).map (fun d => d.parameters.length) = some 2 := ⟨by decide +kernel, by decide +kernel, by decide +kernel⟩
theorem yd_L_plural : yL_plural.cls ≠ "java/lang/invoke/MethodHandle" ∧ yL_plural.cls ≠ "java/lang/invoke/VarHandle" ∧ (parseMethodDescriptor yL_plural.desc).map (fun d => d.parameters.length) = some 10 := ⟨by decide +kernel, by decide +kernel, by decide +kernel⟩
theorem yd_L_put : yL_put.cls ≠ "java/lang/invoke/MethodHandle" ∧ yL_put.cls ≠ "java/lang/invoke/VarHandle" ∧ (parseMethodDescriptor yL_put.desc).map (fun d => d.parameters.length) = some 4 := ⟨by decide +kernel, by decide +kernel, by decide +kernel⟩
theorem yd_L_save : yL_save.cls ≠ "java/lang/invoke/MethodHandle" ∧ yL_save.cls ≠ "java/lang/invoke/VarHandle" ∧ (parseMethodDescriptor yL_save.desc).map (fun d => d.parameters.length) = some 2 := ⟨by decide +kernel, by decide +kernel, by decide +kernel⟩
theorem yd_L_shown : yL_shown.cls ≠ "java/lang/invoke/MethodHandle" ∧ yL_shown.cls ≠ "java/lang/invoke/VarHandle" ∧ (parseMethodDescriptor yL_shown.desc).map (fun d => d.parameters.length) = some 5 := ⟨by decide +kernel, by decide +kernel, by decide +kernel⟩
theorem yd_L_split : yL_split.cls ≠ "java/lang/invoke/MethodHandle" ∧ yL_split.cls ≠ "java/lang/invoke/VarHandle" ∧ (parseMethodDescriptor yL_split.desc).map (fun d => d.parameters.length) = some 4 := ⟨by decide +kernel, by decide +kernel, by decide +kernel⟩
theorem yd_L_transliterate : yL_transliterate.cls ≠ "java/lang/invoke/MethodHandle" ∧ yL_transliterate.cls ≠ "java/lang/invoke/VarHandle" ∧ (parseMethodDescriptor yL_transliterate.desc).map (fun d => d.parameters.length) = some 5 := ⟨by decide +kernel, by decide +kernel, by decide +kernel⟩
theorem yd_L_use : yL_use.cls ≠ "java/lang/invoke/MethodHandle" ∧ yL_use.cls ≠ "java/lang/invoke/VarHandle" ∧ (parseMethodDescriptor yL_use.desc).map (fun d => d.parameters.length) = some 2 := ⟨by decide +kernel, by decide +kernel, by decide +kernel⟩
theorem yd_L_weigh : yL_weigh.cls ≠ "java/lang/invoke/MethodHandle" ∧ yL_weigh.cls ≠ "java/lang/invoke/VarHandle" ∧ (parseMethodDescriptor yL_weigh.desc).map (fun d => d.parameters.length) = some 6 := ⟨by decide +kernel, by decide +kernel, by decide +kernel⟩
theorem yd_X10_addRule : yX10_addRule.cls = RX10 ∧ yX10_addRule.cls ≠ "java/lang/invoke/MethodHandle" ∧ yX10_addRule.cls ≠ "java/lang/invoke/VarHandle" ∧ (parseMethodDescriptor yX10_addRule.desc).map (fun d => d.parameters.length) = some 5 := ⟨rfl, by decide +kernel, by decide +kernel, by decide +kernel⟩
theorem yd_X10_addWord : yX10_addWord.cls = RX10 ∧ yX10_addWord.cls ≠ "java/lang/invoke/MethodHandle" ∧ yX10_addWord.cls ≠ "java/lang/invoke/VarHandle" ∧ (parseMethodDescriptor yX10_addWord.desc).map (fun d => d.parameters.length) = some 1 := ⟨rfl, by decide +kernel, by decide +kernel, by decide +kernel⟩
theorem yd_X10_at : yX10_at.cls = RX10 ∧ yX10_at.cls ≠ "java/lang/invoke/MethodHandle" ∧ yX10_at.cls ≠ "java/lang/invoke/VarHandle" ∧ (parseMethodDescriptor yX10_at.desc).map (fun d => d.parameters.length) = some 2 := ⟨rfl, by decide +kernel, by decide +kernel, by decide +kernel⟩
theorem yd_X10_base : yX10_base.cls = RX10 ∧ yX10_base.cls ≠ "java/lang/invoke/MethodHandle" ∧ yX10_base.cls ≠ "java/lang/invoke/VarHandle" ∧ (parseMethodDescriptor yX10_base.desc).map (fun d => d.parameters.length) = some 1 := ⟨rfl, by decide +kernel, by decide +kernel, by decide +kernel⟩
theorem yd_X10_breaks : yX10_breaks.cls = RX10 ∧ yX10_breaks.cls ≠ "java/lang/invoke/MethodHandle" ∧ yX10_breaks.cls ≠ "java/lang/invoke/VarHandle" ∧ (parseMethodDescriptor yX10_breaks.desc).map (fun d => d.parameters.length) = some 2 := ⟨rfl, by decide +kernel, by decide +kernel, by decide +kernel⟩
theorem yd_X10_bySense : yX10_bySense.cls = RX10 ∧ yX10_bySense.cls ≠ "java/lang/invoke/MethodHandle" ∧ yX10_bySense.cls ≠ "java/lang/invoke/VarHandle" ∧ (parseMethodDescriptor yX10_bySense.desc).map (fun d => d.parameters.length) = some 3 := ⟨rfl, by decide +kernel, by decide +kernel, by decide +kernel⟩
theorem yd_X10_bySight : yX10_bySight.cls = RX10 ∧ yX10_bySight.cls ≠ "java/lang/invoke/MethodHandle" ∧ yX10_bySight.cls ≠ "java/lang/invoke/VarHandle" ∧ (parseMethodDescriptor yX10_bySight.desc).map (fun d => d.parameters.length) = some 3 := ⟨rfl, by decide +kernel, by decide +kernel, by decide +kernel⟩
theorem yd_X10_capital : yX10_capital.cls = RX10 ∧ yX10_capital.cls ≠ "java/lang/invoke/MethodHandle" ∧ yX10_capital.cls ≠ "java/lang/invoke/VarHandle" ∧ (parseMethodDescriptor yX10_capital.desc).map (fun d => d.parameters.length) = some 3 := ⟨rfl, by decide +kernel, by decide +kernel, by decide +kernel⟩
theorem yd_X10_classOf : yX10_classOf.cls = RX10 ∧ yX10_classOf.cls ≠ "java/lang/invoke/MethodHandle" ∧ yX10_classOf.cls ≠ "java/lang/invoke/VarHandle" ∧ (parseMethodDescriptor yX10_classOf.desc).map (fun d => d.parameters.length) = some 2 := ⟨rfl, by decide +kernel, by decide +kernel, by decide +kernel⟩
theorem yd_X10_clear : yX10_clear.cls = RX10 ∧ yX10_clear.cls ≠ "java/lang/invoke/MethodHandle" ∧ yX10_clear.cls ≠ "java/lang/invoke/VarHandle" ∧ (parseMethodDescriptor yX10_clear.desc).map (fun d => d.parameters.length) = some 1 := ⟨rfl, by decide +kernel, by decide +kernel, by decide +kernel⟩
theorem yd_X10_compare : yX10_compare.cls = RX10 ∧ yX10_compare.cls ≠ "java/lang/invoke/MethodHandle" ∧ yX10_compare.cls ≠ "java/lang/invoke/VarHandle" ∧ (parseMethodDescriptor yX10_compare.desc).map (fun d => d.parameters.length) = some 3 := ⟨rfl, by decide +kernel, by decide +kernel, by decide +kernel⟩
theorem yd_X10_contract : yX10_contract.cls = RX10 ∧ yX10_contract.cls ≠ "java/lang/invoke/MethodHandle" ∧ yX10_contract.cls ≠ "java/lang/invoke/VarHandle" ∧ (parseMethodDescriptor yX10_contract.desc).map (fun d => d.parameters.length) = some 6 := ⟨rfl, by decide +kernel, by decide +kernel, by decide +kernel⟩
theorem yd_X10_decode : yX10_decode.cls = RX10 ∧ yX10_decode.cls ≠ "java/lang/invoke/MethodHandle" ∧ yX10_decode.cls ≠ "java/lang/invoke/VarHandle" ∧ (parseMethodDescriptor yX10_decode.desc).map (fun d => d.parameters.length) = some 1 := ⟨rfl, by decide +kernel, by decide +kernel, by decide +kernel⟩
theorem yd_X10_encode : yX10_encode.cls = RX10 ∧ yX10_encode.cls ≠ "java/lang/invoke/MethodHandle" ∧ yX10_encode.cls ≠ "java/lang/invoke/VarHandle" ∧ (parseMethodDescriptor yX10_encode.desc).map (fun d => d.parameters.length) = some 1 := ⟨rfl, by decide +kernel, by decide +kernel, by decide +kernel⟩
theorem yd_X10_feed : yX10_feed.cls = RX10 ∧ yX10_feed.cls ≠ "java/lang/invoke/MethodHandle" ∧ yX10_feed.cls ≠ "java/lang/invoke/VarHandle" ∧ (parseMethodDescriptor yX10_feed.desc).map (fun d => d.parameters.length) = some 2 := ⟨rfl, by decide +kernel, by decide +kernel, by decide +kernel⟩
theorem yd_X10_find : yX10_find.cls = RX10 ∧ yX10_find.cls ≠ "java/lang/invoke/MethodHandle" ∧ yX10_find.cls ≠ "java/lang/invoke/VarHandle" ∧ (parseMethodDescriptor yX10_find.desc).map (fun d => d.parameters.length) = some 3 := ⟨rfl, by decide +kernel, by decide +kernel, by decide +kernel⟩
theorem yd_X10_form : yX10_form.cls = RX10 ∧ yX10_form.cls ≠ "java/lang/invoke/MethodHandle" ∧ yX10_form.cls ≠ "java/lang/invoke/VarHandle" ∧ (parseMethodDescriptor yX10_form.desc).map (fun d => d.parameters.length) = some 3 := ⟨rfl, by decide +kernel, by decide +kernel, by decide +kernel⟩
theorem yd_X10_key : yX10_key.cls = RX10 ∧ yX10_key.cls ≠ "java/lang/invoke/MethodHandle" ∧ yX10_key.cls ≠ "java/lang/invoke/VarHandle" ∧ (parseMethodDescriptor yX10_key.desc).map (fun d => d.parameters.length) = some 3 := ⟨rfl, by decide +kernel, by decide +kernel, by decide +kernel⟩
theorem yd_X10_letter : yX10_letter.cls = RX10 ∧ yX10_letter.cls ≠ "java/lang/invoke/MethodHandle" ∧ yX10_letter.cls ≠ "java/lang/invoke/VarHandle" ∧ (parseMethodDescriptor yX10_letter.desc).map (fun d => d.parameters.length) = some 5 := ⟨rfl, by decide +kernel, by decide +kernel, by decide +kernel⟩
theorem yd_X10_level : yX10_level.cls = RX10 ∧ yX10_level.cls ≠ "java/lang/invoke/MethodHandle" ∧ yX10_level.cls ≠ "java/lang/invoke/VarHandle" ∧ (parseMethodDescriptor yX10_level.desc).map (fun d => d.parameters.length) = some 3 := ⟨rfl, by decide +kernel, by decide +kernel, by decide +kernel⟩
theorem yd_X10_looksLike : yX10_looksLike.cls = RX10 ∧ yX10_looksLike.cls ≠ "java/lang/invoke/MethodHandle" ∧ yX10_looksLike.cls ≠ "java/lang/invoke/VarHandle" ∧ (parseMethodDescriptor yX10_looksLike.desc).map (fun d => d.parameters.length) = some 2 := ⟨rfl, by decide +kernel, by decide +kernel, by decide +kernel⟩
theorem yd_X10_match : yX10_match.cls = RX10 ∧ yX10_match.cls ≠ "java/lang/invoke/MethodHandle" ∧ yX10_match.cls ≠ "java/lang/invoke/VarHandle" ∧ (parseMethodDescriptor yX10_match.desc).map (fun d => d.parameters.length) = some 2 := ⟨rfl, by decide +kernel, by decide +kernel, by decide +kernel⟩
theorem yd_X10_message : yX10_message.cls = RX10 ∧ yX10_message.cls ≠ "java/lang/invoke/MethodHandle" ∧ yX10_message.cls ≠ "java/lang/invoke/VarHandle" ∧ (parseMethodDescriptor yX10_message.desc).map (fun d => d.parameters.length) = some 5 := ⟨rfl, by decide +kernel, by decide +kernel, by decide +kernel⟩
theorem yd_X10_partners : yX10_partners.cls = RX10 ∧ yX10_partners.cls ≠ "java/lang/invoke/MethodHandle" ∧ yX10_partners.cls ≠ "java/lang/invoke/VarHandle" ∧ (parseMethodDescriptor yX10_partners.desc).map (fun d => d.parameters.length) = some 2 := ⟨rfl, by decide +kernel, by decide +kernel, by decide +kernel⟩
theorem yd_X10_pattern : yX10_pattern.cls = RX10 ∧ yX10_pattern.cls ≠ "java/lang/invoke/MethodHandle" ∧ yX10_pattern.cls ≠ "java/lang/invoke/VarHandle" ∧ (parseMethodDescriptor yX10_pattern.desc).map (fun d => d.parameters.length) = some 0 := ⟨rfl, by decide +kernel, by decide +kernel, by decide +kernel⟩
theorem yd_X10_plural : yX10_plural.cls = RX10 ∧ yX10_plural.cls ≠ "java/lang/invoke/MethodHandle" ∧ yX10_plural.cls ≠ "java/lang/invoke/VarHandle" ∧ (parseMethodDescriptor yX10_plural.desc).map (fun d => d.parameters.length) = some 8 := ⟨rfl, by decide +kernel, by decide +kernel, by decide +kernel⟩
theorem yd_X10_put : yX10_put.cls = RX10 ∧ yX10_put.cls ≠ "java/lang/invoke/MethodHandle" ∧ yX10_put.cls ≠ "java/lang/invoke/VarHandle" ∧ (parseMethodDescriptor yX10_put.desc).map (fun d => d.parameters.length) = some 2 := ⟨rfl, by decide +kernel, by decide +kernel, by decide +kernel⟩
theorem yd_X10_save : yX10_save.cls = RX10 ∧ yX10_save.cls ≠ "java/lang/invoke/MethodHandle" ∧ yX10_save.cls ≠ "java/lang/invoke/VarHandle" ∧ (parseMethodDescriptor yX10_save.desc).map (fun d => d.parameters.length) = some 0 := ⟨rfl, by decide +kernel, by decide +kernel, by decide +kernel⟩
theorem yd_X10_shown : yX10_shown.cls = RX10 ∧ yX10_shown.cls ≠ "java/lang/invoke/MethodHandle" ∧ yX10_shown.cls ≠ "java/lang/invoke/VarHandle" ∧ (parseMethodDescriptor yX10_shown.desc).map (fun d => d.parameters.length) = some 3 := ⟨rfl, by decide +kernel, by decide +kernel, by decide +kernel⟩
theorem yd_X10_split : yX10_split.cls = RX10 ∧ yX10_split.cls ≠ "java/lang/invoke/MethodHandle" ∧ yX10_split.cls ≠ "java/lang/invoke/VarHandle" ∧ (parseMethodDescriptor yX10_split.desc).map (fun d => d.parameters.length) = some 3 := ⟨rfl, by decide +kernel, by decide +kernel, by decide +kernel⟩
theorem yd_X10_transliterate : yX10_transliterate.cls = RX10 ∧ yX10_transliterate.cls ≠ "java/lang/invoke/MethodHandle" ∧ yX10_transliterate.cls ≠ "java/lang/invoke/VarHandle" ∧ (parseMethodDescriptor yX10_transliterate.desc).map (fun d => d.parameters.length) = some 3 := ⟨rfl, by decide +kernel, by decide +kernel, by decide +kernel⟩
theorem yd_X10_use : yX10_use.cls = RX10 ∧ yX10_use.cls ≠ "java/lang/invoke/MethodHandle" ∧ yX10_use.cls ≠ "java/lang/invoke/VarHandle" ∧ (parseMethodDescriptor yX10_use.desc).map (fun d => d.parameters.length) = some 1 := ⟨rfl, by decide +kernel, by decide +kernel, by decide +kernel⟩
theorem yd_X10_weigh : yX10_weigh.cls = RX10 ∧ yX10_weigh.cls ≠ "java/lang/invoke/MethodHandle" ∧ yX10_weigh.cls ≠ "java/lang/invoke/VarHandle" ∧ (parseMethodDescriptor yX10_weigh.desc).map (fun d => d.parameters.length) = some 5 := ⟨rfl, by decide +kernel, by decide +kernel, by decide +kernel⟩
theorem yd_X10_word : yX10_word.cls = RX10 ∧ yX10_word.cls ≠ "java/lang/invoke/MethodHandle" ∧ yX10_word.cls ≠ "java/lang/invoke/VarHandle" ∧ (parseMethodDescriptor yX10_word.desc).map (fun d => d.parameters.length) = some 1 := ⟨rfl, by decide +kernel, by decide +kernel, by decide +kernel⟩
theorem yd_X11_addRule : yX11_addRule.cls = RX11 ∧ yX11_addRule.cls ≠ "java/lang/invoke/MethodHandle" ∧ yX11_addRule.cls ≠ "java/lang/invoke/VarHandle" ∧ (parseMethodDescriptor yX11_addRule.desc).map (fun d => d.parameters.length) = some 5 := ⟨rfl, by decide +kernel, by decide +kernel, by decide +kernel⟩
theorem yd_X11_addWord : yX11_addWord.cls = RX11 ∧ yX11_addWord.cls ≠ "java/lang/invoke/MethodHandle" ∧ yX11_addWord.cls ≠ "java/lang/invoke/VarHandle" ∧ (parseMethodDescriptor yX11_addWord.desc).map (fun d => d.parameters.length) = some 1 := ⟨rfl, by decide +kernel, by decide +kernel, by decide +kernel⟩
theorem yd_X11_at : yX11_at.cls = RX11 ∧ yX11_at.cls ≠ "java/lang/invoke/MethodHandle" ∧ yX11_at.cls ≠ "java/lang/invoke/VarHandle" ∧ (parseMethodDescriptor yX11_at.desc).map (fun d => d.parameters.length) = some 2 := ⟨rfl, by decide +kernel, by decide +kernel, by decide +kernel⟩
theorem yd_X11_base : yX11_base.cls = RX11 ∧ yX11_base.cls ≠ "java/lang/invoke/MethodHandle" ∧ yX11_base.cls ≠ "java/lang/invoke/VarHandle" ∧ (parseMethodDescriptor yX11_base.desc).map (fun d => d.parameters.length) = some 1 := ⟨rfl, by decide +kernel, by decide +kernel, by decide +kernel⟩
theorem yd_X11_breaks : yX11_breaks.cls = RX11 ∧ yX11_breaks.cls ≠ "java/lang/invoke/MethodHandle" ∧ yX11_breaks.cls ≠ "java/lang/invoke/VarHandle" ∧ (parseMethodDescriptor yX11_breaks.desc).map (fun d => d.parameters.length) = some 2 := ⟨rfl, by decide +kernel, by decide +kernel, by decide +kernel⟩
theorem yd_X11_bySense : yX11_bySense.cls = RX11 ∧ yX11_bySense.cls ≠ "java/lang/invoke/MethodHandle" ∧ yX11_bySense.cls ≠ "java/lang/invoke/VarHandle" ∧ (parseMethodDescriptor yX11_bySense.desc).map (fun d => d.parameters.length) = some 3 := ⟨rfl, by decide +kernel, by decide +kernel, by decide +kernel⟩
theorem yd_X11_bySight : yX11_bySight.cls = RX11 ∧ yX11_bySight.cls ≠ "java/lang/invoke/MethodHandle" ∧ yX11_bySight.cls ≠ "java/lang/invoke/VarHandle" ∧ (parseMethodDescriptor yX11_bySight.desc).map (fun d => d.parameters.length) = some 3 := ⟨rfl, by decide +kernel, by decide +kernel, by decide +kernel⟩
theorem yd_X11_capital : yX11_capital.cls = RX11 ∧ yX11_capital.cls ≠ "java/lang/invoke/MethodHandle" ∧ yX11_capital.cls ≠ "java/lang/invoke/VarHandle" ∧ (parseMethodDescriptor yX11_capital.desc).map (fun d => d.parameters.length) = some 3 := ⟨rfl, by decide +kernel, by decide +kernel, by decide +kernel⟩
theorem yd_X11_classOf : yX11_classOf.cls = RX11 ∧ yX11_classOf.cls ≠ "java/lang/invoke/MethodHandle" ∧ yX11_classOf.cls ≠ "java/lang/invoke/VarHandle" ∧ (parseMethodDescriptor yX11_classOf.desc).map (fun d => d.parameters.length) = some 2 := ⟨rfl, by decide +kernel, by decide +kernel, by decide +kernel⟩
theorem yd_X11_clear : yX11_clear.cls = RX11 ∧ yX11_clear.cls ≠ "java/lang/invoke/MethodHandle" ∧ yX11_clear.cls ≠ "java/lang/invoke/VarHandle" ∧ (parseMethodDescriptor yX11_clear.desc).map (fun d => d.parameters.length) = some 1 := ⟨rfl, by decide +kernel, by decide +kernel, by decide +kernel⟩
theorem yd_X11_compare : yX11_compare.cls = RX11 ∧ yX11_compare.cls ≠ "java/lang/invoke/MethodHandle" ∧ yX11_compare.cls ≠ "java/lang/invoke/VarHandle" ∧ (parseMethodDescriptor yX11_compare.desc).map (fun d => d.parameters.length) = some 3 := ⟨rfl, by decide +kernel, by decide +kernel, by decide +kernel⟩
theorem yd_X11_contract : yX11_contract.cls = RX11 ∧ yX11_contract.cls ≠ "java/lang/invoke/MethodHandle" ∧ yX11_contract.cls ≠ "java/lang/invoke/VarHandle" ∧ (parseMethodDescriptor yX11_contract.desc).map (fun d => d.parameters.length) = some 6 := ⟨rfl, by decide +kernel, by decide +kernel, by decide +kernel⟩
theorem yd_X11_decode : yX11_decode.cls = RX11 ∧ yX11_decode.cls ≠ "java/lang/invoke/MethodHandle" ∧ yX11_decode.cls ≠ "java/lang/invoke/VarHandle" ∧ (parseMethodDescriptor yX11_decode.desc).map (fun d => d.parameters.length) = some 1 := ⟨rfl, by decide +kernel, by decide +kernel, by decide +kernel⟩
theorem yd_X11_encode : yX11_encode.cls = RX11 ∧ yX11_encode.cls ≠ "java/lang/invoke/MethodHandle" ∧ yX11_encode.cls ≠ "java/lang/invoke/VarHandle" ∧ (parseMethodDescriptor yX11_encode.desc).map (fun d => d.parameters.length) = some 1 := ⟨rfl, by decide +kernel, by decide +kernel, by decide +kernel⟩
theorem yd_X11_feed : yX11_feed.cls = RX11 ∧ yX11_feed.cls ≠ "java/lang/invoke/MethodHandle" ∧ yX11_feed.cls ≠ "java/lang/invoke/VarHandle" ∧ (parseMethodDescriptor yX11_feed.desc).map (fun d => d.parameters.length) = some 2 := ⟨rfl, by decide +kernel, by decide +kernel, by decide +kernel⟩
theorem yd_X11_find : yX11_find.cls = RX11 ∧ yX11_find.cls ≠ "java/lang/invoke/MethodHandle" ∧ yX11_find.cls ≠ "java/lang/invoke/VarHandle" ∧ (parseMethodDescriptor yX11_find.desc).map (fun d => d.parameters.length) = some 3 := ⟨rfl, by decide +kernel, by decide +kernel, by decide +kernel⟩
theorem yd_X11_form : yX11_form.cls = RX11 ∧ yX11_form.cls ≠ "java/lang/invoke/MethodHandle" ∧ yX11_form.cls ≠ "java/lang/invoke/VarHandle" ∧ (parseMethodDescriptor yX11_form.desc).map (fun d => d.parameters.length) = some 3 := ⟨rfl, by decide +kernel, by decide +kernel, by decide +kernel⟩
theorem yd_X11_key : yX11_key.cls = RX11 ∧ yX11_key.cls ≠ "java/lang/invoke/MethodHandle" ∧ yX11_key.cls ≠ "java/lang/invoke/VarHandle" ∧ (parseMethodDescriptor yX11_key.desc).map (fun d => d.parameters.length) = some 3 := ⟨rfl, by decide +kernel, by decide +kernel, by decide +kernel⟩
theorem yd_X11_letter : yX11_letter.cls = RX11 ∧ yX11_letter.cls ≠ "java/lang/invoke/MethodHandle" ∧ yX11_letter.cls ≠ "java/lang/invoke/VarHandle" ∧ (parseMethodDescriptor yX11_letter.desc).map (fun d => d.parameters.length) = some 5 := ⟨rfl, by decide +kernel, by decide +kernel, by decide +kernel⟩
theorem yd_X11_level : yX11_level.cls = RX11 ∧ yX11_level.cls ≠ "java/lang/invoke/MethodHandle" ∧ yX11_level.cls ≠ "java/lang/invoke/VarHandle" ∧ (parseMethodDescriptor yX11_level.desc).map (fun d => d.parameters.length) = some 3 := ⟨rfl, by decide +kernel, by decide +kernel, by decide +kernel⟩
theorem yd_X11_looksLike : yX11_looksLike.cls = RX11 ∧ yX11_looksLike.cls ≠ "java/lang/invoke/MethodHandle" ∧ yX11_looksLike.cls ≠ "java/lang/invoke/VarHandle" ∧ (parseMethodDescriptor yX11_looksLike.desc).map (fun d => d.parameters.length) = some 2 := ⟨rfl, by decide +kernel, by decide +kernel, by decide +kernel⟩
theorem yd_X11_match : yX11_match.cls = RX11 ∧ yX11_match.cls ≠ "java/lang/invoke/MethodHandle" ∧ yX11_match.cls ≠ "java/lang/invoke/VarHandle" ∧ (parseMethodDescriptor yX11_match.desc).map (fun d => d.parameters.length) = some 2 := ⟨rfl, by decide +kernel, by decide +kernel, by decide +kernel⟩
theorem yd_X11_message : yX11_message.cls = RX11 ∧ yX11_message.cls ≠ "java/lang/invoke/MethodHandle" ∧ yX11_message.cls ≠ "java/lang/invoke/VarHandle" ∧ (parseMethodDescriptor yX11_message.desc).map (fun d => d.parameters.length) = some 5 := ⟨rfl, by decide +kernel, by decide +kernel, by decide +kernel⟩
theorem yd_X11_partners : yX11_partners.cls = RX11 ∧ yX11_partners.cls ≠ "java/lang/invoke/MethodHandle" ∧ yX11_partners.cls ≠ "java/lang/invoke/VarHandle" ∧ (parseMethodDescriptor yX11_partners.desc).map (fun d => d.parameters.length) = some 2 := ⟨rfl, by decide +kernel, by decide +kernel, by decide +kernel⟩
theorem yd_X11_pattern : yX11_pattern.cls = RX11 ∧ yX11_pattern.cls ≠ "java/lang/invoke/MethodHandle" ∧ yX11_pattern.cls ≠ "java/lang/invoke/VarHandle" ∧ (parseMethodDescriptor yX11_pattern.desc).map (fun d => d.parameters.length) = some 0 := ⟨rfl, by decide +kernel, by decide +kernel, by decide +kernel⟩
theorem yd_X11_plural : yX11_plural.cls = RX11 ∧ yX11_plural.cls ≠ "java/lang/invoke/MethodHandle" ∧ yX11_plural.cls ≠ "java/lang/invoke/VarHandle" ∧ (parseMethodDescriptor yX11_plural.desc).map (fun d => d.parameters.length) = some 8 := ⟨rfl, by decide +kernel, by decide +kernel, by decide +kernel⟩
theorem yd_X11_put : yX11_put.cls = RX11 ∧ yX11_put.cls ≠ "java/lang/invoke/MethodHandle" ∧ yX11_put.cls ≠ "java/lang/invoke/VarHandle" ∧ (parseMethodDescriptor yX11_put.desc).map (fun d => d.parameters.length) = some 2 := ⟨rfl, by decide +kernel, by decide +kernel, by decide +kernel⟩
theorem yd_X11_save : yX11_save.cls = RX11 ∧ yX11_save.cls ≠ "java/lang/invoke/MethodHandle" ∧ yX11_save.cls ≠ "java/lang/invoke/VarHandle" ∧ (parseMethodDescriptor yX11_save.desc).map (fun d => d.parameters.length) = some 0 := ⟨rfl, by decide +kernel, by decide +kernel, by decide +kernel⟩
theorem yd_X11_shown : yX11_shown.cls = RX11 ∧ yX11_shown.cls ≠ "java/lang/invoke/MethodHandle" ∧ yX11_shown.cls ≠ "java/lang/invoke/VarHandle" ∧ (parseMethodDescriptor yX11_shown.desc).map (fun d => d.parameters.length) = some 3 := ⟨rfl, by decide +kernel, by decide +kernel, by decide +kernel⟩
theorem yd_X11_split : yX11_split.cls = RX11 ∧ yX11_split.cls ≠ "java/lang/invoke/MethodHandle" ∧ yX11_split.cls ≠ "java/lang/invoke/VarHandle" ∧ (parseMethodDescriptor yX11_split.desc).map (fun d => d.parameters.length) = some 3 := ⟨rfl, by decide +kernel, by decide +kernel, by decide +kernel⟩
theorem yd_X11_thrown : yX11_thrown.cls = RX11 ∧ yX11_thrown.cls ≠ "java/lang/invoke/MethodHandle" ∧ yX11_thrown.cls ≠ "java/lang/invoke/VarHandle" ∧ (parseMethodDescriptor yX11_thrown.desc).map (fun d => d.parameters.length) = some 0 := ⟨rfl, by decide +kernel, by decide +kernel, by decide +kernel⟩
theorem yd_X11_transliterate : yX11_transliterate.cls = RX11 ∧ yX11_transliterate.cls ≠ "java/lang/invoke/MethodHandle" ∧ yX11_transliterate.cls ≠ "java/lang/invoke/VarHandle" ∧ (parseMethodDescriptor yX11_transliterate.desc).map (fun d => d.parameters.length) = some 3 := ⟨rfl, by decide +kernel, by decide +kernel, by decide +kernel⟩
theorem yd_X11_use : yX11_use.cls = RX11 ∧ yX11_use.cls ≠ "java/lang/invoke/MethodHandle" ∧ yX11_use.cls ≠ "java/lang/invoke/VarHandle" ∧ (parseMethodDescriptor yX11_use.desc).map (fun d => d.parameters.length) = some 1 := ⟨rfl, by decide +kernel, by decide +kernel, by decide +kernel⟩
theorem yd_X11_weigh : yX11_weigh.cls = RX11 ∧ yX11_weigh.cls ≠ "java/lang/invoke/MethodHandle" ∧ yX11_weigh.cls ≠ "java/lang/invoke/VarHandle" ∧ (parseMethodDescriptor yX11_weigh.desc).map (fun d => d.parameters.length) = some 5 := ⟨rfl, by decide +kernel, by decide +kernel, by decide +kernel⟩
theorem yd_X11_word : yX11_word.cls = RX11 ∧ yX11_word.cls ≠ "java/lang/invoke/MethodHandle" ∧ yX11_word.cls ≠ "java/lang/invoke/VarHandle" ∧ (parseMethodDescriptor yX11_word.desc).map (fun d => d.parameters.length) = some 1 := ⟨rfl, by decide +kernel, by decide +kernel, by decide +kernel⟩
theorem gk_L_102 : GoodIn ws0 (wsV RL 102 RX10 yX10_key (WSM yX10_key cX10_key 6 (some .int))) := goodV wd_1221 wd_1222 wd_1223 wd_109 wd_1224
theorem gk_L_105 : GoodIn ws0 (wsV RL 105 RX10 yX10_find (WSM yX10_find cX10_find 10 (some .int))) := goodV wd_1232 wd_1233 wd_1234 wd_109 wd_1235
theorem gk_L_108 : GoodIn ws0 (wsV RL 108 RX10 yX10_pattern (WSM yX10_pattern cX10_pattern 3 (some .int))) := goodV wd_1249 wd_1250 wd_1251 wd_109 wd_1252
theorem gk_L_111 : GoodIn ws0 (wsV RL 111 RX10 yX10_match (WSM yX10_match cX10_match 4 (some .int))) := goodV wd_1286 wd_1287 wd_1288 wd_109 wd_1289
theorem gk_L_114 : GoodIn ws0 (wsV RL 114 RX10 yX10_transliterate (WSM yX10_transliterate cX10_transliterate 7 (some .int))) := goodV wd_1323 wd_1324 wd_1325 wd_109 wd_1326
theorem gk_L_117 : GoodIn ws0 (wsV RL 117 RX10 yX10_classOf (WSM yX10_classOf cX10_classOf 4 (some .int))) := goodV wd_1360 wd_1361 wd_1362 wd_109 wd_1363
theorem gk_L_120 : GoodIn ws0 (wsV RL 120 RX10 yX10_message (WSM yX10_message cX10_message 8 (some .int))) := goodV wd_1387 wd_1388 wd_1389 wd_109 wd_1390
theorem gk_L_123 : GoodIn ws0 (wsV RL 123 RX10 yX10_encode (WSM yX10_encode cX10_encode 7 (some .int))) := goodV wd_1449 wd_1450 wd_1451 wd_109 wd_1452
theorem gk_L_126 : GoodIn ws0 (wsV RL 126 RX10 yX10_decode (WSM yX10_decode cX10_decode 4 (some .int))) := goodV wd_1456 wd_1457 wd_1458 wd_109 wd_1459
theorem gk_L_140 : GoodIn ws0 (wsV RL 140 RX11 yX11_feed (WSM yX11_feed cX11_feed 5 (some .int))) := goodV wd_1612 wd_1613 wd_1614 wd_120 wd_1615
theorem gk_L_141 : GoodIn ws0 (wsV RL 141 RX11 yX11_thrown (WSM yX11_thrown cX11_thrown 1 (some .int))) := goodV wd_1608 wd_1609 wd_1610 wd_120 wd_1611
theorem gk_L_147 : GoodIn ws0 (wsV RL 147 RX11 yX11_letter (WSM yX11_letter cX11_letter 7 none)) := goodV wd_1624 wd_1625 wd_1626 wd_120 wd_1627
theorem gk_L_151 : GoodIn ws0 (wsV RL 151 RX11 yX11_split (WSM yX11_split cX11_split 5 none)) := goodV wd_1631 wd_1632 wd_1633 wd_120 wd_1634
theorem gk_L_154 : GoodIn ws0 (wsV RL 154 RX11 yX11_capital (WSM yX11_capital cX11_capital 5 none)) := goodV wd_1635 wd_1636 wd_1637 wd_120 wd_1638
theorem gk_L_158 : GoodIn ws0 (wsV RL 158 RX11 yX11_partners (WSM yX11_partners cX11_partners 5 none)) := goodV wd_1639 wd_1640 wd_1641 wd_120 wd_1642
theorem gk_L_161 : GoodIn ws0 (wsV RL 161 RX11 yX11_weigh (WSM yX11_weigh cX11_weigh 6 none)) := goodV wd_1647 wd_1648 wd_1649 wd_120 wd_1650
theorem gk_L_165 : GoodIn ws0 (wsV RL 165 RX11 yX11_contract (WSM yX11_contract cX11_contract 11 (some .int))) := goodV wd_1661 wd_1662 wd_1663 wd_120 wd_1664
theorem gk_L_169 : GoodIn ws0 (wsV RL 169 RX11 yX11_plural (WSM yX11_plural cX11_plural 11 (some .int))) := goodV wd_1669 wd_1670 wd_1671 wd_120 wd_1672
theorem gk_L_17 : GoodIn ws0 (wsV RL 17 RX10 yX10_letter (WSM yX10_letter cX10_letter 6 none)) := goodV wd_602 wd_603 wd_604 wd_109 wd_605
theorem gk_L_173 : GoodIn ws0 (wsV RL 173 RX11 yX11_addWord (WSM yX11_addWord cX11_addWord 5 (some .int))) := goodV wd_1673 wd_1674 wd_1675 wd_120 wd_1676
theorem gk_L_177 : GoodIn ws0 (wsV RL 177 RX11 yX11_addRule (WSM yX11_addRule cX11_addRule 9 (some .int))) := goodV wd_1684 wd_1685 wd_1686 wd_120 wd_1687
theorem gk_L_181 : GoodIn ws0 (wsV RL 181 RX11 yX11_save (WSM yX11_save cX11_save 2 (some .int))) := goodV wd_1692 wd_1693 wd_1694 wd_120 wd_1695
theorem gk_L_185 : GoodIn ws0 (wsV RL 185 RX11 yX11_use (WSM yX11_use cX11_use 3 none)) := goodV wd_1696 wd_1697 wd_1698 wd_120 wd_1699
theorem gk_L_189 : GoodIn ws0 (wsV RL 189 RX11 yX11_put (WSM yX11_put cX11_put 4 (some .int))) := goodV wd_1700 wd_1701 wd_1702 wd_120 wd_1703
theorem gk_L_192 : GoodIn ws0 (wsV RL 192 RX11 yX11_clear (WSM yX11_clear cX11_clear 3 (some .int))) := goodV wd_1704 wd_1705 wd_1706 wd_120 wd_1707
theorem gk_L_195 : GoodIn ws0 (wsV RL 195 RX11 yX11_at (WSM yX11_at cX11_at 4 (some .int))) := goodV wd_1708 wd_1709 wd_1710 wd_120 wd_1711
theorem gk_L_199 : GoodIn ws0 (wsV RL 199 RX11 yX11_form (WSM yX11_form cX11_form 8 (some .int))) := goodV wd_1712 wd_1713 wd_1714 wd_120 wd_1715
theorem gk_L_202 : GoodIn ws0 (wsV RL 202 RX11 yX11_looksLike (WSM yX11_looksLike cX11_looksLike 5 (some .boolean))) := goodV wd_1752 wd_1753 wd_1754 wd_120 wd_1755
theorem gk_L_205 : GoodIn ws0 (wsV RL 205 RX11 yX11_base (WSM yX11_base cX11_base 2 (some .int))) := goodV wd_1764 wd_1765 wd_1766 wd_120 wd_1767
theorem gk_L_208 : GoodIn ws0 (wsV RL 208 RX11 yX11_level (WSM yX11_level cX11_level 4 (some .int))) := goodV wd_1780 wd_1781 wd_1782 wd_120 wd_1783
theorem gk_L_211 : GoodIn ws0 (wsV RL 211 RX11 yX11_shown (WSM yX11_shown cX11_shown 4 (some .int))) := goodV wd_1820 wd_1821 wd_1822 wd_120 wd_1823
theorem gk_L_215 : GoodIn ws0 (wsV RL 215 RX11 yX11_bySight (WSM yX11_bySight cX11_bySight 5 (some .int))) := goodV wd_1828 wd_1829 wd_1830 wd_120 wd_1831
theorem gk_L_218 : GoodIn ws0 (wsV RL 218 RX11 yX11_breaks (WSM yX11_breaks cX11_breaks 6 (some .long))) := goodV wd_1840 wd_1841 wd_1842 wd_120 wd_1843
theorem gk_L_221 : GoodIn ws0 (wsV RL 221 RX11 yX11_bySense (WSM yX11_bySense cX11_bySense 5 (some .int))) := goodV wd_1868 wd_1869 wd_1870 wd_120 wd_1871
theorem gk_L_224 : GoodIn ws0 (wsV RL 224 RX11 yX11_compare (WSM yX11_compare cX11_compare 8 (some .int))) := goodV wd_1872 wd_1873 wd_1874 wd_120 wd_1875
theorem gk_L_227 : GoodIn ws0 (wsV RL 227 RX11 yX11_key (WSM yX11_key cX11_key 6 (some .int))) := goodV wd_1884 wd_1885 wd_1886 wd_120 wd_1887
theorem gk_L_23 : GoodIn ws0 (wsV RL 23 RX10 yX10_split (WSM yX10_split cX10_split 5 none)) := goodV wd_638 wd_639 wd_640 wd_109 wd_641
theorem gk_L_230 : GoodIn ws0 (wsV RL 230 RX11 yX11_find (WSM yX11_find cX11_find 7 (some .int))) := goodV wd_1888 wd_1889 wd_1890 wd_120 wd_1891
theorem gk_L_233 : GoodIn ws0 (wsV RL 233 RX11 yX11_pattern (WSM yX11_pattern cX11_pattern 2 (some .int))) := goodV wd_1896 wd_1897 wd_1898 wd_120 wd_1899
theorem gk_L_236 : GoodIn ws0 (wsV RL 236 RX11 yX11_match (WSM yX11_match cX11_match 4 (some .int))) := goodV wd_1912 wd_1913 wd_1914 wd_120 wd_1915
theorem gk_L_239 : GoodIn ws0 (wsV RL 239 RX11 yX11_transliterate (WSM yX11_transliterate cX11_transliterate 7 (some .int))) := goodV wd_1932 wd_1933 wd_1934 wd_120 wd_1935
theorem gk_L_242 : GoodIn ws0 (wsV RL 242 RX11 yX11_classOf (WSM yX11_classOf cX11_classOf 3 (some .int))) := goodV wd_1952 wd_1953 wd_1954 wd_120 wd_1955
theorem gk_L_245 : GoodIn ws0 (wsV RL 245 RX11 yX11_message (WSM yX11_message cX11_message 8 (some .int))) := goodV wd_1961 wd_1962 wd_1963 wd_120 wd_1964
theorem gk_L_246 : GoodIn ws0 (wsV RL 246 RX10 yX10_word (WSM yX10_word cX10_word 8 (some .long))) := goodV wd_481 wd_482 wd_483 wd_109 wd_484
theorem gk_L_250 : GoodIn ws0 (wsV RL 250 RX11 yX11_word (WSM yX11_word cX11_word 6 (some .long))) := goodV wd_1985 wd_1986 wd_1987 wd_120 wd_1988
theorem gk_L_253 : GoodIn ws0 (wsV RL 253 RX11 yX11_encode (WSM yX11_encode cX11_encode 6 (some .int))) := goodV wd_1989 wd_1990 wd_1991 wd_120 wd_1992
theorem gk_L_256 : GoodIn ws0 (wsV RL 256 RX11 yX11_decode (WSM yX11_decode cX11_decode 3 (some .int))) := goodV wd_1993 wd_1994 wd_1995 wd_120 wd_1996
theorem gk_L_27 : GoodIn ws0 (wsV RL 27 RX10 yX10_capital (WSM yX10_capital cX10_capital 5 none)) := goodV wd_649 wd_650 wd_651 wd_109 wd_652
theorem gk_L_30 : GoodIn ws0 (wsV RL 30 RX10 yX10_partners (WSM yX10_partners cX10_partners 3 none)) := goodV wd_660 wd_661 wd_662 wd_109 wd_663
theorem gk_L_34 : GoodIn ws0 (wsV RL 34 RX10 yX10_weigh (WSM yX10_weigh cX10_weigh 7 none)) := goodV wd_679 wd_680 wd_681 wd_109 wd_682
theorem gk_L_37 : GoodIn ws0 (wsV RL 37 RX10 yX10_contract (WSM yX10_contract cX10_contract 9 (some .int))) := goodV wd_703 wd_704 wd_705 wd_109 wd_706
theorem gk_L_41 : GoodIn ws0 (wsV RL 41 RX10 yX10_plural (WSM yX10_plural cX10_plural 12 (some .int))) := goodV wd_726 wd_727 wd_728 wd_109 wd_729
theorem gk_L_45 : GoodIn ws0 (wsV RL 45 RX10 yX10_addWord (WSM yX10_addWord cX10_addWord 3 (some .int))) := goodV wd_749 wd_750 wd_751 wd_109 wd_752
theorem gk_L_49 : GoodIn ws0 (wsV RL 49 RX10 yX10_addRule (WSM yX10_addRule cX10_addRule 12 (some .int))) := goodV wd_776 wd_777 wd_778 wd_109 wd_779
theorem gk_L_53 : GoodIn ws0 (wsV RL 53 RX10 yX10_save (WSM yX10_save cX10_save 1 (some .int))) := goodV wd_797 wd_798 wd_799 wd_109 wd_800
theorem gk_L_57 : GoodIn ws0 (wsV RL 57 RX10 yX10_use (WSM yX10_use cX10_use 2 none)) := goodV wd_828 wd_829 wd_830 wd_109 wd_831
theorem gk_L_61 : GoodIn ws0 (wsV RL 61 RX10 yX10_put (WSM yX10_put cX10_put 4 (some .int))) := goodV wd_836 wd_837 wd_838 wd_109 wd_839
theorem gk_L_65 : GoodIn ws0 (wsV RL 65 RX10 yX10_clear (WSM yX10_clear cX10_clear 4 (some .int))) := goodV wd_844 wd_845 wd_846 wd_109 wd_847
theorem gk_L_68 : GoodIn ws0 (wsV RL 68 RX10 yX10_at (WSM yX10_at cX10_at 4 (some .int))) := goodV wd_855 wd_856 wd_857 wd_109 wd_858
theorem gk_L_7 : GoodIn ws0 (wsV RL 7 RX10 yX10_feed (WSM yX10_feed cX10_feed 5 (some .int))) := goodV wd_499 wd_500 wd_501 wd_109 wd_502
theorem gk_L_71 : GoodIn ws0 (wsV RL 71 RX10 yX10_form (WSM yX10_form cX10_form 6 (some .int))) := goodV wd_866 wd_867 wd_868 wd_109 wd_869
theorem gk_L_75 : GoodIn ws0 (wsV RL 75 RX10 yX10_looksLike (WSM yX10_looksLike cX10_looksLike 5 (some .boolean))) := goodV wd_961 wd_962 wd_963 wd_109 wd_964
theorem gk_L_79 : GoodIn ws0 (wsV RL 79 RX10 yX10_base (WSM yX10_base cX10_base 2 (some .int))) := goodV wd_977 wd_978 wd_979 wd_109 wd_980
theorem gk_L_82 : GoodIn ws0 (wsV RL 82 RX10 yX10_level (WSM yX10_level cX10_level 5 (some .int))) := goodV wd_997 wd_998 wd_999 wd_109 wd_1000
theorem gk_L_85 : GoodIn ws0 (wsV RL 85 RX10 yX10_shown (WSM yX10_shown cX10_shown 5 (some .int))) := goodV wd_1096 wd_1097 wd_1098 wd_109 wd_1099
theorem gk_L_88 : GoodIn ws0 (wsV RL 88 RX10 yX10_bySight (WSM yX10_bySight cX10_bySight 11 (some .int))) := goodV wd_1116 wd_1117 wd_1118 wd_109 wd_1119
theorem gk_L_92 : GoodIn ws0 (wsV RL 92 RX10 yX10_breaks (WSM yX10_breaks cX10_breaks 4 (some .long))) := goodV wd_1147 wd_1148 wd_1149 wd_109 wd_1150
theorem gk_L_96 : GoodIn ws0 (wsV RL 96 RX10 yX10_bySense (WSM yX10_bySense cX10_bySense 10 (some .int))) := goodV wd_1187 wd_1188 wd_1189 wd_109 wd_1190
theorem gk_L_99 : GoodIn ws0 (wsV RL 99 RX10 yX10_compare (WSM yX10_compare cX10_compare 9 (some .int))) := goodV wd_1194 wd_1195 wd_1196 wd_109 wd_1197
