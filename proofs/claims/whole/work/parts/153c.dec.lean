theorem dX10_languageOf_23 : decode cX10_languageOf 23 = .ok (.athrow, 1) := by decide +kernel
theorem dX10_languageOf_24 : decode cX10_languageOf 24 = .ok (.aload_n 2, 1) := by decide +kernel
theorem dX10_languageOf_25 : decode cX10_languageOf 25 = .ok (.areturn, 1) := by decide +kernel
theorem dX10_endOfFound_0 : decode cX10_endOfFound 0 = .ok (.aload_n 0, 1) := by decide +kernel
theorem dX10_endOfFound_1 : decode cX10_endOfFound 1 = .ok (.getfield 41, 3) := by decide +kernel
theorem dX10_endOfFound_4 : decode cX10_endOfFound 4 = .ok (.iload_n 1, 1) := by decide +kernel
theorem dX10_endOfFound_5 : decode cX10_endOfFound 5 = .ok (.invokevirtual 384, 3) := by decide +kernel
theorem dX10_endOfFound_8 : decode cX10_endOfFound 8 = .ok (.istore 5, 2) := by decide +kernel
theorem dX10_endOfFound_10 : decode cX10_endOfFound 10 = .ok (.aload_n 0, 1) := by decide +kernel
theorem dX10_endOfFound_11 : decode cX10_endOfFound 11 = .ok (.getfield 78, 3) := by decide +kernel
theorem dX10_endOfFound_14 : decode cX10_endOfFound 14 = .ok (.aload_n 0, 1) := by decide +kernel
theorem dX10_endOfFound_15 : decode cX10_endOfFound 15 = .ok (.getfield 81, 3) := by decide +kernel
theorem dX10_endOfFound_18 : decode cX10_endOfFound 18 = .ok (.iload 5, 2) := by decide +kernel
theorem dX10_endOfFound_20 : decode cX10_endOfFound 20 = .ok (.invokevirtual 387, 3) := by decide +kernel
theorem dX10_endOfFound_23 : decode cX10_endOfFound 23 = .ok (.ifCond .ne 5, 3) := by decide +kernel
theorem dX10_endOfFound_26 : decode cX10_endOfFound 26 = .ok (.iconst (-1), 1) := by decide +kernel
theorem dX10_endOfFound_27 : decode cX10_endOfFound 27 = .ok (.ireturn, 1) := by decide +kernel
theorem dX10_endOfFound_28 : decode cX10_endOfFound 28 = .ok (.iload 5, 2) := by decide +kernel
theorem dX10_endOfFound_30 : decode cX10_endOfFound 30 = .ok (.aload_n 0, 1) := by decide +kernel
theorem dX10_endOfFound_31 : decode cX10_endOfFound 31 = .ok (.getfield 81, 3) := by decide +kernel
theorem dX10_endOfFound_34 : decode cX10_endOfFound 34 = .ok (.invokevirtual 107, 3) := by decide +kernel
theorem dX10_endOfFound_37 : decode cX10_endOfFound 37 = .ok (.iadd, 1) := by decide +kernel
theorem dX10_endOfFound_38 : decode cX10_endOfFound 38 = .ok (.istore 6, 2) := by decide +kernel
theorem dX10_endOfFound_40 : decode cX10_endOfFound 40 = .ok (.iload_n 1, 1) := by decide +kernel
theorem dX10_endOfFound_41 : decode cX10_endOfFound 41 = .ok (.iconst 1, 1) := by decide +kernel
theorem dX10_endOfFound_42 : decode cX10_endOfFound 42 = .ok (.iadd, 1) := by decide +kernel
theorem dX10_endOfFound_43 : decode cX10_endOfFound 43 = .ok (.istore 7, 2) := by decide +kernel
theorem dX10_endOfFound_45 : decode cX10_endOfFound 45 = .ok (.iload 7, 2) := by decide +kernel
theorem dX10_endOfFound_47 : decode cX10_endOfFound 47 = .ok (.iload_n 2, 1) := by decide +kernel
theorem dX10_endOfFound_48 : decode cX10_endOfFound 48 = .ok (.if_icmp .gt 53, 3) := by decide +kernel
theorem dX10_endOfFound_51 : decode cX10_endOfFound 51 = .ok (.iload 7, 2) := by decide +kernel
theorem dX10_endOfFound_53 : decode cX10_endOfFound 53 = .ok (.iload_n 2, 1) := by decide +kernel
theorem dX10_endOfFound_54 : decode cX10_endOfFound 54 = .ok (.if_icmp .eq 12, 3) := by decide +kernel
theorem dX10_endOfFound_57 : decode cX10_endOfFound 57 = .ok (.lload_n 3, 1) := by decide +kernel
theorem dX10_endOfFound_58 : decode cX10_endOfFound 58 = .ok (.iload 7, 2) := by decide +kernel
theorem dX10_endOfFound_60 : decode cX10_endOfFound 60 = .ok (.invokestatic 285, 3) := by decide +kernel
theorem dX10_endOfFound_63 : decode cX10_endOfFound 63 = .ok (.ifCond .eq 7, 3) := by decide +kernel
theorem dX10_endOfFound_66 : decode cX10_endOfFound 66 = .ok (.iconst 1, 1) := by decide +kernel
theorem dX10_endOfFound_67 : decode cX10_endOfFound 67 = .ok (.goto 4, 3) := by decide +kernel
theorem dX10_endOfFound_70 : decode cX10_endOfFound 70 = .ok (.iconst 0, 1) := by decide +kernel
theorem dX10_endOfFound_71 : decode cX10_endOfFound 71 = .ok (.istore 8, 2) := by decide +kernel
theorem dX10_endOfFound_73 : decode cX10_endOfFound 73 = .ok (.iload 8, 2) := by decide +kernel
theorem dX10_endOfFound_75 : decode cX10_endOfFound 75 = .ok (.ifCond .eq 20, 3) := by decide +kernel
theorem dX10_endOfFound_78 : decode cX10_endOfFound 78 = .ok (.aload_n 0, 1) := by decide +kernel
theorem dX10_endOfFound_79 : decode cX10_endOfFound 79 = .ok (.getfield 41, 3) := by decide +kernel
theorem dX10_endOfFound_82 : decode cX10_endOfFound 82 = .ok (.iload 7, 2) := by decide +kernel
theorem dX10_endOfFound_84 : decode cX10_endOfFound 84 = .ok (.invokevirtual 384, 3) := by decide +kernel
theorem dX10_endOfFound_87 : decode cX10_endOfFound 87 = .ok (.iload 6, 2) := by decide +kernel
theorem dX10_endOfFound_89 : decode cX10_endOfFound 89 = .ok (.if_icmp .ne 6, 3) := by decide +kernel
theorem dX10_endOfFound_92 : decode cX10_endOfFound 92 = .ok (.iload 7, 2) := by decide +kernel
theorem dX10_endOfFound_94 : decode cX10_endOfFound 94 = .ok (.ireturn, 1) := by decide +kernel
theorem dX10_endOfFound_95 : decode cX10_endOfFound 95 = .ok (.iinc 7 1, 3) := by decide +kernel
theorem dX10_endOfFound_98 : decode cX10_endOfFound 98 = .ok (.goto (-53), 3) := by decide +kernel
theorem dX10_endOfFound_101 : decode cX10_endOfFound 101 = .ok (.iconst (-1), 1) := by decide +kernel
theorem dX10_endOfFound_102 : decode cX10_endOfFound 102 = .ok (.ireturn, 1) := by decide +kernel
theorem dX10_decodeInto_0 : decode cX10_decodeInto 0 = .ok (.aload_n 1, 1) := by decide +kernel
theorem dX10_decodeInto_1 : decode cX10_decodeInto 1 = .ok (.iconst 0, 1) := by decide +kernel
theorem dX10_decodeInto_2 : decode cX10_decodeInto 2 = .ok (.invokevirtual 237, 3) := by decide +kernel
theorem dX10_decodeInto_5 : decode cX10_decodeInto 5 = .ok (.iconst 0, 1) := by decide +kernel
theorem dX10_decodeInto_6 : decode cX10_decodeInto 6 = .ok (.istore_n 2, 1) := by decide +kernel
theorem dX10_decodeInto_7 : decode cX10_decodeInto 7 = .ok (.iconst 0, 1) := by decide +kernel
theorem dX10_decodeInto_8 : decode cX10_decodeInto 8 = .ok (.istore_n 3, 1) := by decide +kernel
theorem dX10_decodeInto_9 : decode cX10_decodeInto 9 = .ok (.iconst 0, 1) := by decide +kernel
theorem dX10_decodeInto_10 : decode cX10_decodeInto 10 = .ok (.istore 4, 2) := by decide +kernel
theorem dX10_decodeInto_12 : decode cX10_decodeInto 12 = .ok (.iload 4, 2) := by decide +kernel
theorem dX10_decodeInto_14 : decode cX10_decodeInto 14 = .ok (.aload_n 0, 1) := by decide +kernel
theorem dX10_decodeInto_15 : decode cX10_decodeInto 15 = .ok (.getfield 29, 3) := by decide +kernel
theorem dX10_decodeInto_18 : decode cX10_decodeInto 18 = .ok (.invokevirtual 107, 3) := by decide +kernel
theorem dX10_decodeInto_21 : decode cX10_decodeInto 21 = .ok (.if_icmp .ge 125, 3) := by decide +kernel
theorem dX10_decodeInto_24 : decode cX10_decodeInto 24 = .ok (.aload_n 0, 1) := by decide +kernel
theorem dX10_decodeInto_25 : decode cX10_decodeInto 25 = .ok (.getfield 29, 3) := by decide +kernel
theorem dX10_decodeInto_28 : decode cX10_decodeInto 28 = .ok (.iload 4, 2) := by decide +kernel
theorem dX10_decodeInto_30 : decode cX10_decodeInto 30 = .ok (.invokevirtual 243, 3) := by decide +kernel
theorem dX10_decodeInto_33 : decode cX10_decodeInto 33 = .ok (.istore 5, 2) := by decide +kernel
theorem dX10_decodeInto_35 : decode cX10_decodeInto 35 = .ok (.iload 5, 2) := by decide +kernel
theorem dX10_decodeInto_37 : decode cX10_decodeInto 37 = .ok (.bipush 14, 2) := by decide +kernel
theorem dX10_decodeInto_39 : decode cX10_decodeInto 39 = .ok (.if_icmp .eq 10, 3) := by decide +kernel
theorem dX10_decodeInto_42 : decode cX10_decodeInto 42 = .ok (.iload 5, 2) := by decide +kernel
theorem dX10_decodeInto_44 : decode cX10_decodeInto 44 = .ok (.bipush 15, 2) := by decide +kernel
theorem dX10_decodeInto_46 : decode cX10_decodeInto 46 = .ok (.if_icmp .ne 19, 3) := by decide +kernel
theorem dX10_decodeInto_49 : decode cX10_decodeInto 49 = .ok (.iload 5, 2) := by decide +kernel
theorem dX10_decodeInto_51 : decode cX10_decodeInto 51 = .ok (.bipush 14, 2) := by decide +kernel
theorem dX10_decodeInto_53 : decode cX10_decodeInto 53 = .ok (.if_icmp .ne 7, 3) := by decide +kernel
theorem dX10_decodeInto_56 : decode cX10_decodeInto 56 = .ok (.iconst 1, 1) := by decide +kernel
theorem dX10_decodeInto_57 : decode cX10_decodeInto 57 = .ok (.goto 4, 3) := by decide +kernel
theorem dX10_decodeInto_60 : decode cX10_decodeInto 60 = .ok (.iconst 0, 1) := by decide +kernel
theorem dX10_decodeInto_61 : decode cX10_decodeInto 61 = .ok (.istore_n 3, 1) := by decide +kernel
theorem dX10_decodeInto_62 : decode cX10_decodeInto 62 = .ok (.goto 78, 3) := by decide +kernel
theorem dX10_decodeInto_65 : decode cX10_decodeInto 65 = .ok (.iload 5, 2) := by decide +kernel
theorem dX10_decodeInto_67 : decode cX10_decodeInto 67 = .ok (.bipush 32, 2) := by decide +kernel
theorem dX10_decodeInto_69 : decode cX10_decodeInto 69 = .ok (.isub, 1) := by decide +kernel
theorem dX10_decodeInto_70 : decode cX10_decodeInto 70 = .ok (.iload_n 3, 1) := by decide +kernel
theorem dX10_decodeInto_71 : decode cX10_decodeInto 71 = .ok (.bipush 64, 2) := by decide +kernel
theorem dX10_decodeInto_73 : decode cX10_decodeInto 73 = .ok (.imul, 1) := by decide +kernel
theorem dX10_decodeInto_74 : decode cX10_decodeInto 74 = .ok (.iadd, 1) := by decide +kernel
theorem dX10_decodeInto_75 : decode cX10_decodeInto 75 = .ok (.istore 6, 2) := by decide +kernel
theorem dX10_decodeInto_77 : decode cX10_decodeInto 77 = .ok (.iload 5, 2) := by decide +kernel
theorem dX10_decodeInto_79 : decode cX10_decodeInto 79 = .ok (.bipush 32, 2) := by decide +kernel
theorem dX10_decodeInto_81 : decode cX10_decodeInto 81 = .ok (.if_icmp .lt 23, 3) := by decide +kernel
theorem dX10_decodeInto_84 : decode cX10_decodeInto 84 = .ok (.iload 6, 2) := by decide +kernel
theorem dX10_decodeInto_86 : decode cX10_decodeInto 86 = .ok (.iload_n 3, 1) := by decide +kernel
theorem dX10_decodeInto_87 : decode cX10_decodeInto 87 = .ok (.ifCond .ne 8, 3) := by decide +kernel
theorem dX10_decodeInto_90 : decode cX10_decodeInto 90 = .ok (.bipush 64, 2) := by decide +kernel
theorem dX10_decodeInto_92 : decode cX10_decodeInto 92 = .ok (.goto 5, 3) := by decide +kernel
theorem dX10_decodeInto_95 : decode cX10_decodeInto 95 = .ok (.bipush 96, 2) := by decide +kernel
theorem dX10_decodeInto_97 : decode cX10_decodeInto 97 = .ok (.if_icmp .ge 7, 3) := by decide +kernel
theorem dX10_decodeInto_100 : decode cX10_decodeInto 100 = .ok (.iconst 1, 1) := by decide +kernel
theorem dX10_decodeInto_101 : decode cX10_decodeInto 101 = .ok (.goto 4, 3) := by decide +kernel
theorem dX10_decodeInto_104 : decode cX10_decodeInto 104 = .ok (.iconst 0, 1) := by decide +kernel
theorem dX10_decodeInto_105 : decode cX10_decodeInto 105 = .ok (.istore 7, 2) := by decide +kernel
theorem dX10_decodeInto_107 : decode cX10_decodeInto 107 = .ok (.iload_n 2, 1) := by decide +kernel
theorem dX10_decodeInto_108 : decode cX10_decodeInto 108 = .ok (.iload 7, 2) := by decide +kernel
theorem dX10_decodeInto_110 : decode cX10_decodeInto 110 = .ok (.ifCond .eq 7, 3) := by decide +kernel
theorem dX10_decodeInto_113 : decode cX10_decodeInto 113 = .ok (.iconst 0, 1) := by decide +kernel
theorem dX10_decodeInto_114 : decode cX10_decodeInto 114 = .ok (.goto 4, 3) := by decide +kernel
theorem dX10_decodeInto_117 : decode cX10_decodeInto 117 = .ok (.iconst 1, 1) := by decide +kernel
theorem dX10_decodeInto_118 : decode cX10_decodeInto 118 = .ok (.iadd, 1) := by decide +kernel
theorem dX10_decodeInto_119 : decode cX10_decodeInto 119 = .ok (.istore_n 2, 1) := by decide +kernel
theorem dX10_decodeInto_120 : decode cX10_decodeInto 120 = .ok (.aload_n 1, 1) := by decide +kernel
theorem dX10_decodeInto_121 : decode cX10_decodeInto 121 = .ok (.iload 7, 2) := by decide +kernel
theorem dX10_decodeInto_123 : decode cX10_decodeInto 123 = .ok (.ifCond .eq 8, 3) := by decide +kernel
theorem dX10_decodeInto_126 : decode cX10_decodeInto 126 = .ok (.iload 6, 2) := by decide +kernel
theorem dX10_decodeInto_128 : decode cX10_decodeInto 128 = .ok (.goto 4, 3) := by decide +kernel
theorem dX10_decodeInto_131 : decode cX10_decodeInto 131 = .ok (.iconst 0, 1) := by decide +kernel
theorem dX10_decodeInto_132 : decode cX10_decodeInto 132 = .ok (.invokevirtual 120, 3) := by decide +kernel
theorem dX10_decodeInto_135 : decode cX10_decodeInto 135 = .ok (.ifCond .ne 5, 3) := by decide +kernel
theorem dX10_decodeInto_138 : decode cX10_decodeInto 138 = .ok (.iconst (-1), 1) := by decide +kernel
theorem dX10_decodeInto_139 : decode cX10_decodeInto 139 = .ok (.ireturn, 1) := by decide +kernel
theorem dX10_decodeInto_140 : decode cX10_decodeInto 140 = .ok (.iinc 4 1, 3) := by decide +kernel
theorem dX10_decodeInto_143 : decode cX10_decodeInto 143 = .ok (.goto (-131), 3) := by decide +kernel
theorem dX10_decodeInto_146 : decode cX10_decodeInto 146 = .ok (.iload_n 2, 1) := by decide +kernel
theorem dX10_decodeInto_147 : decode cX10_decodeInto 147 = .ok (.iload_n 3, 1) := by decide +kernel
theorem dX10_decodeInto_148 : decode cX10_decodeInto 148 = .ok (.iadd, 1) := by decide +kernel
theorem dX10_decodeInto_149 : decode cX10_decodeInto 149 = .ok (.ireturn, 1) := by decide +kernel
theorem dX10_cellOf_0 : decode cX10_cellOf 0 = .ok (.iload_n 1, 1) := by decide +kernel
theorem dX10_cellOf_1 : decode cX10_cellOf 1 = .ok (.ifCond .lt 9, 3) := by decide +kernel
theorem dX10_cellOf_4 : decode cX10_cellOf 4 = .ok (.iload_n 1, 1) := by decide +kernel
theorem dX10_cellOf_5 : decode cX10_cellOf 5 = .ok (.aload_n 0, 1) := by decide +kernel
theorem dX10_cellOf_6 : decode cX10_cellOf 6 = .ok (.arraylength, 1) := by decide +kernel
theorem dX10_cellOf_7 : decode cX10_cellOf 7 = .ok (.if_icmp .lt 7, 3) := by decide +kernel
theorem dX10_cellOf_10 : decode cX10_cellOf 10 = .ok (.iload_n 2, 1) := by decide +kernel
theorem dX10_cellOf_11 : decode cX10_cellOf 11 = .ok (.goto 6, 3) := by decide +kernel
theorem dX10_cellOf_14 : decode cX10_cellOf 14 = .ok (.aload_n 0, 1) := by decide +kernel
theorem dX10_cellOf_15 : decode cX10_cellOf 15 = .ok (.iload_n 1, 1) := by decide +kernel
theorem dX10_cellOf_16 : decode cX10_cellOf 16 = .ok (.iaload, 1) := by decide +kernel
theorem dX10_cellOf_17 : decode cX10_cellOf 17 = .ok (.ireturn, 1) := by decide +kernel
theorem dX10_setCell_0 : decode cX10_setCell 0 = .ok (.iload_n 1, 1) := by decide +kernel
theorem dX10_setCell_1 : decode cX10_setCell 1 = .ok (.ifCond .lt 13, 3) := by decide +kernel
theorem dX10_setCell_4 : decode cX10_setCell 4 = .ok (.iload_n 1, 1) := by decide +kernel
theorem dX10_setCell_5 : decode cX10_setCell 5 = .ok (.aload_n 0, 1) := by decide +kernel
theorem dX10_setCell_6 : decode cX10_setCell 6 = .ok (.arraylength, 1) := by decide +kernel
theorem dX10_setCell_7 : decode cX10_setCell 7 = .ok (.if_icmp .ge 7, 3) := by decide +kernel
theorem dX10_setCell_10 : decode cX10_setCell 10 = .ok (.aload_n 0, 1) := by decide +kernel
theorem dX10_setCell_11 : decode cX10_setCell 11 = .ok (.iload_n 1, 1) := by decide +kernel
theorem dX10_setCell_12 : decode cX10_setCell 12 = .ok (.iload_n 2, 1) := by decide +kernel
theorem dX10_setCell_13 : decode cX10_setCell 13 = .ok (.iastore, 1) := by decide +kernel
theorem dX10_setCell_14 : decode cX10_setCell 14 = .ok (.return_, 1) := by decide +kernel
theorem dX10_copyCells_0 : decode cX10_copyCells 0 = .ok (.iconst 0, 1) := by decide +kernel
theorem dX10_copyCells_1 : decode cX10_copyCells 1 = .ok (.istore_n 2, 1) := by decide +kernel
theorem dX10_copyCells_2 : decode cX10_copyCells 2 = .ok (.iload_n 2, 1) := by decide +kernel
theorem dX10_copyCells_3 : decode cX10_copyCells 3 = .ok (.aload_n 0, 1) := by decide +kernel
theorem dX10_copyCells_4 : decode cX10_copyCells 4 = .ok (.arraylength, 1) := by decide +kernel
theorem dX10_copyCells_5 : decode cX10_copyCells 5 = .ok (.if_icmp .ge 21, 3) := by decide +kernel
theorem dX10_copyCells_8 : decode cX10_copyCells 8 = .ok (.iload_n 2, 1) := by decide +kernel
theorem dX10_copyCells_9 : decode cX10_copyCells 9 = .ok (.aload_n 1, 1) := by decide +kernel
theorem dX10_copyCells_10 : decode cX10_copyCells 10 = .ok (.arraylength, 1) := by decide +kernel
theorem dX10_copyCells_11 : decode cX10_copyCells 11 = .ok (.if_icmp .ge 15, 3) := by decide +kernel
theorem dX10_copyCells_14 : decode cX10_copyCells 14 = .ok (.aload_n 1, 1) := by decide +kernel
theorem dX10_copyCells_15 : decode cX10_copyCells 15 = .ok (.iload_n 2, 1) := by decide +kernel
theorem dX10_copyCells_16 : decode cX10_copyCells 16 = .ok (.aload_n 0, 1) := by decide +kernel
theorem dX10_copyCells_17 : decode cX10_copyCells 17 = .ok (.iload_n 2, 1) := by decide +kernel
theorem dX10_copyCells_18 : decode cX10_copyCells 18 = .ok (.iaload, 1) := by decide +kernel
theorem dX10_copyCells_19 : decode cX10_copyCells 19 = .ok (.iastore, 1) := by decide +kernel
theorem dX10_copyCells_20 : decode cX10_copyCells 20 = .ok (.iinc 2 1, 3) := by decide +kernel
theorem dX10_copyCells_23 : decode cX10_copyCells 23 = .ok (.goto (-21), 3) := by decide +kernel
theorem dX10_copyCells_26 : decode cX10_copyCells 26 = .ok (.return_, 1) := by decide +kernel
theorem dX10_fillCells_0 : decode cX10_fillCells 0 = .ok (.iconst 0, 1) := by decide +kernel
theorem dX10_fillCells_1 : decode cX10_fillCells 1 = .ok (.istore_n 2, 1) := by decide +kernel
theorem dX10_fillCells_2 : decode cX10_fillCells 2 = .ok (.iload_n 2, 1) := by decide +kernel
theorem dX10_fillCells_3 : decode cX10_fillCells 3 = .ok (.aload_n 0, 1) := by decide +kernel
theorem dX10_fillCells_4 : decode cX10_fillCells 4 = .ok (.arraylength, 1) := by decide +kernel
theorem dX10_fillCells_5 : decode cX10_fillCells 5 = .ok (.if_icmp .ge 13, 3) := by decide +kernel
theorem dX10_fillCells_8 : decode cX10_fillCells 8 = .ok (.aload_n 0, 1) := by decide +kernel
theorem dX10_fillCells_9 : decode cX10_fillCells 9 = .ok (.iload_n 2, 1) := by decide +kernel
theorem dX10_fillCells_10 : decode cX10_fillCells 10 = .ok (.iload_n 1, 1) := by decide +kernel
theorem dX10_fillCells_11 : decode cX10_fillCells 11 = .ok (.iastore, 1) := by decide +kernel
theorem dX10_fillCells_12 : decode cX10_fillCells 12 = .ok (.iinc 2 1, 3) := by decide +kernel
theorem dX10_fillCells_15 : decode cX10_fillCells 15 = .ok (.goto (-13), 3) := by decide +kernel
theorem dX10_fillCells_18 : decode cX10_fillCells 18 = .ok (.return_, 1) := by decide +kernel
theorem dX11_init_0 : decode cX11_init 0 = .ok (.aload_n 0, 1) := by decide +kernel
theorem dX11_init_1 : decode cX11_init 1 = .ok (.invokespecial 1, 3) := by decide +kernel
theorem dX11_init_4 : decode cX11_init 4 = .ok (.aload_n 0, 1) := by decide +kernel
theorem dX11_init_5 : decode cX11_init 5 = .ok (.sipush 1740, 3) := by decide +kernel
theorem dX11_init_8 : decode cX11_init 8 = .ok (.newarray .int, 2) := by decide +kernel
theorem dX11_init_10 : decode cX11_init 10 = .ok (.putfield 7, 3) := by decide +kernel
theorem dX11_init_13 : decode cX11_init 13 = .ok (.aload_n 0, 1) := by decide +kernel
theorem dX11_init_14 : decode cX11_init 14 = .ok (.sipush 6960, 3) := by decide +kernel
theorem dX11_init_17 : decode cX11_init 17 = .ok (.newarray .int, 2) := by decide +kernel
theorem dX11_init_19 : decode cX11_init 19 = .ok (.putfield 13, 3) := by decide +kernel
theorem dX11_init_22 : decode cX11_init 22 = .ok (.aload_n 0, 1) := by decide +kernel
theorem dX11_init_23 : decode cX11_init 23 = .ok (.sipush 240, 3) := by decide +kernel
theorem dX11_init_26 : decode cX11_init 26 = .ok (.newarray .int, 2) := by decide +kernel
theorem dX11_init_28 : decode cX11_init 28 = .ok (.putfield 16, 3) := by decide +kernel
theorem dX11_init_31 : decode cX11_init 31 = .ok (.aload_n 0, 1) := by decide +kernel
theorem dX11_init_32 : decode cX11_init 32 = .ok (.bipush 6, 2) := by decide +kernel
theorem dX11_init_34 : decode cX11_init 34 = .ok (.newarray .int, 2) := by decide +kernel
theorem dX11_init_36 : decode cX11_init 36 = .ok (.putfield 19, 3) := by decide +kernel
theorem dX11_init_39 : decode cX11_init 39 = .ok (.aload_n 0, 1) := by decide +kernel
theorem dX11_init_40 : decode cX11_init 40 = .ok (.sipush 160, 3) := by decide +kernel
theorem dX11_init_43 : decode cX11_init 43 = .ok (.newarray .int, 2) := by decide +kernel
theorem dX11_init_45 : decode cX11_init 45 = .ok (.putfield 22, 3) := by decide +kernel
theorem dX11_init_48 : decode cX11_init 48 = .ok (.aload_n 0, 1) := by decide +kernel
theorem dX11_init_49 : decode cX11_init 49 = .ok (.sipush 200, 3) := by decide +kernel
theorem dX11_init_52 : decode cX11_init 52 = .ok (.newarray .int, 2) := by decide +kernel
theorem dX11_init_54 : decode cX11_init 54 = .ok (.putfield 25, 3) := by decide +kernel
theorem dX11_init_57 : decode cX11_init 57 = .ok (.aload_n 0, 1) := by decide +kernel
theorem dX11_init_58 : decode cX11_init 58 = .ok (.bipush 100, 2) := by decide +kernel
theorem dX11_init_60 : decode cX11_init 60 = .ok (.newarray .int, 2) := by decide +kernel
theorem dX11_init_62 : decode cX11_init 62 = .ok (.putfield 28, 3) := by decide +kernel
theorem dX11_init_65 : decode cX11_init 65 = .ok (.aload_n 0, 1) := by decide +kernel
theorem dX11_init_66 : decode cX11_init 66 = .ok (.bipush 100, 2) := by decide +kernel
theorem dX11_init_68 : decode cX11_init 68 = .ok (.newarray .int, 2) := by decide +kernel
theorem dX11_init_70 : decode cX11_init 70 = .ok (.putfield 31, 3) := by decide +kernel
theorem dX11_init_73 : decode cX11_init 73 = .ok (.aload_n 0, 1) := by decide +kernel
theorem dX11_init_74 : decode cX11_init 74 = .ok (.bipush 40, 2) := by decide +kernel
theorem dX11_init_76 : decode cX11_init 76 = .ok (.newarray .int, 2) := by decide +kernel
theorem dX11_init_78 : decode cX11_init 78 = .ok (.putfield 34, 3) := by decide +kernel
theorem dX11_init_81 : decode cX11_init 81 = .ok (.aload_n 0, 1) := by decide +kernel
theorem dX11_init_82 : decode cX11_init 82 = .ok (.bipush 40, 2) := by decide +kernel
theorem dX11_init_84 : decode cX11_init 84 = .ok (.newarray .int, 2) := by decide +kernel
theorem dX11_init_86 : decode cX11_init 86 = .ok (.putfield 37, 3) := by decide +kernel
theorem dX11_init_89 : decode cX11_init 89 = .ok (.aload_n 0, 1) := by decide +kernel
theorem dX11_init_90 : decode cX11_init 90 = .ok (.bipush 40, 2) := by decide +kernel
theorem dX11_init_92 : decode cX11_init 92 = .ok (.newarray .int, 2) := by decide +kernel
theorem dX11_init_94 : decode cX11_init 94 = .ok (.putfield 40, 3) := by decide +kernel
theorem dX11_init_97 : decode cX11_init 97 = .ok (.aload_n 0, 1) := by decide +kernel
theorem dX11_init_98 : decode cX11_init 98 = .ok (.bipush 40, 2) := by decide +kernel
theorem dX11_init_100 : decode cX11_init 100 = .ok (.newarray .int, 2) := by decide +kernel
theorem dX11_init_102 : decode cX11_init 102 = .ok (.putfield 43, 3) := by decide +kernel
theorem dX11_init_105 : decode cX11_init 105 = .ok (.aload_n 0, 1) := by decide +kernel
theorem dX11_init_106 : decode cX11_init 106 = .ok (.bipush 40, 2) := by decide +kernel
theorem dX11_init_108 : decode cX11_init 108 = .ok (.newarray .int, 2) := by decide +kernel
theorem dX11_init_110 : decode cX11_init 110 = .ok (.putfield 46, 3) := by decide +kernel
theorem dX11_init_113 : decode cX11_init 113 = .ok (.aload_n 0, 1) := by decide +kernel
theorem dX11_init_114 : decode cX11_init 114 = .ok (.bipush 41, 2) := by decide +kernel
theorem dX11_init_116 : decode cX11_init 116 = .ok (.newarray .int, 2) := by decide +kernel
theorem dX11_init_118 : decode cX11_init 118 = .ok (.putfield 49, 3) := by decide +kernel
theorem dX11_init_121 : decode cX11_init 121 = .ok (.aload_n 0, 1) := by decide +kernel
theorem dX11_init_122 : decode cX11_init 122 = .ok (.bipush 41, 2) := by decide +kernel
theorem dX11_init_124 : decode cX11_init 124 = .ok (.newarray .int, 2) := by decide +kernel
theorem dX11_init_126 : decode cX11_init 126 = .ok (.putfield 52, 3) := by decide +kernel
theorem dX11_init_129 : decode cX11_init 129 = .ok (.aload_n 0, 1) := by decide +kernel
theorem dX11_init_130 : decode cX11_init 130 = .ok (.bipush 41, 2) := by decide +kernel
theorem dX11_init_132 : decode cX11_init 132 = .ok (.newarray .int, 2) := by decide +kernel
theorem dX11_init_134 : decode cX11_init 134 = .ok (.putfield 55, 3) := by decide +kernel
theorem dX11_init_137 : decode cX11_init 137 = .ok (.aload_n 0, 1) := by decide +kernel
theorem dX11_init_138 : decode cX11_init 138 = .ok (.bipush 41, 2) := by decide +kernel
theorem dX11_init_140 : decode cX11_init 140 = .ok (.newarray .int, 2) := by decide +kernel
theorem dX11_init_142 : decode cX11_init 142 = .ok (.putfield 58, 3) := by decide +kernel
theorem dX11_init_145 : decode cX11_init 145 = .ok (.aload_n 0, 1) := by decide +kernel
theorem dX11_init_146 : decode cX11_init 146 = .ok (.bipush 40, 2) := by decide +kernel
theorem dX11_init_148 : decode cX11_init 148 = .ok (.newarray .int, 2) := by decide +kernel
theorem dX11_init_150 : decode cX11_init 150 = .ok (.putfield 61, 3) := by decide +kernel
theorem dX11_init_153 : decode cX11_init 153 = .ok (.aload_n 0, 1) := by decide +kernel
theorem dX11_init_154 : decode cX11_init 154 = .ok (.bipush 40, 2) := by decide +kernel
theorem dX11_init_156 : decode cX11_init 156 = .ok (.newarray .int, 2) := by decide +kernel
theorem dX11_init_158 : decode cX11_init 158 = .ok (.putfield 64, 3) := by decide +kernel
theorem dX11_init_161 : decode cX11_init 161 = .ok (.aload_n 0, 1) := by decide +kernel
theorem dX11_init_162 : decode cX11_init 162 = .ok (.bipush 41, 2) := by decide +kernel
theorem dX11_init_164 : decode cX11_init 164 = .ok (.newarray .boolean, 2) := by decide +kernel
theorem dX11_init_166 : decode cX11_init 166 = .ok (.putfield 67, 3) := by decide +kernel
theorem dX11_init_169 : decode cX11_init 169 = .ok (.aload_n 0, 1) := by decide +kernel
theorem dX11_init_170 : decode cX11_init 170 = .ok (.sipush 250, 3) := by decide +kernel
theorem dX11_init_173 : decode cX11_init 173 = .ok (.newarray .int, 2) := by decide +kernel
theorem dX11_init_175 : decode cX11_init 175 = .ok (.putfield 71, 3) := by decide +kernel
theorem dX11_init_178 : decode cX11_init 178 = .ok (.aload_n 0, 1) := by decide +kernel
theorem dX11_init_179 : decode cX11_init 179 = .ok (.sipush 250, 3) := by decide +kernel
theorem dX11_init_182 : decode cX11_init 182 = .ok (.newarray .int, 2) := by decide +kernel
theorem dX11_init_184 : decode cX11_init 184 = .ok (.putfield 74, 3) := by decide +kernel
theorem dX11_init_187 : decode cX11_init 187 = .ok (.aload_n 0, 1) := by decide +kernel
theorem dX11_init_188 : decode cX11_init 188 = .ok (.bipush 8, 2) := by decide +kernel
theorem dX11_init_190 : decode cX11_init 190 = .ok (.newarray .int, 2) := by decide +kernel
theorem dX11_init_192 : decode cX11_init 192 = .ok (.putfield 77, 3) := by decide +kernel
theorem dX11_init_195 : decode cX11_init 195 = .ok (.aload_n 0, 1) := by decide +kernel
theorem dX11_init_196 : decode cX11_init 196 = .ok (.bipush 8, 2) := by decide +kernel
theorem dX11_init_198 : decode cX11_init 198 = .ok (.newarray .int, 2) := by decide +kernel
theorem dX11_init_200 : decode cX11_init 200 = .ok (.putfield 80, 3) := by decide +kernel
theorem dX11_init_203 : decode cX11_init 203 = .ok (.aload_n 0, 1) := by decide +kernel
theorem dX11_init_204 : decode cX11_init 204 = .ok (.bipush 8, 2) := by decide +kernel
theorem dX11_init_206 : decode cX11_init 206 = .ok (.newarray .int, 2) := by decide +kernel
theorem dX11_init_208 : decode cX11_init 208 = .ok (.putfield 83, 3) := by decide +kernel
theorem dX11_init_211 : decode cX11_init 211 = .ok (.aload_n 0, 1) := by decide +kernel
theorem dX11_init_212 : decode cX11_init 212 = .ok (.bipush 41, 2) := by decide +kernel
theorem dX11_init_214 : decode cX11_init 214 = .ok (.newarray .boolean, 2) := by decide +kernel
theorem dX11_init_216 : decode cX11_init 216 = .ok (.putfield 86, 3) := by decide +kernel
theorem dX11_init_219 : decode cX11_init 219 = .ok (.aload_n 0, 1) := by decide +kernel
theorem dX11_init_220 : decode cX11_init 220 = .ok (.bipush 41, 2) := by decide +kernel
theorem dX11_init_222 : decode cX11_init 222 = .ok (.newarray .boolean, 2) := by decide +kernel
theorem dX11_init_224 : decode cX11_init 224 = .ok (.putfield 89, 3) := by decide +kernel
theorem dX11_init_227 : decode cX11_init 227 = .ok (.aload_n 0, 1) := by decide +kernel
theorem dX11_init_228 : decode cX11_init 228 = .ok (.bipush 40, 2) := by decide +kernel
theorem dX11_init_230 : decode cX11_init 230 = .ok (.newarray .int, 2) := by decide +kernel
theorem dX11_init_232 : decode cX11_init 232 = .ok (.putfield 92, 3) := by decide +kernel
theorem dX11_init_235 : decode cX11_init 235 = .ok (.aload_n 0, 1) := by decide +kernel
theorem dX11_init_236 : decode cX11_init 236 = .ok (.bipush 7, 2) := by decide +kernel
theorem dX11_init_238 : decode cX11_init 238 = .ok (.newarray .int, 2) := by decide +kernel
theorem dX11_init_240 : decode cX11_init 240 = .ok (.putfield 95, 3) := by decide +kernel
theorem dX11_init_243 : decode cX11_init 243 = .ok (.aload_n 0, 1) := by decide +kernel
theorem dX11_init_244 : decode cX11_init 244 = .ok (.bipush 7, 2) := by decide +kernel
theorem dX11_init_246 : decode cX11_init 246 = .ok (.newarray .boolean, 2) := by decide +kernel
theorem dX11_init_248 : decode cX11_init 248 = .ok (.putfield 98, 3) := by decide +kernel
theorem dX11_init_251 : decode cX11_init 251 = .ok (.aload_n 0, 1) := by decide +kernel
theorem dX11_init_252 : decode cX11_init 252 = .ok (.bipush 7, 2) := by decide +kernel
theorem dX11_init_254 : decode cX11_init 254 = .ok (.newarray .boolean, 2) := by decide +kernel
theorem dX11_init_256 : decode cX11_init 256 = .ok (.putfield 101, 3) := by decide +kernel
theorem dX11_init_259 : decode cX11_init 259 = .ok (.aload_n 0, 1) := by decide +kernel
theorem dX11_init_260 : decode cX11_init 260 = .ok (.iconst 4, 1) := by decide +kernel
theorem dX11_init_261 : decode cX11_init 261 = .ok (.newarray .int, 2) := by decide +kernel
theorem dX11_init_263 : decode cX11_init 263 = .ok (.putfield 104, 3) := by decide +kernel
theorem dX11_init_266 : decode cX11_init 266 = .ok (.iconst 0, 1) := by decide +kernel
theorem dX11_init_267 : decode cX11_init 267 = .ok (.istore_n 1, 1) := by decide +kernel
theorem dX11_init_268 : decode cX11_init 268 = .ok (.iload_n 1, 1) := by decide +kernel
theorem dX11_init_269 : decode cX11_init 269 = .ok (.bipush 96, 2) := by decide +kernel
theorem dX11_init_271 : decode cX11_init 271 = .ok (.if_icmp .ge 33, 3) := by decide +kernel
theorem dX11_init_274 : decode cX11_init 274 = .ok (.aload_n 0, 1) := by decide +kernel
theorem dX11_init_275 : decode cX11_init 275 = .ok (.getfield 7, 3) := by decide +kernel
theorem dX11_init_278 : decode cX11_init 278 = .ok (.bipush 9, 2) := by decide +kernel
theorem dX11_init_280 : decode cX11_init 280 = .ok (.iload_n 1, 1) := by decide +kernel
theorem dX11_init_281 : decode cX11_init 281 = .ok (.imul, 1) := by decide +kernel
theorem dX11_init_282 : decode cX11_init 282 = .ok (.iconst 1, 1) := by decide +kernel
theorem dX11_init_283 : decode cX11_init 283 = .ok (.iadd, 1) := by decide +kernel
theorem dX11_init_284 : decode cX11_init 284 = .ok (.iconst 3, 1) := by decide +kernel
theorem dX11_init_285 : decode cX11_init 285 = .ok (.iastore, 1) := by decide +kernel
theorem dX11_init_286 : decode cX11_init 286 = .ok (.aload_n 0, 1) := by decide +kernel
theorem dX11_init_287 : decode cX11_init 287 = .ok (.getfield 7, 3) := by decide +kernel
theorem dX11_init_290 : decode cX11_init 290 = .ok (.bipush 9, 2) := by decide +kernel
theorem dX11_init_292 : decode cX11_init 292 = .ok (.iload_n 1, 1) := by decide +kernel
theorem dX11_init_293 : decode cX11_init 293 = .ok (.imul, 1) := by decide +kernel
theorem dX11_init_294 : decode cX11_init 294 = .ok (.iconst 3, 1) := by decide +kernel
theorem dX11_init_295 : decode cX11_init 295 = .ok (.iadd, 1) := by decide +kernel
theorem dX11_init_296 : decode cX11_init 296 = .ok (.iload_n 1, 1) := by decide +kernel
theorem dX11_init_297 : decode cX11_init 297 = .ok (.iastore, 1) := by decide +kernel
theorem dX11_init_298 : decode cX11_init 298 = .ok (.iinc 1 1, 3) := by decide +kernel
theorem dX11_init_301 : decode cX11_init 301 = .ok (.goto (-33), 3) := by decide +kernel
theorem dX11_init_304 : decode cX11_init 304 = .ok (.return_, 1) := by decide +kernel
theorem dX11_thrown_0 : decode cX11_thrown 0 = .ok (.aload_n 0, 1) := by decide +kernel
theorem dX11_thrown_1 : decode cX11_thrown 1 = .ok (.getfield 107, 3) := by decide +kernel
theorem dX11_thrown_4 : decode cX11_thrown 4 = .ok (.ireturn, 1) := by decide +kernel
theorem dX11_holds_0 : decode cX11_holds 0 = .ok (.aload_n 0, 1) := by decide +kernel
theorem dX11_holds_1 : decode cX11_holds 1 = .ok (.iload_n 1, 1) := by decide +kernel
theorem dX11_holds_2 : decode cX11_holds 2 = .ok (.putfield 107, 3) := by decide +kernel
theorem dX11_holds_5 : decode cX11_holds 5 = .ok (.iload_n 1, 1) := by decide +kernel
theorem dX11_holds_6 : decode cX11_holds 6 = .ok (.ifCond .ne 7, 3) := by decide +kernel
theorem dX11_holds_9 : decode cX11_holds 9 = .ok (.iconst 1, 1) := by decide +kernel
theorem dX11_holds_10 : decode cX11_holds 10 = .ok (.goto 4, 3) := by decide +kernel
theorem dX11_holds_13 : decode cX11_holds 13 = .ok (.iconst 0, 1) := by decide +kernel
theorem dX11_holds_14 : decode cX11_holds 14 = .ok (.ireturn, 1) := by decide +kernel
theorem dX11_in_0 : decode cX11_in 0 = .ok (.iload_n 0, 1) := by decide +kernel
theorem dX11_in_1 : decode cX11_in 1 = .ok (.iload_n 1, 1) := by decide +kernel
theorem dX11_in_2 : decode cX11_in 2 = .ok (.if_icmp .lt 12, 3) := by decide +kernel
theorem dX11_in_5 : decode cX11_in 5 = .ok (.iload_n 0, 1) := by decide +kernel
theorem dX11_in_6 : decode cX11_in 6 = .ok (.iload_n 2, 1) := by decide +kernel
theorem dX11_in_7 : decode cX11_in 7 = .ok (.if_icmp .gt 7, 3) := by decide +kernel
theorem dX11_in_10 : decode cX11_in 10 = .ok (.iconst 1, 1) := by decide +kernel
theorem dX11_in_11 : decode cX11_in 11 = .ok (.goto 4, 3) := by decide +kernel
theorem dX11_in_14 : decode cX11_in 14 = .ok (.iconst 0, 1) := by decide +kernel
theorem dX11_in_15 : decode cX11_in 15 = .ok (.ireturn, 1) := by decide +kernel
theorem dX11_isLetter_0 : decode cX11_isLetter 0 = .ok (.iload_n 0, 1) := by decide +kernel
theorem dX11_isLetter_1 : decode cX11_isLetter 1 = .ok (.iconst 0, 1) := by decide +kernel
theorem dX11_isLetter_2 : decode cX11_isLetter 2 = .ok (.bipush 95, 2) := by decide +kernel
theorem dX11_isLetter_4 : decode cX11_isLetter 4 = .ok (.invokestatic 111, 3) := by decide +kernel
theorem dX11_isLetter_7 : decode cX11_isLetter 7 = .ok (.ireturn, 1) := by decide +kernel
theorem dX11_isSlot_0 : decode cX11_isSlot 0 = .ok (.iload_n 0, 1) := by decide +kernel
theorem dX11_isSlot_1 : decode cX11_isSlot 1 = .ok (.iconst 0, 1) := by decide +kernel
theorem dX11_isSlot_2 : decode cX11_isSlot 2 = .ok (.iconst 5, 1) := by decide +kernel
theorem dX11_isSlot_3 : decode cX11_isSlot 3 = .ok (.invokestatic 111, 3) := by decide +kernel
theorem dX11_isSlot_6 : decode cX11_isSlot 6 = .ok (.ireturn, 1) := by decide +kernel
theorem dX11_isLanguage_0 : decode cX11_isLanguage 0 = .ok (.iload_n 0, 1) := by decide +kernel
theorem dX11_isLanguage_1 : decode cX11_isLanguage 1 = .ok (.iconst 0, 1) := by decide +kernel
theorem dX11_isLanguage_2 : decode cX11_isLanguage 2 = .ok (.iconst 1, 1) := by decide +kernel
theorem dX11_isLanguage_3 : decode cX11_isLanguage 3 = .ok (.invokestatic 111, 3) := by decide +kernel
theorem dX11_isLanguage_6 : decode cX11_isLanguage 6 = .ok (.ireturn, 1) := by decide +kernel
theorem dX11_of_0 : decode cX11_of 0 = .ok (.aload_n 0, 1) := by decide +kernel
theorem dX11_of_1 : decode cX11_of 1 = .ok (.getfield 7, 3) := by decide +kernel
theorem dX11_of_4 : decode cX11_of 4 = .ok (.bipush 9, 2) := by decide +kernel
theorem dX11_of_6 : decode cX11_of 6 = .ok (.iload_n 1, 1) := by decide +kernel
theorem dX11_of_7 : decode cX11_of 7 = .ok (.imul, 1) := by decide +kernel
theorem dX11_of_8 : decode cX11_of 8 = .ok (.iload_n 2, 1) := by decide +kernel
theorem dX11_of_9 : decode cX11_of 9 = .ok (.iadd, 1) := by decide +kernel
theorem dX11_of_10 : decode cX11_of 10 = .ok (.iaload, 1) := by decide +kernel
theorem dX11_of_11 : decode cX11_of 11 = .ok (.ireturn, 1) := by decide +kernel
theorem dX11_letterAt_0 : decode cX11_letterAt 0 = .ok (.aload_n 0, 1) := by decide +kernel
theorem dX11_letterAt_1 : decode cX11_letterAt 1 = .ok (.getfield 16, 3) := by decide +kernel
theorem dX11_letterAt_4 : decode cX11_letterAt 4 = .ok (.bipush 40, 2) := by decide +kernel
theorem dX11_letterAt_6 : decode cX11_letterAt 6 = .ok (.iload_n 1, 1) := by decide +kernel
theorem dX11_letterAt_7 : decode cX11_letterAt 7 = .ok (.imul, 1) := by decide +kernel
theorem dX11_letterAt_8 : decode cX11_letterAt 8 = .ok (.iload_n 2, 1) := by decide +kernel
theorem dX11_letterAt_9 : decode cX11_letterAt 9 = .ok (.iadd, 1) := by decide +kernel
theorem dX11_letterAt_10 : decode cX11_letterAt 10 = .ok (.iaload, 1) := by decide +kernel
theorem dX11_letterAt_11 : decode cX11_letterAt 11 = .ok (.ireturn, 1) := by decide +kernel
theorem dX11_feed_0 : decode cX11_feed 0 = .ok (.aload_n 0, 1) := by decide +kernel
theorem dX11_feed_1 : decode cX11_feed 1 = .ok (.iload_n 3, 1) := by decide +kernel
theorem dX11_feed_2 : decode cX11_feed 2 = .ok (.iconst 1, 1) := by decide +kernel
theorem dX11_feed_3 : decode cX11_feed 3 = .ok (.bipush 8, 2) := by decide +kernel
theorem dX11_feed_5 : decode cX11_feed 5 = .ok (.invokestatic 111, 3) := by decide +kernel
theorem dX11_feed_8 : decode cX11_feed 8 = .ok (.ifCond .ne 7, 3) := by decide +kernel
theorem dX11_feed_11 : decode cX11_feed 11 = .ok (.iconst 1, 1) := by decide +kernel
theorem dX11_feed_12 : decode cX11_feed 12 = .ok (.goto 20, 3) := by decide +kernel
theorem dX11_feed_15 : decode cX11_feed 15 = .ok (.aload_n 0, 1) := by decide +kernel
theorem dX11_feed_16 : decode cX11_feed 16 = .ok (.getfield 115, 3) := by decide +kernel
theorem dX11_feed_19 : decode cX11_feed 19 = .ok (.iload_n 3, 1) := by decide +kernel
theorem dX11_feed_20 : decode cX11_feed 20 = .ok (.iadd, 1) := by decide +kernel
theorem dX11_feed_21 : decode cX11_feed 21 = .ok (.sipush 160, 3) := by decide +kernel
theorem dX11_feed_24 : decode cX11_feed 24 = .ok (.if_icmp .le 7, 3) := by decide +kernel
theorem dX11_feed_27 : decode cX11_feed 27 = .ok (.iconst 2, 1) := by decide +kernel
theorem dX11_feed_28 : decode cX11_feed 28 = .ok (.goto 4, 3) := by decide +kernel
theorem dX11_feed_31 : decode cX11_feed 31 = .ok (.iconst 0, 1) := by decide +kernel
theorem dX11_feed_32 : decode cX11_feed 32 = .ok (.invokevirtual 118, 3) := by decide +kernel
theorem dX11_feed_35 : decode cX11_feed 35 = .ok (.ifCond .ne 5, 3) := by decide +kernel
theorem dX11_feed_38 : decode cX11_feed 38 = .ok (.iconst 0, 1) := by decide +kernel
theorem dX11_feed_39 : decode cX11_feed 39 = .ok (.ireturn, 1) := by decide +kernel
theorem dX11_feed_40 : decode cX11_feed 40 = .ok (.iconst 0, 1) := by decide +kernel
theorem dX11_feed_41 : decode cX11_feed 41 = .ok (.istore 4, 2) := by decide +kernel
theorem dX11_feed_43 : decode cX11_feed 43 = .ok (.iload 4, 2) := by decide +kernel
theorem dX11_feed_45 : decode cX11_feed 45 = .ok (.iload_n 3, 1) := by decide +kernel
theorem dX11_feed_46 : decode cX11_feed 46 = .ok (.if_icmp .ge 40, 3) := by decide +kernel
theorem dX11_feed_49 : decode cX11_feed 49 = .ok (.aload_n 0, 1) := by decide +kernel
theorem dX11_feed_50 : decode cX11_feed 50 = .ok (.getfield 22, 3) := by decide +kernel
theorem dX11_feed_53 : decode cX11_feed 53 = .ok (.aload_n 0, 1) := by decide +kernel
theorem dX11_feed_54 : decode cX11_feed 54 = .ok (.getfield 115, 3) := by decide +kernel
theorem dX11_feed_57 : decode cX11_feed 57 = .ok (.lload_n 1, 1) := by decide +kernel
theorem dX11_feed_58 : decode cX11_feed 58 = .ok (.bipush 8, 2) := by decide +kernel
theorem dX11_feed_60 : decode cX11_feed 60 = .ok (.iload 4, 2) := by decide +kernel
theorem dX11_feed_62 : decode cX11_feed 62 = .ok (.imul, 1) := by decide +kernel
theorem dX11_feed_63 : decode cX11_feed 63 = .ok (.lushr, 1) := by decide +kernel
theorem dX11_feed_64 : decode cX11_feed 64 = .ok (.ldc2_w 122, 3) := by decide +kernel
theorem dX11_feed_67 : decode cX11_feed 67 = .ok (.land, 1) := by decide +kernel
theorem dX11_feed_68 : decode cX11_feed 68 = .ok (.l2i, 1) := by decide +kernel
theorem dX11_feed_69 : decode cX11_feed 69 = .ok (.iastore, 1) := by decide +kernel
theorem dX11_feed_70 : decode cX11_feed 70 = .ok (.aload_n 0, 1) := by decide +kernel
theorem dX11_feed_71 : decode cX11_feed 71 = .ok (.dup, 1) := by decide +kernel
theorem dX11_feed_72 : decode cX11_feed 72 = .ok (.getfield 115, 3) := by decide +kernel
theorem dX11_feed_75 : decode cX11_feed 75 = .ok (.iconst 1, 1) := by decide +kernel
theorem dX11_feed_76 : decode cX11_feed 76 = .ok (.iadd, 1) := by decide +kernel
theorem dX11_feed_77 : decode cX11_feed 77 = .ok (.putfield 115, 3) := by decide +kernel
theorem dX11_feed_80 : decode cX11_feed 80 = .ok (.iinc 4 1, 3) := by decide +kernel
theorem dX11_feed_83 : decode cX11_feed 83 = .ok (.goto (-40), 3) := by decide +kernel
theorem dX11_feed_86 : decode cX11_feed 86 = .ok (.aload_n 0, 1) := by decide +kernel
theorem dX11_feed_87 : decode cX11_feed 87 = .ok (.getfield 115, 3) := by decide +kernel
theorem dX11_feed_90 : decode cX11_feed 90 = .ok (.ireturn, 1) := by decide +kernel
theorem dX11_letter_0 : decode cX11_letter 0 = .ok (.iload_n 2, 1) := by decide +kernel
theorem dX11_letter_1 : decode cX11_letter 1 = .ok (.iconst 0, 1) := by decide +kernel
theorem dX11_letter_2 : decode cX11_letter 2 = .ok (.bipush 9, 2) := by decide +kernel
theorem dX11_letter_4 : decode cX11_letter 4 = .ok (.invokestatic 111, 3) := by decide +kernel
theorem dX11_letter_7 : decode cX11_letter 7 = .ok (.ifCond .eq 36, 3) := by decide +kernel
theorem dX11_letter_10 : decode cX11_letter 10 = .ok (.iload_n 3, 1) := by decide +kernel
theorem dX11_letter_11 : decode cX11_letter 11 = .ok (.iconst 0, 1) := by decide +kernel
theorem dX11_letter_12 : decode cX11_letter 12 = .ok (.bipush 10, 2) := by decide +kernel
theorem dX11_letter_14 : decode cX11_letter 14 = .ok (.invokestatic 111, 3) := by decide +kernel
theorem dX11_letter_17 : decode cX11_letter 17 = .ok (.ifCond .eq 26, 3) := by decide +kernel
theorem dX11_letter_20 : decode cX11_letter 20 = .ok (.iload 4, 2) := by decide +kernel
theorem dX11_letter_22 : decode cX11_letter 22 = .ok (.iconst 0, 1) := by decide +kernel
theorem dX11_letter_23 : decode cX11_letter 23 = .ok (.bipush 6, 2) := by decide +kernel
theorem dX11_letter_25 : decode cX11_letter 25 = .ok (.invokestatic 111, 3) := by decide +kernel
theorem dX11_letter_28 : decode cX11_letter 28 = .ok (.ifCond .eq 15, 3) := by decide +kernel
theorem dX11_letter_31 : decode cX11_letter 31 = .ok (.iload 5, 2) := by decide +kernel
theorem dX11_letter_33 : decode cX11_letter 33 = .ok (.invokestatic 124, 3) := by decide +kernel
theorem dX11_letter_36 : decode cX11_letter 36 = .ok (.ifCond .eq 7, 3) := by decide +kernel
theorem dX11_letter_39 : decode cX11_letter 39 = .ok (.iconst 1, 1) := by decide +kernel
theorem dX11_letter_40 : decode cX11_letter 40 = .ok (.goto 4, 3) := by decide +kernel
theorem dX11_letter_43 : decode cX11_letter 43 = .ok (.iconst 0, 1) := by decide +kernel
theorem dX11_letter_44 : decode cX11_letter 44 = .ok (.istore 6, 2) := by decide +kernel
theorem dX11_letter_46 : decode cX11_letter 46 = .ok (.aload_n 0, 1) := by decide +kernel
theorem dX11_letter_47 : decode cX11_letter 47 = .ok (.iload_n 1, 1) := by decide +kernel
theorem dX11_letter_48 : decode cX11_letter 48 = .ok (.invokestatic 124, 3) := by decide +kernel
theorem dX11_letter_51 : decode cX11_letter 51 = .ok (.ifCond .ne 7, 3) := by decide +kernel
theorem dX11_letter_54 : decode cX11_letter 54 = .ok (.iconst 1, 1) := by decide +kernel
theorem dX11_letter_55 : decode cX11_letter 55 = .ok (.goto 13, 3) := by decide +kernel
theorem dX11_letter_58 : decode cX11_letter 58 = .ok (.iload 6, 2) := by decide +kernel
theorem dX11_letter_60 : decode cX11_letter 60 = .ok (.ifCond .eq 7, 3) := by decide +kernel
theorem dX11_letter_63 : decode cX11_letter 63 = .ok (.iconst 0, 1) := by decide +kernel
theorem dX11_letter_64 : decode cX11_letter 64 = .ok (.goto 4, 3) := by decide +kernel
theorem dX11_letter_67 : decode cX11_letter 67 = .ok (.iconst 2, 1) := by decide +kernel
theorem dX11_letter_68 : decode cX11_letter 68 = .ok (.invokevirtual 118, 3) := by decide +kernel
theorem dX11_letter_71 : decode cX11_letter 71 = .ok (.ifCond .eq 53, 3) := by decide +kernel
theorem dX11_letter_74 : decode cX11_letter 74 = .ok (.aload_n 0, 1) := by decide +kernel
theorem dX11_letter_75 : decode cX11_letter 75 = .ok (.getfield 7, 3) := by decide +kernel
theorem dX11_letter_78 : decode cX11_letter 78 = .ok (.bipush 9, 2) := by decide +kernel
theorem dX11_letter_80 : decode cX11_letter 80 = .ok (.iload_n 1, 1) := by decide +kernel
theorem dX11_letter_81 : decode cX11_letter 81 = .ok (.imul, 1) := by decide +kernel
theorem dX11_letter_82 : decode cX11_letter 82 = .ok (.iconst 0, 1) := by decide +kernel
theorem dX11_letter_83 : decode cX11_letter 83 = .ok (.iadd, 1) := by decide +kernel
theorem dX11_letter_84 : decode cX11_letter 84 = .ok (.iload_n 2, 1) := by decide +kernel
theorem dX11_letter_85 : decode cX11_letter 85 = .ok (.iastore, 1) := by decide +kernel
theorem dX11_letter_86 : decode cX11_letter 86 = .ok (.aload_n 0, 1) := by decide +kernel
theorem dX11_letter_87 : decode cX11_letter 87 = .ok (.getfield 7, 3) := by decide +kernel
theorem dX11_letter_90 : decode cX11_letter 90 = .ok (.bipush 9, 2) := by decide +kernel
theorem dX11_letter_92 : decode cX11_letter 92 = .ok (.iload_n 1, 1) := by decide +kernel
theorem dX11_letter_93 : decode cX11_letter 93 = .ok (.imul, 1) := by decide +kernel
theorem dX11_letter_94 : decode cX11_letter 94 = .ok (.iconst 1, 1) := by decide +kernel
theorem dX11_letter_95 : decode cX11_letter 95 = .ok (.iadd, 1) := by decide +kernel
theorem dX11_letter_96 : decode cX11_letter 96 = .ok (.iload_n 3, 1) := by decide +kernel
theorem dX11_letter_97 : decode cX11_letter 97 = .ok (.iastore, 1) := by decide +kernel
theorem dX11_letter_98 : decode cX11_letter 98 = .ok (.aload_n 0, 1) := by decide +kernel
theorem dX11_letter_99 : decode cX11_letter 99 = .ok (.getfield 7, 3) := by decide +kernel
theorem dX11_letter_102 : decode cX11_letter 102 = .ok (.bipush 9, 2) := by decide +kernel
theorem dX11_letter_104 : decode cX11_letter 104 = .ok (.iload_n 1, 1) := by decide +kernel
theorem dX11_letter_105 : decode cX11_letter 105 = .ok (.imul, 1) := by decide +kernel
theorem dX11_letter_106 : decode cX11_letter 106 = .ok (.iconst 2, 1) := by decide +kernel
theorem dX11_letter_107 : decode cX11_letter 107 = .ok (.iadd, 1) := by decide +kernel
theorem dX11_letter_108 : decode cX11_letter 108 = .ok (.iload 4, 2) := by decide +kernel
theorem dX11_letter_110 : decode cX11_letter 110 = .ok (.iastore, 1) := by decide +kernel
theorem dX11_letter_111 : decode cX11_letter 111 = .ok (.aload_n 0, 1) := by decide +kernel
theorem dX11_letter_112 : decode cX11_letter 112 = .ok (.getfield 7, 3) := by decide +kernel
theorem dX11_letter_115 : decode cX11_letter 115 = .ok (.bipush 9, 2) := by decide +kernel
theorem dX11_letter_117 : decode cX11_letter 117 = .ok (.iload_n 1, 1) := by decide +kernel
theorem dX11_letter_118 : decode cX11_letter 118 = .ok (.imul, 1) := by decide +kernel
theorem dX11_letter_119 : decode cX11_letter 119 = .ok (.iconst 3, 1) := by decide +kernel
theorem dX11_letter_120 : decode cX11_letter 120 = .ok (.iadd, 1) := by decide +kernel
theorem dX11_letter_121 : decode cX11_letter 121 = .ok (.iload 5, 2) := by decide +kernel
theorem dX11_letter_123 : decode cX11_letter 123 = .ok (.iastore, 1) := by decide +kernel
theorem dX11_letter_124 : decode cX11_letter 124 = .ok (.return_, 1) := by decide +kernel
theorem dX11_split_0 : decode cX11_split 0 = .ok (.iload_n 2, 1) := by decide +kernel
theorem dX11_split_1 : decode cX11_split 1 = .ok (.iconst (-1), 1) := by decide +kernel
theorem dX11_split_2 : decode cX11_split 2 = .ok (.if_icmp .ne 8, 3) := by decide +kernel
theorem dX11_split_5 : decode cX11_split 5 = .ok (.iload_n 3, 1) := by decide +kernel
theorem dX11_split_6 : decode cX11_split 6 = .ok (.iconst (-1), 1) := by decide +kernel
theorem dX11_split_7 : decode cX11_split 7 = .ok (.if_icmp .eq 25, 3) := by decide +kernel
theorem dX11_split_10 : decode cX11_split 10 = .ok (.iload_n 2, 1) := by decide +kernel
theorem dX11_split_11 : decode cX11_split 11 = .ok (.iconst 0, 1) := by decide +kernel
theorem dX11_split_12 : decode cX11_split 12 = .ok (.iload_n 1, 1) := by decide +kernel
theorem dX11_split_13 : decode cX11_split 13 = .ok (.iconst 1, 1) := by decide +kernel
theorem dX11_split_14 : decode cX11_split 14 = .ok (.isub, 1) := by decide +kernel
theorem dX11_split_15 : decode cX11_split 15 = .ok (.invokestatic 111, 3) := by decide +kernel
theorem dX11_split_18 : decode cX11_split 18 = .ok (.ifCond .eq 18, 3) := by decide +kernel
theorem dX11_split_21 : decode cX11_split 21 = .ok (.iload_n 3, 1) := by decide +kernel
theorem dX11_split_22 : decode cX11_split 22 = .ok (.iconst 0, 1) := by decide +kernel
theorem dX11_split_23 : decode cX11_split 23 = .ok (.iload_n 1, 1) := by decide +kernel
theorem dX11_split_24 : decode cX11_split 24 = .ok (.iconst 1, 1) := by decide +kernel
theorem dX11_split_25 : decode cX11_split 25 = .ok (.isub, 1) := by decide +kernel
theorem dX11_split_26 : decode cX11_split 26 = .ok (.invokestatic 111, 3) := by decide +kernel
theorem dX11_split_29 : decode cX11_split 29 = .ok (.ifCond .eq 7, 3) := by decide +kernel
theorem dX11_split_32 : decode cX11_split 32 = .ok (.iconst 1, 1) := by decide +kernel
theorem dX11_split_33 : decode cX11_split 33 = .ok (.goto 4, 3) := by decide +kernel
theorem dX11_split_36 : decode cX11_split 36 = .ok (.iconst 0, 1) := by decide +kernel
theorem dX11_split_37 : decode cX11_split 37 = .ok (.istore 4, 2) := by decide +kernel
theorem dX11_split_39 : decode cX11_split 39 = .ok (.aload_n 0, 1) := by decide +kernel
theorem dX11_split_40 : decode cX11_split 40 = .ok (.iload_n 1, 1) := by decide +kernel
theorem dX11_split_41 : decode cX11_split 41 = .ok (.invokestatic 124, 3) := by decide +kernel
theorem dX11_split_44 : decode cX11_split 44 = .ok (.ifCond .ne 7, 3) := by decide +kernel
theorem dX11_split_47 : decode cX11_split 47 = .ok (.iconst 1, 1) := by decide +kernel
theorem dX11_split_48 : decode cX11_split 48 = .ok (.goto 13, 3) := by decide +kernel
theorem dX11_split_51 : decode cX11_split 51 = .ok (.iload 4, 2) := by decide +kernel
theorem dX11_split_53 : decode cX11_split 53 = .ok (.ifCond .eq 7, 3) := by decide +kernel
theorem dX11_split_56 : decode cX11_split 56 = .ok (.iconst 0, 1) := by decide +kernel
theorem dX11_split_57 : decode cX11_split 57 = .ok (.goto 4, 3) := by decide +kernel
theorem dX11_split_60 : decode cX11_split 60 = .ok (.iconst 2, 1) := by decide +kernel
theorem dX11_split_61 : decode cX11_split 61 = .ok (.invokevirtual 118, 3) := by decide +kernel
theorem dX11_split_64 : decode cX11_split 64 = .ok (.ifCond .eq 31, 3) := by decide +kernel
theorem dX11_split_67 : decode cX11_split 67 = .ok (.aload_n 0, 1) := by decide +kernel
theorem dX11_split_68 : decode cX11_split 68 = .ok (.getfield 7, 3) := by decide +kernel
theorem dX11_split_71 : decode cX11_split 71 = .ok (.bipush 9, 2) := by decide +kernel
theorem dX11_split_73 : decode cX11_split 73 = .ok (.iload_n 1, 1) := by decide +kernel
theorem dX11_split_74 : decode cX11_split 74 = .ok (.imul, 1) := by decide +kernel
theorem dX11_split_75 : decode cX11_split 75 = .ok (.iconst 4, 1) := by decide +kernel
theorem dX11_split_76 : decode cX11_split 76 = .ok (.iadd, 1) := by decide +kernel
theorem dX11_split_77 : decode cX11_split 77 = .ok (.iload_n 2, 1) := by decide +kernel
theorem dX11_split_78 : decode cX11_split 78 = .ok (.iconst 1, 1) := by decide +kernel
theorem dX11_split_79 : decode cX11_split 79 = .ok (.iadd, 1) := by decide +kernel
theorem dX11_split_80 : decode cX11_split 80 = .ok (.iastore, 1) := by decide +kernel
theorem dX11_split_81 : decode cX11_split 81 = .ok (.aload_n 0, 1) := by decide +kernel
theorem dX11_split_82 : decode cX11_split 82 = .ok (.getfield 7, 3) := by decide +kernel
theorem dX11_split_85 : decode cX11_split 85 = .ok (.bipush 9, 2) := by decide +kernel
theorem dX11_split_87 : decode cX11_split 87 = .ok (.iload_n 1, 1) := by decide +kernel
theorem dX11_split_88 : decode cX11_split 88 = .ok (.imul, 1) := by decide +kernel
theorem dX11_split_89 : decode cX11_split 89 = .ok (.iconst 5, 1) := by decide +kernel
theorem dX11_split_90 : decode cX11_split 90 = .ok (.iadd, 1) := by decide +kernel
theorem dX11_split_91 : decode cX11_split 91 = .ok (.iload_n 3, 1) := by decide +kernel
theorem dX11_split_92 : decode cX11_split 92 = .ok (.iconst 1, 1) := by decide +kernel
theorem dX11_split_93 : decode cX11_split 93 = .ok (.iadd, 1) := by decide +kernel
theorem dX11_split_94 : decode cX11_split 94 = .ok (.iastore, 1) := by decide +kernel
theorem dX11_split_95 : decode cX11_split 95 = .ok (.return_, 1) := by decide +kernel
theorem dX11_capital_0 : decode cX11_capital 0 = .ok (.iload_n 2, 1) := by decide +kernel
theorem dX11_capital_1 : decode cX11_capital 1 = .ok (.iconst (-1), 1) := by decide +kernel
theorem dX11_capital_2 : decode cX11_capital 2 = .ok (.bipush 95, 2) := by decide +kernel
theorem dX11_capital_4 : decode cX11_capital 4 = .ok (.invokestatic 111, 3) := by decide +kernel
theorem dX11_capital_7 : decode cX11_capital 7 = .ok (.ifCond .eq 27, 3) := by decide +kernel
theorem dX11_capital_10 : decode cX11_capital 10 = .ok (.iload_n 3, 1) := by decide +kernel
theorem dX11_capital_11 : decode cX11_capital 11 = .ok (.iconst (-1), 1) := by decide +kernel
theorem dX11_capital_12 : decode cX11_capital 12 = .ok (.bipush 95, 2) := by decide +kernel
theorem dX11_capital_14 : decode cX11_capital 14 = .ok (.invokestatic 111, 3) := by decide +kernel
theorem dX11_capital_17 : decode cX11_capital 17 = .ok (.ifCond .eq 17, 3) := by decide +kernel
theorem dX11_capital_20 : decode cX11_capital 20 = .ok (.iload_n 2, 1) := by decide +kernel
theorem dX11_capital_21 : decode cX11_capital 21 = .ok (.iconst (-1), 1) := by decide +kernel
theorem dX11_capital_22 : decode cX11_capital 22 = .ok (.if_icmp .ne 8, 3) := by decide +kernel
theorem dX11_capital_25 : decode cX11_capital 25 = .ok (.iload_n 3, 1) := by decide +kernel
theorem dX11_capital_26 : decode cX11_capital 26 = .ok (.iconst (-1), 1) := by decide +kernel
theorem dX11_capital_27 : decode cX11_capital 27 = .ok (.if_icmp .ne 7, 3) := by decide +kernel
theorem dX11_capital_30 : decode cX11_capital 30 = .ok (.iconst 1, 1) := by decide +kernel
theorem dX11_capital_31 : decode cX11_capital 31 = .ok (.goto 4, 3) := by decide +kernel
theorem dX11_capital_34 : decode cX11_capital 34 = .ok (.iconst 0, 1) := by decide +kernel
theorem dX11_capital_35 : decode cX11_capital 35 = .ok (.istore 4, 2) := by decide +kernel
theorem dX11_capital_37 : decode cX11_capital 37 = .ok (.aload_n 0, 1) := by decide +kernel
theorem dX11_capital_38 : decode cX11_capital 38 = .ok (.iload_n 1, 1) := by decide +kernel
theorem dX11_capital_39 : decode cX11_capital 39 = .ok (.invokestatic 124, 3) := by decide +kernel
theorem dX11_capital_42 : decode cX11_capital 42 = .ok (.ifCond .ne 7, 3) := by decide +kernel
theorem dX11_capital_45 : decode cX11_capital 45 = .ok (.iconst 1, 1) := by decide +kernel
theorem dX11_capital_46 : decode cX11_capital 46 = .ok (.goto 13, 3) := by decide +kernel
theorem dX11_capital_49 : decode cX11_capital 49 = .ok (.iload 4, 2) := by decide +kernel
theorem dX11_capital_51 : decode cX11_capital 51 = .ok (.ifCond .eq 7, 3) := by decide +kernel
theorem dX11_capital_54 : decode cX11_capital 54 = .ok (.iconst 0, 1) := by decide +kernel
theorem dX11_capital_55 : decode cX11_capital 55 = .ok (.goto 4, 3) := by decide +kernel
theorem dX11_capital_58 : decode cX11_capital 58 = .ok (.iconst 2, 1) := by decide +kernel
theorem dX11_capital_59 : decode cX11_capital 59 = .ok (.invokevirtual 118, 3) := by decide +kernel
theorem dX11_capital_62 : decode cX11_capital 62 = .ok (.ifCond .eq 33, 3) := by decide +kernel
theorem dX11_capital_65 : decode cX11_capital 65 = .ok (.aload_n 0, 1) := by decide +kernel
theorem dX11_capital_66 : decode cX11_capital 66 = .ok (.getfield 7, 3) := by decide +kernel
theorem dX11_capital_69 : decode cX11_capital 69 = .ok (.bipush 9, 2) := by decide +kernel
theorem dX11_capital_71 : decode cX11_capital 71 = .ok (.iload_n 1, 1) := by decide +kernel
theorem dX11_capital_72 : decode cX11_capital 72 = .ok (.imul, 1) := by decide +kernel
theorem dX11_capital_73 : decode cX11_capital 73 = .ok (.bipush 6, 2) := by decide +kernel
theorem dX11_capital_75 : decode cX11_capital 75 = .ok (.iadd, 1) := by decide +kernel
theorem dX11_capital_76 : decode cX11_capital 76 = .ok (.iload_n 2, 1) := by decide +kernel
theorem dX11_capital_77 : decode cX11_capital 77 = .ok (.iconst 1, 1) := by decide +kernel
theorem dX11_capital_78 : decode cX11_capital 78 = .ok (.iadd, 1) := by decide +kernel
theorem dX11_capital_79 : decode cX11_capital 79 = .ok (.iastore, 1) := by decide +kernel
theorem dX11_capital_80 : decode cX11_capital 80 = .ok (.aload_n 0, 1) := by decide +kernel
theorem dX11_capital_81 : decode cX11_capital 81 = .ok (.getfield 7, 3) := by decide +kernel
theorem dX11_capital_84 : decode cX11_capital 84 = .ok (.bipush 9, 2) := by decide +kernel
theorem dX11_capital_86 : decode cX11_capital 86 = .ok (.iload_n 1, 1) := by decide +kernel
theorem dX11_capital_87 : decode cX11_capital 87 = .ok (.imul, 1) := by decide +kernel
theorem dX11_capital_88 : decode cX11_capital 88 = .ok (.bipush 7, 2) := by decide +kernel
theorem dX11_capital_90 : decode cX11_capital 90 = .ok (.iadd, 1) := by decide +kernel
theorem dX11_capital_91 : decode cX11_capital 91 = .ok (.iload_n 3, 1) := by decide +kernel
theorem dX11_capital_92 : decode cX11_capital 92 = .ok (.iconst 1, 1) := by decide +kernel
theorem dX11_capital_93 : decode cX11_capital 93 = .ok (.iadd, 1) := by decide +kernel
theorem dX11_capital_94 : decode cX11_capital 94 = .ok (.iastore, 1) := by decide +kernel
theorem dX11_capital_95 : decode cX11_capital 95 = .ok (.return_, 1) := by decide +kernel
theorem dX11_partners_0 : decode cX11_partners 0 = .ok (.iload_n 1, 1) := by decide +kernel
theorem dX11_partners_1 : decode cX11_partners 1 = .ok (.invokestatic 124, 3) := by decide +kernel
theorem dX11_partners_4 : decode cX11_partners 4 = .ok (.ifCond .eq 14, 3) := by decide +kernel
theorem dX11_partners_7 : decode cX11_partners 7 = .ok (.iload_n 2, 1) := by decide +kernel
theorem dX11_partners_8 : decode cX11_partners 8 = .ok (.invokestatic 124, 3) := by decide +kernel
theorem dX11_partners_11 : decode cX11_partners 11 = .ok (.ifCond .eq 7, 3) := by decide +kernel
theorem dX11_partners_14 : decode cX11_partners 14 = .ok (.iconst 1, 1) := by decide +kernel
theorem dX11_partners_15 : decode cX11_partners 15 = .ok (.goto 4, 3) := by decide +kernel
theorem dX11_partners_18 : decode cX11_partners 18 = .ok (.iconst 0, 1) := by decide +kernel
theorem dX11_partners_19 : decode cX11_partners 19 = .ok (.istore_n 3, 1) := by decide +kernel
theorem dX11_partners_20 : decode cX11_partners 20 = .ok (.iload_n 3, 1) := by decide +kernel
theorem dX11_partners_21 : decode cX11_partners 21 = .ok (.ifCond .eq 32, 3) := by decide +kernel
theorem dX11_partners_24 : decode cX11_partners 24 = .ok (.iload_n 1, 1) := by decide +kernel
theorem dX11_partners_25 : decode cX11_partners 25 = .ok (.iload_n 2, 1) := by decide +kernel
theorem dX11_partners_26 : decode cX11_partners 26 = .ok (.if_icmp .eq 27, 3) := by decide +kernel
theorem dX11_partners_29 : decode cX11_partners 29 = .ok (.aload_n 0, 1) := by decide +kernel
theorem dX11_partners_30 : decode cX11_partners 30 = .ok (.iload_n 1, 1) := by decide +kernel
theorem dX11_partners_31 : decode cX11_partners 31 = .ok (.bipush 8, 2) := by decide +kernel
theorem dX11_partners_33 : decode cX11_partners 33 = .ok (.invokevirtual 127, 3) := by decide +kernel
theorem dX11_partners_36 : decode cX11_partners 36 = .ok (.ifCond .ne 17, 3) := by decide +kernel
theorem dX11_partners_39 : decode cX11_partners 39 = .ok (.aload_n 0, 1) := by decide +kernel
theorem dX11_partners_40 : decode cX11_partners 40 = .ok (.iload_n 2, 1) := by decide +kernel
theorem dX11_partners_41 : decode cX11_partners 41 = .ok (.bipush 8, 2) := by decide +kernel
theorem dX11_partners_43 : decode cX11_partners 43 = .ok (.invokevirtual 127, 3) := by decide +kernel
theorem dX11_partners_46 : decode cX11_partners 46 = .ok (.ifCond .ne 7, 3) := by decide +kernel
theorem dX11_partners_49 : decode cX11_partners 49 = .ok (.iconst 1, 1) := by decide +kernel
theorem dX11_partners_50 : decode cX11_partners 50 = .ok (.goto 4, 3) := by decide +kernel
theorem dX11_partners_53 : decode cX11_partners 53 = .ok (.iconst 0, 1) := by decide +kernel
theorem dX11_partners_54 : decode cX11_partners 54 = .ok (.istore 4, 2) := by decide +kernel
theorem dX11_partners_56 : decode cX11_partners 56 = .ok (.aload_n 0, 1) := by decide +kernel
theorem dX11_partners_57 : decode cX11_partners 57 = .ok (.iload_n 3, 1) := by decide +kernel
theorem dX11_partners_58 : decode cX11_partners 58 = .ok (.ifCond .ne 7, 3) := by decide +kernel
theorem dX11_partners_61 : decode cX11_partners 61 = .ok (.iconst 1, 1) := by decide +kernel
theorem dX11_partners_62 : decode cX11_partners 62 = .ok (.goto 13, 3) := by decide +kernel
theorem dX11_partners_65 : decode cX11_partners 65 = .ok (.iload 4, 2) := by decide +kernel
theorem dX11_partners_67 : decode cX11_partners 67 = .ok (.ifCond .eq 7, 3) := by decide +kernel
theorem dX11_partners_70 : decode cX11_partners 70 = .ok (.iconst 0, 1) := by decide +kernel
theorem dX11_partners_71 : decode cX11_partners 71 = .ok (.goto 4, 3) := by decide +kernel
theorem dX11_partners_74 : decode cX11_partners 74 = .ok (.iconst 2, 1) := by decide +kernel
theorem dX11_partners_75 : decode cX11_partners 75 = .ok (.invokevirtual 118, 3) := by decide +kernel
theorem dX11_partners_78 : decode cX11_partners 78 = .ok (.ifCond .eq 34, 3) := by decide +kernel
theorem dX11_partners_81 : decode cX11_partners 81 = .ok (.aload_n 0, 1) := by decide +kernel
theorem dX11_partners_82 : decode cX11_partners 82 = .ok (.getfield 7, 3) := by decide +kernel
theorem dX11_partners_85 : decode cX11_partners 85 = .ok (.bipush 9, 2) := by decide +kernel
theorem dX11_partners_87 : decode cX11_partners 87 = .ok (.iload_n 1, 1) := by decide +kernel
theorem dX11_partners_88 : decode cX11_partners 88 = .ok (.imul, 1) := by decide +kernel
theorem dX11_partners_89 : decode cX11_partners 89 = .ok (.bipush 8, 2) := by decide +kernel
theorem dX11_partners_91 : decode cX11_partners 91 = .ok (.iadd, 1) := by decide +kernel
theorem dX11_partners_92 : decode cX11_partners 92 = .ok (.iload_n 2, 1) := by decide +kernel
theorem dX11_partners_93 : decode cX11_partners 93 = .ok (.iconst 1, 1) := by decide +kernel
theorem dX11_partners_94 : decode cX11_partners 94 = .ok (.iadd, 1) := by decide +kernel
theorem dX11_partners_95 : decode cX11_partners 95 = .ok (.iastore, 1) := by decide +kernel
theorem dX11_partners_96 : decode cX11_partners 96 = .ok (.aload_n 0, 1) := by decide +kernel
theorem dX11_partners_97 : decode cX11_partners 97 = .ok (.getfield 7, 3) := by decide +kernel
theorem dX11_partners_100 : decode cX11_partners 100 = .ok (.bipush 9, 2) := by decide +kernel
theorem dX11_partners_102 : decode cX11_partners 102 = .ok (.iload_n 2, 1) := by decide +kernel
theorem dX11_partners_103 : decode cX11_partners 103 = .ok (.imul, 1) := by decide +kernel
theorem dX11_partners_104 : decode cX11_partners 104 = .ok (.bipush 8, 2) := by decide +kernel
theorem dX11_partners_106 : decode cX11_partners 106 = .ok (.iadd, 1) := by decide +kernel
theorem dX11_partners_107 : decode cX11_partners 107 = .ok (.iload_n 1, 1) := by decide +kernel
theorem dX11_partners_108 : decode cX11_partners 108 = .ok (.ineg, 1) := by decide +kernel
theorem dX11_partners_109 : decode cX11_partners 109 = .ok (.iconst 1, 1) := by decide +kernel
theorem dX11_partners_110 : decode cX11_partners 110 = .ok (.isub, 1) := by decide +kernel
theorem dX11_partners_111 : decode cX11_partners 111 = .ok (.iastore, 1) := by decide +kernel
theorem dX11_partners_112 : decode cX11_partners 112 = .ok (.return_, 1) := by decide +kernel
theorem dX11_areWeights_0 : decode cX11_areWeights 0 = .ok (.iload_n 0, 1) := by decide +kernel
theorem dX11_areWeights_1 : decode cX11_areWeights 1 = .ok (.iconst 0, 1) := by decide +kernel
theorem dX11_areWeights_2 : decode cX11_areWeights 2 = .ok (.bipush 99, 2) := by decide +kernel
theorem dX11_areWeights_4 : decode cX11_areWeights 4 = .ok (.invokestatic 111, 3) := by decide +kernel
theorem dX11_areWeights_7 : decode cX11_areWeights 7 = .ok (.ifCond .eq 27, 3) := by decide +kernel
theorem dX11_areWeights_10 : decode cX11_areWeights 10 = .ok (.iload_n 1, 1) := by decide +kernel
theorem dX11_areWeights_11 : decode cX11_areWeights 11 = .ok (.iconst 0, 1) := by decide +kernel
theorem dX11_areWeights_12 : decode cX11_areWeights 12 = .ok (.bipush 9, 2) := by decide +kernel
theorem dX11_areWeights_14 : decode cX11_areWeights 14 = .ok (.invokestatic 111, 3) := by decide +kernel
theorem dX11_areWeights_17 : decode cX11_areWeights 17 = .ok (.ifCond .eq 17, 3) := by decide +kernel
theorem dX11_areWeights_20 : decode cX11_areWeights 20 = .ok (.iload_n 2, 1) := by decide +kernel
theorem dX11_areWeights_21 : decode cX11_areWeights 21 = .ok (.iconst 0, 1) := by decide +kernel
theorem dX11_areWeights_22 : decode cX11_areWeights 22 = .ok (.bipush 9, 2) := by decide +kernel
theorem dX11_areWeights_24 : decode cX11_areWeights 24 = .ok (.invokestatic 111, 3) := by decide +kernel
theorem dX11_areWeights_27 : decode cX11_areWeights 27 = .ok (.ifCond .eq 7, 3) := by decide +kernel
theorem dX11_areWeights_30 : decode cX11_areWeights 30 = .ok (.iconst 1, 1) := by decide +kernel
theorem dX11_areWeights_31 : decode cX11_areWeights 31 = .ok (.goto 4, 3) := by decide +kernel
theorem dX11_areWeights_34 : decode cX11_areWeights 34 = .ok (.iconst 0, 1) := by decide +kernel
theorem dX11_areWeights_35 : decode cX11_areWeights 35 = .ok (.ireturn, 1) := by decide +kernel
theorem dX11_weighs_0 : decode cX11_weighs 0 = .ok (.aload_n 0, 1) := by decide +kernel
theorem dX11_weighs_1 : decode cX11_weighs 1 = .ok (.getfield 7, 3) := by decide +kernel
theorem dX11_weighs_4 : decode cX11_weighs 4 = .ok (.iload_n 1, 1) := by decide +kernel
theorem dX11_weighs_5 : decode cX11_weighs 5 = .ok (.iload_n 2, 1) := by decide +kernel
theorem dX11_weighs_6 : decode cX11_weighs 6 = .ok (.iastore, 1) := by decide +kernel
theorem dX11_weighs_7 : decode cX11_weighs 7 = .ok (.aload_n 0, 1) := by decide +kernel
theorem dX11_weighs_8 : decode cX11_weighs 8 = .ok (.getfield 7, 3) := by decide +kernel
theorem dX11_weighs_11 : decode cX11_weighs 11 = .ok (.iload_n 1, 1) := by decide +kernel
theorem dX11_weighs_12 : decode cX11_weighs 12 = .ok (.iconst 1, 1) := by decide +kernel
theorem dX11_weighs_13 : decode cX11_weighs 13 = .ok (.iadd, 1) := by decide +kernel
theorem dX11_weighs_14 : decode cX11_weighs 14 = .ok (.iload_n 3, 1) := by decide +kernel
theorem dX11_weighs_15 : decode cX11_weighs 15 = .ok (.iastore, 1) := by decide +kernel
theorem dX11_weighs_16 : decode cX11_weighs 16 = .ok (.aload_n 0, 1) := by decide +kernel
theorem dX11_weighs_17 : decode cX11_weighs 17 = .ok (.getfield 7, 3) := by decide +kernel
theorem dX11_weighs_20 : decode cX11_weighs 20 = .ok (.iload_n 1, 1) := by decide +kernel
theorem dX11_weighs_21 : decode cX11_weighs 21 = .ok (.iconst 2, 1) := by decide +kernel
theorem dX11_weighs_22 : decode cX11_weighs 22 = .ok (.iadd, 1) := by decide +kernel
theorem dX11_weighs_23 : decode cX11_weighs 23 = .ok (.iload 4, 2) := by decide +kernel
theorem dX11_weighs_25 : decode cX11_weighs 25 = .ok (.iastore, 1) := by decide +kernel
theorem dX11_weighs_26 : decode cX11_weighs 26 = .ok (.return_, 1) := by decide +kernel
theorem dX11_weigh_0 : decode cX11_weigh 0 = .ok (.aload_n 0, 1) := by decide +kernel
theorem dX11_weigh_1 : decode cX11_weigh 1 = .ok (.iload_n 1, 1) := by decide +kernel
theorem dX11_weigh_2 : decode cX11_weigh 2 = .ok (.invokestatic 131, 3) := by decide +kernel
theorem dX11_weigh_5 : decode cX11_weigh 5 = .ok (.ifCond .eq 10, 3) := by decide +kernel
theorem dX11_weigh_8 : decode cX11_weigh 8 = .ok (.iload_n 2, 1) := by decide +kernel
theorem dX11_weigh_9 : decode cX11_weigh 9 = .ok (.invokestatic 124, 3) := by decide +kernel
theorem dX11_weigh_12 : decode cX11_weigh 12 = .ok (.ifCond .ne 7, 3) := by decide +kernel
theorem dX11_weigh_15 : decode cX11_weigh 15 = .ok (.iconst 1, 1) := by decide +kernel
theorem dX11_weigh_16 : decode cX11_weigh 16 = .ok (.goto 19, 3) := by decide +kernel
theorem dX11_weigh_19 : decode cX11_weigh 19 = .ok (.iload_n 3, 1) := by decide +kernel
theorem dX11_weigh_20 : decode cX11_weigh 20 = .ok (.iload 4, 2) := by decide +kernel
theorem dX11_weigh_22 : decode cX11_weigh 22 = .ok (.iload 5, 2) := by decide +kernel
theorem dX11_weigh_24 : decode cX11_weigh 24 = .ok (.invokestatic 134, 3) := by decide +kernel
theorem dX11_weigh_27 : decode cX11_weigh 27 = .ok (.ifCond .eq 7, 3) := by decide +kernel
theorem dX11_weigh_30 : decode cX11_weigh 30 = .ok (.iconst 0, 1) := by decide +kernel
theorem dX11_weigh_31 : decode cX11_weigh 31 = .ok (.goto 4, 3) := by decide +kernel
theorem dX11_weigh_34 : decode cX11_weigh 34 = .ok (.iconst 2, 1) := by decide +kernel
theorem dX11_weigh_35 : decode cX11_weigh 35 = .ok (.invokevirtual 118, 3) := by decide +kernel
theorem dX11_weigh_38 : decode cX11_weigh 38 = .ok (.ifCond .eq 24, 3) := by decide +kernel
theorem dX11_weigh_41 : decode cX11_weigh 41 = .ok (.aload_n 0, 1) := by decide +kernel
theorem dX11_weigh_42 : decode cX11_weigh 42 = .ok (.sipush 864, 3) := by decide +kernel
theorem dX11_weigh_45 : decode cX11_weigh 45 = .ok (.iconst 3, 1) := by decide +kernel
theorem dX11_weigh_46 : decode cX11_weigh 46 = .ok (.bipush 96, 2) := by decide +kernel
theorem dX11_weigh_48 : decode cX11_weigh 48 = .ok (.iload_n 1, 1) := by decide +kernel
theorem dX11_weigh_49 : decode cX11_weigh 49 = .ok (.imul, 1) := by decide +kernel
theorem dX11_weigh_50 : decode cX11_weigh 50 = .ok (.iload_n 2, 1) := by decide +kernel
theorem dX11_weigh_51 : decode cX11_weigh 51 = .ok (.iadd, 1) := by decide +kernel
theorem dX11_weigh_52 : decode cX11_weigh 52 = .ok (.imul, 1) := by decide +kernel
theorem dX11_weigh_53 : decode cX11_weigh 53 = .ok (.iadd, 1) := by decide +kernel
theorem dX11_weigh_54 : decode cX11_weigh 54 = .ok (.iload_n 3, 1) := by decide +kernel
theorem dX11_weigh_55 : decode cX11_weigh 55 = .ok (.iload 4, 2) := by decide +kernel
theorem dX11_weigh_57 : decode cX11_weigh 57 = .ok (.iload 5, 2) := by decide +kernel
theorem dX11_weigh_59 : decode cX11_weigh 59 = .ok (.invokevirtual 137, 3) := by decide +kernel
theorem dX11_weigh_62 : decode cX11_weigh 62 = .ok (.return_, 1) := by decide +kernel
theorem dX11_contraction_0 : decode cX11_contraction 0 = .ok (.iconst (-1), 1) := by decide +kernel
theorem dX11_contraction_1 : decode cX11_contraction 1 = .ok (.istore 4, 2) := by decide +kernel
theorem dX11_contraction_3 : decode cX11_contraction 3 = .ok (.iconst 0, 1) := by decide +kernel
theorem dX11_contraction_4 : decode cX11_contraction 4 = .ok (.istore 5, 2) := by decide +kernel
theorem dX11_contraction_6 : decode cX11_contraction 6 = .ok (.iload 5, 2) := by decide +kernel
theorem dX11_contraction_8 : decode cX11_contraction 8 = .ok (.aload_n 0, 1) := by decide +kernel
theorem dX11_contraction_9 : decode cX11_contraction 9 = .ok (.getfield 7, 3) := by decide +kernel
theorem dX11_contraction_12 : decode cX11_contraction 12 = .ok (.sipush 1440, 3) := by decide +kernel
theorem dX11_contraction_15 : decode cX11_contraction 15 = .ok (.iload_n 1, 1) := by decide +kernel
theorem dX11_contraction_16 : decode cX11_contraction 16 = .ok (.iadd, 1) := by decide +kernel
theorem dX11_contraction_17 : decode cX11_contraction 17 = .ok (.iaload, 1) := by decide +kernel
theorem dX11_contraction_18 : decode cX11_contraction 18 = .ok (.if_icmp .ge 57, 3) := by decide +kernel
theorem dX11_contraction_21 : decode cX11_contraction 21 = .ok (.sipush 1442, 3) := by decide +kernel
theorem dX11_contraction_24 : decode cX11_contraction 24 = .ok (.iconst 5, 1) := by decide +kernel
theorem dX11_contraction_25 : decode cX11_contraction 25 = .ok (.bipush 6, 2) := by decide +kernel
theorem dX11_contraction_27 : decode cX11_contraction 27 = .ok (.iload_n 1, 1) := by decide +kernel
theorem dX11_contraction_28 : decode cX11_contraction 28 = .ok (.imul, 1) := by decide +kernel
theorem dX11_contraction_29 : decode cX11_contraction 29 = .ok (.iload 5, 2) := by decide +kernel
theorem dX11_contraction_31 : decode cX11_contraction 31 = .ok (.iadd, 1) := by decide +kernel
theorem dX11_contraction_32 : decode cX11_contraction 32 = .ok (.imul, 1) := by decide +kernel
theorem dX11_contraction_33 : decode cX11_contraction 33 = .ok (.iadd, 1) := by decide +kernel
theorem dX11_contraction_34 : decode cX11_contraction 34 = .ok (.istore 6, 2) := by decide +kernel
theorem dX11_contraction_36 : decode cX11_contraction 36 = .ok (.aload_n 0, 1) := by decide +kernel
theorem dX11_contraction_37 : decode cX11_contraction 37 = .ok (.getfield 7, 3) := by decide +kernel
theorem dX11_contraction_40 : decode cX11_contraction 40 = .ok (.iload 6, 2) := by decide +kernel
theorem dX11_contraction_42 : decode cX11_contraction 42 = .ok (.iaload, 1) := by decide +kernel
theorem dX11_contraction_43 : decode cX11_contraction 43 = .ok (.iload_n 2, 1) := by decide +kernel
theorem dX11_contraction_44 : decode cX11_contraction 44 = .ok (.if_icmp .ne 21, 3) := by decide +kernel
theorem dX11_contraction_47 : decode cX11_contraction 47 = .ok (.aload_n 0, 1) := by decide +kernel
theorem dX11_contraction_48 : decode cX11_contraction 48 = .ok (.getfield 7, 3) := by decide +kernel
theorem dX11_contraction_51 : decode cX11_contraction 51 = .ok (.iload 6, 2) := by decide +kernel
theorem dX11_contraction_53 : decode cX11_contraction 53 = .ok (.iconst 1, 1) := by decide +kernel
theorem dX11_contraction_54 : decode cX11_contraction 54 = .ok (.iadd, 1) := by decide +kernel
theorem dX11_contraction_55 : decode cX11_contraction 55 = .ok (.iaload, 1) := by decide +kernel
theorem dX11_contraction_56 : decode cX11_contraction 56 = .ok (.iload_n 3, 1) := by decide +kernel
theorem dX11_contraction_57 : decode cX11_contraction 57 = .ok (.if_icmp .ne 8, 3) := by decide +kernel
theorem dX11_contraction_60 : decode cX11_contraction 60 = .ok (.iload 6, 2) := by decide +kernel
theorem dX11_contraction_62 : decode cX11_contraction 62 = .ok (.goto 5, 3) := by decide +kernel
theorem dX11_contraction_65 : decode cX11_contraction 65 = .ok (.iload 4, 2) := by decide +kernel
theorem dX11_contraction_67 : decode cX11_contraction 67 = .ok (.istore 4, 2) := by decide +kernel
theorem dX11_contraction_69 : decode cX11_contraction 69 = .ok (.iinc 5 1, 3) := by decide +kernel
theorem dX11_contraction_72 : decode cX11_contraction 72 = .ok (.goto (-66), 3) := by decide +kernel
theorem dX11_contraction_75 : decode cX11_contraction 75 = .ok (.iload 4, 2) := by decide +kernel
theorem dX11_contraction_77 : decode cX11_contraction 77 = .ok (.ireturn, 1) := by decide +kernel
theorem dX11_contract_0 : decode cX11_contract 0 = .ok (.iload_n 1, 1) := by decide +kernel
theorem dX11_contract_1 : decode cX11_contract 1 = .ok (.invokestatic 131, 3) := by decide +kernel
theorem dX11_contract_4 : decode cX11_contract 4 = .ok (.ifCond .eq 21, 3) := by decide +kernel
theorem dX11_contract_7 : decode cX11_contract 7 = .ok (.iload_n 2, 1) := by decide +kernel
theorem dX11_contract_8 : decode cX11_contract 8 = .ok (.invokestatic 124, 3) := by decide +kernel
theorem dX11_contract_11 : decode cX11_contract 11 = .ok (.ifCond .eq 14, 3) := by decide +kernel
theorem dX11_contract_14 : decode cX11_contract 14 = .ok (.iload_n 3, 1) := by decide +kernel
theorem dX11_contract_15 : decode cX11_contract 15 = .ok (.invokestatic 124, 3) := by decide +kernel
theorem dX11_contract_18 : decode cX11_contract 18 = .ok (.ifCond .eq 7, 3) := by decide +kernel
theorem dX11_contract_21 : decode cX11_contract 21 = .ok (.iconst 1, 1) := by decide +kernel
theorem dX11_contract_22 : decode cX11_contract 22 = .ok (.goto 4, 3) := by decide +kernel
theorem dX11_contract_25 : decode cX11_contract 25 = .ok (.iconst 0, 1) := by decide +kernel
theorem dX11_contract_26 : decode cX11_contract 26 = .ok (.istore 7, 2) := by decide +kernel
theorem dX11_contract_28 : decode cX11_contract 28 = .ok (.iload 7, 2) := by decide +kernel
theorem dX11_contract_30 : decode cX11_contract 30 = .ok (.ifCond .eq 19, 3) := by decide +kernel
theorem dX11_contract_33 : decode cX11_contract 33 = .ok (.iload 4, 2) := by decide +kernel
theorem dX11_contract_35 : decode cX11_contract 35 = .ok (.iload 5, 2) := by decide +kernel
theorem dX11_contract_37 : decode cX11_contract 37 = .ok (.iload 6, 2) := by decide +kernel
theorem dX11_contract_39 : decode cX11_contract 39 = .ok (.invokestatic 134, 3) := by decide +kernel
theorem dX11_contract_42 : decode cX11_contract 42 = .ok (.ifCond .eq 7, 3) := by decide +kernel
theorem dX11_contract_45 : decode cX11_contract 45 = .ok (.iconst 1, 1) := by decide +kernel
theorem dX11_contract_46 : decode cX11_contract 46 = .ok (.goto 4, 3) := by decide +kernel
theorem dX11_contract_49 : decode cX11_contract 49 = .ok (.iconst 0, 1) := by decide +kernel
theorem dX11_contract_50 : decode cX11_contract 50 = .ok (.istore 8, 2) := by decide +kernel
theorem dX11_contract_52 : decode cX11_contract 52 = .ok (.iload 7, 2) := by decide +kernel
theorem dX11_contract_54 : decode cX11_contract 54 = .ok (.ifCond .eq 13, 3) := by decide +kernel
theorem dX11_contract_57 : decode cX11_contract 57 = .ok (.aload_n 0, 1) := by decide +kernel
theorem dX11_contract_58 : decode cX11_contract 58 = .ok (.iload_n 1, 1) := by decide +kernel
theorem dX11_contract_59 : decode cX11_contract 59 = .ok (.iload_n 2, 1) := by decide +kernel
theorem dX11_contract_60 : decode cX11_contract 60 = .ok (.iload_n 3, 1) := by decide +kernel
theorem dX11_contract_61 : decode cX11_contract 61 = .ok (.invokevirtual 141, 3) := by decide +kernel
theorem dX11_contract_64 : decode cX11_contract 64 = .ok (.goto 4, 3) := by decide +kernel
theorem dX11_contract_67 : decode cX11_contract 67 = .ok (.iconst (-1), 1) := by decide +kernel
theorem dX11_contract_68 : decode cX11_contract 68 = .ok (.istore 9, 2) := by decide +kernel
theorem dX11_contract_70 : decode cX11_contract 70 = .ok (.aload_n 0, 1) := by decide +kernel
theorem dX11_contract_71 : decode cX11_contract 71 = .ok (.iload 7, 2) := by decide +kernel
theorem dX11_contract_73 : decode cX11_contract 73 = .ok (.ifCond .ne 7, 3) := by decide +kernel
theorem dX11_contract_76 : decode cX11_contract 76 = .ok (.iconst 1, 1) := by decide +kernel
theorem dX11_contract_77 : decode cX11_contract 77 = .ok (.goto 38, 3) := by decide +kernel
theorem dX11_contract_80 : decode cX11_contract 80 = .ok (.iload 8, 2) := by decide +kernel
theorem dX11_contract_82 : decode cX11_contract 82 = .ok (.ifCond .ne 7, 3) := by decide +kernel
theorem dX11_contract_85 : decode cX11_contract 85 = .ok (.iconst 2, 1) := by decide +kernel
theorem dX11_contract_86 : decode cX11_contract 86 = .ok (.goto 29, 3) := by decide +kernel
theorem dX11_contract_89 : decode cX11_contract 89 = .ok (.iload 9, 2) := by decide +kernel
theorem dX11_contract_91 : decode cX11_contract 91 = .ok (.iconst (-1), 1) := by decide +kernel
theorem dX11_contract_92 : decode cX11_contract 92 = .ok (.if_icmp .ne 22, 3) := by decide +kernel
theorem dX11_contract_95 : decode cX11_contract 95 = .ok (.aload_n 0, 1) := by decide +kernel
theorem dX11_contract_96 : decode cX11_contract 96 = .ok (.getfield 7, 3) := by decide +kernel
theorem dX11_contract_99 : decode cX11_contract 99 = .ok (.sipush 1440, 3) := by decide +kernel
theorem dX11_contract_102 : decode cX11_contract 102 = .ok (.iload_n 1, 1) := by decide +kernel
theorem dX11_contract_103 : decode cX11_contract 103 = .ok (.iadd, 1) := by decide +kernel
theorem dX11_contract_104 : decode cX11_contract 104 = .ok (.iaload, 1) := by decide +kernel
theorem dX11_contract_105 : decode cX11_contract 105 = .ok (.bipush 6, 2) := by decide +kernel
theorem dX11_contract_107 : decode cX11_contract 107 = .ok (.if_icmp .ne 7, 3) := by decide +kernel
theorem dX11_contract_110 : decode cX11_contract 110 = .ok (.iconst 3, 1) := by decide +kernel
theorem dX11_contract_111 : decode cX11_contract 111 = .ok (.goto 4, 3) := by decide +kernel
theorem dX11_contract_114 : decode cX11_contract 114 = .ok (.iconst 0, 1) := by decide +kernel
theorem dX11_contract_115 : decode cX11_contract 115 = .ok (.invokevirtual 118, 3) := by decide +kernel
theorem dX11_contract_118 : decode cX11_contract 118 = .ok (.ifCond .ne 5, 3) := by decide +kernel
theorem dX11_contract_121 : decode cX11_contract 121 = .ok (.iconst 0, 1) := by decide +kernel
theorem dX11_contract_122 : decode cX11_contract 122 = .ok (.ireturn, 1) := by decide +kernel
theorem dX11_contract_123 : decode cX11_contract 123 = .ok (.iload 9, 2) := by decide +kernel
theorem dX11_contract_125 : decode cX11_contract 125 = .ok (.iconst (-1), 1) := by decide +kernel
theorem dX11_contract_126 : decode cX11_contract 126 = .ok (.if_icmp .ne 27, 3) := by decide +kernel
theorem dX11_contract_129 : decode cX11_contract 129 = .ok (.sipush 1442, 3) := by decide +kernel
theorem dX11_contract_132 : decode cX11_contract 132 = .ok (.iconst 5, 1) := by decide +kernel
theorem dX11_contract_133 : decode cX11_contract 133 = .ok (.bipush 6, 2) := by decide +kernel
theorem dX11_contract_135 : decode cX11_contract 135 = .ok (.iload_n 1, 1) := by decide +kernel
theorem dX11_contract_136 : decode cX11_contract 136 = .ok (.imul, 1) := by decide +kernel
theorem dX11_contract_137 : decode cX11_contract 137 = .ok (.aload_n 0, 1) := by decide +kernel
theorem dX11_contract_138 : decode cX11_contract 138 = .ok (.getfield 7, 3) := by decide +kernel
theorem dX11_contract_141 : decode cX11_contract 141 = .ok (.sipush 1440, 3) := by decide +kernel
theorem dX11_contract_144 : decode cX11_contract 144 = .ok (.iload_n 1, 1) := by decide +kernel
theorem dX11_contract_145 : decode cX11_contract 145 = .ok (.iadd, 1) := by decide +kernel
theorem dX11_contract_146 : decode cX11_contract 146 = .ok (.iaload, 1) := by decide +kernel
theorem dX11_contract_147 : decode cX11_contract 147 = .ok (.iadd, 1) := by decide +kernel
theorem dX11_contract_148 : decode cX11_contract 148 = .ok (.imul, 1) := by decide +kernel
theorem dX11_contract_149 : decode cX11_contract 149 = .ok (.iadd, 1) := by decide +kernel
theorem dX11_contract_150 : decode cX11_contract 150 = .ok (.goto 5, 3) := by decide +kernel
theorem dX11_contract_153 : decode cX11_contract 153 = .ok (.iload 9, 2) := by decide +kernel
theorem dX11_contract_155 : decode cX11_contract 155 = .ok (.istore 10, 2) := by decide +kernel
theorem dX11_contract_157 : decode cX11_contract 157 = .ok (.aload_n 0, 1) := by decide +kernel
theorem dX11_contract_158 : decode cX11_contract 158 = .ok (.getfield 7, 3) := by decide +kernel
theorem dX11_contract_161 : decode cX11_contract 161 = .ok (.sipush 1440, 3) := by decide +kernel
theorem dX11_contract_164 : decode cX11_contract 164 = .ok (.iload_n 1, 1) := by decide +kernel
theorem dX11_contract_165 : decode cX11_contract 165 = .ok (.iadd, 1) := by decide +kernel
theorem dX11_contract_166 : decode cX11_contract 166 = .ok (.dup2, 1) := by decide +kernel
theorem dX11_contract_167 : decode cX11_contract 167 = .ok (.iaload, 1) := by decide +kernel
theorem dX11_contract_168 : decode cX11_contract 168 = .ok (.iload 9, 2) := by decide +kernel
theorem dX11_contract_170 : decode cX11_contract 170 = .ok (.iconst (-1), 1) := by decide +kernel
theorem dX11_contract_171 : decode cX11_contract 171 = .ok (.if_icmp .ne 7, 3) := by decide +kernel
theorem dX11_contract_174 : decode cX11_contract 174 = .ok (.iconst 1, 1) := by decide +kernel
theorem dX11_contract_175 : decode cX11_contract 175 = .ok (.goto 4, 3) := by decide +kernel
theorem dX11_contract_178 : decode cX11_contract 178 = .ok (.iconst 0, 1) := by decide +kernel
theorem dX11_contract_179 : decode cX11_contract 179 = .ok (.iadd, 1) := by decide +kernel
theorem dX11_contract_180 : decode cX11_contract 180 = .ok (.iastore, 1) := by decide +kernel
theorem dX11_contract_181 : decode cX11_contract 181 = .ok (.aload_n 0, 1) := by decide +kernel
theorem dX11_contract_182 : decode cX11_contract 182 = .ok (.getfield 7, 3) := by decide +kernel
theorem dX11_contract_185 : decode cX11_contract 185 = .ok (.iload 10, 2) := by decide +kernel
theorem dX11_contract_187 : decode cX11_contract 187 = .ok (.iload_n 2, 1) := by decide +kernel
theorem dX11_contract_188 : decode cX11_contract 188 = .ok (.iastore, 1) := by decide +kernel
theorem dX11_contract_189 : decode cX11_contract 189 = .ok (.aload_n 0, 1) := by decide +kernel
theorem dX11_contract_190 : decode cX11_contract 190 = .ok (.getfield 7, 3) := by decide +kernel
theorem dX11_contract_193 : decode cX11_contract 193 = .ok (.iload 10, 2) := by decide +kernel
theorem dX11_contract_195 : decode cX11_contract 195 = .ok (.iconst 1, 1) := by decide +kernel
theorem dX11_contract_196 : decode cX11_contract 196 = .ok (.iadd, 1) := by decide +kernel
theorem dX11_contract_197 : decode cX11_contract 197 = .ok (.iload_n 3, 1) := by decide +kernel
theorem dX11_contract_198 : decode cX11_contract 198 = .ok (.iastore, 1) := by decide +kernel
theorem dX11_contract_199 : decode cX11_contract 199 = .ok (.aload_n 0, 1) := by decide +kernel
theorem dX11_contract_200 : decode cX11_contract 200 = .ok (.iload 10, 2) := by decide +kernel
theorem dX11_contract_202 : decode cX11_contract 202 = .ok (.iconst 2, 1) := by decide +kernel
theorem dX11_contract_203 : decode cX11_contract 203 = .ok (.iadd, 1) := by decide +kernel
theorem dX11_contract_204 : decode cX11_contract 204 = .ok (.iload 4, 2) := by decide +kernel
theorem dX11_contract_206 : decode cX11_contract 206 = .ok (.iload 5, 2) := by decide +kernel
theorem dX11_contract_208 : decode cX11_contract 208 = .ok (.iload 6, 2) := by decide +kernel
theorem dX11_contract_210 : decode cX11_contract 210 = .ok (.invokevirtual 137, 3) := by decide +kernel
theorem dX11_contract_213 : decode cX11_contract 213 = .ok (.aload_n 0, 1) := by decide +kernel
theorem dX11_contract_214 : decode cX11_contract 214 = .ok (.getfield 7, 3) := by decide +kernel
theorem dX11_contract_217 : decode cX11_contract 217 = .ok (.sipush 1440, 3) := by decide +kernel
theorem dX11_contract_220 : decode cX11_contract 220 = .ok (.iload_n 1, 1) := by decide +kernel
theorem dX11_contract_221 : decode cX11_contract 221 = .ok (.iadd, 1) := by decide +kernel
theorem dX11_contract_222 : decode cX11_contract 222 = .ok (.iaload, 1) := by decide +kernel
theorem dX11_contract_223 : decode cX11_contract 223 = .ok (.ireturn, 1) := by decide +kernel
theorem dX11_plural_0 : decode cX11_plural 0 = .ok (.iload_n 2, 1) := by decide +kernel
theorem dX11_plural_1 : decode cX11_plural 1 = .ok (.iconst 0, 1) := by decide +kernel
theorem dX11_plural_2 : decode cX11_plural 2 = .ok (.iconst 2, 1) := by decide +kernel
theorem dX11_plural_3 : decode cX11_plural 3 = .ok (.invokestatic 111, 3) := by decide +kernel
theorem dX11_plural_6 : decode cX11_plural 6 = .ok (.ifCond .eq 51, 3) := by decide +kernel
theorem dX11_plural_9 : decode cX11_plural 9 = .ok (.iload_n 3, 1) := by decide +kernel
theorem dX11_plural_10 : decode cX11_plural 10 = .ok (.iconst 1, 1) := by decide +kernel
theorem dX11_plural_11 : decode cX11_plural 11 = .ok (.bipush 100, 2) := by decide +kernel
theorem dX11_plural_13 : decode cX11_plural 13 = .ok (.invokestatic 111, 3) := by decide +kernel
theorem dX11_plural_16 : decode cX11_plural 16 = .ok (.ifCond .eq 41, 3) := by decide +kernel
theorem dX11_plural_19 : decode cX11_plural 19 = .ok (.iload 4, 2) := by decide +kernel
theorem dX11_plural_21 : decode cX11_plural 21 = .ok (.iconst 0, 1) := by decide +kernel
theorem dX11_plural_22 : decode cX11_plural 22 = .ok (.bipush 99, 2) := by decide +kernel
theorem dX11_plural_24 : decode cX11_plural 24 = .ok (.invokestatic 111, 3) := by decide +kernel
theorem dX11_plural_27 : decode cX11_plural 27 = .ok (.ifCond .eq 30, 3) := by decide +kernel
theorem dX11_plural_30 : decode cX11_plural 30 = .ok (.iload 5, 2) := by decide +kernel
theorem dX11_plural_32 : decode cX11_plural 32 = .ok (.iload 4, 2) := by decide +kernel
theorem dX11_plural_34 : decode cX11_plural 34 = .ok (.bipush 99, 2) := by decide +kernel
theorem dX11_plural_36 : decode cX11_plural 36 = .ok (.invokestatic 111, 3) := by decide +kernel
theorem dX11_plural_39 : decode cX11_plural 39 = .ok (.ifCond .eq 18, 3) := by decide +kernel
theorem dX11_plural_42 : decode cX11_plural 42 = .ok (.iload 6, 2) := by decide +kernel
theorem dX11_plural_44 : decode cX11_plural 44 = .ok (.iconst 0, 1) := by decide +kernel
theorem dX11_plural_45 : decode cX11_plural 45 = .ok (.bipush 100, 2) := by decide +kernel
theorem dX11_plural_47 : decode cX11_plural 47 = .ok (.invokestatic 111, 3) := by decide +kernel
theorem dX11_plural_50 : decode cX11_plural 50 = .ok (.ifCond .eq 7, 3) := by decide +kernel
theorem dX11_plural_53 : decode cX11_plural 53 = .ok (.iconst 1, 1) := by decide +kernel
theorem dX11_plural_54 : decode cX11_plural 54 = .ok (.goto 4, 3) := by decide +kernel
theorem dX11_plural_57 : decode cX11_plural 57 = .ok (.iconst 0, 1) := by decide +kernel
theorem dX11_plural_58 : decode cX11_plural 58 = .ok (.istore 9, 2) := by decide +kernel
theorem dX11_plural_60 : decode cX11_plural 60 = .ok (.iload 9, 2) := by decide +kernel
theorem dX11_plural_62 : decode cX11_plural 62 = .ok (.ifCond .eq 48, 3) := by decide +kernel
theorem dX11_plural_65 : decode cX11_plural 65 = .ok (.iload 6, 2) := by decide +kernel
theorem dX11_plural_67 : decode cX11_plural 67 = .ok (.ifCond .ne 16, 3) := by decide +kernel
theorem dX11_plural_70 : decode cX11_plural 70 = .ok (.iload 7, 2) := by decide +kernel
theorem dX11_plural_72 : decode cX11_plural 72 = .ok (.ifCond .ne 38, 3) := by decide +kernel
theorem dX11_plural_75 : decode cX11_plural 75 = .ok (.iload 8, 2) := by decide +kernel
theorem dX11_plural_77 : decode cX11_plural 77 = .ok (.ifCond .ne 33, 3) := by decide +kernel
theorem dX11_plural_80 : decode cX11_plural 80 = .ok (.goto 26, 3) := by decide +kernel
theorem dX11_plural_83 : decode cX11_plural 83 = .ok (.iload 7, 2) := by decide +kernel
theorem dX11_plural_85 : decode cX11_plural 85 = .ok (.iconst 0, 1) := by decide +kernel
theorem dX11_plural_86 : decode cX11_plural 86 = .ok (.bipush 99, 2) := by decide +kernel
theorem dX11_plural_88 : decode cX11_plural 88 = .ok (.invokestatic 111, 3) := by decide +kernel
theorem dX11_plural_91 : decode cX11_plural 91 = .ok (.ifCond .eq 19, 3) := by decide +kernel
theorem dX11_plural_94 : decode cX11_plural 94 = .ok (.iload 8, 2) := by decide +kernel
theorem dX11_plural_96 : decode cX11_plural 96 = .ok (.iload 7, 2) := by decide +kernel
theorem dX11_plural_98 : decode cX11_plural 98 = .ok (.bipush 99, 2) := by decide +kernel
theorem dX11_plural_100 : decode cX11_plural 100 = .ok (.invokestatic 111, 3) := by decide +kernel
theorem dX11_plural_103 : decode cX11_plural 103 = .ok (.ifCond .eq 7, 3) := by decide +kernel
theorem dX11_plural_106 : decode cX11_plural 106 = .ok (.iconst 1, 1) := by decide +kernel
theorem dX11_plural_107 : decode cX11_plural 107 = .ok (.goto 4, 3) := by decide +kernel
theorem dX11_plural_110 : decode cX11_plural 110 = .ok (.iconst 0, 1) := by decide +kernel
theorem dX11_plural_111 : decode cX11_plural 111 = .ok (.istore 9, 2) := by decide +kernel
theorem dX11_plural_113 : decode cX11_plural 113 = .ok (.aload_n 0, 1) := by decide +kernel
theorem dX11_plural_114 : decode cX11_plural 114 = .ok (.iload_n 1, 1) := by decide +kernel
theorem dX11_plural_115 : decode cX11_plural 115 = .ok (.invokestatic 131, 3) := by decide +kernel
theorem dX11_plural_118 : decode cX11_plural 118 = .ok (.ifCond .ne 7, 3) := by decide +kernel
theorem dX11_plural_121 : decode cX11_plural 121 = .ok (.iconst 1, 1) := by decide +kernel
theorem dX11_plural_122 : decode cX11_plural 122 = .ok (.goto 31, 3) := by decide +kernel
theorem dX11_plural_125 : decode cX11_plural 125 = .ok (.iload 9, 2) := by decide +kernel
theorem dX11_plural_127 : decode cX11_plural 127 = .ok (.ifCond .ne 7, 3) := by decide +kernel
theorem dX11_plural_130 : decode cX11_plural 130 = .ok (.iconst 2, 1) := by decide +kernel
theorem dX11_plural_131 : decode cX11_plural 131 = .ok (.goto 22, 3) := by decide +kernel
theorem dX11_plural_134 : decode cX11_plural 134 = .ok (.aload_n 0, 1) := by decide +kernel
theorem dX11_plural_135 : decode cX11_plural 135 = .ok (.getfield 7, 3) := by decide +kernel
theorem dX11_plural_138 : decode cX11_plural 138 = .ok (.sipush 1678, 3) := by decide +kernel
theorem dX11_plural_141 : decode cX11_plural 141 = .ok (.iload_n 1, 1) := by decide +kernel
theorem dX11_plural_142 : decode cX11_plural 142 = .ok (.iadd, 1) := by decide +kernel
theorem dX11_plural_143 : decode cX11_plural 143 = .ok (.iaload, 1) := by decide +kernel
theorem dX11_plural_144 : decode cX11_plural 144 = .ok (.iconst 4, 1) := by decide +kernel
theorem dX11_plural_145 : decode cX11_plural 145 = .ok (.if_icmp .ne 7, 3) := by decide +kernel
theorem dX11_plural_148 : decode cX11_plural 148 = .ok (.iconst 3, 1) := by decide +kernel
theorem dX11_plural_149 : decode cX11_plural 149 = .ok (.goto 4, 3) := by decide +kernel
theorem dX11_plural_152 : decode cX11_plural 152 = .ok (.iconst 0, 1) := by decide +kernel
theorem dX11_plural_153 : decode cX11_plural 153 = .ok (.invokevirtual 118, 3) := by decide +kernel
theorem dX11_plural_156 : decode cX11_plural 156 = .ok (.ifCond .ne 5, 3) := by decide +kernel
theorem dX11_plural_159 : decode cX11_plural 159 = .ok (.iconst 0, 1) := by decide +kernel
theorem dX11_plural_160 : decode cX11_plural 160 = .ok (.ireturn, 1) := by decide +kernel
theorem dX11_plural_161 : decode cX11_plural 161 = .ok (.sipush 1680, 3) := by decide +kernel
theorem dX11_plural_164 : decode cX11_plural 164 = .ok (.bipush 7, 2) := by decide +kernel
theorem dX11_plural_166 : decode cX11_plural 166 = .ok (.iconst 4, 1) := by decide +kernel
theorem dX11_plural_167 : decode cX11_plural 167 = .ok (.iload_n 1, 1) := by decide +kernel
theorem dX11_plural_168 : decode cX11_plural 168 = .ok (.imul, 1) := by decide +kernel
theorem dX11_plural_169 : decode cX11_plural 169 = .ok (.aload_n 0, 1) := by decide +kernel
theorem dX11_plural_170 : decode cX11_plural 170 = .ok (.getfield 7, 3) := by decide +kernel
theorem dX11_plural_173 : decode cX11_plural 173 = .ok (.sipush 1678, 3) := by decide +kernel
theorem dX11_plural_176 : decode cX11_plural 176 = .ok (.iload_n 1, 1) := by decide +kernel
theorem dX11_plural_177 : decode cX11_plural 177 = .ok (.iadd, 1) := by decide +kernel
theorem dX11_plural_178 : decode cX11_plural 178 = .ok (.iaload, 1) := by decide +kernel
theorem dX11_plural_179 : decode cX11_plural 179 = .ok (.iadd, 1) := by decide +kernel
theorem dX11_plural_180 : decode cX11_plural 180 = .ok (.imul, 1) := by decide +kernel
theorem dX11_plural_181 : decode cX11_plural 181 = .ok (.iadd, 1) := by decide +kernel
theorem dX11_plural_182 : decode cX11_plural 182 = .ok (.istore 10, 2) := by decide +kernel
theorem dX11_plural_184 : decode cX11_plural 184 = .ok (.aload_n 0, 1) := by decide +kernel
theorem dX11_plural_185 : decode cX11_plural 185 = .ok (.getfield 7, 3) := by decide +kernel
theorem dX11_plural_188 : decode cX11_plural 188 = .ok (.iload 10, 2) := by decide +kernel
theorem dX11_plural_190 : decode cX11_plural 190 = .ok (.iload_n 2, 1) := by decide +kernel
theorem dX11_plural_191 : decode cX11_plural 191 = .ok (.iastore, 1) := by decide +kernel
theorem dX11_plural_192 : decode cX11_plural 192 = .ok (.aload_n 0, 1) := by decide +kernel
theorem dX11_plural_193 : decode cX11_plural 193 = .ok (.getfield 7, 3) := by decide +kernel
theorem dX11_plural_196 : decode cX11_plural 196 = .ok (.iload 10, 2) := by decide +kernel
theorem dX11_plural_198 : decode cX11_plural 198 = .ok (.iconst 1, 1) := by decide +kernel
theorem dX11_plural_199 : decode cX11_plural 199 = .ok (.iadd, 1) := by decide +kernel
theorem dX11_plural_200 : decode cX11_plural 200 = .ok (.iload_n 3, 1) := by decide +kernel
theorem dX11_plural_201 : decode cX11_plural 201 = .ok (.iastore, 1) := by decide +kernel
theorem dX11_plural_202 : decode cX11_plural 202 = .ok (.aload_n 0, 1) := by decide +kernel
theorem dX11_plural_203 : decode cX11_plural 203 = .ok (.getfield 7, 3) := by decide +kernel
theorem dX11_plural_206 : decode cX11_plural 206 = .ok (.iload 10, 2) := by decide +kernel
theorem dX11_plural_208 : decode cX11_plural 208 = .ok (.iconst 2, 1) := by decide +kernel
theorem dX11_plural_209 : decode cX11_plural 209 = .ok (.iadd, 1) := by decide +kernel
theorem dX11_plural_210 : decode cX11_plural 210 = .ok (.iload 4, 2) := by decide +kernel
theorem dX11_plural_212 : decode cX11_plural 212 = .ok (.iastore, 1) := by decide +kernel
theorem dX11_plural_213 : decode cX11_plural 213 = .ok (.aload_n 0, 1) := by decide +kernel
theorem dX11_plural_214 : decode cX11_plural 214 = .ok (.getfield 7, 3) := by decide +kernel
theorem dX11_plural_217 : decode cX11_plural 217 = .ok (.iload 10, 2) := by decide +kernel
theorem dX11_plural_219 : decode cX11_plural 219 = .ok (.iconst 3, 1) := by decide +kernel
theorem dX11_plural_220 : decode cX11_plural 220 = .ok (.iadd, 1) := by decide +kernel
theorem dX11_plural_221 : decode cX11_plural 221 = .ok (.iload 5, 2) := by decide +kernel
theorem dX11_plural_223 : decode cX11_plural 223 = .ok (.iastore, 1) := by decide +kernel
theorem dX11_plural_224 : decode cX11_plural 224 = .ok (.aload_n 0, 1) := by decide +kernel
theorem dX11_plural_225 : decode cX11_plural 225 = .ok (.getfield 7, 3) := by decide +kernel
theorem dX11_plural_228 : decode cX11_plural 228 = .ok (.iload 10, 2) := by decide +kernel
theorem dX11_plural_230 : decode cX11_plural 230 = .ok (.iconst 4, 1) := by decide +kernel
theorem dX11_plural_231 : decode cX11_plural 231 = .ok (.iadd, 1) := by decide +kernel
theorem dX11_plural_232 : decode cX11_plural 232 = .ok (.iload 6, 2) := by decide +kernel
theorem dX11_plural_234 : decode cX11_plural 234 = .ok (.iastore, 1) := by decide +kernel
theorem dX11_plural_235 : decode cX11_plural 235 = .ok (.aload_n 0, 1) := by decide +kernel
theorem dX11_plural_236 : decode cX11_plural 236 = .ok (.getfield 7, 3) := by decide +kernel
theorem dX11_plural_239 : decode cX11_plural 239 = .ok (.iload 10, 2) := by decide +kernel
theorem dX11_plural_241 : decode cX11_plural 241 = .ok (.iconst 5, 1) := by decide +kernel
theorem dX11_plural_242 : decode cX11_plural 242 = .ok (.iadd, 1) := by decide +kernel
theorem dX11_plural_243 : decode cX11_plural 243 = .ok (.iload 7, 2) := by decide +kernel
theorem dX11_plural_245 : decode cX11_plural 245 = .ok (.iastore, 1) := by decide +kernel
theorem dX11_plural_246 : decode cX11_plural 246 = .ok (.aload_n 0, 1) := by decide +kernel
theorem dX11_plural_247 : decode cX11_plural 247 = .ok (.getfield 7, 3) := by decide +kernel
theorem dX11_plural_250 : decode cX11_plural 250 = .ok (.iload 10, 2) := by decide +kernel
theorem dX11_plural_252 : decode cX11_plural 252 = .ok (.bipush 6, 2) := by decide +kernel
theorem dX11_plural_254 : decode cX11_plural 254 = .ok (.iadd, 1) := by decide +kernel
theorem dX11_plural_255 : decode cX11_plural 255 = .ok (.iload 8, 2) := by decide +kernel
theorem dX11_plural_257 : decode cX11_plural 257 = .ok (.iastore, 1) := by decide +kernel
theorem dX11_plural_258 : decode cX11_plural 258 = .ok (.aload_n 0, 1) := by decide +kernel
theorem dX11_plural_259 : decode cX11_plural 259 = .ok (.getfield 7, 3) := by decide +kernel
theorem dX11_plural_262 : decode cX11_plural 262 = .ok (.sipush 1678, 3) := by decide +kernel
theorem dX11_plural_265 : decode cX11_plural 265 = .ok (.iload_n 1, 1) := by decide +kernel
theorem dX11_plural_266 : decode cX11_plural 266 = .ok (.iadd, 1) := by decide +kernel
theorem dX11_plural_267 : decode cX11_plural 267 = .ok (.dup2, 1) := by decide +kernel
theorem dX11_plural_268 : decode cX11_plural 268 = .ok (.iaload, 1) := by decide +kernel
theorem dX11_plural_269 : decode cX11_plural 269 = .ok (.iconst 1, 1) := by decide +kernel
theorem dX11_plural_270 : decode cX11_plural 270 = .ok (.iadd, 1) := by decide +kernel
theorem dX11_plural_271 : decode cX11_plural 271 = .ok (.iastore, 1) := by decide +kernel
theorem dX11_plural_272 : decode cX11_plural 272 = .ok (.aload_n 0, 1) := by decide +kernel
theorem dX11_plural_273 : decode cX11_plural 273 = .ok (.getfield 7, 3) := by decide +kernel
theorem dX11_plural_276 : decode cX11_plural 276 = .ok (.sipush 1678, 3) := by decide +kernel
theorem dX11_plural_279 : decode cX11_plural 279 = .ok (.iload_n 1, 1) := by decide +kernel
theorem dX11_plural_280 : decode cX11_plural 280 = .ok (.iadd, 1) := by decide +kernel
theorem dX11_plural_281 : decode cX11_plural 281 = .ok (.iaload, 1) := by decide +kernel
theorem dX11_plural_282 : decode cX11_plural 282 = .ok (.ireturn, 1) := by decide +kernel
theorem dX11_addWord_0 : decode cX11_addWord 0 = .ok (.iload_n 1, 1) := by decide +kernel
theorem dX11_addWord_1 : decode cX11_addWord 1 = .ok (.invokestatic 145, 3) := by decide +kernel
theorem dX11_addWord_4 : decode cX11_addWord 4 = .ok (.istore_n 2, 1) := by decide +kernel
theorem dX11_addWord_5 : decode cX11_addWord 5 = .ok (.aload_n 0, 1) := by decide +kernel
theorem dX11_addWord_6 : decode cX11_addWord 6 = .ok (.iload_n 2, 1) := by decide +kernel
theorem dX11_addWord_7 : decode cX11_addWord 7 = .ok (.ifCond .ne 7, 3) := by decide +kernel
theorem dX11_addWord_10 : decode cX11_addWord 10 = .ok (.iconst 1, 1) := by decide +kernel
theorem dX11_addWord_11 : decode cX11_addWord 11 = .ok (.goto 36, 3) := by decide +kernel
theorem dX11_addWord_14 : decode cX11_addWord 14 = .ok (.aload_n 0, 1) := by decide +kernel
theorem dX11_addWord_15 : decode cX11_addWord 15 = .ok (.getfield 19, 3) := by decide +kernel
theorem dX11_addWord_18 : decode cX11_addWord 18 = .ok (.iload_n 1, 1) := by decide +kernel
theorem dX11_addWord_19 : decode cX11_addWord 19 = .ok (.iaload, 1) := by decide +kernel
theorem dX11_addWord_20 : decode cX11_addWord 20 = .ok (.iconst 1, 1) := by decide +kernel
theorem dX11_addWord_21 : decode cX11_addWord 21 = .ok (.bipush 8, 2) := by decide +kernel
theorem dX11_addWord_23 : decode cX11_addWord 23 = .ok (.invokestatic 111, 3) := by decide +kernel
theorem dX11_addWord_26 : decode cX11_addWord 26 = .ok (.ifCond .eq 16, 3) := by decide +kernel
theorem dX11_addWord_29 : decode cX11_addWord 29 = .ok (.aload_n 0, 1) := by decide +kernel
theorem dX11_addWord_30 : decode cX11_addWord 30 = .ok (.getfield 7, 3) := by decide +kernel
theorem dX11_addWord_33 : decode cX11_addWord 33 = .ok (.sipush 1502, 3) := by decide +kernel
theorem dX11_addWord_36 : decode cX11_addWord 36 = .ok (.iaload, 1) := by decide +kernel
theorem dX11_addWord_37 : decode cX11_addWord 37 = .ok (.bipush 6, 2) := by decide +kernel
theorem dX11_addWord_39 : decode cX11_addWord 39 = .ok (.if_icmp .ne 7, 3) := by decide +kernel
theorem dX11_addWord_42 : decode cX11_addWord 42 = .ok (.iconst 2, 1) := by decide +kernel
theorem dX11_addWord_43 : decode cX11_addWord 43 = .ok (.goto 4, 3) := by decide +kernel
theorem dX11_addWord_46 : decode cX11_addWord 46 = .ok (.iconst 0, 1) := by decide +kernel
theorem dX11_addWord_47 : decode cX11_addWord 47 = .ok (.invokevirtual 118, 3) := by decide +kernel
theorem dX11_addWord_50 : decode cX11_addWord 50 = .ok (.ifCond .ne 5, 3) := by decide +kernel
theorem dX11_addWord_53 : decode cX11_addWord 53 = .ok (.iconst 0, 1) := by decide +kernel
theorem dX11_addWord_54 : decode cX11_addWord 54 = .ok (.ireturn, 1) := by decide +kernel
theorem dX11_addWord_55 : decode cX11_addWord 55 = .ok (.sipush 1503, 3) := by decide +kernel
theorem dX11_addWord_58 : decode cX11_addWord 58 = .ok (.bipush 9, 2) := by decide +kernel
theorem dX11_addWord_60 : decode cX11_addWord 60 = .ok (.aload_n 0, 1) := by decide +kernel
theorem dX11_addWord_61 : decode cX11_addWord 61 = .ok (.getfield 7, 3) := by decide +kernel
theorem dX11_addWord_64 : decode cX11_addWord 64 = .ok (.sipush 1502, 3) := by decide +kernel
theorem dX11_addWord_67 : decode cX11_addWord 67 = .ok (.iaload, 1) := by decide +kernel
theorem dX11_addWord_68 : decode cX11_addWord 68 = .ok (.imul, 1) := by decide +kernel
theorem dX11_addWord_69 : decode cX11_addWord 69 = .ok (.iadd, 1) := by decide +kernel
theorem dX11_addWord_70 : decode cX11_addWord 70 = .ok (.istore_n 3, 1) := by decide +kernel
theorem dX11_addWord_71 : decode cX11_addWord 71 = .ok (.aload_n 0, 1) := by decide +kernel
theorem dX11_addWord_72 : decode cX11_addWord 72 = .ok (.getfield 7, 3) := by decide +kernel
theorem dX11_addWord_75 : decode cX11_addWord 75 = .ok (.iload_n 3, 1) := by decide +kernel
theorem dX11_addWord_76 : decode cX11_addWord 76 = .ok (.aload_n 0, 1) := by decide +kernel
theorem dX11_addWord_77 : decode cX11_addWord 77 = .ok (.getfield 19, 3) := by decide +kernel
theorem dX11_addWord_80 : decode cX11_addWord 80 = .ok (.iload_n 1, 1) := by decide +kernel
theorem dX11_addWord_81 : decode cX11_addWord 81 = .ok (.iaload, 1) := by decide +kernel
theorem dX11_addWord_82 : decode cX11_addWord 82 = .ok (.iastore, 1) := by decide +kernel
theorem dX11_addWord_83 : decode cX11_addWord 83 = .ok (.iconst 0, 1) := by decide +kernel
theorem dX11_addWord_84 : decode cX11_addWord 84 = .ok (.istore 4, 2) := by decide +kernel
theorem dX11_addWord_86 : decode cX11_addWord 86 = .ok (.iload 4, 2) := by decide +kernel
theorem dX11_addWord_88 : decode cX11_addWord 88 = .ok (.aload_n 0, 1) := by decide +kernel
theorem dX11_addWord_89 : decode cX11_addWord 89 = .ok (.getfield 19, 3) := by decide +kernel
theorem dX11_addWord_92 : decode cX11_addWord 92 = .ok (.iload_n 1, 1) := by decide +kernel
theorem dX11_addWord_93 : decode cX11_addWord 93 = .ok (.iaload, 1) := by decide +kernel
theorem dX11_addWord_94 : decode cX11_addWord 94 = .ok (.if_icmp .ge 27, 3) := by decide +kernel
theorem dX11_addWord_97 : decode cX11_addWord 97 = .ok (.aload_n 0, 1) := by decide +kernel
theorem dX11_addWord_98 : decode cX11_addWord 98 = .ok (.getfield 7, 3) := by decide +kernel
theorem dX11_addWord_101 : decode cX11_addWord 101 = .ok (.iload_n 3, 1) := by decide +kernel
theorem dX11_addWord_102 : decode cX11_addWord 102 = .ok (.iconst 1, 1) := by decide +kernel
theorem dX11_addWord_103 : decode cX11_addWord 103 = .ok (.iadd, 1) := by decide +kernel
theorem dX11_addWord_104 : decode cX11_addWord 104 = .ok (.iload 4, 2) := by decide +kernel
theorem dX11_addWord_106 : decode cX11_addWord 106 = .ok (.iadd, 1) := by decide +kernel
theorem dX11_addWord_107 : decode cX11_addWord 107 = .ok (.aload_n 0, 1) := by decide +kernel
theorem dX11_addWord_108 : decode cX11_addWord 108 = .ok (.iload_n 1, 1) := by decide +kernel
theorem dX11_addWord_109 : decode cX11_addWord 109 = .ok (.iload 4, 2) := by decide +kernel
theorem dX11_addWord_111 : decode cX11_addWord 111 = .ok (.invokevirtual 148, 3) := by decide +kernel
theorem dX11_addWord_114 : decode cX11_addWord 114 = .ok (.iastore, 1) := by decide +kernel
theorem dX11_addWord_115 : decode cX11_addWord 115 = .ok (.iinc 4 1, 3) := by decide +kernel
theorem dX11_addWord_118 : decode cX11_addWord 118 = .ok (.goto (-32), 3) := by decide +kernel
theorem dX11_addWord_121 : decode cX11_addWord 121 = .ok (.aload_n 0, 1) := by decide +kernel
theorem dX11_addWord_122 : decode cX11_addWord 122 = .ok (.getfield 7, 3) := by decide +kernel
theorem dX11_addWord_125 : decode cX11_addWord 125 = .ok (.sipush 1502, 3) := by decide +kernel
theorem dX11_addWord_128 : decode cX11_addWord 128 = .ok (.dup2, 1) := by decide +kernel
theorem dX11_addWord_129 : decode cX11_addWord 129 = .ok (.iaload, 1) := by decide +kernel
theorem dX11_addWord_130 : decode cX11_addWord 130 = .ok (.iconst 1, 1) := by decide +kernel
theorem dX11_addWord_131 : decode cX11_addWord 131 = .ok (.iadd, 1) := by decide +kernel
theorem dX11_addWord_132 : decode cX11_addWord 132 = .ok (.iastore, 1) := by decide +kernel
theorem dX11_addWord_133 : decode cX11_addWord 133 = .ok (.aload_n 0, 1) := by decide +kernel
theorem dX11_addWord_134 : decode cX11_addWord 134 = .ok (.getfield 7, 3) := by decide +kernel
theorem dX11_addWord_137 : decode cX11_addWord 137 = .ok (.sipush 1502, 3) := by decide +kernel
theorem dX11_addWord_140 : decode cX11_addWord 140 = .ok (.iaload, 1) := by decide +kernel
theorem dX11_addWord_141 : decode cX11_addWord 141 = .ok (.ireturn, 1) := by decide +kernel
theorem dX11_lays_0 : decode cX11_lays 0 = .ok (.aload_n 0, 1) := by decide +kernel
theorem dX11_lays_1 : decode cX11_lays 1 = .ok (.getfield 7, 3) := by decide +kernel
theorem dX11_lays_4 : decode cX11_lays 4 = .ok (.iload_n 2, 1) := by decide +kernel
theorem dX11_lays_5 : decode cX11_lays 5 = .ok (.aload_n 0, 1) := by decide +kernel
theorem dX11_lays_6 : decode cX11_lays 6 = .ok (.getfield 19, 3) := by decide +kernel
theorem dX11_lays_9 : decode cX11_lays 9 = .ok (.iload_n 1, 1) := by decide +kernel
theorem dX11_lays_10 : decode cX11_lays 10 = .ok (.iaload, 1) := by decide +kernel
theorem dX11_lays_11 : decode cX11_lays 11 = .ok (.iastore, 1) := by decide +kernel
theorem dX11_lays_12 : decode cX11_lays 12 = .ok (.iconst 0, 1) := by decide +kernel
theorem dX11_lays_13 : decode cX11_lays 13 = .ok (.istore 4, 2) := by decide +kernel
theorem dX11_lays_15 : decode cX11_lays 15 = .ok (.iload 4, 2) := by decide +kernel
theorem dX11_lays_17 : decode cX11_lays 17 = .ok (.aload_n 0, 1) := by decide +kernel
theorem dX11_lays_18 : decode cX11_lays 18 = .ok (.getfield 19, 3) := by decide +kernel
theorem dX11_lays_21 : decode cX11_lays 21 = .ok (.iload_n 1, 1) := by decide +kernel
theorem dX11_lays_22 : decode cX11_lays 22 = .ok (.iaload, 1) := by decide +kernel
theorem dX11_lays_23 : decode cX11_lays 23 = .ok (.if_icmp .ge 25, 3) := by decide +kernel
theorem dX11_lays_26 : decode cX11_lays 26 = .ok (.aload_n 0, 1) := by decide +kernel
theorem dX11_lays_27 : decode cX11_lays 27 = .ok (.getfield 7, 3) := by decide +kernel
theorem dX11_lays_30 : decode cX11_lays 30 = .ok (.iload_n 3, 1) := by decide +kernel
theorem dX11_lays_31 : decode cX11_lays 31 = .ok (.iload 4, 2) := by decide +kernel
theorem dX11_lays_33 : decode cX11_lays 33 = .ok (.iadd, 1) := by decide +kernel
theorem dX11_lays_34 : decode cX11_lays 34 = .ok (.aload_n 0, 1) := by decide +kernel
theorem dX11_lays_35 : decode cX11_lays 35 = .ok (.iload_n 1, 1) := by decide +kernel
theorem dX11_lays_36 : decode cX11_lays 36 = .ok (.iload 4, 2) := by decide +kernel
theorem dX11_lays_38 : decode cX11_lays 38 = .ok (.invokevirtual 148, 3) := by decide +kernel
theorem dX11_lays_41 : decode cX11_lays 41 = .ok (.iastore, 1) := by decide +kernel
theorem dX11_lays_42 : decode cX11_lays 42 = .ok (.iinc 4 1, 3) := by decide +kernel
theorem dX11_lays_45 : decode cX11_lays 45 = .ok (.goto (-30), 3) := by decide +kernel
theorem dX11_lays_48 : decode cX11_lays 48 = .ok (.return_, 1) := by decide +kernel
theorem dX11_addRule_0 : decode cX11_addRule 0 = .ok (.iload_n 2, 1) := by decide +kernel
theorem dX11_addRule_1 : decode cX11_addRule 1 = .ok (.invokestatic 145, 3) := by decide +kernel
theorem dX11_addRule_4 : decode cX11_addRule 4 = .ok (.ifCond .eq 30, 3) := by decide +kernel
theorem dX11_addRule_7 : decode cX11_addRule 7 = .ok (.iload_n 3, 1) := by decide +kernel
theorem dX11_addRule_8 : decode cX11_addRule 8 = .ok (.invokestatic 145, 3) := by decide +kernel
theorem dX11_addRule_11 : decode cX11_addRule 11 = .ok (.ifCond .eq 23, 3) := by decide +kernel
theorem dX11_addRule_14 : decode cX11_addRule 14 = .ok (.iload 4, 2) := by decide +kernel
theorem dX11_addRule_16 : decode cX11_addRule 16 = .ok (.invokestatic 145, 3) := by decide +kernel
theorem dX11_addRule_19 : decode cX11_addRule 19 = .ok (.ifCond .eq 15, 3) := by decide +kernel
theorem dX11_addRule_22 : decode cX11_addRule 22 = .ok (.iload 5, 2) := by decide +kernel
theorem dX11_addRule_24 : decode cX11_addRule 24 = .ok (.invokestatic 145, 3) := by decide +kernel
theorem dX11_addRule_27 : decode cX11_addRule 27 = .ok (.ifCond .eq 7, 3) := by decide +kernel
theorem dX11_addRule_30 : decode cX11_addRule 30 = .ok (.iconst 1, 1) := by decide +kernel
theorem dX11_addRule_31 : decode cX11_addRule 31 = .ok (.goto 4, 3) := by decide +kernel
theorem dX11_addRule_34 : decode cX11_addRule 34 = .ok (.iconst 0, 1) := by decide +kernel
theorem dX11_addRule_35 : decode cX11_addRule 35 = .ok (.istore 6, 2) := by decide +kernel
theorem dX11_addRule_37 : decode cX11_addRule 37 = .ok (.iload 6, 2) := by decide +kernel
theorem dX11_addRule_39 : decode cX11_addRule 39 = .ok (.ifCond .eq 66, 3) := by decide +kernel
theorem dX11_addRule_42 : decode cX11_addRule 42 = .ok (.aload_n 0, 1) := by decide +kernel
theorem dX11_addRule_43 : decode cX11_addRule 43 = .ok (.getfield 19, 3) := by decide +kernel
theorem dX11_addRule_46 : decode cX11_addRule 46 = .ok (.iload_n 2, 1) := by decide +kernel
theorem dX11_addRule_47 : decode cX11_addRule 47 = .ok (.iaload, 1) := by decide +kernel
theorem dX11_addRule_48 : decode cX11_addRule 48 = .ok (.iconst 3, 1) := by decide +kernel
theorem dX11_addRule_49 : decode cX11_addRule 49 = .ok (.if_icmp .ge 56, 3) := by decide +kernel
theorem dX11_addRule_52 : decode cX11_addRule 52 = .ok (.aload_n 0, 1) := by decide +kernel
theorem dX11_addRule_53 : decode cX11_addRule 53 = .ok (.getfield 19, 3) := by decide +kernel
theorem dX11_addRule_56 : decode cX11_addRule 56 = .ok (.iload_n 3, 1) := by decide +kernel
theorem dX11_addRule_57 : decode cX11_addRule 57 = .ok (.iaload, 1) := by decide +kernel
theorem dX11_addRule_58 : decode cX11_addRule 58 = .ok (.iconst 1, 1) := by decide +kernel
theorem dX11_addRule_59 : decode cX11_addRule 59 = .ok (.iconst 3, 1) := by decide +kernel
theorem dX11_addRule_60 : decode cX11_addRule 60 = .ok (.invokestatic 111, 3) := by decide +kernel
theorem dX11_addRule_63 : decode cX11_addRule 63 = .ok (.ifCond .eq 42, 3) := by decide +kernel
theorem dX11_addRule_66 : decode cX11_addRule 66 = .ok (.aload_n 0, 1) := by decide +kernel
theorem dX11_addRule_67 : decode cX11_addRule 67 = .ok (.getfield 19, 3) := by decide +kernel
theorem dX11_addRule_70 : decode cX11_addRule 70 = .ok (.iload 4, 2) := by decide +kernel
theorem dX11_addRule_72 : decode cX11_addRule 72 = .ok (.iaload, 1) := by decide +kernel
theorem dX11_addRule_73 : decode cX11_addRule 73 = .ok (.iconst 3, 1) := by decide +kernel
theorem dX11_addRule_74 : decode cX11_addRule 74 = .ok (.if_icmp .ge 31, 3) := by decide +kernel
theorem dX11_addRule_77 : decode cX11_addRule 77 = .ok (.aload_n 0, 1) := by decide +kernel
theorem dX11_addRule_78 : decode cX11_addRule 78 = .ok (.getfield 19, 3) := by decide +kernel
theorem dX11_addRule_81 : decode cX11_addRule 81 = .ok (.iload 5, 2) := by decide +kernel
theorem dX11_addRule_83 : decode cX11_addRule 83 = .ok (.iaload, 1) := by decide +kernel
theorem dX11_addRule_84 : decode cX11_addRule 84 = .ok (.iconst 4, 1) := by decide +kernel
theorem dX11_addRule_85 : decode cX11_addRule 85 = .ok (.if_icmp .ge 20, 3) := by decide +kernel
theorem dX11_addRule_88 : decode cX11_addRule 88 = .ok (.aload_n 0, 1) := by decide +kernel
theorem dX11_addRule_89 : decode cX11_addRule 89 = .ok (.getfield 7, 3) := by decide +kernel
theorem dX11_addRule_92 : decode cX11_addRule 92 = .ok (.sipush 1557, 3) := by decide +kernel
theorem dX11_addRule_95 : decode cX11_addRule 95 = .ok (.iaload, 1) := by decide +kernel
theorem dX11_addRule_96 : decode cX11_addRule 96 = .ok (.bipush 8, 2) := by decide +kernel
theorem dX11_addRule_98 : decode cX11_addRule 98 = .ok (.if_icmp .ge 7, 3) := by decide +kernel
theorem dX11_addRule_101 : decode cX11_addRule 101 = .ok (.iconst 1, 1) := by decide +kernel
theorem dX11_addRule_102 : decode cX11_addRule 102 = .ok (.goto 4, 3) := by decide +kernel
theorem dX11_addRule_105 : decode cX11_addRule 105 = .ok (.iconst 0, 1) := by decide +kernel
theorem dX11_addRule_106 : decode cX11_addRule 106 = .ok (.istore 7, 2) := by decide +kernel
theorem dX11_addRule_108 : decode cX11_addRule 108 = .ok (.aload_n 0, 1) := by decide +kernel
theorem dX11_addRule_109 : decode cX11_addRule 109 = .ok (.iload 6, 2) := by decide +kernel
theorem dX11_addRule_111 : decode cX11_addRule 111 = .ok (.ifCond .ne 7, 3) := by decide +kernel
theorem dX11_addRule_114 : decode cX11_addRule 114 = .ok (.iconst 1, 1) := by decide +kernel
theorem dX11_addRule_115 : decode cX11_addRule 115 = .ok (.goto 26, 3) := by decide +kernel
theorem dX11_addRule_118 : decode cX11_addRule 118 = .ok (.iload_n 1, 1) := by decide +kernel
theorem dX11_addRule_119 : decode cX11_addRule 119 = .ok (.iconst 0, 1) := by decide +kernel
theorem dX11_addRule_120 : decode cX11_addRule 120 = .ok (.iconst 1, 1) := by decide +kernel
theorem dX11_addRule_121 : decode cX11_addRule 121 = .ok (.invokestatic 111, 3) := by decide +kernel
theorem dX11_addRule_124 : decode cX11_addRule 124 = .ok (.ifCond .ne 7, 3) := by decide +kernel
theorem dX11_addRule_127 : decode cX11_addRule 127 = .ok (.iconst 2, 1) := by decide +kernel
theorem dX11_addRule_128 : decode cX11_addRule 128 = .ok (.goto 13, 3) := by decide +kernel
theorem dX11_addRule_131 : decode cX11_addRule 131 = .ok (.iload 7, 2) := by decide +kernel
theorem dX11_addRule_133 : decode cX11_addRule 133 = .ok (.ifCond .eq 7, 3) := by decide +kernel
theorem dX11_addRule_136 : decode cX11_addRule 136 = .ok (.iconst 0, 1) := by decide +kernel
theorem dX11_addRule_137 : decode cX11_addRule 137 = .ok (.goto 4, 3) := by decide +kernel
theorem dX11_addRule_140 : decode cX11_addRule 140 = .ok (.iconst 3, 1) := by decide +kernel
theorem dX11_addRule_141 : decode cX11_addRule 141 = .ok (.invokevirtual 118, 3) := by decide +kernel
theorem dX11_addRule_144 : decode cX11_addRule 144 = .ok (.ifCond .ne 5, 3) := by decide +kernel
theorem dX11_addRule_147 : decode cX11_addRule 147 = .ok (.iconst 0, 1) := by decide +kernel
theorem dX11_addRule_148 : decode cX11_addRule 148 = .ok (.ireturn, 1) := by decide +kernel
theorem dX11_addRule_149 : decode cX11_addRule 149 = .ok (.sipush 1558, 3) := by decide +kernel
theorem dX11_addRule_152 : decode cX11_addRule 152 = .ok (.bipush 15, 2) := by decide +kernel
theorem dX11_addRule_154 : decode cX11_addRule 154 = .ok (.aload_n 0, 1) := by decide +kernel
theorem dX11_addRule_155 : decode cX11_addRule 155 = .ok (.getfield 7, 3) := by decide +kernel
theorem dX11_addRule_158 : decode cX11_addRule 158 = .ok (.sipush 1557, 3) := by decide +kernel
theorem dX11_addRule_161 : decode cX11_addRule 161 = .ok (.iaload, 1) := by decide +kernel
theorem dX11_addRule_162 : decode cX11_addRule 162 = .ok (.imul, 1) := by decide +kernel
theorem dX11_addRule_163 : decode cX11_addRule 163 = .ok (.iadd, 1) := by decide +kernel
theorem dX11_addRule_164 : decode cX11_addRule 164 = .ok (.istore 8, 2) := by decide +kernel
theorem dX11_addRule_166 : decode cX11_addRule 166 = .ok (.aload_n 0, 1) := by decide +kernel
theorem dX11_addRule_167 : decode cX11_addRule 167 = .ok (.getfield 7, 3) := by decide +kernel
theorem dX11_addRule_170 : decode cX11_addRule 170 = .ok (.iload 8, 2) := by decide +kernel
theorem dX11_addRule_172 : decode cX11_addRule 172 = .ok (.iload_n 1, 1) := by decide +kernel
theorem dX11_addRule_173 : decode cX11_addRule 173 = .ok (.iastore, 1) := by decide +kernel
theorem dX11_addRule_174 : decode cX11_addRule 174 = .ok (.aload_n 0, 1) := by decide +kernel
theorem dX11_addRule_175 : decode cX11_addRule 175 = .ok (.iload_n 2, 1) := by decide +kernel
theorem dX11_addRule_176 : decode cX11_addRule 176 = .ok (.iload 8, 2) := by decide +kernel
theorem dX11_addRule_178 : decode cX11_addRule 178 = .ok (.iconst 1, 1) := by decide +kernel
theorem dX11_addRule_179 : decode cX11_addRule 179 = .ok (.iadd, 1) := by decide +kernel
theorem dX11_addRule_180 : decode cX11_addRule 180 = .ok (.iload 8, 2) := by decide +kernel
theorem dX11_addRule_182 : decode cX11_addRule 182 = .ok (.iconst 5, 1) := by decide +kernel
theorem dX11_addRule_183 : decode cX11_addRule 183 = .ok (.iadd, 1) := by decide +kernel
theorem dX11_addRule_184 : decode cX11_addRule 184 = .ok (.invokevirtual 151, 3) := by decide +kernel
theorem dX11_addRule_187 : decode cX11_addRule 187 = .ok (.aload_n 0, 1) := by decide +kernel
theorem dX11_addRule_188 : decode cX11_addRule 188 = .ok (.iload_n 3, 1) := by decide +kernel
theorem dX11_addRule_189 : decode cX11_addRule 189 = .ok (.iload 8, 2) := by decide +kernel
theorem dX11_addRule_191 : decode cX11_addRule 191 = .ok (.iconst 2, 1) := by decide +kernel
theorem dX11_addRule_192 : decode cX11_addRule 192 = .ok (.iadd, 1) := by decide +kernel
theorem dX11_addRule_193 : decode cX11_addRule 193 = .ok (.iload 8, 2) := by decide +kernel
theorem dX11_addRule_195 : decode cX11_addRule 195 = .ok (.bipush 7, 2) := by decide +kernel
theorem dX11_addRule_197 : decode cX11_addRule 197 = .ok (.iadd, 1) := by decide +kernel
theorem dX11_addRule_198 : decode cX11_addRule 198 = .ok (.invokevirtual 151, 3) := by decide +kernel
theorem dX11_addRule_201 : decode cX11_addRule 201 = .ok (.aload_n 0, 1) := by decide +kernel
theorem dX11_addRule_202 : decode cX11_addRule 202 = .ok (.iload 4, 2) := by decide +kernel
theorem dX11_addRule_204 : decode cX11_addRule 204 = .ok (.iload 8, 2) := by decide +kernel
theorem dX11_addRule_206 : decode cX11_addRule 206 = .ok (.iconst 3, 1) := by decide +kernel
theorem dX11_addRule_207 : decode cX11_addRule 207 = .ok (.iadd, 1) := by decide +kernel
theorem dX11_addRule_208 : decode cX11_addRule 208 = .ok (.iload 8, 2) := by decide +kernel
theorem dX11_addRule_210 : decode cX11_addRule 210 = .ok (.bipush 10, 2) := by decide +kernel
theorem dX11_addRule_212 : decode cX11_addRule 212 = .ok (.iadd, 1) := by decide +kernel
theorem dX11_addRule_213 : decode cX11_addRule 213 = .ok (.invokevirtual 151, 3) := by decide +kernel
theorem dX11_addRule_216 : decode cX11_addRule 216 = .ok (.aload_n 0, 1) := by decide +kernel
theorem dX11_addRule_217 : decode cX11_addRule 217 = .ok (.iload 5, 2) := by decide +kernel
theorem dX11_addRule_219 : decode cX11_addRule 219 = .ok (.iload 8, 2) := by decide +kernel
theorem dX11_addRule_221 : decode cX11_addRule 221 = .ok (.iconst 4, 1) := by decide +kernel
theorem dX11_addRule_222 : decode cX11_addRule 222 = .ok (.iadd, 1) := by decide +kernel
theorem dX11_addRule_223 : decode cX11_addRule 223 = .ok (.iload 8, 2) := by decide +kernel
theorem dX11_addRule_225 : decode cX11_addRule 225 = .ok (.bipush 12, 2) := by decide +kernel
theorem dX11_addRule_227 : decode cX11_addRule 227 = .ok (.iadd, 1) := by decide +kernel
theorem dX11_addRule_228 : decode cX11_addRule 228 = .ok (.invokevirtual 151, 3) := by decide +kernel
theorem dX11_addRule_231 : decode cX11_addRule 231 = .ok (.aload_n 0, 1) := by decide +kernel
theorem dX11_addRule_232 : decode cX11_addRule 232 = .ok (.getfield 7, 3) := by decide +kernel
theorem dX11_addRule_235 : decode cX11_addRule 235 = .ok (.sipush 1557, 3) := by decide +kernel
theorem dX11_addRule_238 : decode cX11_addRule 238 = .ok (.dup2, 1) := by decide +kernel
theorem dX11_addRule_239 : decode cX11_addRule 239 = .ok (.iaload, 1) := by decide +kernel
theorem dX11_addRule_240 : decode cX11_addRule 240 = .ok (.iconst 1, 1) := by decide +kernel
theorem dX11_addRule_241 : decode cX11_addRule 241 = .ok (.iadd, 1) := by decide +kernel
theorem dX11_addRule_242 : decode cX11_addRule 242 = .ok (.iastore, 1) := by decide +kernel
theorem dX11_addRule_243 : decode cX11_addRule 243 = .ok (.aload_n 0, 1) := by decide +kernel
theorem dX11_addRule_244 : decode cX11_addRule 244 = .ok (.getfield 7, 3) := by decide +kernel
theorem dX11_addRule_247 : decode cX11_addRule 247 = .ok (.sipush 1557, 3) := by decide +kernel
theorem dX11_addRule_250 : decode cX11_addRule 250 = .ok (.iaload, 1) := by decide +kernel
theorem dX11_addRule_251 : decode cX11_addRule 251 = .ok (.ireturn, 1) := by decide +kernel
theorem dX11_save_0 : decode cX11_save 0 = .ok (.aload_n 0, 1) := by decide +kernel
theorem dX11_save_1 : decode cX11_save 1 = .ok (.aload_n 0, 1) := by decide +kernel
theorem dX11_save_2 : decode cX11_save 2 = .ok (.getfield 155, 3) := by decide +kernel
theorem dX11_save_5 : decode cX11_save 5 = .ok (.iconst 4, 1) := by decide +kernel
theorem dX11_save_6 : decode cX11_save 6 = .ok (.if_icmp .ne 7, 3) := by decide +kernel
theorem dX11_save_9 : decode cX11_save 9 = .ok (.iconst 1, 1) := by decide +kernel
theorem dX11_save_10 : decode cX11_save 10 = .ok (.goto 4, 3) := by decide +kernel
theorem dX11_save_13 : decode cX11_save 13 = .ok (.iconst 0, 1) := by decide +kernel
theorem dX11_save_14 : decode cX11_save 14 = .ok (.invokevirtual 118, 3) := by decide +kernel
theorem dX11_save_17 : decode cX11_save 17 = .ok (.ifCond .ne 5, 3) := by decide +kernel
theorem dX11_save_20 : decode cX11_save 20 = .ok (.iconst 0, 1) := by decide +kernel
theorem dX11_save_21 : decode cX11_save 21 = .ok (.ireturn, 1) := by decide +kernel
theorem dX11_save_22 : decode cX11_save 22 = .ok (.iconst 0, 1) := by decide +kernel
theorem dX11_save_23 : decode cX11_save 23 = .ok (.istore_n 1, 1) := by decide +kernel
theorem dX11_save_24 : decode cX11_save 24 = .ok (.iload_n 1, 1) := by decide +kernel
theorem dX11_save_25 : decode cX11_save 25 = .ok (.sipush 1740, 3) := by decide +kernel
theorem dX11_save_28 : decode cX11_save 28 = .ok (.if_icmp .ge 30, 3) := by decide +kernel
theorem dX11_save_31 : decode cX11_save 31 = .ok (.aload_n 0, 1) := by decide +kernel
theorem dX11_save_32 : decode cX11_save 32 = .ok (.getfield 13, 3) := by decide +kernel
theorem dX11_save_35 : decode cX11_save 35 = .ok (.sipush 1740, 3) := by decide +kernel
theorem dX11_save_38 : decode cX11_save 38 = .ok (.aload_n 0, 1) := by decide +kernel
theorem dX11_save_39 : decode cX11_save 39 = .ok (.getfield 155, 3) := by decide +kernel
theorem dX11_save_42 : decode cX11_save 42 = .ok (.imul, 1) := by decide +kernel
theorem dX11_save_43 : decode cX11_save 43 = .ok (.iload_n 1, 1) := by decide +kernel
theorem dX11_save_44 : decode cX11_save 44 = .ok (.iadd, 1) := by decide +kernel
theorem dX11_save_45 : decode cX11_save 45 = .ok (.aload_n 0, 1) := by decide +kernel
theorem dX11_save_46 : decode cX11_save 46 = .ok (.getfield 7, 3) := by decide +kernel
theorem dX11_save_49 : decode cX11_save 49 = .ok (.iload_n 1, 1) := by decide +kernel
theorem dX11_save_50 : decode cX11_save 50 = .ok (.iaload, 1) := by decide +kernel
theorem dX11_save_51 : decode cX11_save 51 = .ok (.iastore, 1) := by decide +kernel
theorem dX11_save_52 : decode cX11_save 52 = .ok (.iinc 1 1, 3) := by decide +kernel
theorem dX11_save_55 : decode cX11_save 55 = .ok (.goto (-31), 3) := by decide +kernel
theorem dX11_save_58 : decode cX11_save 58 = .ok (.aload_n 0, 1) := by decide +kernel
theorem dX11_save_59 : decode cX11_save 59 = .ok (.dup, 1) := by decide +kernel
theorem dX11_save_60 : decode cX11_save 60 = .ok (.getfield 155, 3) := by decide +kernel
theorem dX11_save_63 : decode cX11_save 63 = .ok (.iconst 1, 1) := by decide +kernel
theorem dX11_save_64 : decode cX11_save 64 = .ok (.iadd, 1) := by decide +kernel
theorem dX11_save_65 : decode cX11_save 65 = .ok (.putfield 155, 3) := by decide +kernel
theorem dX11_save_68 : decode cX11_save 68 = .ok (.aload_n 0, 1) := by decide +kernel
theorem dX11_save_69 : decode cX11_save 69 = .ok (.getfield 155, 3) := by decide +kernel
theorem dX11_save_72 : decode cX11_save 72 = .ok (.iconst 1, 1) := by decide +kernel
theorem dX11_save_73 : decode cX11_save 73 = .ok (.isub, 1) := by decide +kernel
theorem dX11_save_74 : decode cX11_save 74 = .ok (.ireturn, 1) := by decide +kernel
theorem dX11_use_0 : decode cX11_use 0 = .ok (.aload_n 0, 1) := by decide +kernel
theorem dX11_use_1 : decode cX11_use 1 = .ok (.iload_n 1, 1) := by decide +kernel
theorem dX11_use_2 : decode cX11_use 2 = .ok (.iconst 0, 1) := by decide +kernel
theorem dX11_use_3 : decode cX11_use 3 = .ok (.aload_n 0, 1) := by decide +kernel
theorem dX11_use_4 : decode cX11_use 4 = .ok (.getfield 155, 3) := by decide +kernel
theorem dX11_use_7 : decode cX11_use 7 = .ok (.iconst 1, 1) := by decide +kernel
theorem dX11_use_8 : decode cX11_use 8 = .ok (.isub, 1) := by decide +kernel
theorem dX11_use_9 : decode cX11_use 9 = .ok (.invokestatic 111, 3) := by decide +kernel
theorem dX11_use_12 : decode cX11_use 12 = .ok (.ifCond .eq 7, 3) := by decide +kernel
theorem dX11_use_15 : decode cX11_use 15 = .ok (.iconst 0, 1) := by decide +kernel
theorem dX11_use_16 : decode cX11_use 16 = .ok (.goto 4, 3) := by decide +kernel
theorem dX11_use_19 : decode cX11_use 19 = .ok (.iconst 1, 1) := by decide +kernel
theorem dX11_use_20 : decode cX11_use 20 = .ok (.invokevirtual 118, 3) := by decide +kernel
theorem dX11_use_23 : decode cX11_use 23 = .ok (.ifCond .eq 36, 3) := by decide +kernel
theorem dX11_use_26 : decode cX11_use 26 = .ok (.iconst 0, 1) := by decide +kernel
theorem dX11_use_27 : decode cX11_use 27 = .ok (.istore_n 2, 1) := by decide +kernel
theorem dX11_use_28 : decode cX11_use 28 = .ok (.iload_n 2, 1) := by decide +kernel
theorem dX11_use_29 : decode cX11_use 29 = .ok (.sipush 1740, 3) := by decide +kernel
theorem dX11_use_32 : decode cX11_use 32 = .ok (.if_icmp .ge 27, 3) := by decide +kernel
theorem dX11_use_35 : decode cX11_use 35 = .ok (.aload_n 0, 1) := by decide +kernel
theorem dX11_use_36 : decode cX11_use 36 = .ok (.getfield 7, 3) := by decide +kernel
theorem dX11_use_39 : decode cX11_use 39 = .ok (.iload_n 2, 1) := by decide +kernel
theorem dX11_use_40 : decode cX11_use 40 = .ok (.aload_n 0, 1) := by decide +kernel
theorem dX11_use_41 : decode cX11_use 41 = .ok (.getfield 13, 3) := by decide +kernel
theorem dX11_use_44 : decode cX11_use 44 = .ok (.sipush 1740, 3) := by decide +kernel
theorem dX11_use_47 : decode cX11_use 47 = .ok (.iload_n 1, 1) := by decide +kernel
theorem dX11_use_48 : decode cX11_use 48 = .ok (.imul, 1) := by decide +kernel
theorem dX11_use_49 : decode cX11_use 49 = .ok (.iload_n 2, 1) := by decide +kernel
theorem dX11_use_50 : decode cX11_use 50 = .ok (.iadd, 1) := by decide +kernel
theorem dX11_use_51 : decode cX11_use 51 = .ok (.iaload, 1) := by decide +kernel
theorem dX11_use_52 : decode cX11_use 52 = .ok (.iastore, 1) := by decide +kernel
theorem dX11_use_53 : decode cX11_use 53 = .ok (.iinc 2 1, 3) := by decide +kernel
theorem dX11_use_56 : decode cX11_use 56 = .ok (.goto (-28), 3) := by decide +kernel
theorem dX11_use_59 : decode cX11_use 59 = .ok (.return_, 1) := by decide +kernel
theorem dX11_put_0 : decode cX11_put 0 = .ok (.iload_n 1, 1) := by decide +kernel
theorem dX11_put_1 : decode cX11_put 1 = .ok (.invokestatic 145, 3) := by decide +kernel
theorem dX11_put_4 : decode cX11_put 4 = .ok (.ifCond .eq 14, 3) := by decide +kernel
theorem dX11_put_7 : decode cX11_put 7 = .ok (.iload_n 2, 1) := by decide +kernel
theorem dX11_put_8 : decode cX11_put 8 = .ok (.invokestatic 124, 3) := by decide +kernel
theorem dX11_put_11 : decode cX11_put 11 = .ok (.ifCond .eq 7, 3) := by decide +kernel
theorem dX11_put_14 : decode cX11_put 14 = .ok (.iconst 1, 1) := by decide +kernel
theorem dX11_put_15 : decode cX11_put 15 = .ok (.goto 4, 3) := by decide +kernel
theorem dX11_put_18 : decode cX11_put 18 = .ok (.iconst 0, 1) := by decide +kernel
theorem dX11_put_19 : decode cX11_put 19 = .ok (.istore_n 3, 1) := by decide +kernel
theorem dX11_put_20 : decode cX11_put 20 = .ok (.aload_n 0, 1) := by decide +kernel
theorem dX11_put_21 : decode cX11_put 21 = .ok (.iload_n 3, 1) := by decide +kernel
theorem dX11_put_22 : decode cX11_put 22 = .ok (.ifCond .ne 7, 3) := by decide +kernel
theorem dX11_put_25 : decode cX11_put 25 = .ok (.iconst 1, 1) := by decide +kernel
theorem dX11_put_26 : decode cX11_put 26 = .ok (.goto 19, 3) := by decide +kernel
theorem dX11_put_29 : decode cX11_put 29 = .ok (.aload_n 0, 1) := by decide +kernel
theorem dX11_put_30 : decode cX11_put 30 = .ok (.getfield 19, 3) := by decide +kernel
theorem dX11_put_33 : decode cX11_put 33 = .ok (.iload_n 1, 1) := by decide +kernel
theorem dX11_put_34 : decode cX11_put 34 = .ok (.iaload, 1) := by decide +kernel
theorem dX11_put_35 : decode cX11_put 35 = .ok (.bipush 40, 2) := by decide +kernel
theorem dX11_put_37 : decode cX11_put 37 = .ok (.if_icmp .ne 7, 3) := by decide +kernel
theorem dX11_put_40 : decode cX11_put 40 = .ok (.iconst 2, 1) := by decide +kernel
theorem dX11_put_41 : decode cX11_put 41 = .ok (.goto 4, 3) := by decide +kernel
theorem dX11_put_44 : decode cX11_put 44 = .ok (.iconst 0, 1) := by decide +kernel
theorem dX11_put_45 : decode cX11_put 45 = .ok (.invokevirtual 118, 3) := by decide +kernel
theorem dX11_put_48 : decode cX11_put 48 = .ok (.ifCond .ne 5, 3) := by decide +kernel
theorem dX11_put_51 : decode cX11_put 51 = .ok (.iconst 0, 1) := by decide +kernel
theorem dX11_put_52 : decode cX11_put 52 = .ok (.ireturn, 1) := by decide +kernel
theorem dX11_put_53 : decode cX11_put 53 = .ok (.aload_n 0, 1) := by decide +kernel
theorem dX11_put_54 : decode cX11_put 54 = .ok (.getfield 16, 3) := by decide +kernel
theorem dX11_put_57 : decode cX11_put 57 = .ok (.bipush 40, 2) := by decide +kernel
theorem dX11_put_59 : decode cX11_put 59 = .ok (.iload_n 1, 1) := by decide +kernel
theorem dX11_put_60 : decode cX11_put 60 = .ok (.imul, 1) := by decide +kernel
theorem dX11_put_61 : decode cX11_put 61 = .ok (.aload_n 0, 1) := by decide +kernel
theorem dX11_put_62 : decode cX11_put 62 = .ok (.getfield 19, 3) := by decide +kernel
theorem dX11_put_65 : decode cX11_put 65 = .ok (.iload_n 1, 1) := by decide +kernel
theorem dX11_put_66 : decode cX11_put 66 = .ok (.iaload, 1) := by decide +kernel
theorem dX11_put_67 : decode cX11_put 67 = .ok (.iadd, 1) := by decide +kernel
theorem dX11_put_68 : decode cX11_put 68 = .ok (.iload_n 2, 1) := by decide +kernel
theorem dX11_put_69 : decode cX11_put 69 = .ok (.iastore, 1) := by decide +kernel
theorem dX11_put_70 : decode cX11_put 70 = .ok (.aload_n 0, 1) := by decide +kernel
theorem dX11_put_71 : decode cX11_put 71 = .ok (.getfield 19, 3) := by decide +kernel
theorem dX11_put_74 : decode cX11_put 74 = .ok (.iload_n 1, 1) := by decide +kernel
theorem dX11_put_75 : decode cX11_put 75 = .ok (.dup2, 1) := by decide +kernel
theorem dX11_put_76 : decode cX11_put 76 = .ok (.iaload, 1) := by decide +kernel
theorem dX11_put_77 : decode cX11_put 77 = .ok (.iconst 1, 1) := by decide +kernel
theorem dX11_put_78 : decode cX11_put 78 = .ok (.iadd, 1) := by decide +kernel
theorem dX11_put_79 : decode cX11_put 79 = .ok (.iastore, 1) := by decide +kernel
theorem dX11_put_80 : decode cX11_put 80 = .ok (.aload_n 0, 1) := by decide +kernel
theorem dX11_put_81 : decode cX11_put 81 = .ok (.getfield 19, 3) := by decide +kernel
theorem dX11_put_84 : decode cX11_put 84 = .ok (.iload_n 1, 1) := by decide +kernel
theorem dX11_put_85 : decode cX11_put 85 = .ok (.iaload, 1) := by decide +kernel
theorem dX11_put_86 : decode cX11_put 86 = .ok (.ireturn, 1) := by decide +kernel
theorem dX11_clear_0 : decode cX11_clear 0 = .ok (.aload_n 0, 1) := by decide +kernel
theorem dX11_clear_1 : decode cX11_clear 1 = .ok (.iload_n 1, 1) := by decide +kernel
theorem dX11_clear_2 : decode cX11_clear 2 = .ok (.invokestatic 145, 3) := by decide +kernel
theorem dX11_clear_5 : decode cX11_clear 5 = .ok (.ifCond .eq 7, 3) := by decide +kernel
theorem dX11_clear_8 : decode cX11_clear 8 = .ok (.iconst 0, 1) := by decide +kernel
theorem dX11_clear_9 : decode cX11_clear 9 = .ok (.goto 4, 3) := by decide +kernel
theorem dX11_clear_12 : decode cX11_clear 12 = .ok (.iconst 1, 1) := by decide +kernel
theorem dX11_clear_13 : decode cX11_clear 13 = .ok (.invokevirtual 118, 3) := by decide +kernel
theorem dX11_clear_16 : decode cX11_clear 16 = .ok (.ifCond .ne 5, 3) := by decide +kernel
theorem dX11_clear_19 : decode cX11_clear 19 = .ok (.iconst 0, 1) := by decide +kernel
theorem dX11_clear_20 : decode cX11_clear 20 = .ok (.ireturn, 1) := by decide +kernel
theorem dX11_clear_21 : decode cX11_clear 21 = .ok (.aload_n 0, 1) := by decide +kernel
theorem dX11_clear_22 : decode cX11_clear 22 = .ok (.getfield 19, 3) := by decide +kernel
theorem dX11_clear_25 : decode cX11_clear 25 = .ok (.iload_n 1, 1) := by decide +kernel
theorem dX11_clear_26 : decode cX11_clear 26 = .ok (.iaload, 1) := by decide +kernel
theorem dX11_clear_27 : decode cX11_clear 27 = .ok (.istore_n 2, 1) := by decide +kernel
theorem dX11_clear_28 : decode cX11_clear 28 = .ok (.aload_n 0, 1) := by decide +kernel
theorem dX11_clear_29 : decode cX11_clear 29 = .ok (.getfield 19, 3) := by decide +kernel
theorem dX11_clear_32 : decode cX11_clear 32 = .ok (.iload_n 1, 1) := by decide +kernel
theorem dX11_clear_33 : decode cX11_clear 33 = .ok (.iconst 0, 1) := by decide +kernel
theorem dX11_clear_34 : decode cX11_clear 34 = .ok (.iastore, 1) := by decide +kernel
theorem dX11_clear_35 : decode cX11_clear 35 = .ok (.iload_n 2, 1) := by decide +kernel
theorem dX11_clear_36 : decode cX11_clear 36 = .ok (.ireturn, 1) := by decide +kernel
theorem dX11_at_0 : decode cX11_at 0 = .ok (.iload_n 1, 1) := by decide +kernel
theorem dX11_at_1 : decode cX11_at 1 = .ok (.invokestatic 145, 3) := by decide +kernel
theorem dX11_at_4 : decode cX11_at 4 = .ok (.ifCond .eq 23, 3) := by decide +kernel
theorem dX11_at_7 : decode cX11_at 7 = .ok (.iload_n 2, 1) := by decide +kernel
theorem dX11_at_8 : decode cX11_at 8 = .ok (.iconst (-1), 1) := by decide +kernel
theorem dX11_at_9 : decode cX11_at 9 = .ok (.aload_n 0, 1) := by decide +kernel
theorem dX11_at_10 : decode cX11_at 10 = .ok (.getfield 19, 3) := by decide +kernel
theorem dX11_at_13 : decode cX11_at 13 = .ok (.iload_n 1, 1) := by decide +kernel
theorem dX11_at_14 : decode cX11_at 14 = .ok (.iaload, 1) := by decide +kernel
theorem dX11_at_15 : decode cX11_at 15 = .ok (.iconst 1, 1) := by decide +kernel
theorem dX11_at_16 : decode cX11_at 16 = .ok (.isub, 1) := by decide +kernel
theorem dX11_at_17 : decode cX11_at 17 = .ok (.invokestatic 111, 3) := by decide +kernel
theorem dX11_at_20 : decode cX11_at 20 = .ok (.ifCond .eq 7, 3) := by decide +kernel
theorem dX11_at_23 : decode cX11_at 23 = .ok (.iconst 1, 1) := by decide +kernel
theorem dX11_at_24 : decode cX11_at 24 = .ok (.goto 4, 3) := by decide +kernel
theorem dX11_at_27 : decode cX11_at 27 = .ok (.iconst 0, 1) := by decide +kernel
theorem dX11_at_28 : decode cX11_at 28 = .ok (.istore_n 3, 1) := by decide +kernel
theorem dX11_at_29 : decode cX11_at 29 = .ok (.aload_n 0, 1) := by decide +kernel
theorem dX11_at_30 : decode cX11_at 30 = .ok (.iload_n 3, 1) := by decide +kernel
theorem dX11_at_31 : decode cX11_at 31 = .ok (.ifCond .eq 7, 3) := by decide +kernel
theorem dX11_at_34 : decode cX11_at 34 = .ok (.iconst 0, 1) := by decide +kernel
theorem dX11_at_35 : decode cX11_at 35 = .ok (.goto 4, 3) := by decide +kernel
theorem dX11_at_38 : decode cX11_at 38 = .ok (.iconst 1, 1) := by decide +kernel
theorem dX11_at_39 : decode cX11_at 39 = .ok (.invokevirtual 118, 3) := by decide +kernel
theorem dX11_at_42 : decode cX11_at 42 = .ok (.ifCond .eq 26, 3) := by decide +kernel
theorem dX11_at_45 : decode cX11_at 45 = .ok (.iload_n 2, 1) := by decide +kernel
theorem dX11_at_46 : decode cX11_at 46 = .ok (.iconst (-1), 1) := by decide +kernel
theorem dX11_at_47 : decode cX11_at 47 = .ok (.if_icmp .ne 12, 3) := by decide +kernel
theorem dX11_at_50 : decode cX11_at 50 = .ok (.aload_n 0, 1) := by decide +kernel
theorem dX11_at_51 : decode cX11_at 51 = .ok (.getfield 19, 3) := by decide +kernel
theorem dX11_at_54 : decode cX11_at 54 = .ok (.iload_n 1, 1) := by decide +kernel
theorem dX11_at_55 : decode cX11_at 55 = .ok (.iaload, 1) := by decide +kernel
theorem dX11_at_56 : decode cX11_at 56 = .ok (.goto 13, 3) := by decide +kernel
theorem dX11_at_59 : decode cX11_at 59 = .ok (.aload_n 0, 1) := by decide +kernel
theorem dX11_at_60 : decode cX11_at 60 = .ok (.iload_n 1, 1) := by decide +kernel
theorem dX11_at_61 : decode cX11_at 61 = .ok (.iload_n 2, 1) := by decide +kernel
theorem dX11_at_62 : decode cX11_at 62 = .ok (.invokevirtual 148, 3) := by decide +kernel
theorem dX11_at_65 : decode cX11_at 65 = .ok (.goto 4, 3) := by decide +kernel
theorem dX11_at_68 : decode cX11_at 68 = .ok (.iconst 0, 1) := by decide +kernel
theorem dX11_at_69 : decode cX11_at 69 = .ok (.ireturn, 1) := by decide +kernel
theorem dX11_loads_0 : decode cX11_loads 0 = .ok (.aload_n 0, 1) := by decide +kernel
theorem dX11_loads_1 : decode cX11_loads 1 = .ok (.iload_n 3, 1) := by decide +kernel
theorem dX11_loads_2 : decode cX11_loads 2 = .ok (.iload_n 2, 1) := by decide +kernel
theorem dX11_loads_3 : decode cX11_loads 3 = .ok (.isub, 1) := by decide +kernel
theorem dX11_loads_4 : decode cX11_loads 4 = .ok (.putfield 158, 3) := by decide +kernel
theorem dX11_loads_7 : decode cX11_loads 7 = .ok (.aload_n 0, 1) := by decide +kernel
theorem dX11_loads_8 : decode cX11_loads 8 = .ok (.iconst 0, 1) := by decide +kernel
theorem dX11_loads_9 : decode cX11_loads 9 = .ok (.putfield 161, 3) := by decide +kernel
theorem dX11_loads_12 : decode cX11_loads 12 = .ok (.iload_n 2, 1) := by decide +kernel
theorem dX11_loads_13 : decode cX11_loads 13 = .ok (.istore 4, 2) := by decide +kernel
theorem dX11_loads_15 : decode cX11_loads 15 = .ok (.iload 4, 2) := by decide +kernel
theorem dX11_loads_17 : decode cX11_loads 17 = .ok (.iload_n 3, 1) := by decide +kernel
theorem dX11_loads_18 : decode cX11_loads 18 = .ok (.if_icmp .ge 25, 3) := by decide +kernel
theorem dX11_loads_21 : decode cX11_loads 21 = .ok (.aload_n 0, 1) := by decide +kernel
theorem dX11_loads_22 : decode cX11_loads 22 = .ok (.getfield 28, 3) := by decide +kernel
theorem dX11_loads_25 : decode cX11_loads 25 = .ok (.iload 4, 2) := by decide +kernel
theorem dX11_loads_27 : decode cX11_loads 27 = .ok (.iload_n 2, 1) := by decide +kernel
theorem dX11_loads_28 : decode cX11_loads 28 = .ok (.isub, 1) := by decide +kernel
theorem dX11_loads_29 : decode cX11_loads 29 = .ok (.aload_n 0, 1) := by decide +kernel
theorem dX11_loads_30 : decode cX11_loads 30 = .ok (.iload_n 1, 1) := by decide +kernel
theorem dX11_loads_31 : decode cX11_loads 31 = .ok (.iload 4, 2) := by decide +kernel
theorem dX11_loads_33 : decode cX11_loads 33 = .ok (.invokevirtual 148, 3) := by decide +kernel
theorem dX11_loads_36 : decode cX11_loads 36 = .ok (.iastore, 1) := by decide +kernel
theorem dX11_loads_37 : decode cX11_loads 37 = .ok (.iinc 4 1, 3) := by decide +kernel
theorem dX11_loads_40 : decode cX11_loads 40 = .ok (.goto (-25), 3) := by decide +kernel
theorem dX11_loads_43 : decode cX11_loads 43 = .ok (.return_, 1) := by decide +kernel
theorem dX11_doubles_0 : decode cX11_doubles 0 = .ok (.aload_n 0, 1) := by decide +kernel
theorem dX11_doubles_1 : decode cX11_doubles 1 = .ok (.getfield 158, 3) := by decide +kernel
theorem dX11_doubles_4 : decode cX11_doubles 4 = .ok (.istore 4, 2) := by decide +kernel
theorem dX11_doubles_6 : decode cX11_doubles 6 = .ok (.iload 4, 2) := by decide +kernel
theorem dX11_doubles_8 : decode cX11_doubles 8 = .ok (.iload_n 1, 1) := by decide +kernel
theorem dX11_doubles_9 : decode cX11_doubles 9 = .ok (.iconst 1, 1) := by decide +kernel
theorem dX11_doubles_10 : decode cX11_doubles 10 = .ok (.iadd, 1) := by decide +kernel
theorem dX11_doubles_11 : decode cX11_doubles 11 = .ok (.if_icmp .le 25, 3) := by decide +kernel
theorem dX11_doubles_14 : decode cX11_doubles 14 = .ok (.aload_n 0, 1) := by decide +kernel
theorem dX11_doubles_15 : decode cX11_doubles 15 = .ok (.getfield 28, 3) := by decide +kernel
theorem dX11_doubles_18 : decode cX11_doubles 18 = .ok (.iload 4, 2) := by decide +kernel
theorem dX11_doubles_20 : decode cX11_doubles 20 = .ok (.aload_n 0, 1) := by decide +kernel
theorem dX11_doubles_21 : decode cX11_doubles 21 = .ok (.getfield 28, 3) := by decide +kernel
theorem dX11_doubles_24 : decode cX11_doubles 24 = .ok (.iload 4, 2) := by decide +kernel
theorem dX11_doubles_26 : decode cX11_doubles 26 = .ok (.iconst 1, 1) := by decide +kernel
theorem dX11_doubles_27 : decode cX11_doubles 27 = .ok (.isub, 1) := by decide +kernel
theorem dX11_doubles_28 : decode cX11_doubles 28 = .ok (.iaload, 1) := by decide +kernel
theorem dX11_doubles_29 : decode cX11_doubles 29 = .ok (.iastore, 1) := by decide +kernel
theorem dX11_doubles_30 : decode cX11_doubles 30 = .ok (.iinc 4 (-1), 3) := by decide +kernel
theorem dX11_doubles_33 : decode cX11_doubles 33 = .ok (.goto (-27), 3) := by decide +kernel
theorem dX11_doubles_36 : decode cX11_doubles 36 = .ok (.aload_n 0, 1) := by decide +kernel
theorem dX11_doubles_37 : decode cX11_doubles 37 = .ok (.getfield 28, 3) := by decide +kernel
theorem dX11_doubles_40 : decode cX11_doubles 40 = .ok (.iload_n 1, 1) := by decide +kernel
theorem dX11_doubles_41 : decode cX11_doubles 41 = .ok (.iload_n 2, 1) := by decide +kernel
theorem dX11_doubles_42 : decode cX11_doubles 42 = .ok (.iastore, 1) := by decide +kernel
theorem dX11_doubles_43 : decode cX11_doubles 43 = .ok (.aload_n 0, 1) := by decide +kernel
theorem dX11_doubles_44 : decode cX11_doubles 44 = .ok (.getfield 28, 3) := by decide +kernel
theorem dX11_doubles_47 : decode cX11_doubles 47 = .ok (.iload_n 1, 1) := by decide +kernel
theorem dX11_doubles_48 : decode cX11_doubles 48 = .ok (.iconst 1, 1) := by decide +kernel
theorem dX11_doubles_49 : decode cX11_doubles 49 = .ok (.iadd, 1) := by decide +kernel
theorem dX11_doubles_50 : decode cX11_doubles 50 = .ok (.iload_n 3, 1) := by decide +kernel
theorem dX11_doubles_51 : decode cX11_doubles 51 = .ok (.iastore, 1) := by decide +kernel
theorem dX11_doubles_52 : decode cX11_doubles 52 = .ok (.aload_n 0, 1) := by decide +kernel
theorem dX11_doubles_53 : decode cX11_doubles 53 = .ok (.dup, 1) := by decide +kernel
theorem dX11_doubles_54 : decode cX11_doubles 54 = .ok (.getfield 158, 3) := by decide +kernel
theorem dX11_doubles_57 : decode cX11_doubles 57 = .ok (.iconst 1, 1) := by decide +kernel
theorem dX11_doubles_58 : decode cX11_doubles 58 = .ok (.iadd, 1) := by decide +kernel
theorem dX11_doubles_59 : decode cX11_doubles 59 = .ok (.putfield 158, 3) := by decide +kernel
theorem dX11_doubles_62 : decode cX11_doubles 62 = .ok (.aload_n 0, 1) := by decide +kernel
theorem dX11_doubles_63 : decode cX11_doubles 63 = .ok (.aload_n 0, 1) := by decide +kernel
theorem dX11_doubles_64 : decode cX11_doubles 64 = .ok (.getfield 161, 3) := by decide +kernel
theorem dX11_doubles_67 : decode cX11_doubles 67 = .ok (.ifCond .ne 12, 3) := by decide +kernel
theorem dX11_doubles_70 : decode cX11_doubles 70 = .ok (.aload_n 0, 1) := by decide +kernel
theorem dX11_doubles_71 : decode cX11_doubles 71 = .ok (.getfield 158, 3) := by decide +kernel
theorem dX11_doubles_74 : decode cX11_doubles 74 = .ok (.bipush 80, 2) := by decide +kernel
theorem dX11_doubles_76 : decode cX11_doubles 76 = .ok (.if_icmp .le 7, 3) := by decide +kernel
theorem dX11_doubles_79 : decode cX11_doubles 79 = .ok (.iconst 1, 1) := by decide +kernel
theorem dX11_doubles_80 : decode cX11_doubles 80 = .ok (.goto 4, 3) := by decide +kernel
theorem dX11_doubles_83 : decode cX11_doubles 83 = .ok (.iconst 0, 1) := by decide +kernel
theorem dX11_doubles_84 : decode cX11_doubles 84 = .ok (.putfield 161, 3) := by decide +kernel
theorem dX11_doubles_87 : decode cX11_doubles 87 = .ok (.return_, 1) := by decide +kernel
theorem dX11_takesOut_0 : decode cX11_takesOut 0 = .ok (.aload_n 0, 1) := by decide +kernel
theorem dX11_takesOut_1 : decode cX11_takesOut 1 = .ok (.dup, 1) := by decide +kernel
theorem dX11_takesOut_2 : decode cX11_takesOut 2 = .ok (.getfield 158, 3) := by decide +kernel
theorem dX11_takesOut_5 : decode cX11_takesOut 5 = .ok (.iconst 1, 1) := by decide +kernel
theorem dX11_takesOut_6 : decode cX11_takesOut 6 = .ok (.isub, 1) := by decide +kernel
theorem dX11_takesOut_7 : decode cX11_takesOut 7 = .ok (.putfield 158, 3) := by decide +kernel
theorem dX11_takesOut_10 : decode cX11_takesOut 10 = .ok (.iload_n 1, 1) := by decide +kernel
theorem dX11_takesOut_11 : decode cX11_takesOut 11 = .ok (.istore_n 2, 1) := by decide +kernel
theorem dX11_takesOut_12 : decode cX11_takesOut 12 = .ok (.iload_n 2, 1) := by decide +kernel
theorem dX11_takesOut_13 : decode cX11_takesOut 13 = .ok (.aload_n 0, 1) := by decide +kernel
theorem dX11_takesOut_14 : decode cX11_takesOut 14 = .ok (.getfield 158, 3) := by decide +kernel
theorem dX11_takesOut_17 : decode cX11_takesOut 17 = .ok (.if_icmp .ge 23, 3) := by decide +kernel
theorem dX11_takesOut_20 : decode cX11_takesOut 20 = .ok (.aload_n 0, 1) := by decide +kernel
theorem dX11_takesOut_21 : decode cX11_takesOut 21 = .ok (.getfield 28, 3) := by decide +kernel
theorem dX11_takesOut_24 : decode cX11_takesOut 24 = .ok (.iload_n 2, 1) := by decide +kernel
theorem dX11_takesOut_25 : decode cX11_takesOut 25 = .ok (.aload_n 0, 1) := by decide +kernel
theorem dX11_takesOut_26 : decode cX11_takesOut 26 = .ok (.getfield 28, 3) := by decide +kernel
theorem dX11_takesOut_29 : decode cX11_takesOut 29 = .ok (.iload_n 2, 1) := by decide +kernel
theorem dX11_takesOut_30 : decode cX11_takesOut 30 = .ok (.iconst 1, 1) := by decide +kernel
theorem dX11_takesOut_31 : decode cX11_takesOut 31 = .ok (.iadd, 1) := by decide +kernel
theorem dX11_takesOut_32 : decode cX11_takesOut 32 = .ok (.iaload, 1) := by decide +kernel
theorem dX11_takesOut_33 : decode cX11_takesOut 33 = .ok (.iastore, 1) := by decide +kernel
theorem dX11_takesOut_34 : decode cX11_takesOut 34 = .ok (.iinc 2 1, 3) := by decide +kernel
theorem dX11_takesOut_37 : decode cX11_takesOut 37 = .ok (.goto (-25), 3) := by decide +kernel
theorem dX11_takesOut_40 : decode cX11_takesOut 40 = .ok (.return_, 1) := by decide +kernel
theorem dX11_splitsAll_0 : decode cX11_splitsAll 0 = .ok (.iconst 0, 1) := by decide +kernel
theorem dX11_splitsAll_1 : decode cX11_splitsAll 1 = .ok (.istore_n 1, 1) := by decide +kernel
theorem dX11_splitsAll_2 : decode cX11_splitsAll 2 = .ok (.iload_n 1, 1) := by decide +kernel
theorem dX11_splitsAll_3 : decode cX11_splitsAll 3 = .ok (.aload_n 0, 1) := by decide +kernel
theorem dX11_splitsAll_4 : decode cX11_splitsAll 4 = .ok (.getfield 158, 3) := by decide +kernel
theorem dX11_splitsAll_7 : decode cX11_splitsAll 7 = .ok (.if_icmp .ge 56, 3) := by decide +kernel
theorem dX11_splitsAll_10 : decode cX11_splitsAll 10 = .ok (.aload_n 0, 1) := by decide +kernel
theorem dX11_splitsAll_11 : decode cX11_splitsAll 11 = .ok (.getfield 161, 3) := by decide +kernel
theorem dX11_splitsAll_14 : decode cX11_splitsAll 14 = .ok (.ifCond .ne 49, 3) := by decide +kernel
theorem dX11_splitsAll_17 : decode cX11_splitsAll 17 = .ok (.aload_n 0, 1) := by decide +kernel
theorem dX11_splitsAll_18 : decode cX11_splitsAll 18 = .ok (.aload_n 0, 1) := by decide +kernel
theorem dX11_splitsAll_19 : decode cX11_splitsAll 19 = .ok (.getfield 28, 3) := by decide +kernel
theorem dX11_splitsAll_22 : decode cX11_splitsAll 22 = .ok (.iload_n 1, 1) := by decide +kernel
theorem dX11_splitsAll_23 : decode cX11_splitsAll 23 = .ok (.iaload, 1) := by decide +kernel
theorem dX11_splitsAll_24 : decode cX11_splitsAll 24 = .ok (.iconst 4, 1) := by decide +kernel
theorem dX11_splitsAll_25 : decode cX11_splitsAll 25 = .ok (.invokevirtual 127, 3) := by decide +kernel
theorem dX11_splitsAll_28 : decode cX11_splitsAll 28 = .ok (.istore_n 2, 1) := by decide +kernel
theorem dX11_splitsAll_29 : decode cX11_splitsAll 29 = .ok (.iload_n 2, 1) := by decide +kernel
theorem dX11_splitsAll_30 : decode cX11_splitsAll 30 = .ok (.ifCond .le 27, 3) := by decide +kernel
theorem dX11_splitsAll_33 : decode cX11_splitsAll 33 = .ok (.aload_n 0, 1) := by decide +kernel
theorem dX11_splitsAll_34 : decode cX11_splitsAll 34 = .ok (.iload_n 1, 1) := by decide +kernel
theorem dX11_splitsAll_35 : decode cX11_splitsAll 35 = .ok (.iload_n 2, 1) := by decide +kernel
theorem dX11_splitsAll_36 : decode cX11_splitsAll 36 = .ok (.iconst 1, 1) := by decide +kernel
theorem dX11_splitsAll_37 : decode cX11_splitsAll 37 = .ok (.isub, 1) := by decide +kernel
theorem dX11_splitsAll_38 : decode cX11_splitsAll 38 = .ok (.aload_n 0, 1) := by decide +kernel
theorem dX11_splitsAll_39 : decode cX11_splitsAll 39 = .ok (.aload_n 0, 1) := by decide +kernel
theorem dX11_splitsAll_40 : decode cX11_splitsAll 40 = .ok (.getfield 28, 3) := by decide +kernel
theorem dX11_splitsAll_43 : decode cX11_splitsAll 43 = .ok (.iload_n 1, 1) := by decide +kernel
theorem dX11_splitsAll_44 : decode cX11_splitsAll 44 = .ok (.iaload, 1) := by decide +kernel
theorem dX11_splitsAll_45 : decode cX11_splitsAll 45 = .ok (.iconst 5, 1) := by decide +kernel
theorem dX11_splitsAll_46 : decode cX11_splitsAll 46 = .ok (.invokevirtual 127, 3) := by decide +kernel
theorem dX11_splitsAll_49 : decode cX11_splitsAll 49 = .ok (.iconst 1, 1) := by decide +kernel
theorem dX11_splitsAll_50 : decode cX11_splitsAll 50 = .ok (.isub, 1) := by decide +kernel
theorem dX11_splitsAll_51 : decode cX11_splitsAll 51 = .ok (.invokevirtual 165, 3) := by decide +kernel
theorem dX11_splitsAll_54 : decode cX11_splitsAll 54 = .ok (.goto 6, 3) := by decide +kernel
theorem dX11_splitsAll_57 : decode cX11_splitsAll 57 = .ok (.iinc 1 1, 3) := by decide +kernel
theorem dX11_splitsAll_60 : decode cX11_splitsAll 60 = .ok (.goto (-58), 3) := by decide +kernel
theorem dX11_splitsAll_63 : decode cX11_splitsAll 63 = .ok (.aload_n 0, 1) := by decide +kernel
theorem dX11_splitsAll_64 : decode cX11_splitsAll 64 = .ok (.getfield 161, 3) := by decide +kernel
theorem dX11_splitsAll_67 : decode cX11_splitsAll 67 = .ok (.ifCond .ne 7, 3) := by decide +kernel
theorem dX11_splitsAll_70 : decode cX11_splitsAll 70 = .ok (.iconst 1, 1) := by decide +kernel
theorem dX11_splitsAll_71 : decode cX11_splitsAll 71 = .ok (.goto 4, 3) := by decide +kernel
theorem dX11_splitsAll_74 : decode cX11_splitsAll 74 = .ok (.iconst 0, 1) := by decide +kernel
theorem dX11_splitsAll_75 : decode cX11_splitsAll 75 = .ok (.istore_n 2, 1) := by decide +kernel
theorem dX11_splitsAll_76 : decode cX11_splitsAll 76 = .ok (.iload_n 2, 1) := by decide +kernel
theorem dX11_splitsAll_77 : decode cX11_splitsAll 77 = .ok (.ifCond .eq 94, 3) := by decide +kernel
theorem dX11_splitsAll_80 : decode cX11_splitsAll 80 = .ok (.iconst 0, 1) := by decide +kernel
theorem dX11_splitsAll_81 : decode cX11_splitsAll 81 = .ok (.istore_n 2, 1) := by decide +kernel
theorem dX11_splitsAll_82 : decode cX11_splitsAll 82 = .ok (.iconst 1, 1) := by decide +kernel
theorem dX11_splitsAll_83 : decode cX11_splitsAll 83 = .ok (.istore_n 3, 1) := by decide +kernel
theorem dX11_splitsAll_84 : decode cX11_splitsAll 84 = .ok (.iload_n 3, 1) := by decide +kernel
theorem dX11_splitsAll_85 : decode cX11_splitsAll 85 = .ok (.aload_n 0, 1) := by decide +kernel
theorem dX11_splitsAll_86 : decode cX11_splitsAll 86 = .ok (.getfield 158, 3) := by decide +kernel
theorem dX11_splitsAll_89 : decode cX11_splitsAll 89 = .ok (.if_icmp .ge 79, 3) := by decide +kernel
theorem dX11_splitsAll_92 : decode cX11_splitsAll 92 = .ok (.aload_n 0, 1) := by decide +kernel
theorem dX11_splitsAll_93 : decode cX11_splitsAll 93 = .ok (.aload_n 0, 1) := by decide +kernel
theorem dX11_splitsAll_94 : decode cX11_splitsAll 94 = .ok (.getfield 28, 3) := by decide +kernel
theorem dX11_splitsAll_97 : decode cX11_splitsAll 97 = .ok (.iload_n 3, 1) := by decide +kernel
theorem dX11_splitsAll_98 : decode cX11_splitsAll 98 = .ok (.iaload, 1) := by decide +kernel
theorem dX11_splitsAll_99 : decode cX11_splitsAll 99 = .ok (.iconst 0, 1) := by decide +kernel
theorem dX11_splitsAll_100 : decode cX11_splitsAll 100 = .ok (.invokevirtual 127, 3) := by decide +kernel
theorem dX11_splitsAll_103 : decode cX11_splitsAll 103 = .ok (.istore 4, 2) := by decide +kernel
theorem dX11_splitsAll_105 : decode cX11_splitsAll 105 = .ok (.iload 4, 2) := by decide +kernel
theorem dX11_splitsAll_107 : decode cX11_splitsAll 107 = .ok (.ifCond .le 55, 3) := by decide +kernel
theorem dX11_splitsAll_110 : decode cX11_splitsAll 110 = .ok (.iload 4, 2) := by decide +kernel
theorem dX11_splitsAll_112 : decode cX11_splitsAll 112 = .ok (.aload_n 0, 1) := by decide +kernel
theorem dX11_splitsAll_113 : decode cX11_splitsAll 113 = .ok (.aload_n 0, 1) := by decide +kernel
theorem dX11_splitsAll_114 : decode cX11_splitsAll 114 = .ok (.getfield 28, 3) := by decide +kernel
theorem dX11_splitsAll_117 : decode cX11_splitsAll 117 = .ok (.iload_n 3, 1) := by decide +kernel
theorem dX11_splitsAll_118 : decode cX11_splitsAll 118 = .ok (.iconst 1, 1) := by decide +kernel
theorem dX11_splitsAll_119 : decode cX11_splitsAll 119 = .ok (.isub, 1) := by decide +kernel
theorem dX11_splitsAll_120 : decode cX11_splitsAll 120 = .ok (.iaload, 1) := by decide +kernel
theorem dX11_splitsAll_121 : decode cX11_splitsAll 121 = .ok (.iconst 0, 1) := by decide +kernel
theorem dX11_splitsAll_122 : decode cX11_splitsAll 122 = .ok (.invokevirtual 127, 3) := by decide +kernel
theorem dX11_splitsAll_125 : decode cX11_splitsAll 125 = .ok (.if_icmp .ge 37, 3) := by decide +kernel
theorem dX11_splitsAll_128 : decode cX11_splitsAll 128 = .ok (.aload_n 0, 1) := by decide +kernel
theorem dX11_splitsAll_129 : decode cX11_splitsAll 129 = .ok (.getfield 28, 3) := by decide +kernel
theorem dX11_splitsAll_132 : decode cX11_splitsAll 132 = .ok (.iload_n 3, 1) := by decide +kernel
theorem dX11_splitsAll_133 : decode cX11_splitsAll 133 = .ok (.iaload, 1) := by decide +kernel
theorem dX11_splitsAll_134 : decode cX11_splitsAll 134 = .ok (.istore 5, 2) := by decide +kernel
theorem dX11_splitsAll_136 : decode cX11_splitsAll 136 = .ok (.aload_n 0, 1) := by decide +kernel
theorem dX11_splitsAll_137 : decode cX11_splitsAll 137 = .ok (.getfield 28, 3) := by decide +kernel
theorem dX11_splitsAll_140 : decode cX11_splitsAll 140 = .ok (.iload_n 3, 1) := by decide +kernel
theorem dX11_splitsAll_141 : decode cX11_splitsAll 141 = .ok (.aload_n 0, 1) := by decide +kernel
theorem dX11_splitsAll_142 : decode cX11_splitsAll 142 = .ok (.getfield 28, 3) := by decide +kernel
theorem dX11_splitsAll_145 : decode cX11_splitsAll 145 = .ok (.iload_n 3, 1) := by decide +kernel
theorem dX11_splitsAll_146 : decode cX11_splitsAll 146 = .ok (.iconst 1, 1) := by decide +kernel
theorem dX11_splitsAll_147 : decode cX11_splitsAll 147 = .ok (.isub, 1) := by decide +kernel
theorem dX11_splitsAll_148 : decode cX11_splitsAll 148 = .ok (.iaload, 1) := by decide +kernel
theorem dX11_splitsAll_149 : decode cX11_splitsAll 149 = .ok (.iastore, 1) := by decide +kernel
theorem dX11_splitsAll_150 : decode cX11_splitsAll 150 = .ok (.aload_n 0, 1) := by decide +kernel
theorem dX11_splitsAll_151 : decode cX11_splitsAll 151 = .ok (.getfield 28, 3) := by decide +kernel
theorem dX11_splitsAll_154 : decode cX11_splitsAll 154 = .ok (.iload_n 3, 1) := by decide +kernel
theorem dX11_splitsAll_155 : decode cX11_splitsAll 155 = .ok (.iconst 1, 1) := by decide +kernel
theorem dX11_splitsAll_156 : decode cX11_splitsAll 156 = .ok (.isub, 1) := by decide +kernel
theorem dX11_splitsAll_157 : decode cX11_splitsAll 157 = .ok (.iload 5, 2) := by decide +kernel
theorem dX11_splitsAll_159 : decode cX11_splitsAll 159 = .ok (.iastore, 1) := by decide +kernel
theorem dX11_splitsAll_160 : decode cX11_splitsAll 160 = .ok (.iconst 1, 1) := by decide +kernel
theorem dX11_splitsAll_161 : decode cX11_splitsAll 161 = .ok (.istore_n 2, 1) := by decide +kernel
theorem dX11_splitsAll_162 : decode cX11_splitsAll 162 = .ok (.iinc 3 1, 3) := by decide +kernel
theorem dX11_splitsAll_165 : decode cX11_splitsAll 165 = .ok (.goto (-81), 3) := by decide +kernel
theorem dX11_splitsAll_168 : decode cX11_splitsAll 168 = .ok (.goto (-92), 3) := by decide +kernel
theorem dX11_splitsAll_171 : decode cX11_splitsAll 171 = .ok (.return_, 1) := by decide +kernel
theorem dX11_joined_0 : decode cX11_joined 0 = .ok (.iconst 0, 1) := by decide +kernel
theorem dX11_joined_1 : decode cX11_joined 1 = .ok (.istore_n 3, 1) := by decide +kernel
theorem dX11_joined_2 : decode cX11_joined 2 = .ok (.iload_n 3, 1) := by decide +kernel
theorem dX11_joined_3 : decode cX11_joined 3 = .ok (.bipush 96, 2) := by decide +kernel
theorem dX11_joined_5 : decode cX11_joined 5 = .ok (.if_icmp .ge 35, 3) := by decide +kernel
theorem dX11_joined_8 : decode cX11_joined 8 = .ok (.aload_n 0, 1) := by decide +kernel
theorem dX11_joined_9 : decode cX11_joined 9 = .ok (.iload_n 3, 1) := by decide +kernel
theorem dX11_joined_10 : decode cX11_joined 10 = .ok (.iconst 4, 1) := by decide +kernel
theorem dX11_joined_11 : decode cX11_joined 11 = .ok (.invokevirtual 127, 3) := by decide +kernel
theorem dX11_joined_14 : decode cX11_joined 14 = .ok (.iload_n 1, 1) := by decide +kernel
theorem dX11_joined_15 : decode cX11_joined 15 = .ok (.iconst 1, 1) := by decide +kernel
theorem dX11_joined_16 : decode cX11_joined 16 = .ok (.iadd, 1) := by decide +kernel
theorem dX11_joined_17 : decode cX11_joined 17 = .ok (.if_icmp .ne 17, 3) := by decide +kernel
theorem dX11_joined_20 : decode cX11_joined 20 = .ok (.aload_n 0, 1) := by decide +kernel
theorem dX11_joined_21 : decode cX11_joined 21 = .ok (.iload_n 3, 1) := by decide +kernel
theorem dX11_joined_22 : decode cX11_joined 22 = .ok (.iconst 5, 1) := by decide +kernel
theorem dX11_joined_23 : decode cX11_joined 23 = .ok (.invokevirtual 127, 3) := by decide +kernel
theorem dX11_joined_26 : decode cX11_joined 26 = .ok (.iload_n 2, 1) := by decide +kernel
theorem dX11_joined_27 : decode cX11_joined 27 = .ok (.iconst 1, 1) := by decide +kernel
theorem dX11_joined_28 : decode cX11_joined 28 = .ok (.iadd, 1) := by decide +kernel
theorem dX11_joined_29 : decode cX11_joined 29 = .ok (.if_icmp .ne 5, 3) := by decide +kernel
theorem dX11_joined_32 : decode cX11_joined 32 = .ok (.iload_n 3, 1) := by decide +kernel
theorem dX11_joined_33 : decode cX11_joined 33 = .ok (.ireturn, 1) := by decide +kernel
theorem dX11_joined_34 : decode cX11_joined 34 = .ok (.iinc 3 1, 3) := by decide +kernel
theorem dX11_joined_37 : decode cX11_joined 37 = .ok (.goto (-35), 3) := by decide +kernel
theorem dX11_joined_40 : decode cX11_joined 40 = .ok (.iconst (-1), 1) := by decide +kernel
theorem dX11_joined_41 : decode cX11_joined 41 = .ok (.ireturn, 1) := by decide +kernel
theorem dX11_joinsAll_0 : decode cX11_joinsAll 0 = .ok (.iconst 1, 1) := by decide +kernel
theorem dX11_joinsAll_1 : decode cX11_joinsAll 1 = .ok (.istore_n 1, 1) := by decide +kernel
theorem dX11_joinsAll_2 : decode cX11_joinsAll 2 = .ok (.iload_n 1, 1) := by decide +kernel
theorem dX11_joinsAll_3 : decode cX11_joinsAll 3 = .ok (.aload_n 0, 1) := by decide +kernel
theorem dX11_joinsAll_4 : decode cX11_joinsAll 4 = .ok (.getfield 158, 3) := by decide +kernel
theorem dX11_joinsAll_7 : decode cX11_joinsAll 7 = .ok (.if_icmp .ge 126, 3) := by decide +kernel
theorem dX11_joinsAll_10 : decode cX11_joinsAll 10 = .ok (.iload_n 1, 1) := by decide +kernel
theorem dX11_joinsAll_11 : decode cX11_joinsAll 11 = .ok (.iconst 1, 1) := by decide +kernel
theorem dX11_joinsAll_12 : decode cX11_joinsAll 12 = .ok (.isub, 1) := by decide +kernel
theorem dX11_joinsAll_13 : decode cX11_joinsAll 13 = .ok (.istore_n 2, 1) := by decide +kernel
theorem dX11_joinsAll_14 : decode cX11_joinsAll 14 = .ok (.iconst 1, 1) := by decide +kernel
theorem dX11_joinsAll_15 : decode cX11_joinsAll 15 = .ok (.istore_n 3, 1) := by decide +kernel
theorem dX11_joinsAll_16 : decode cX11_joinsAll 16 = .ok (.iload_n 2, 1) := by decide +kernel
theorem dX11_joinsAll_17 : decode cX11_joinsAll 17 = .ok (.ifCond .lt 58, 3) := by decide +kernel
theorem dX11_joinsAll_20 : decode cX11_joinsAll 20 = .ok (.aload_n 0, 1) := by decide +kernel
theorem dX11_joinsAll_21 : decode cX11_joinsAll 21 = .ok (.aload_n 0, 1) := by decide +kernel
theorem dX11_joinsAll_22 : decode cX11_joinsAll 22 = .ok (.getfield 28, 3) := by decide +kernel
theorem dX11_joinsAll_25 : decode cX11_joinsAll 25 = .ok (.iload_n 2, 1) := by decide +kernel
theorem dX11_joinsAll_26 : decode cX11_joinsAll 26 = .ok (.iaload, 1) := by decide +kernel
theorem dX11_joinsAll_27 : decode cX11_joinsAll 27 = .ok (.iconst 0, 1) := by decide +kernel
theorem dX11_joinsAll_28 : decode cX11_joinsAll 28 = .ok (.invokevirtual 127, 3) := by decide +kernel
theorem dX11_joinsAll_31 : decode cX11_joinsAll 31 = .ok (.ifCond .le 44, 3) := by decide +kernel
theorem dX11_joinsAll_34 : decode cX11_joinsAll 34 = .ok (.iload_n 3, 1) := by decide +kernel
theorem dX11_joinsAll_35 : decode cX11_joinsAll 35 = .ok (.ifCond .eq 32, 3) := by decide +kernel
theorem dX11_joinsAll_38 : decode cX11_joinsAll 38 = .ok (.aload_n 0, 1) := by decide +kernel
theorem dX11_joinsAll_39 : decode cX11_joinsAll 39 = .ok (.aload_n 0, 1) := by decide +kernel
theorem dX11_joinsAll_40 : decode cX11_joinsAll 40 = .ok (.getfield 28, 3) := by decide +kernel
theorem dX11_joinsAll_43 : decode cX11_joinsAll 43 = .ok (.iload_n 2, 1) := by decide +kernel
theorem dX11_joinsAll_44 : decode cX11_joinsAll 44 = .ok (.iaload, 1) := by decide +kernel
theorem dX11_joinsAll_45 : decode cX11_joinsAll 45 = .ok (.iconst 0, 1) := by decide +kernel
theorem dX11_joinsAll_46 : decode cX11_joinsAll 46 = .ok (.invokevirtual 127, 3) := by decide +kernel
theorem dX11_joinsAll_49 : decode cX11_joinsAll 49 = .ok (.aload_n 0, 1) := by decide +kernel
theorem dX11_joinsAll_50 : decode cX11_joinsAll 50 = .ok (.aload_n 0, 1) := by decide +kernel
theorem dX11_joinsAll_51 : decode cX11_joinsAll 51 = .ok (.getfield 28, 3) := by decide +kernel
theorem dX11_joinsAll_54 : decode cX11_joinsAll 54 = .ok (.iload_n 1, 1) := by decide +kernel
theorem dX11_joinsAll_55 : decode cX11_joinsAll 55 = .ok (.iaload, 1) := by decide +kernel
theorem dX11_joinsAll_56 : decode cX11_joinsAll 56 = .ok (.iconst 0, 1) := by decide +kernel
theorem dX11_joinsAll_57 : decode cX11_joinsAll 57 = .ok (.invokevirtual 127, 3) := by decide +kernel
theorem dX11_joinsAll_60 : decode cX11_joinsAll 60 = .ok (.if_icmp .ge 7, 3) := by decide +kernel
theorem dX11_joinsAll_63 : decode cX11_joinsAll 63 = .ok (.iconst 1, 1) := by decide +kernel
theorem dX11_joinsAll_64 : decode cX11_joinsAll 64 = .ok (.goto 4, 3) := by decide +kernel
theorem dX11_joinsAll_67 : decode cX11_joinsAll 67 = .ok (.iconst 0, 1) := by decide +kernel
theorem dX11_joinsAll_68 : decode cX11_joinsAll 68 = .ok (.istore_n 3, 1) := by decide +kernel
theorem dX11_joinsAll_69 : decode cX11_joinsAll 69 = .ok (.iinc 2 (-1), 3) := by decide +kernel
theorem dX11_joinsAll_72 : decode cX11_joinsAll 72 = .ok (.goto (-56), 3) := by decide +kernel
theorem dX11_joinsAll_75 : decode cX11_joinsAll 75 = .ok (.iload_n 2, 1) := by decide +kernel
theorem dX11_joinsAll_76 : decode cX11_joinsAll 76 = .ok (.ifCond .lt 26, 3) := by decide +kernel
theorem dX11_joinsAll_79 : decode cX11_joinsAll 79 = .ok (.iload_n 3, 1) := by decide +kernel
theorem dX11_joinsAll_80 : decode cX11_joinsAll 80 = .ok (.ifCond .eq 22, 3) := by decide +kernel
theorem dX11_joinsAll_83 : decode cX11_joinsAll 83 = .ok (.aload_n 0, 1) := by decide +kernel
theorem dX11_joinsAll_84 : decode cX11_joinsAll 84 = .ok (.aload_n 0, 1) := by decide +kernel
theorem dX11_joinsAll_85 : decode cX11_joinsAll 85 = .ok (.getfield 28, 3) := by decide +kernel
theorem dX11_joinsAll_88 : decode cX11_joinsAll 88 = .ok (.iload_n 2, 1) := by decide +kernel
theorem dX11_joinsAll_89 : decode cX11_joinsAll 89 = .ok (.iaload, 1) := by decide +kernel
theorem dX11_joinsAll_90 : decode cX11_joinsAll 90 = .ok (.aload_n 0, 1) := by decide +kernel
theorem dX11_joinsAll_91 : decode cX11_joinsAll 91 = .ok (.getfield 28, 3) := by decide +kernel
theorem dX11_joinsAll_94 : decode cX11_joinsAll 94 = .ok (.iload_n 1, 1) := by decide +kernel
theorem dX11_joinsAll_95 : decode cX11_joinsAll 95 = .ok (.iaload, 1) := by decide +kernel
theorem dX11_joinsAll_96 : decode cX11_joinsAll 96 = .ok (.invokevirtual 168, 3) := by decide +kernel
theorem dX11_joinsAll_99 : decode cX11_joinsAll 99 = .ok (.goto 4, 3) := by decide +kernel
theorem dX11_joinsAll_102 : decode cX11_joinsAll 102 = .ok (.iconst (-1), 1) := by decide +kernel
theorem dX11_joinsAll_103 : decode cX11_joinsAll 103 = .ok (.istore 4, 2) := by decide +kernel
theorem dX11_joinsAll_105 : decode cX11_joinsAll 105 = .ok (.iload 4, 2) := by decide +kernel
theorem dX11_joinsAll_107 : decode cX11_joinsAll 107 = .ok (.iconst (-1), 1) := by decide +kernel
theorem dX11_joinsAll_108 : decode cX11_joinsAll 108 = .ok (.if_icmp .eq 19, 3) := by decide +kernel
theorem dX11_joinsAll_111 : decode cX11_joinsAll 111 = .ok (.aload_n 0, 1) := by decide +kernel
theorem dX11_joinsAll_112 : decode cX11_joinsAll 112 = .ok (.getfield 28, 3) := by decide +kernel
theorem dX11_joinsAll_115 : decode cX11_joinsAll 115 = .ok (.iload_n 2, 1) := by decide +kernel
theorem dX11_joinsAll_116 : decode cX11_joinsAll 116 = .ok (.iload 4, 2) := by decide +kernel
theorem dX11_joinsAll_118 : decode cX11_joinsAll 118 = .ok (.iastore, 1) := by decide +kernel
theorem dX11_joinsAll_119 : decode cX11_joinsAll 119 = .ok (.aload_n 0, 1) := by decide +kernel
theorem dX11_joinsAll_120 : decode cX11_joinsAll 120 = .ok (.iload_n 1, 1) := by decide +kernel
theorem dX11_joinsAll_121 : decode cX11_joinsAll 121 = .ok (.invokevirtual 171, 3) := by decide +kernel
theorem dX11_joinsAll_124 : decode cX11_joinsAll 124 = .ok (.goto 6, 3) := by decide +kernel
theorem dX11_joinsAll_127 : decode cX11_joinsAll 127 = .ok (.iinc 1 1, 3) := by decide +kernel
theorem dX11_joinsAll_130 : decode cX11_joinsAll 130 = .ok (.goto (-128), 3) := by decide +kernel
theorem dX11_joinsAll_133 : decode cX11_joinsAll 133 = .ok (.return_, 1) := by decide +kernel
theorem dX11_folds_0 : decode cX11_folds 0 = .ok (.iconst 0, 1) := by decide +kernel
theorem dX11_folds_1 : decode cX11_folds 1 = .ok (.istore_n 1, 1) := by decide +kernel
theorem dX11_folds_2 : decode cX11_folds 2 = .ok (.iload_n 1, 1) := by decide +kernel
theorem dX11_folds_3 : decode cX11_folds 3 = .ok (.aload_n 0, 1) := by decide +kernel
theorem dX11_folds_4 : decode cX11_folds 4 = .ok (.getfield 158, 3) := by decide +kernel
theorem dX11_folds_7 : decode cX11_folds 7 = .ok (.if_icmp .ge 73, 3) := by decide +kernel
theorem dX11_folds_10 : decode cX11_folds 10 = .ok (.aload_n 0, 1) := by decide +kernel
theorem dX11_folds_11 : decode cX11_folds 11 = .ok (.aload_n 0, 1) := by decide +kernel
theorem dX11_folds_12 : decode cX11_folds 12 = .ok (.getfield 28, 3) := by decide +kernel
theorem dX11_folds_15 : decode cX11_folds 15 = .ok (.iload_n 1, 1) := by decide +kernel
theorem dX11_folds_16 : decode cX11_folds 16 = .ok (.iaload, 1) := by decide +kernel
theorem dX11_folds_17 : decode cX11_folds 17 = .ok (.bipush 6, 2) := by decide +kernel
theorem dX11_folds_19 : decode cX11_folds 19 = .ok (.invokevirtual 127, 3) := by decide +kernel
theorem dX11_folds_22 : decode cX11_folds 22 = .ok (.istore_n 2, 1) := by decide +kernel
theorem dX11_folds_23 : decode cX11_folds 23 = .ok (.aload_n 0, 1) := by decide +kernel
theorem dX11_folds_24 : decode cX11_folds 24 = .ok (.aload_n 0, 1) := by decide +kernel
theorem dX11_folds_25 : decode cX11_folds 25 = .ok (.getfield 28, 3) := by decide +kernel
theorem dX11_folds_28 : decode cX11_folds 28 = .ok (.iload_n 1, 1) := by decide +kernel
theorem dX11_folds_29 : decode cX11_folds 29 = .ok (.iaload, 1) := by decide +kernel
theorem dX11_folds_30 : decode cX11_folds 30 = .ok (.bipush 7, 2) := by decide +kernel
theorem dX11_folds_32 : decode cX11_folds 32 = .ok (.invokevirtual 127, 3) := by decide +kernel
theorem dX11_folds_35 : decode cX11_folds 35 = .ok (.istore_n 3, 1) := by decide +kernel
theorem dX11_folds_36 : decode cX11_folds 36 = .ok (.iload_n 2, 1) := by decide +kernel
theorem dX11_folds_37 : decode cX11_folds 37 = .ok (.ifCond .le 24, 3) := by decide +kernel
theorem dX11_folds_40 : decode cX11_folds 40 = .ok (.iload_n 3, 1) := by decide +kernel
theorem dX11_folds_41 : decode cX11_folds 41 = .ok (.ifCond .le 20, 3) := by decide +kernel
theorem dX11_folds_44 : decode cX11_folds 44 = .ok (.aload_n 0, 1) := by decide +kernel
theorem dX11_folds_45 : decode cX11_folds 45 = .ok (.iload_n 1, 1) := by decide +kernel
theorem dX11_folds_46 : decode cX11_folds 46 = .ok (.iload_n 2, 1) := by decide +kernel
theorem dX11_folds_47 : decode cX11_folds 47 = .ok (.iconst 1, 1) := by decide +kernel
theorem dX11_folds_48 : decode cX11_folds 48 = .ok (.isub, 1) := by decide +kernel
theorem dX11_folds_49 : decode cX11_folds 49 = .ok (.iload_n 3, 1) := by decide +kernel
theorem dX11_folds_50 : decode cX11_folds 50 = .ok (.iconst 1, 1) := by decide +kernel
theorem dX11_folds_51 : decode cX11_folds 51 = .ok (.isub, 1) := by decide +kernel
theorem dX11_folds_52 : decode cX11_folds 52 = .ok (.invokevirtual 165, 3) := by decide +kernel
theorem dX11_folds_55 : decode cX11_folds 55 = .ok (.iinc 1 1, 3) := by decide +kernel
theorem dX11_folds_58 : decode cX11_folds 58 = .ok (.goto 16, 3) := by decide +kernel
theorem dX11_folds_61 : decode cX11_folds 61 = .ok (.iload_n 2, 1) := by decide +kernel
theorem dX11_folds_62 : decode cX11_folds 62 = .ok (.ifCond .le 12, 3) := by decide +kernel
theorem dX11_folds_65 : decode cX11_folds 65 = .ok (.aload_n 0, 1) := by decide +kernel
theorem dX11_folds_66 : decode cX11_folds 66 = .ok (.getfield 28, 3) := by decide +kernel
theorem dX11_folds_69 : decode cX11_folds 69 = .ok (.iload_n 1, 1) := by decide +kernel
theorem dX11_folds_70 : decode cX11_folds 70 = .ok (.iload_n 2, 1) := by decide +kernel
theorem dX11_folds_71 : decode cX11_folds 71 = .ok (.iconst 1, 1) := by decide +kernel
theorem dX11_folds_72 : decode cX11_folds 72 = .ok (.isub, 1) := by decide +kernel
theorem dX11_folds_73 : decode cX11_folds 73 = .ok (.iastore, 1) := by decide +kernel
theorem dX11_folds_74 : decode cX11_folds 74 = .ok (.iinc 1 1, 3) := by decide +kernel
theorem dX11_folds_77 : decode cX11_folds 77 = .ok (.goto (-75), 3) := by decide +kernel
theorem dX11_folds_80 : decode cX11_folds 80 = .ok (.aload_n 0, 1) := by decide +kernel
theorem dX11_folds_81 : decode cX11_folds 81 = .ok (.invokevirtual 175, 3) := by decide +kernel
theorem dX11_folds_84 : decode cX11_folds 84 = .ok (.iconst 0, 1) := by decide +kernel
theorem dX11_folds_85 : decode cX11_folds 85 = .ok (.istore_n 2, 1) := by decide +kernel
theorem dX11_folds_86 : decode cX11_folds 86 = .ok (.iconst 0, 1) := by decide +kernel
theorem dX11_folds_87 : decode cX11_folds 87 = .ok (.istore_n 3, 1) := by decide +kernel
theorem dX11_folds_88 : decode cX11_folds 88 = .ok (.iload_n 3, 1) := by decide +kernel
theorem dX11_folds_89 : decode cX11_folds 89 = .ok (.aload_n 0, 1) := by decide +kernel
theorem dX11_folds_90 : decode cX11_folds 90 = .ok (.getfield 158, 3) := by decide +kernel
theorem dX11_folds_93 : decode cX11_folds 93 = .ok (.if_icmp .ge 50, 3) := by decide +kernel
theorem dX11_folds_96 : decode cX11_folds 96 = .ok (.aload_n 0, 1) := by decide +kernel
theorem dX11_folds_97 : decode cX11_folds 97 = .ok (.getfield 161, 3) := by decide +kernel
theorem dX11_folds_100 : decode cX11_folds 100 = .ok (.ifCond .ne 43, 3) := by decide +kernel
theorem dX11_folds_103 : decode cX11_folds 103 = .ok (.aload_n 0, 1) := by decide +kernel
theorem dX11_folds_104 : decode cX11_folds 104 = .ok (.getfield 28, 3) := by decide +kernel
theorem dX11_folds_107 : decode cX11_folds 107 = .ok (.iload_n 2, 1) := by decide +kernel
theorem dX11_folds_108 : decode cX11_folds 108 = .ok (.aload_n 0, 1) := by decide +kernel
theorem dX11_folds_109 : decode cX11_folds 109 = .ok (.getfield 28, 3) := by decide +kernel
theorem dX11_folds_112 : decode cX11_folds 112 = .ok (.iload_n 3, 1) := by decide +kernel
theorem dX11_folds_113 : decode cX11_folds 113 = .ok (.iaload, 1) := by decide +kernel
theorem dX11_folds_114 : decode cX11_folds 114 = .ok (.iastore, 1) := by decide +kernel
theorem dX11_folds_115 : decode cX11_folds 115 = .ok (.iload_n 2, 1) := by decide +kernel
theorem dX11_folds_116 : decode cX11_folds 116 = .ok (.aload_n 0, 1) := by decide +kernel
theorem dX11_folds_117 : decode cX11_folds 117 = .ok (.aload_n 0, 1) := by decide +kernel
theorem dX11_folds_118 : decode cX11_folds 118 = .ok (.getfield 28, 3) := by decide +kernel
theorem dX11_folds_121 : decode cX11_folds 121 = .ok (.iload_n 3, 1) := by decide +kernel
theorem dX11_folds_122 : decode cX11_folds 122 = .ok (.iaload, 1) := by decide +kernel
theorem dX11_folds_123 : decode cX11_folds 123 = .ok (.iconst 0, 1) := by decide +kernel
theorem dX11_folds_124 : decode cX11_folds 124 = .ok (.invokevirtual 127, 3) := by decide +kernel
theorem dX11_folds_127 : decode cX11_folds 127 = .ok (.ifCond .ne 7, 3) := by decide +kernel
theorem dX11_folds_130 : decode cX11_folds 130 = .ok (.iconst 1, 1) := by decide +kernel
theorem dX11_folds_131 : decode cX11_folds 131 = .ok (.goto 4, 3) := by decide +kernel
theorem dX11_folds_134 : decode cX11_folds 134 = .ok (.iconst 0, 1) := by decide +kernel
theorem dX11_folds_135 : decode cX11_folds 135 = .ok (.iadd, 1) := by decide +kernel
theorem dX11_folds_136 : decode cX11_folds 136 = .ok (.istore_n 2, 1) := by decide +kernel
theorem dX11_folds_137 : decode cX11_folds 137 = .ok (.iinc 3 1, 3) := by decide +kernel
theorem dX11_folds_140 : decode cX11_folds 140 = .ok (.goto (-52), 3) := by decide +kernel
theorem dX11_folds_143 : decode cX11_folds 143 = .ok (.aload_n 0, 1) := by decide +kernel
theorem dX11_folds_144 : decode cX11_folds 144 = .ok (.iload_n 2, 1) := by decide +kernel
theorem dX11_folds_145 : decode cX11_folds 145 = .ok (.putfield 158, 3) := by decide +kernel
theorem dX11_folds_148 : decode cX11_folds 148 = .ok (.return_, 1) := by decide +kernel
theorem dX11_forms_0 : decode cX11_forms 0 = .ok (.iload_n 1, 1) := by decide +kernel
theorem dX11_forms_1 : decode cX11_forms 1 = .ok (.iconst 2, 1) := by decide +kernel
theorem dX11_forms_2 : decode cX11_forms 2 = .ok (.if_icmp .ne 8, 3) := by decide +kernel
theorem dX11_forms_5 : decode cX11_forms 5 = .ok (.aload_n 0, 1) := by decide +kernel
theorem dX11_forms_6 : decode cX11_forms 6 = .ok (.invokevirtual 178, 3) := by decide +kernel
theorem dX11_forms_9 : decode cX11_forms 9 = .ok (.return_, 1) := by decide +kernel
theorem dX11_forms_10 : decode cX11_forms 10 = .ok (.aload_n 0, 1) := by decide +kernel
theorem dX11_forms_11 : decode cX11_forms 11 = .ok (.invokevirtual 175, 3) := by decide +kernel
theorem dX11_forms_14 : decode cX11_forms 14 = .ok (.iload_n 1, 1) := by decide +kernel
theorem dX11_forms_15 : decode cX11_forms 15 = .ok (.iconst 1, 1) := by decide +kernel
theorem dX11_forms_16 : decode cX11_forms 16 = .ok (.if_icmp .ne 14, 3) := by decide +kernel
theorem dX11_forms_19 : decode cX11_forms 19 = .ok (.aload_n 0, 1) := by decide +kernel
theorem dX11_forms_20 : decode cX11_forms 20 = .ok (.getfield 161, 3) := by decide +kernel
theorem dX11_forms_23 : decode cX11_forms 23 = .ok (.ifCond .ne 7, 3) := by decide +kernel
theorem dX11_forms_26 : decode cX11_forms 26 = .ok (.aload_n 0, 1) := by decide +kernel
theorem dX11_forms_27 : decode cX11_forms 27 = .ok (.invokevirtual 181, 3) := by decide +kernel
theorem dX11_forms_30 : decode cX11_forms 30 = .ok (.iload_n 1, 1) := by decide +kernel
theorem dX11_forms_31 : decode cX11_forms 31 = .ok (.iconst 3, 1) := by decide +kernel
theorem dX11_forms_32 : decode cX11_forms 32 = .ok (.if_icmp .ne 47, 3) := by decide +kernel
theorem dX11_forms_35 : decode cX11_forms 35 = .ok (.aload_n 0, 1) := by decide +kernel
theorem dX11_forms_36 : decode cX11_forms 36 = .ok (.getfield 161, 3) := by decide +kernel
theorem dX11_forms_39 : decode cX11_forms 39 = .ok (.ifCond .ne 40, 3) := by decide +kernel
theorem dX11_forms_42 : decode cX11_forms 42 = .ok (.iconst 0, 1) := by decide +kernel
theorem dX11_forms_43 : decode cX11_forms 43 = .ok (.istore_n 2, 1) := by decide +kernel
theorem dX11_forms_44 : decode cX11_forms 44 = .ok (.iload_n 2, 1) := by decide +kernel
theorem dX11_forms_45 : decode cX11_forms 45 = .ok (.aload_n 0, 1) := by decide +kernel
theorem dX11_forms_46 : decode cX11_forms 46 = .ok (.getfield 158, 3) := by decide +kernel
theorem dX11_forms_49 : decode cX11_forms 49 = .ok (.if_icmp .ge 26, 3) := by decide +kernel
theorem dX11_forms_52 : decode cX11_forms 52 = .ok (.aload_n 0, 1) := by decide +kernel
theorem dX11_forms_53 : decode cX11_forms 53 = .ok (.getfield 28, 3) := by decide +kernel
theorem dX11_forms_56 : decode cX11_forms 56 = .ok (.iload_n 2, 1) := by decide +kernel
theorem dX11_forms_57 : decode cX11_forms 57 = .ok (.aload_n 0, 1) := by decide +kernel
theorem dX11_forms_58 : decode cX11_forms 58 = .ok (.aload_n 0, 1) := by decide +kernel
theorem dX11_forms_59 : decode cX11_forms 59 = .ok (.getfield 28, 3) := by decide +kernel
theorem dX11_forms_62 : decode cX11_forms 62 = .ok (.iload_n 2, 1) := by decide +kernel
theorem dX11_forms_63 : decode cX11_forms 63 = .ok (.iaload, 1) := by decide +kernel
theorem dX11_forms_64 : decode cX11_forms 64 = .ok (.iconst 3, 1) := by decide +kernel
theorem dX11_forms_65 : decode cX11_forms 65 = .ok (.invokevirtual 127, 3) := by decide +kernel
theorem dX11_forms_68 : decode cX11_forms 68 = .ok (.iastore, 1) := by decide +kernel
theorem dX11_forms_69 : decode cX11_forms 69 = .ok (.iinc 2 1, 3) := by decide +kernel
theorem dX11_forms_72 : decode cX11_forms 72 = .ok (.goto (-28), 3) := by decide +kernel
theorem dX11_forms_75 : decode cX11_forms 75 = .ok (.aload_n 0, 1) := by decide +kernel
theorem dX11_forms_76 : decode cX11_forms 76 = .ok (.invokevirtual 175, 3) := by decide +kernel
theorem dX11_forms_79 : decode cX11_forms 79 = .ok (.return_, 1) := by decide +kernel
theorem dX11_formed_0 : decode cX11_formed 0 = .ok (.aload_n 0, 1) := by decide +kernel
theorem dX11_formed_1 : decode cX11_formed 1 = .ok (.iload_n 1, 1) := by decide +kernel
theorem dX11_formed_2 : decode cX11_formed 2 = .ok (.iconst 0, 1) := by decide +kernel
theorem dX11_formed_3 : decode cX11_formed 3 = .ok (.aload_n 0, 1) := by decide +kernel
theorem dX11_formed_4 : decode cX11_formed 4 = .ok (.getfield 19, 3) := by decide +kernel
theorem dX11_formed_7 : decode cX11_formed 7 = .ok (.iload_n 1, 1) := by decide +kernel
theorem dX11_formed_8 : decode cX11_formed 8 = .ok (.iaload, 1) := by decide +kernel
theorem dX11_formed_9 : decode cX11_formed 9 = .ok (.invokevirtual 184, 3) := by decide +kernel
theorem dX11_formed_12 : decode cX11_formed 12 = .ok (.aload_n 0, 1) := by decide +kernel
theorem dX11_formed_13 : decode cX11_formed 13 = .ok (.iload_n 2, 1) := by decide +kernel
theorem dX11_formed_14 : decode cX11_formed 14 = .ok (.invokevirtual 187, 3) := by decide +kernel
theorem dX11_formed_17 : decode cX11_formed 17 = .ok (.aload_n 0, 1) := by decide +kernel
theorem dX11_formed_18 : decode cX11_formed 18 = .ok (.getfield 161, 3) := by decide +kernel
theorem dX11_formed_21 : decode cX11_formed 21 = .ok (.ifCond .ne 7, 3) := by decide +kernel
theorem dX11_formed_24 : decode cX11_formed 24 = .ok (.iconst 1, 1) := by decide +kernel
theorem dX11_formed_25 : decode cX11_formed 25 = .ok (.goto 4, 3) := by decide +kernel
theorem dX11_formed_28 : decode cX11_formed 28 = .ok (.iconst 0, 1) := by decide +kernel
theorem dX11_formed_29 : decode cX11_formed 29 = .ok (.ireturn, 1) := by decide +kernel
theorem dX11_form_0 : decode cX11_form 0 = .ok (.iload_n 1, 1) := by decide +kernel
theorem dX11_form_1 : decode cX11_form 1 = .ok (.invokestatic 145, 3) := by decide +kernel
theorem dX11_form_4 : decode cX11_form 4 = .ok (.ifCond .eq 14, 3) := by decide +kernel
theorem dX11_form_7 : decode cX11_form 7 = .ok (.iload_n 3, 1) := by decide +kernel
theorem dX11_form_8 : decode cX11_form 8 = .ok (.invokestatic 145, 3) := by decide +kernel
theorem dX11_form_11 : decode cX11_form 11 = .ok (.ifCond .eq 7, 3) := by decide +kernel
theorem dX11_form_14 : decode cX11_form 14 = .ok (.iconst 1, 1) := by decide +kernel
theorem dX11_form_15 : decode cX11_form 15 = .ok (.goto 4, 3) := by decide +kernel
theorem dX11_form_18 : decode cX11_form 18 = .ok (.iconst 0, 1) := by decide +kernel
theorem dX11_form_19 : decode cX11_form 19 = .ok (.istore 4, 2) := by decide +kernel
theorem dX11_form_21 : decode cX11_form 21 = .ok (.iload 4, 2) := by decide +kernel
theorem dX11_form_23 : decode cX11_form 23 = .ok (.ifCond .eq 16, 3) := by decide +kernel
theorem dX11_form_26 : decode cX11_form 26 = .ok (.iload_n 2, 1) := by decide +kernel
theorem dX11_form_27 : decode cX11_form 27 = .ok (.iconst 0, 1) := by decide +kernel
theorem dX11_form_28 : decode cX11_form 28 = .ok (.iconst 3, 1) := by decide +kernel
theorem dX11_form_29 : decode cX11_form 29 = .ok (.invokestatic 111, 3) := by decide +kernel
theorem dX11_form_32 : decode cX11_form 32 = .ok (.ifCond .eq 7, 3) := by decide +kernel
theorem dX11_form_35 : decode cX11_form 35 = .ok (.iconst 1, 1) := by decide +kernel
theorem dX11_form_36 : decode cX11_form 36 = .ok (.goto 4, 3) := by decide +kernel
theorem dX11_form_39 : decode cX11_form 39 = .ok (.iconst 0, 1) := by decide +kernel
theorem dX11_form_40 : decode cX11_form 40 = .ok (.istore 5, 2) := by decide +kernel
theorem dX11_form_42 : decode cX11_form 42 = .ok (.iload 5, 2) := by decide +kernel
theorem dX11_form_44 : decode cX11_form 44 = .ok (.ifCond .eq 25, 3) := by decide +kernel
theorem dX11_form_47 : decode cX11_form 47 = .ok (.aload_n 0, 1) := by decide +kernel
theorem dX11_form_48 : decode cX11_form 48 = .ok (.iload_n 1, 1) := by decide +kernel
theorem dX11_form_49 : decode cX11_form 49 = .ok (.iload_n 2, 1) := by decide +kernel
theorem dX11_form_50 : decode cX11_form 50 = .ok (.invokevirtual 190, 3) := by decide +kernel
theorem dX11_form_53 : decode cX11_form 53 = .ok (.ifCond .eq 16, 3) := by decide +kernel
theorem dX11_form_56 : decode cX11_form 56 = .ok (.aload_n 0, 1) := by decide +kernel
theorem dX11_form_57 : decode cX11_form 57 = .ok (.getfield 158, 3) := by decide +kernel
theorem dX11_form_60 : decode cX11_form 60 = .ok (.bipush 40, 2) := by decide +kernel
theorem dX11_form_62 : decode cX11_form 62 = .ok (.if_icmp .gt 7, 3) := by decide +kernel
theorem dX11_form_65 : decode cX11_form 65 = .ok (.iconst 1, 1) := by decide +kernel
theorem dX11_form_66 : decode cX11_form 66 = .ok (.goto 4, 3) := by decide +kernel
theorem dX11_form_69 : decode cX11_form 69 = .ok (.iconst 0, 1) := by decide +kernel
theorem dX11_form_70 : decode cX11_form 70 = .ok (.istore 6, 2) := by decide +kernel
theorem dX11_form_72 : decode cX11_form 72 = .ok (.aload_n 0, 1) := by decide +kernel
theorem dX11_form_73 : decode cX11_form 73 = .ok (.iload 4, 2) := by decide +kernel
theorem dX11_form_75 : decode cX11_form 75 = .ok (.ifCond .ne 7, 3) := by decide +kernel
theorem dX11_form_78 : decode cX11_form 78 = .ok (.iconst 1, 1) := by decide +kernel
theorem dX11_form_79 : decode cX11_form 79 = .ok (.goto 22, 3) := by decide +kernel
theorem dX11_form_82 : decode cX11_form 82 = .ok (.iload 5, 2) := by decide +kernel
theorem dX11_form_84 : decode cX11_form 84 = .ok (.ifCond .ne 7, 3) := by decide +kernel
theorem dX11_form_87 : decode cX11_form 87 = .ok (.iconst 2, 1) := by decide +kernel
theorem dX11_form_88 : decode cX11_form 88 = .ok (.goto 13, 3) := by decide +kernel
theorem dX11_form_91 : decode cX11_form 91 = .ok (.iload 6, 2) := by decide +kernel
theorem dX11_form_93 : decode cX11_form 93 = .ok (.ifCond .eq 7, 3) := by decide +kernel
theorem dX11_form_96 : decode cX11_form 96 = .ok (.iconst 0, 1) := by decide +kernel
theorem dX11_form_97 : decode cX11_form 97 = .ok (.goto 4, 3) := by decide +kernel
theorem dX11_form_100 : decode cX11_form 100 = .ok (.iconst 3, 1) := by decide +kernel
theorem dX11_form_101 : decode cX11_form 101 = .ok (.invokevirtual 118, 3) := by decide +kernel
theorem dX11_form_104 : decode cX11_form 104 = .ok (.ifCond .ne 5, 3) := by decide +kernel
theorem dX11_form_107 : decode cX11_form 107 = .ok (.iconst 0, 1) := by decide +kernel
theorem dX11_form_108 : decode cX11_form 108 = .ok (.ireturn, 1) := by decide +kernel
theorem dX11_form_109 : decode cX11_form 109 = .ok (.aload_n 0, 1) := by decide +kernel
theorem dX11_form_110 : decode cX11_form 110 = .ok (.getfield 19, 3) := by decide +kernel
theorem dX11_form_113 : decode cX11_form 113 = .ok (.iload_n 3, 1) := by decide +kernel
theorem dX11_form_114 : decode cX11_form 114 = .ok (.aload_n 0, 1) := by decide +kernel
theorem dX11_form_115 : decode cX11_form 115 = .ok (.getfield 158, 3) := by decide +kernel
theorem dX11_form_118 : decode cX11_form 118 = .ok (.iastore, 1) := by decide +kernel
theorem dX11_form_119 : decode cX11_form 119 = .ok (.iconst 0, 1) := by decide +kernel
theorem dX11_form_120 : decode cX11_form 120 = .ok (.istore 7, 2) := by decide +kernel
theorem dX11_form_122 : decode cX11_form 122 = .ok (.iload 7, 2) := by decide +kernel
theorem dX11_form_124 : decode cX11_form 124 = .ok (.aload_n 0, 1) := by decide +kernel
theorem dX11_form_125 : decode cX11_form 125 = .ok (.getfield 158, 3) := by decide +kernel
theorem dX11_form_128 : decode cX11_form 128 = .ok (.if_icmp .ge 28, 3) := by decide +kernel
theorem dX11_form_131 : decode cX11_form 131 = .ok (.aload_n 0, 1) := by decide +kernel
theorem dX11_form_132 : decode cX11_form 132 = .ok (.getfield 16, 3) := by decide +kernel
theorem dX11_form_135 : decode cX11_form 135 = .ok (.bipush 40, 2) := by decide +kernel
theorem dX11_form_137 : decode cX11_form 137 = .ok (.iload_n 3, 1) := by decide +kernel
theorem dX11_form_138 : decode cX11_form 138 = .ok (.imul, 1) := by decide +kernel
theorem dX11_form_139 : decode cX11_form 139 = .ok (.iload 7, 2) := by decide +kernel
theorem dX11_form_141 : decode cX11_form 141 = .ok (.iadd, 1) := by decide +kernel
theorem dX11_form_142 : decode cX11_form 142 = .ok (.aload_n 0, 1) := by decide +kernel
theorem dX11_form_143 : decode cX11_form 143 = .ok (.getfield 28, 3) := by decide +kernel
theorem dX11_form_146 : decode cX11_form 146 = .ok (.iload 7, 2) := by decide +kernel
theorem dX11_form_148 : decode cX11_form 148 = .ok (.iaload, 1) := by decide +kernel
theorem dX11_form_149 : decode cX11_form 149 = .ok (.iastore, 1) := by decide +kernel
theorem dX11_form_150 : decode cX11_form 150 = .ok (.iinc 7 1, 3) := by decide +kernel
theorem dX11_form_153 : decode cX11_form 153 = .ok (.goto (-31), 3) := by decide +kernel
theorem dX11_form_156 : decode cX11_form 156 = .ok (.aload_n 0, 1) := by decide +kernel
theorem dX11_form_157 : decode cX11_form 157 = .ok (.getfield 158, 3) := by decide +kernel
theorem dX11_form_160 : decode cX11_form 160 = .ok (.ireturn, 1) := by decide +kernel
theorem dX11_putsAside_0 : decode cX11_putsAside 0 = .ok (.aload_n 0, 1) := by decide +kernel
theorem dX11_putsAside_1 : decode cX11_putsAside 1 = .ok (.aload_n 0, 1) := by decide +kernel
theorem dX11_putsAside_2 : decode cX11_putsAside 2 = .ok (.getfield 158, 3) := by decide +kernel
theorem dX11_putsAside_5 : decode cX11_putsAside 5 = .ok (.putfield 194, 3) := by decide +kernel
theorem dX11_putsAside_8 : decode cX11_putsAside 8 = .ok (.iconst 0, 1) := by decide +kernel
theorem dX11_putsAside_9 : decode cX11_putsAside 9 = .ok (.istore_n 1, 1) := by decide +kernel
theorem dX11_putsAside_10 : decode cX11_putsAside 10 = .ok (.iload_n 1, 1) := by decide +kernel
theorem dX11_putsAside_11 : decode cX11_putsAside 11 = .ok (.aload_n 0, 1) := by decide +kernel
theorem dX11_putsAside_12 : decode cX11_putsAside 12 = .ok (.getfield 158, 3) := by decide +kernel
theorem dX11_putsAside_15 : decode cX11_putsAside 15 = .ok (.if_icmp .ge 21, 3) := by decide +kernel
theorem dX11_putsAside_18 : decode cX11_putsAside 18 = .ok (.aload_n 0, 1) := by decide +kernel
theorem dX11_putsAside_19 : decode cX11_putsAside 19 = .ok (.getfield 31, 3) := by decide +kernel
theorem dX11_putsAside_22 : decode cX11_putsAside 22 = .ok (.iload_n 1, 1) := by decide +kernel
theorem dX11_putsAside_23 : decode cX11_putsAside 23 = .ok (.aload_n 0, 1) := by decide +kernel
theorem dX11_putsAside_24 : decode cX11_putsAside 24 = .ok (.getfield 28, 3) := by decide +kernel
theorem dX11_putsAside_27 : decode cX11_putsAside 27 = .ok (.iload_n 1, 1) := by decide +kernel
theorem dX11_putsAside_28 : decode cX11_putsAside 28 = .ok (.iaload, 1) := by decide +kernel
theorem dX11_putsAside_29 : decode cX11_putsAside 29 = .ok (.iastore, 1) := by decide +kernel
theorem dX11_putsAside_30 : decode cX11_putsAside 30 = .ok (.iinc 1 1, 3) := by decide +kernel
theorem dX11_putsAside_33 : decode cX11_putsAside 33 = .ok (.goto (-23), 3) := by decide +kernel
theorem dX11_putsAside_36 : decode cX11_putsAside 36 = .ok (.return_, 1) := by decide +kernel
theorem dX11_isAside_0 : decode cX11_isAside 0 = .ok (.aload_n 0, 1) := by decide +kernel
theorem dX11_isAside_1 : decode cX11_isAside 1 = .ok (.getfield 194, 3) := by decide +kernel
theorem dX11_isAside_4 : decode cX11_isAside 4 = .ok (.aload_n 0, 1) := by decide +kernel
theorem dX11_isAside_5 : decode cX11_isAside 5 = .ok (.getfield 158, 3) := by decide +kernel
theorem dX11_isAside_8 : decode cX11_isAside 8 = .ok (.if_icmp .ne 7, 3) := by decide +kernel
theorem dX11_isAside_11 : decode cX11_isAside 11 = .ok (.iconst 1, 1) := by decide +kernel
theorem dX11_isAside_12 : decode cX11_isAside 12 = .ok (.goto 4, 3) := by decide +kernel
theorem dX11_isAside_15 : decode cX11_isAside 15 = .ok (.iconst 0, 1) := by decide +kernel
theorem dX11_isAside_16 : decode cX11_isAside 16 = .ok (.istore_n 1, 1) := by decide +kernel
theorem dX11_isAside_17 : decode cX11_isAside 17 = .ok (.iconst 0, 1) := by decide +kernel
theorem dX11_isAside_18 : decode cX11_isAside 18 = .ok (.istore_n 2, 1) := by decide +kernel
theorem dX11_isAside_19 : decode cX11_isAside 19 = .ok (.iload_n 2, 1) := by decide +kernel
theorem dX11_isAside_20 : decode cX11_isAside 20 = .ok (.aload_n 0, 1) := by decide +kernel
theorem dX11_isAside_21 : decode cX11_isAside 21 = .ok (.getfield 158, 3) := by decide +kernel
theorem dX11_isAside_24 : decode cX11_isAside 24 = .ok (.if_icmp .ge 34, 3) := by decide +kernel
theorem dX11_isAside_27 : decode cX11_isAside 27 = .ok (.iload_n 1, 1) := by decide +kernel
theorem dX11_isAside_28 : decode cX11_isAside 28 = .ok (.ifCond .eq 30, 3) := by decide +kernel
theorem dX11_isAside_31 : decode cX11_isAside 31 = .ok (.aload_n 0, 1) := by decide +kernel
theorem dX11_isAside_32 : decode cX11_isAside 32 = .ok (.getfield 28, 3) := by decide +kernel
theorem dX11_isAside_35 : decode cX11_isAside 35 = .ok (.iload_n 2, 1) := by decide +kernel
theorem dX11_isAside_36 : decode cX11_isAside 36 = .ok (.iaload, 1) := by decide +kernel
theorem dX11_isAside_37 : decode cX11_isAside 37 = .ok (.aload_n 0, 1) := by decide +kernel
theorem dX11_isAside_38 : decode cX11_isAside 38 = .ok (.getfield 31, 3) := by decide +kernel
theorem dX11_isAside_41 : decode cX11_isAside 41 = .ok (.iload_n 2, 1) := by decide +kernel
theorem dX11_isAside_42 : decode cX11_isAside 42 = .ok (.iaload, 1) := by decide +kernel
theorem dX11_isAside_43 : decode cX11_isAside 43 = .ok (.if_icmp .ne 7, 3) := by decide +kernel
theorem dX11_isAside_46 : decode cX11_isAside 46 = .ok (.iconst 1, 1) := by decide +kernel
theorem dX11_isAside_47 : decode cX11_isAside 47 = .ok (.goto 4, 3) := by decide +kernel
theorem dX11_isAside_50 : decode cX11_isAside 50 = .ok (.iconst 0, 1) := by decide +kernel
theorem dX11_isAside_51 : decode cX11_isAside 51 = .ok (.istore_n 1, 1) := by decide +kernel
theorem dX11_isAside_52 : decode cX11_isAside 52 = .ok (.iinc 2 1, 3) := by decide +kernel
theorem dX11_isAside_55 : decode cX11_isAside 55 = .ok (.goto (-36), 3) := by decide +kernel
theorem dX11_isAside_58 : decode cX11_isAside 58 = .ok (.iload_n 1, 1) := by decide +kernel
theorem dX11_isAside_59 : decode cX11_isAside 59 = .ok (.ireturn, 1) := by decide +kernel
theorem dX11_looksLike_0 : decode cX11_looksLike 0 = .ok (.iload_n 1, 1) := by decide +kernel
theorem dX11_looksLike_1 : decode cX11_looksLike 1 = .ok (.invokestatic 145, 3) := by decide +kernel
theorem dX11_looksLike_4 : decode cX11_looksLike 4 = .ok (.ifCond .eq 14, 3) := by decide +kernel
theorem dX11_looksLike_7 : decode cX11_looksLike 7 = .ok (.iload_n 2, 1) := by decide +kernel
theorem dX11_looksLike_8 : decode cX11_looksLike 8 = .ok (.invokestatic 145, 3) := by decide +kernel
theorem dX11_looksLike_11 : decode cX11_looksLike 11 = .ok (.ifCond .eq 7, 3) := by decide +kernel
theorem dX11_looksLike_14 : decode cX11_looksLike 14 = .ok (.iconst 1, 1) := by decide +kernel
theorem dX11_looksLike_15 : decode cX11_looksLike 15 = .ok (.goto 4, 3) := by decide +kernel
theorem dX11_looksLike_18 : decode cX11_looksLike 18 = .ok (.iconst 0, 1) := by decide +kernel
theorem dX11_looksLike_19 : decode cX11_looksLike 19 = .ok (.istore_n 3, 1) := by decide +kernel
theorem dX11_looksLike_20 : decode cX11_looksLike 20 = .ok (.iload_n 3, 1) := by decide +kernel
theorem dX11_looksLike_21 : decode cX11_looksLike 21 = .ok (.ifCond .eq 16, 3) := by decide +kernel
theorem dX11_looksLike_24 : decode cX11_looksLike 24 = .ok (.aload_n 0, 1) := by decide +kernel
theorem dX11_looksLike_25 : decode cX11_looksLike 25 = .ok (.iload_n 1, 1) := by decide +kernel
theorem dX11_looksLike_26 : decode cX11_looksLike 26 = .ok (.iconst 3, 1) := by decide +kernel
theorem dX11_looksLike_27 : decode cX11_looksLike 27 = .ok (.invokevirtual 190, 3) := by decide +kernel
theorem dX11_looksLike_30 : decode cX11_looksLike 30 = .ok (.ifCond .eq 7, 3) := by decide +kernel
theorem dX11_looksLike_33 : decode cX11_looksLike 33 = .ok (.iconst 1, 1) := by decide +kernel
theorem dX11_looksLike_34 : decode cX11_looksLike 34 = .ok (.goto 4, 3) := by decide +kernel
theorem dX11_looksLike_37 : decode cX11_looksLike 37 = .ok (.iconst 0, 1) := by decide +kernel
theorem dX11_looksLike_38 : decode cX11_looksLike 38 = .ok (.istore 4, 2) := by decide +kernel
theorem dX11_looksLike_40 : decode cX11_looksLike 40 = .ok (.iload 4, 2) := by decide +kernel
theorem dX11_looksLike_42 : decode cX11_looksLike 42 = .ok (.ifCond .eq 15, 3) := by decide +kernel
theorem dX11_looksLike_45 : decode cX11_looksLike 45 = .ok (.aload_n 0, 1) := by decide +kernel
theorem dX11_looksLike_46 : decode cX11_looksLike 46 = .ok (.invokevirtual 197, 3) := by decide +kernel
theorem dX11_looksLike_49 : decode cX11_looksLike 49 = .ok (.aload_n 0, 1) := by decide +kernel
theorem dX11_looksLike_50 : decode cX11_looksLike 50 = .ok (.iload_n 2, 1) := by decide +kernel
theorem dX11_looksLike_51 : decode cX11_looksLike 51 = .ok (.iconst 3, 1) := by decide +kernel
theorem dX11_looksLike_52 : decode cX11_looksLike 52 = .ok (.invokevirtual 190, 3) := by decide +kernel
theorem dX11_looksLike_55 : decode cX11_looksLike 55 = .ok (.istore 4, 2) := by decide +kernel
theorem dX11_looksLike_57 : decode cX11_looksLike 57 = .ok (.aload_n 0, 1) := by decide +kernel
theorem dX11_looksLike_58 : decode cX11_looksLike 58 = .ok (.iload_n 3, 1) := by decide +kernel
theorem dX11_looksLike_59 : decode cX11_looksLike 59 = .ok (.ifCond .ne 7, 3) := by decide +kernel
theorem dX11_looksLike_62 : decode cX11_looksLike 62 = .ok (.iconst 1, 1) := by decide +kernel
theorem dX11_looksLike_63 : decode cX11_looksLike 63 = .ok (.goto 13, 3) := by decide +kernel
theorem dX11_looksLike_66 : decode cX11_looksLike 66 = .ok (.iload 4, 2) := by decide +kernel
theorem dX11_looksLike_68 : decode cX11_looksLike 68 = .ok (.ifCond .eq 7, 3) := by decide +kernel
theorem dX11_looksLike_71 : decode cX11_looksLike 71 = .ok (.iconst 0, 1) := by decide +kernel
theorem dX11_looksLike_72 : decode cX11_looksLike 72 = .ok (.goto 4, 3) := by decide +kernel
theorem dX11_looksLike_75 : decode cX11_looksLike 75 = .ok (.iconst 2, 1) := by decide +kernel
theorem dX11_looksLike_76 : decode cX11_looksLike 76 = .ok (.invokevirtual 118, 3) := by decide +kernel
theorem dX11_looksLike_79 : decode cX11_looksLike 79 = .ok (.ifCond .eq 14, 3) := by decide +kernel
theorem dX11_looksLike_82 : decode cX11_looksLike 82 = .ok (.aload_n 0, 1) := by decide +kernel
theorem dX11_looksLike_83 : decode cX11_looksLike 83 = .ok (.invokevirtual 200, 3) := by decide +kernel
theorem dX11_looksLike_86 : decode cX11_looksLike 86 = .ok (.ifCond .eq 7, 3) := by decide +kernel
theorem dX11_looksLike_89 : decode cX11_looksLike 89 = .ok (.iconst 1, 1) := by decide +kernel
theorem dX11_looksLike_90 : decode cX11_looksLike 90 = .ok (.goto 4, 3) := by decide +kernel
theorem dX11_looksLike_93 : decode cX11_looksLike 93 = .ok (.iconst 0, 1) := by decide +kernel
theorem dX11_looksLike_94 : decode cX11_looksLike 94 = .ok (.ireturn, 1) := by decide +kernel
theorem dX11_directionAt_0 : decode cX11_directionAt 0 = .ok (.aload_n 0, 1) := by decide +kernel
theorem dX11_directionAt_1 : decode cX11_directionAt 1 = .ok (.aload_n 0, 1) := by decide +kernel
theorem dX11_directionAt_2 : decode cX11_directionAt 2 = .ok (.iload_n 1, 1) := by decide +kernel
theorem dX11_directionAt_3 : decode cX11_directionAt 3 = .ok (.iload_n 2, 1) := by decide +kernel
theorem dX11_directionAt_4 : decode cX11_directionAt 4 = .ok (.invokevirtual 148, 3) := by decide +kernel
theorem dX11_directionAt_7 : decode cX11_directionAt 7 = .ok (.iconst 1, 1) := by decide +kernel
theorem dX11_directionAt_8 : decode cX11_directionAt 8 = .ok (.invokevirtual 127, 3) := by decide +kernel
theorem dX11_directionAt_11 : decode cX11_directionAt 11 = .ok (.ireturn, 1) := by decide +kernel
theorem dX11_closesIsolates_0 : decode cX11_closesIsolates 0 = .ok (.iconst 0, 1) := by decide +kernel
theorem dX11_closesIsolates_1 : decode cX11_closesIsolates 1 = .ok (.istore_n 2, 1) := by decide +kernel
theorem dX11_closesIsolates_2 : decode cX11_closesIsolates 2 = .ok (.iconst 0, 1) := by decide +kernel
theorem dX11_closesIsolates_3 : decode cX11_closesIsolates 3 = .ok (.istore_n 3, 1) := by decide +kernel
theorem dX11_closesIsolates_4 : decode cX11_closesIsolates 4 = .ok (.iload_n 3, 1) := by decide +kernel
theorem dX11_closesIsolates_5 : decode cX11_closesIsolates 5 = .ok (.aload_n 0, 1) := by decide +kernel
theorem dX11_closesIsolates_6 : decode cX11_closesIsolates 6 = .ok (.getfield 19, 3) := by decide +kernel
theorem dX11_closesIsolates_9 : decode cX11_closesIsolates 9 = .ok (.iload_n 1, 1) := by decide +kernel
theorem dX11_closesIsolates_10 : decode cX11_closesIsolates 10 = .ok (.iaload, 1) := by decide +kernel
theorem dX11_closesIsolates_11 : decode cX11_closesIsolates 11 = .ok (.if_icmp .ge 99, 3) := by decide +kernel
theorem dX11_closesIsolates_14 : decode cX11_closesIsolates 14 = .ok (.aload_n 0, 1) := by decide +kernel
theorem dX11_closesIsolates_15 : decode cX11_closesIsolates 15 = .ok (.iload_n 1, 1) := by decide +kernel
theorem dX11_closesIsolates_16 : decode cX11_closesIsolates 16 = .ok (.iload_n 3, 1) := by decide +kernel
theorem dX11_closesIsolates_17 : decode cX11_closesIsolates 17 = .ok (.invokevirtual 204, 3) := by decide +kernel
theorem dX11_closesIsolates_20 : decode cX11_closesIsolates 20 = .ok (.istore 4, 2) := by decide +kernel
theorem dX11_closesIsolates_22 : decode cX11_closesIsolates 22 = .ok (.aload_n 0, 1) := by decide +kernel
theorem dX11_closesIsolates_23 : decode cX11_closesIsolates 23 = .ok (.getfield 43, 3) := by decide +kernel
theorem dX11_closesIsolates_26 : decode cX11_closesIsolates 26 = .ok (.iload_n 3, 1) := by decide +kernel
theorem dX11_closesIsolates_27 : decode cX11_closesIsolates 27 = .ok (.aload_n 0, 1) := by decide +kernel
theorem dX11_closesIsolates_28 : decode cX11_closesIsolates 28 = .ok (.getfield 19, 3) := by decide +kernel
theorem dX11_closesIsolates_31 : decode cX11_closesIsolates 31 = .ok (.iload_n 1, 1) := by decide +kernel
theorem dX11_closesIsolates_32 : decode cX11_closesIsolates 32 = .ok (.iaload, 1) := by decide +kernel
theorem dX11_closesIsolates_33 : decode cX11_closesIsolates 33 = .ok (.iastore, 1) := by decide +kernel
theorem dX11_closesIsolates_34 : decode cX11_closesIsolates 34 = .ok (.aload_n 0, 1) := by decide +kernel
theorem dX11_closesIsolates_35 : decode cX11_closesIsolates 35 = .ok (.getfield 46, 3) := by decide +kernel
theorem dX11_closesIsolates_38 : decode cX11_closesIsolates 38 = .ok (.iload_n 3, 1) := by decide +kernel
theorem dX11_closesIsolates_39 : decode cX11_closesIsolates 39 = .ok (.iconst (-1), 1) := by decide +kernel
theorem dX11_closesIsolates_40 : decode cX11_closesIsolates 40 = .ok (.iastore, 1) := by decide +kernel
theorem dX11_closesIsolates_41 : decode cX11_closesIsolates 41 = .ok (.iload 4, 2) := by decide +kernel
theorem dX11_closesIsolates_43 : decode cX11_closesIsolates 43 = .ok (.bipush 7, 2) := by decide +kernel
theorem dX11_closesIsolates_45 : decode cX11_closesIsolates 45 = .ok (.bipush 9, 2) := by decide +kernel
theorem dX11_closesIsolates_47 : decode cX11_closesIsolates 47 = .ok (.invokestatic 111, 3) := by decide +kernel
theorem dX11_closesIsolates_50 : decode cX11_closesIsolates 50 = .ok (.ifCond .eq 16, 3) := by decide +kernel
theorem dX11_closesIsolates_53 : decode cX11_closesIsolates 53 = .ok (.aload_n 0, 1) := by decide +kernel
theorem dX11_closesIsolates_54 : decode cX11_closesIsolates 54 = .ok (.getfield 49, 3) := by decide +kernel
theorem dX11_closesIsolates_57 : decode cX11_closesIsolates 57 = .ok (.iload_n 2, 1) := by decide +kernel
theorem dX11_closesIsolates_58 : decode cX11_closesIsolates 58 = .ok (.iload_n 3, 1) := by decide +kernel
theorem dX11_closesIsolates_59 : decode cX11_closesIsolates 59 = .ok (.iastore, 1) := by decide +kernel
theorem dX11_closesIsolates_60 : decode cX11_closesIsolates 60 = .ok (.iinc 2 1, 3) := by decide +kernel
theorem dX11_closesIsolates_63 : decode cX11_closesIsolates 63 = .ok (.goto 41, 3) := by decide +kernel
theorem dX11_closesIsolates_66 : decode cX11_closesIsolates 66 = .ok (.iload 4, 2) := by decide +kernel
theorem dX11_closesIsolates_68 : decode cX11_closesIsolates 68 = .ok (.bipush 10, 2) := by decide +kernel
theorem dX11_closesIsolates_70 : decode cX11_closesIsolates 70 = .ok (.if_icmp .ne 34, 3) := by decide +kernel
theorem dX11_closesIsolates_73 : decode cX11_closesIsolates 73 = .ok (.iload_n 2, 1) := by decide +kernel
theorem dX11_closesIsolates_74 : decode cX11_closesIsolates 74 = .ok (.ifCond .le 30, 3) := by decide +kernel
theorem dX11_closesIsolates_77 : decode cX11_closesIsolates 77 = .ok (.iinc 2 (-1), 3) := by decide +kernel
theorem dX11_closesIsolates_80 : decode cX11_closesIsolates 80 = .ok (.aload_n 0, 1) := by decide +kernel
theorem dX11_closesIsolates_81 : decode cX11_closesIsolates 81 = .ok (.getfield 46, 3) := by decide +kernel
theorem dX11_closesIsolates_84 : decode cX11_closesIsolates 84 = .ok (.iload_n 3, 1) := by decide +kernel
theorem dX11_closesIsolates_85 : decode cX11_closesIsolates 85 = .ok (.aload_n 0, 1) := by decide +kernel
theorem dX11_closesIsolates_86 : decode cX11_closesIsolates 86 = .ok (.getfield 49, 3) := by decide +kernel
theorem dX11_closesIsolates_89 : decode cX11_closesIsolates 89 = .ok (.iload_n 2, 1) := by decide +kernel
theorem dX11_closesIsolates_90 : decode cX11_closesIsolates 90 = .ok (.iaload, 1) := by decide +kernel
theorem dX11_closesIsolates_91 : decode cX11_closesIsolates 91 = .ok (.iastore, 1) := by decide +kernel
theorem dX11_closesIsolates_92 : decode cX11_closesIsolates 92 = .ok (.aload_n 0, 1) := by decide +kernel
theorem dX11_closesIsolates_93 : decode cX11_closesIsolates 93 = .ok (.getfield 43, 3) := by decide +kernel
theorem dX11_closesIsolates_96 : decode cX11_closesIsolates 96 = .ok (.aload_n 0, 1) := by decide +kernel
theorem dX11_closesIsolates_97 : decode cX11_closesIsolates 97 = .ok (.getfield 49, 3) := by decide +kernel
theorem dX11_closesIsolates_100 : decode cX11_closesIsolates 100 = .ok (.iload_n 2, 1) := by decide +kernel
theorem dX11_closesIsolates_101 : decode cX11_closesIsolates 101 = .ok (.iaload, 1) := by decide +kernel
theorem dX11_closesIsolates_102 : decode cX11_closesIsolates 102 = .ok (.iload_n 3, 1) := by decide +kernel
theorem dX11_closesIsolates_103 : decode cX11_closesIsolates 103 = .ok (.iastore, 1) := by decide +kernel
theorem dX11_closesIsolates_104 : decode cX11_closesIsolates 104 = .ok (.iinc 3 1, 3) := by decide +kernel
theorem dX11_closesIsolates_107 : decode cX11_closesIsolates 107 = .ok (.goto (-103), 3) := by decide +kernel
theorem dX11_closesIsolates_110 : decode cX11_closesIsolates 110 = .ok (.return_, 1) := by decide +kernel
theorem dX11_baseOf_0 : decode cX11_baseOf 0 = .ok (.iload_n 2, 1) := by decide +kernel
theorem dX11_baseOf_1 : decode cX11_baseOf 1 = .ok (.istore 4, 2) := by decide +kernel
theorem dX11_baseOf_3 : decode cX11_baseOf 3 = .ok (.iload 4, 2) := by decide +kernel
theorem dX11_baseOf_5 : decode cX11_baseOf 5 = .ok (.iload_n 3, 1) := by decide +kernel
theorem dX11_baseOf_6 : decode cX11_baseOf 6 = .ok (.if_icmp .ge 68, 3) := by decide +kernel
theorem dX11_baseOf_9 : decode cX11_baseOf 9 = .ok (.aload_n 0, 1) := by decide +kernel
theorem dX11_baseOf_10 : decode cX11_baseOf 10 = .ok (.iload_n 1, 1) := by decide +kernel
theorem dX11_baseOf_11 : decode cX11_baseOf 11 = .ok (.iload 4, 2) := by decide +kernel
theorem dX11_baseOf_13 : decode cX11_baseOf 13 = .ok (.invokevirtual 204, 3) := by decide +kernel
theorem dX11_baseOf_16 : decode cX11_baseOf 16 = .ok (.istore 5, 2) := by decide +kernel
theorem dX11_baseOf_18 : decode cX11_baseOf 18 = .ok (.iload 5, 2) := by decide +kernel
theorem dX11_baseOf_20 : decode cX11_baseOf 20 = .ok (.ifCond .eq 9, 3) := by decide +kernel
theorem dX11_baseOf_23 : decode cX11_baseOf 23 = .ok (.iload 5, 2) := by decide +kernel
theorem dX11_baseOf_25 : decode cX11_baseOf 25 = .ok (.iconst 1, 1) := by decide +kernel
theorem dX11_baseOf_26 : decode cX11_baseOf 26 = .ok (.if_icmp .ne 15, 3) := by decide +kernel
theorem dX11_baseOf_29 : decode cX11_baseOf 29 = .ok (.iload 5, 2) := by decide +kernel
theorem dX11_baseOf_31 : decode cX11_baseOf 31 = .ok (.iconst 1, 1) := by decide +kernel
theorem dX11_baseOf_32 : decode cX11_baseOf 32 = .ok (.if_icmp .ne 7, 3) := by decide +kernel
theorem dX11_baseOf_35 : decode cX11_baseOf 35 = .ok (.iconst 1, 1) := by decide +kernel
theorem dX11_baseOf_36 : decode cX11_baseOf 36 = .ok (.goto 4, 3) := by decide +kernel
theorem dX11_baseOf_39 : decode cX11_baseOf 39 = .ok (.iconst 0, 1) := by decide +kernel
theorem dX11_baseOf_40 : decode cX11_baseOf 40 = .ok (.ireturn, 1) := by decide +kernel
theorem dX11_baseOf_41 : decode cX11_baseOf 41 = .ok (.iload 5, 2) := by decide +kernel
theorem dX11_baseOf_43 : decode cX11_baseOf 43 = .ok (.bipush 7, 2) := by decide +kernel
theorem dX11_baseOf_45 : decode cX11_baseOf 45 = .ok (.bipush 9, 2) := by decide +kernel
theorem dX11_baseOf_47 : decode cX11_baseOf 47 = .ok (.invokestatic 111, 3) := by decide +kernel
theorem dX11_baseOf_50 : decode cX11_baseOf 50 = .ok (.ifCond .eq 15, 3) := by decide +kernel
theorem dX11_baseOf_53 : decode cX11_baseOf 53 = .ok (.aload_n 0, 1) := by decide +kernel
theorem dX11_baseOf_54 : decode cX11_baseOf 54 = .ok (.getfield 43, 3) := by decide +kernel
theorem dX11_baseOf_57 : decode cX11_baseOf 57 = .ok (.iload 4, 2) := by decide +kernel
theorem dX11_baseOf_59 : decode cX11_baseOf 59 = .ok (.iaload, 1) := by decide +kernel
theorem dX11_baseOf_60 : decode cX11_baseOf 60 = .ok (.iconst 1, 1) := by decide +kernel
theorem dX11_baseOf_61 : decode cX11_baseOf 61 = .ok (.iadd, 1) := by decide +kernel
theorem dX11_baseOf_62 : decode cX11_baseOf 62 = .ok (.goto 7, 3) := by decide +kernel
theorem dX11_baseOf_65 : decode cX11_baseOf 65 = .ok (.iload 4, 2) := by decide +kernel
theorem dX11_baseOf_67 : decode cX11_baseOf 67 = .ok (.iconst 1, 1) := by decide +kernel
theorem dX11_baseOf_68 : decode cX11_baseOf 68 = .ok (.iadd, 1) := by decide +kernel
theorem dX11_baseOf_69 : decode cX11_baseOf 69 = .ok (.istore 4, 2) := by decide +kernel
theorem dX11_baseOf_71 : decode cX11_baseOf 71 = .ok (.goto (-68), 3) := by decide +kernel
theorem dX11_baseOf_74 : decode cX11_baseOf 74 = .ok (.iconst 0, 1) := by decide +kernel
theorem dX11_baseOf_75 : decode cX11_baseOf 75 = .ok (.ireturn, 1) := by decide +kernel
theorem dX11_begins_0 : decode cX11_begins 0 = .ok (.aload_n 0, 1) := by decide +kernel
theorem dX11_begins_1 : decode cX11_begins 1 = .ok (.getfield 52, 3) := by decide +kernel
theorem dX11_begins_4 : decode cX11_begins 4 = .ok (.iload_n 1, 1) := by decide +kernel
theorem dX11_begins_5 : decode cX11_begins 5 = .ok (.iaload, 1) := by decide +kernel
theorem dX11_begins_6 : decode cX11_begins 6 = .ok (.istore 4, 2) := by decide +kernel
theorem dX11_begins_8 : decode cX11_begins 8 = .ok (.iload 4, 2) := by decide +kernel
theorem dX11_begins_10 : decode cX11_begins 10 = .ok (.iconst 2, 1) := by decide +kernel
theorem dX11_begins_11 : decode cX11_begins 11 = .ok (.irem, 1) := by decide +kernel
theorem dX11_begins_12 : decode cX11_begins 12 = .ok (.iload_n 3, 1) := by decide +kernel
theorem dX11_begins_13 : decode cX11_begins 13 = .ok (.ifCond .eq 7, 3) := by decide +kernel
theorem dX11_begins_16 : decode cX11_begins 16 = .ok (.iconst 1, 1) := by decide +kernel
theorem dX11_begins_17 : decode cX11_begins 17 = .ok (.goto 4, 3) := by decide +kernel
theorem dX11_begins_20 : decode cX11_begins 20 = .ok (.iconst 0, 1) := by decide +kernel
theorem dX11_begins_21 : decode cX11_begins 21 = .ok (.if_icmp .ne 10, 3) := by decide +kernel
theorem dX11_begins_24 : decode cX11_begins 24 = .ok (.iload 4, 2) := by decide +kernel
theorem dX11_begins_26 : decode cX11_begins 26 = .ok (.iconst 2, 1) := by decide +kernel
theorem dX11_begins_27 : decode cX11_begins 27 = .ok (.iadd, 1) := by decide +kernel
theorem dX11_begins_28 : decode cX11_begins 28 = .ok (.goto 7, 3) := by decide +kernel
theorem dX11_begins_31 : decode cX11_begins 31 = .ok (.iload 4, 2) := by decide +kernel
theorem dX11_begins_33 : decode cX11_begins 33 = .ok (.iconst 1, 1) := by decide +kernel
theorem dX11_begins_34 : decode cX11_begins 34 = .ok (.iadd, 1) := by decide +kernel
theorem dX11_begins_35 : decode cX11_begins 35 = .ok (.istore 5, 2) := by decide +kernel
theorem dX11_begins_37 : decode cX11_begins 37 = .ok (.aload_n 0, 1) := by decide +kernel
theorem dX11_begins_38 : decode cX11_begins 38 = .ok (.getfield 52, 3) := by decide +kernel
theorem dX11_begins_41 : decode cX11_begins 41 = .ok (.aload_n 0, 1) := by decide +kernel
theorem dX11_begins_42 : decode cX11_begins 42 = .ok (.getfield 207, 3) := by decide +kernel
theorem dX11_begins_45 : decode cX11_begins 45 = .ok (.iload 5, 2) := by decide +kernel
theorem dX11_begins_47 : decode cX11_begins 47 = .ok (.bipush 9, 2) := by decide +kernel
theorem dX11_begins_49 : decode cX11_begins 49 = .ok (.if_icmp .le 8, 3) := by decide +kernel
theorem dX11_begins_52 : decode cX11_begins 52 = .ok (.iload 4, 2) := by decide +kernel
theorem dX11_begins_54 : decode cX11_begins 54 = .ok (.goto 5, 3) := by decide +kernel
theorem dX11_begins_57 : decode cX11_begins 57 = .ok (.iload 5, 2) := by decide +kernel
theorem dX11_begins_59 : decode cX11_begins 59 = .ok (.iastore, 1) := by decide +kernel
theorem dX11_begins_60 : decode cX11_begins 60 = .ok (.aload_n 0, 1) := by decide +kernel
theorem dX11_begins_61 : decode cX11_begins 61 = .ok (.getfield 55, 3) := by decide +kernel
theorem dX11_begins_64 : decode cX11_begins 64 = .ok (.aload_n 0, 1) := by decide +kernel
theorem dX11_begins_65 : decode cX11_begins 65 = .ok (.getfield 207, 3) := by decide +kernel
theorem dX11_begins_68 : decode cX11_begins 68 = .ok (.iload_n 2, 1) := by decide +kernel
theorem dX11_begins_69 : decode cX11_begins 69 = .ok (.iastore, 1) := by decide +kernel
theorem dX11_begins_70 : decode cX11_begins 70 = .ok (.aload_n 0, 1) := by decide +kernel
theorem dX11_begins_71 : decode cX11_begins 71 = .ok (.getfield 58, 3) := by decide +kernel
theorem dX11_begins_74 : decode cX11_begins 74 = .ok (.aload_n 0, 1) := by decide +kernel
theorem dX11_begins_75 : decode cX11_begins 75 = .ok (.getfield 207, 3) := by decide +kernel
theorem dX11_begins_78 : decode cX11_begins 78 = .ok (.iload_n 1, 1) := by decide +kernel
theorem dX11_begins_79 : decode cX11_begins 79 = .ok (.iastore, 1) := by decide +kernel
theorem dX11_begins_80 : decode cX11_begins 80 = .ok (.aload_n 0, 1) := by decide +kernel
theorem dX11_begins_81 : decode cX11_begins 81 = .ok (.dup, 1) := by decide +kernel
theorem dX11_begins_82 : decode cX11_begins 82 = .ok (.getfield 207, 3) := by decide +kernel
theorem dX11_begins_85 : decode cX11_begins 85 = .ok (.iconst 1, 1) := by decide +kernel
theorem dX11_begins_86 : decode cX11_begins 86 = .ok (.iadd, 1) := by decide +kernel
theorem dX11_begins_87 : decode cX11_begins 87 = .ok (.putfield 207, 3) := by decide +kernel
theorem dX11_begins_90 : decode cX11_begins 90 = .ok (.aload_n 0, 1) := by decide +kernel
theorem dX11_begins_91 : decode cX11_begins 91 = .ok (.getfield 207, 3) := by decide +kernel
theorem dX11_begins_94 : decode cX11_begins 94 = .ok (.iconst 1, 1) := by decide +kernel
theorem dX11_begins_95 : decode cX11_begins 95 = .ok (.isub, 1) := by decide +kernel
theorem dX11_begins_96 : decode cX11_begins 96 = .ok (.ireturn, 1) := by decide +kernel
theorem dX11_laysFrames_0 : decode cX11_laysFrames 0 = .ok (.aload_n 0, 1) := by decide +kernel
theorem dX11_laysFrames_1 : decode cX11_laysFrames 1 = .ok (.iconst 1, 1) := by decide +kernel
theorem dX11_laysFrames_2 : decode cX11_laysFrames 2 = .ok (.putfield 207, 3) := by decide +kernel
theorem dX11_laysFrames_5 : decode cX11_laysFrames 5 = .ok (.aload_n 0, 1) := by decide +kernel
theorem dX11_laysFrames_6 : decode cX11_laysFrames 6 = .ok (.getfield 52, 3) := by decide +kernel
theorem dX11_laysFrames_9 : decode cX11_laysFrames 9 = .ok (.iconst 0, 1) := by decide +kernel
theorem dX11_laysFrames_10 : decode cX11_laysFrames 10 = .ok (.iload_n 2, 1) := by decide +kernel
theorem dX11_laysFrames_11 : decode cX11_laysFrames 11 = .ok (.iastore, 1) := by decide +kernel
theorem dX11_laysFrames_12 : decode cX11_laysFrames 12 = .ok (.aload_n 0, 1) := by decide +kernel
theorem dX11_laysFrames_13 : decode cX11_laysFrames 13 = .ok (.getfield 55, 3) := by decide +kernel
theorem dX11_laysFrames_16 : decode cX11_laysFrames 16 = .ok (.iconst 0, 1) := by decide +kernel
theorem dX11_laysFrames_17 : decode cX11_laysFrames 17 = .ok (.iconst 0, 1) := by decide +kernel
theorem dX11_laysFrames_18 : decode cX11_laysFrames 18 = .ok (.iastore, 1) := by decide +kernel
theorem dX11_laysFrames_19 : decode cX11_laysFrames 19 = .ok (.aload_n 0, 1) := by decide +kernel
theorem dX11_laysFrames_20 : decode cX11_laysFrames 20 = .ok (.getfield 58, 3) := by decide +kernel
theorem dX11_laysFrames_23 : decode cX11_laysFrames 23 = .ok (.iconst 0, 1) := by decide +kernel
theorem dX11_laysFrames_24 : decode cX11_laysFrames 24 = .ok (.iconst (-1), 1) := by decide +kernel
theorem dX11_laysFrames_25 : decode cX11_laysFrames 25 = .ok (.iastore, 1) := by decide +kernel
theorem dX11_laysFrames_26 : decode cX11_laysFrames 26 = .ok (.iconst 0, 1) := by decide +kernel
theorem dX11_laysFrames_27 : decode cX11_laysFrames 27 = .ok (.istore_n 3, 1) := by decide +kernel
theorem dX11_laysFrames_28 : decode cX11_laysFrames 28 = .ok (.iconst 0, 1) := by decide +kernel
theorem dX11_laysFrames_29 : decode cX11_laysFrames 29 = .ok (.istore 4, 2) := by decide +kernel
theorem dX11_laysFrames_31 : decode cX11_laysFrames 31 = .ok (.iload 4, 2) := by decide +kernel
theorem dX11_laysFrames_33 : decode cX11_laysFrames 33 = .ok (.aload_n 0, 1) := by decide +kernel
theorem dX11_laysFrames_34 : decode cX11_laysFrames 34 = .ok (.getfield 19, 3) := by decide +kernel
theorem dX11_laysFrames_37 : decode cX11_laysFrames 37 = .ok (.iload_n 1, 1) := by decide +kernel
theorem dX11_laysFrames_38 : decode cX11_laysFrames 38 = .ok (.iaload, 1) := by decide +kernel
theorem dX11_laysFrames_39 : decode cX11_laysFrames 39 = .ok (.if_icmp .ge 194, 3) := by decide +kernel
theorem dX11_laysFrames_42 : decode cX11_laysFrames 42 = .ok (.aload_n 0, 1) := by decide +kernel
theorem dX11_laysFrames_43 : decode cX11_laysFrames 43 = .ok (.iload_n 1, 1) := by decide +kernel
theorem dX11_laysFrames_44 : decode cX11_laysFrames 44 = .ok (.iload 4, 2) := by decide +kernel
theorem dX11_laysFrames_46 : decode cX11_laysFrames 46 = .ok (.invokevirtual 204, 3) := by decide +kernel
theorem dX11_laysFrames_49 : decode cX11_laysFrames 49 = .ok (.istore 5, 2) := by decide +kernel
theorem dX11_laysFrames_51 : decode cX11_laysFrames 51 = .ok (.aload_n 0, 1) := by decide +kernel
theorem dX11_laysFrames_52 : decode cX11_laysFrames 52 = .ok (.getfield 46, 3) := by decide +kernel
theorem dX11_laysFrames_55 : decode cX11_laysFrames 55 = .ok (.iload 4, 2) := by decide +kernel
theorem dX11_laysFrames_57 : decode cX11_laysFrames 57 = .ok (.iaload, 1) := by decide +kernel
theorem dX11_laysFrames_58 : decode cX11_laysFrames 58 = .ok (.iconst (-1), 1) := by decide +kernel
theorem dX11_laysFrames_59 : decode cX11_laysFrames 59 = .ok (.if_icmp .eq 30, 3) := by decide +kernel
theorem dX11_laysFrames_62 : decode cX11_laysFrames 62 = .ok (.aload_n 0, 1) := by decide +kernel
theorem dX11_laysFrames_63 : decode cX11_laysFrames 63 = .ok (.getfield 55, 3) := by decide +kernel
theorem dX11_laysFrames_66 : decode cX11_laysFrames 66 = .ok (.iload_n 3, 1) := by decide +kernel
theorem dX11_laysFrames_67 : decode cX11_laysFrames 67 = .ok (.iaload, 1) := by decide +kernel
theorem dX11_laysFrames_68 : decode cX11_laysFrames 68 = .ok (.iconst 2, 1) := by decide +kernel
theorem dX11_laysFrames_69 : decode cX11_laysFrames 69 = .ok (.if_icmp .eq 13, 3) := by decide +kernel
theorem dX11_laysFrames_72 : decode cX11_laysFrames 72 = .ok (.aload_n 0, 1) := by decide +kernel
theorem dX11_laysFrames_73 : decode cX11_laysFrames 73 = .ok (.getfield 58, 3) := by decide +kernel
theorem dX11_laysFrames_76 : decode cX11_laysFrames 76 = .ok (.iload_n 3, 1) := by decide +kernel
theorem dX11_laysFrames_77 : decode cX11_laysFrames 77 = .ok (.iaload, 1) := by decide +kernel
theorem dX11_laysFrames_78 : decode cX11_laysFrames 78 = .ok (.istore_n 3, 1) := by decide +kernel
theorem dX11_laysFrames_79 : decode cX11_laysFrames 79 = .ok (.goto (-17), 3) := by decide +kernel
theorem dX11_laysFrames_82 : decode cX11_laysFrames 82 = .ok (.aload_n 0, 1) := by decide +kernel
theorem dX11_laysFrames_83 : decode cX11_laysFrames 83 = .ok (.getfield 58, 3) := by decide +kernel
theorem dX11_laysFrames_86 : decode cX11_laysFrames 86 = .ok (.iload_n 3, 1) := by decide +kernel
theorem dX11_laysFrames_87 : decode cX11_laysFrames 87 = .ok (.iaload, 1) := by decide +kernel
theorem dX11_laysFrames_88 : decode cX11_laysFrames 88 = .ok (.istore_n 3, 1) := by decide +kernel
theorem dX11_laysFrames_89 : decode cX11_laysFrames 89 = .ok (.aload_n 0, 1) := by decide +kernel
theorem dX11_laysFrames_90 : decode cX11_laysFrames 90 = .ok (.getfield 37, 3) := by decide +kernel
theorem dX11_laysFrames_93 : decode cX11_laysFrames 93 = .ok (.iload 4, 2) := by decide +kernel
theorem dX11_laysFrames_95 : decode cX11_laysFrames 95 = .ok (.iload_n 3, 1) := by decide +kernel
theorem dX11_laysFrames_96 : decode cX11_laysFrames 96 = .ok (.iastore, 1) := by decide +kernel
theorem dX11_laysFrames_97 : decode cX11_laysFrames 97 = .ok (.iload 5, 2) := by decide +kernel
theorem dX11_laysFrames_99 : decode cX11_laysFrames 99 = .ok (.iconst 4, 1) := by decide +kernel
theorem dX11_laysFrames_100 : decode cX11_laysFrames 100 = .ok (.if_icmp .eq 9, 3) := by decide +kernel
theorem dX11_laysFrames_103 : decode cX11_laysFrames 103 = .ok (.iload 5, 2) := by decide +kernel
theorem dX11_laysFrames_105 : decode cX11_laysFrames 105 = .ok (.iconst 5, 1) := by decide +kernel
theorem dX11_laysFrames_106 : decode cX11_laysFrames 106 = .ok (.if_icmp .ne 24, 3) := by decide +kernel
theorem dX11_laysFrames_109 : decode cX11_laysFrames 109 = .ok (.aload_n 0, 1) := by decide +kernel
theorem dX11_laysFrames_110 : decode cX11_laysFrames 110 = .ok (.iload_n 3, 1) := by decide +kernel
theorem dX11_laysFrames_111 : decode cX11_laysFrames 111 = .ok (.iconst 1, 1) := by decide +kernel
theorem dX11_laysFrames_112 : decode cX11_laysFrames 112 = .ok (.iload 5, 2) := by decide +kernel
theorem dX11_laysFrames_114 : decode cX11_laysFrames 114 = .ok (.iconst 5, 1) := by decide +kernel
theorem dX11_laysFrames_115 : decode cX11_laysFrames 115 = .ok (.if_icmp .ne 7, 3) := by decide +kernel
theorem dX11_laysFrames_118 : decode cX11_laysFrames 118 = .ok (.iconst 1, 1) := by decide +kernel
theorem dX11_laysFrames_119 : decode cX11_laysFrames 119 = .ok (.goto 4, 3) := by decide +kernel
theorem dX11_laysFrames_122 : decode cX11_laysFrames 122 = .ok (.iconst 0, 1) := by decide +kernel
theorem dX11_laysFrames_123 : decode cX11_laysFrames 123 = .ok (.invokevirtual 210, 3) := by decide +kernel
theorem dX11_laysFrames_126 : decode cX11_laysFrames 126 = .ok (.istore_n 3, 1) := by decide +kernel
theorem dX11_laysFrames_127 : decode cX11_laysFrames 127 = .ok (.goto 100, 3) := by decide +kernel
theorem dX11_laysFrames_130 : decode cX11_laysFrames 130 = .ok (.iload 5, 2) := by decide +kernel
theorem dX11_laysFrames_132 : decode cX11_laysFrames 132 = .ok (.bipush 7, 2) := by decide +kernel
theorem dX11_laysFrames_134 : decode cX11_laysFrames 134 = .ok (.bipush 9, 2) := by decide +kernel
theorem dX11_laysFrames_136 : decode cX11_laysFrames 136 = .ok (.invokestatic 111, 3) := by decide +kernel
theorem dX11_laysFrames_139 : decode cX11_laysFrames 139 = .ok (.ifCond .eq 64, 3) := by decide +kernel
theorem dX11_laysFrames_142 : decode cX11_laysFrames 142 = .ok (.iload 5, 2) := by decide +kernel
theorem dX11_laysFrames_144 : decode cX11_laysFrames 144 = .ok (.bipush 9, 2) := by decide +kernel
theorem dX11_laysFrames_146 : decode cX11_laysFrames 146 = .ok (.if_icmp .ne 31, 3) := by decide +kernel
theorem dX11_laysFrames_149 : decode cX11_laysFrames 149 = .ok (.aload_n 0, 1) := by decide +kernel
theorem dX11_laysFrames_150 : decode cX11_laysFrames 150 = .ok (.iload_n 1, 1) := by decide +kernel
theorem dX11_laysFrames_151 : decode cX11_laysFrames 151 = .ok (.iload 4, 2) := by decide +kernel
theorem dX11_laysFrames_153 : decode cX11_laysFrames 153 = .ok (.iconst 1, 1) := by decide +kernel
theorem dX11_laysFrames_154 : decode cX11_laysFrames 154 = .ok (.iadd, 1) := by decide +kernel
theorem dX11_laysFrames_155 : decode cX11_laysFrames 155 = .ok (.aload_n 0, 1) := by decide +kernel
theorem dX11_laysFrames_156 : decode cX11_laysFrames 156 = .ok (.getfield 43, 3) := by decide +kernel
theorem dX11_laysFrames_159 : decode cX11_laysFrames 159 = .ok (.iload 4, 2) := by decide +kernel
theorem dX11_laysFrames_161 : decode cX11_laysFrames 161 = .ok (.iaload, 1) := by decide +kernel
theorem dX11_laysFrames_162 : decode cX11_laysFrames 162 = .ok (.invokevirtual 214, 3) := by decide +kernel
theorem dX11_laysFrames_165 : decode cX11_laysFrames 165 = .ok (.iconst 1, 1) := by decide +kernel
theorem dX11_laysFrames_166 : decode cX11_laysFrames 166 = .ok (.if_icmp .ne 7, 3) := by decide +kernel
theorem dX11_laysFrames_169 : decode cX11_laysFrames 169 = .ok (.iconst 1, 1) := by decide +kernel
theorem dX11_laysFrames_170 : decode cX11_laysFrames 170 = .ok (.goto 19, 3) := by decide +kernel
theorem dX11_laysFrames_173 : decode cX11_laysFrames 173 = .ok (.iconst 0, 1) := by decide +kernel
theorem dX11_laysFrames_174 : decode cX11_laysFrames 174 = .ok (.goto 15, 3) := by decide +kernel
theorem dX11_laysFrames_177 : decode cX11_laysFrames 177 = .ok (.iload 5, 2) := by decide +kernel
theorem dX11_laysFrames_179 : decode cX11_laysFrames 179 = .ok (.bipush 8, 2) := by decide +kernel
theorem dX11_laysFrames_181 : decode cX11_laysFrames 181 = .ok (.if_icmp .ne 7, 3) := by decide +kernel
theorem dX11_laysFrames_184 : decode cX11_laysFrames 184 = .ok (.iconst 1, 1) := by decide +kernel
theorem dX11_laysFrames_185 : decode cX11_laysFrames 185 = .ok (.goto 4, 3) := by decide +kernel
theorem dX11_laysFrames_188 : decode cX11_laysFrames 188 = .ok (.iconst 0, 1) := by decide +kernel
theorem dX11_laysFrames_189 : decode cX11_laysFrames 189 = .ok (.istore 6, 2) := by decide +kernel
theorem dX11_laysFrames_191 : decode cX11_laysFrames 191 = .ok (.aload_n 0, 1) := by decide +kernel
theorem dX11_laysFrames_192 : decode cX11_laysFrames 192 = .ok (.iload_n 3, 1) := by decide +kernel
theorem dX11_laysFrames_193 : decode cX11_laysFrames 193 = .ok (.iconst 2, 1) := by decide +kernel
theorem dX11_laysFrames_194 : decode cX11_laysFrames 194 = .ok (.iload 6, 2) := by decide +kernel
theorem dX11_laysFrames_196 : decode cX11_laysFrames 196 = .ok (.invokevirtual 210, 3) := by decide +kernel
theorem dX11_laysFrames_199 : decode cX11_laysFrames 199 = .ok (.istore_n 3, 1) := by decide +kernel
theorem dX11_laysFrames_200 : decode cX11_laysFrames 200 = .ok (.goto 27, 3) := by decide +kernel
theorem dX11_laysFrames_203 : decode cX11_laysFrames 203 = .ok (.iload 5, 2) := by decide +kernel
theorem dX11_laysFrames_205 : decode cX11_laysFrames 205 = .ok (.bipush 6, 2) := by decide +kernel
theorem dX11_laysFrames_207 : decode cX11_laysFrames 207 = .ok (.if_icmp .ne 20, 3) := by decide +kernel
theorem dX11_laysFrames_210 : decode cX11_laysFrames 210 = .ok (.aload_n 0, 1) := by decide +kernel
theorem dX11_laysFrames_211 : decode cX11_laysFrames 211 = .ok (.getfield 55, 3) := by decide +kernel
theorem dX11_laysFrames_214 : decode cX11_laysFrames 214 = .ok (.iload_n 3, 1) := by decide +kernel
theorem dX11_laysFrames_215 : decode cX11_laysFrames 215 = .ok (.iaload, 1) := by decide +kernel
theorem dX11_laysFrames_216 : decode cX11_laysFrames 216 = .ok (.iconst 1, 1) := by decide +kernel
theorem dX11_laysFrames_217 : decode cX11_laysFrames 217 = .ok (.if_icmp .ne 10, 3) := by decide +kernel
theorem dX11_laysFrames_220 : decode cX11_laysFrames 220 = .ok (.aload_n 0, 1) := by decide +kernel
theorem dX11_laysFrames_221 : decode cX11_laysFrames 221 = .ok (.getfield 58, 3) := by decide +kernel
theorem dX11_laysFrames_224 : decode cX11_laysFrames 224 = .ok (.iload_n 3, 1) := by decide +kernel
theorem dX11_laysFrames_225 : decode cX11_laysFrames 225 = .ok (.iaload, 1) := by decide +kernel
theorem dX11_laysFrames_226 : decode cX11_laysFrames 226 = .ok (.istore_n 3, 1) := by decide +kernel
theorem dX11_laysFrames_227 : decode cX11_laysFrames 227 = .ok (.iinc 4 1, 3) := by decide +kernel
theorem dX11_laysFrames_230 : decode cX11_laysFrames 230 = .ok (.goto (-199), 3) := by decide +kernel
theorem dX11_laysFrames_233 : decode cX11_laysFrames 233 = .ok (.return_, 1) := by decide +kernel
theorem dX11_goes_0 : decode cX11_goes 0 = .ok (.aload_n 0, 1) := by decide +kernel
theorem dX11_goes_1 : decode cX11_goes 1 = .ok (.getfield 40, 3) := by decide +kernel
theorem dX11_goes_4 : decode cX11_goes 4 = .ok (.iload_n 1, 1) := by decide +kernel
theorem dX11_goes_5 : decode cX11_goes 5 = .ok (.iaload, 1) := by decide +kernel
theorem dX11_goes_6 : decode cX11_goes 6 = .ok (.iconst 2, 1) := by decide +kernel
theorem dX11_goes_7 : decode cX11_goes 7 = .ok (.if_icmp .ne 7, 3) := by decide +kernel
theorem dX11_goes_10 : decode cX11_goes 10 = .ok (.iconst 1, 1) := by decide +kernel
theorem dX11_goes_11 : decode cX11_goes 11 = .ok (.goto 9, 3) := by decide +kernel
theorem dX11_goes_14 : decode cX11_goes 14 = .ok (.aload_n 0, 1) := by decide +kernel
theorem dX11_goes_15 : decode cX11_goes 15 = .ok (.getfield 40, 3) := by decide +kernel
theorem dX11_goes_18 : decode cX11_goes 18 = .ok (.iload_n 1, 1) := by decide +kernel
theorem dX11_goes_19 : decode cX11_goes 19 = .ok (.iaload, 1) := by decide +kernel
theorem dX11_goes_20 : decode cX11_goes 20 = .ok (.ireturn, 1) := by decide +kernel
theorem dX11_laysNumbers_0 : decode cX11_laysNumbers 0 = .ok (.iconst (-1), 1) := by decide +kernel
theorem dX11_laysNumbers_1 : decode cX11_laysNumbers 1 = .ok (.istore 4, 2) := by decide +kernel
theorem dX11_laysNumbers_3 : decode cX11_laysNumbers 3 = .ok (.iconst 0, 1) := by decide +kernel
theorem dX11_laysNumbers_4 : decode cX11_laysNumbers 4 = .ok (.istore 5, 2) := by decide +kernel
theorem dX11_laysNumbers_6 : decode cX11_laysNumbers 6 = .ok (.iload 5, 2) := by decide +kernel
theorem dX11_laysNumbers_8 : decode cX11_laysNumbers 8 = .ok (.iload_n 2, 1) := by decide +kernel
theorem dX11_laysNumbers_9 : decode cX11_laysNumbers 9 = .ok (.if_icmp .ge 117, 3) := by decide +kernel
theorem dX11_laysNumbers_12 : decode cX11_laysNumbers 12 = .ok (.aload_n 0, 1) := by decide +kernel
theorem dX11_laysNumbers_13 : decode cX11_laysNumbers 13 = .ok (.getfield 61, 3) := by decide +kernel
theorem dX11_laysNumbers_16 : decode cX11_laysNumbers 16 = .ok (.iload 5, 2) := by decide +kernel
theorem dX11_laysNumbers_18 : decode cX11_laysNumbers 18 = .ok (.iaload, 1) := by decide +kernel
theorem dX11_laysNumbers_19 : decode cX11_laysNumbers 19 = .ok (.istore 6, 2) := by decide +kernel
theorem dX11_laysNumbers_21 : decode cX11_laysNumbers 21 = .ok (.aload_n 0, 1) := by decide +kernel
theorem dX11_laysNumbers_22 : decode cX11_laysNumbers 22 = .ok (.iload_n 1, 1) := by decide +kernel
theorem dX11_laysNumbers_23 : decode cX11_laysNumbers 23 = .ok (.iload 6, 2) := by decide +kernel
theorem dX11_laysNumbers_25 : decode cX11_laysNumbers 25 = .ok (.invokevirtual 204, 3) := by decide +kernel
theorem dX11_laysNumbers_28 : decode cX11_laysNumbers 28 = .ok (.istore 7, 2) := by decide +kernel
theorem dX11_laysNumbers_30 : decode cX11_laysNumbers 30 = .ok (.iload 7, 2) := by decide +kernel
theorem dX11_laysNumbers_32 : decode cX11_laysNumbers 32 = .ok (.ifCond .eq 9, 3) := by decide +kernel
theorem dX11_laysNumbers_35 : decode cX11_laysNumbers 35 = .ok (.iload 7, 2) := by decide +kernel
theorem dX11_laysNumbers_37 : decode cX11_laysNumbers 37 = .ok (.iconst 1, 1) := by decide +kernel
theorem dX11_laysNumbers_38 : decode cX11_laysNumbers 38 = .ok (.if_icmp .ne 8, 3) := by decide +kernel
theorem dX11_laysNumbers_41 : decode cX11_laysNumbers 41 = .ok (.iload 7, 2) := by decide +kernel
theorem dX11_laysNumbers_43 : decode cX11_laysNumbers 43 = .ok (.goto 5, 3) := by decide +kernel
theorem dX11_laysNumbers_46 : decode cX11_laysNumbers 46 = .ok (.iload 4, 2) := by decide +kernel
theorem dX11_laysNumbers_48 : decode cX11_laysNumbers 48 = .ok (.istore 4, 2) := by decide +kernel
theorem dX11_laysNumbers_50 : decode cX11_laysNumbers 50 = .ok (.iload 4, 2) := by decide +kernel
theorem dX11_laysNumbers_52 : decode cX11_laysNumbers 52 = .ok (.ifCond .eq 15, 3) := by decide +kernel
theorem dX11_laysNumbers_55 : decode cX11_laysNumbers 55 = .ok (.iload 4, 2) := by decide +kernel
theorem dX11_laysNumbers_57 : decode cX11_laysNumbers 57 = .ok (.iconst (-1), 1) := by decide +kernel
theorem dX11_laysNumbers_58 : decode cX11_laysNumbers 58 = .ok (.if_icmp .ne 13, 3) := by decide +kernel
theorem dX11_laysNumbers_61 : decode cX11_laysNumbers 61 = .ok (.iload_n 3, 1) := by decide +kernel
theorem dX11_laysNumbers_62 : decode cX11_laysNumbers 62 = .ok (.iconst 2, 1) := by decide +kernel
theorem dX11_laysNumbers_63 : decode cX11_laysNumbers 63 = .ok (.irem, 1) := by decide +kernel
theorem dX11_laysNumbers_64 : decode cX11_laysNumbers 64 = .ok (.ifCond .ne 7, 3) := by decide +kernel
theorem dX11_laysNumbers_67 : decode cX11_laysNumbers 67 = .ok (.iconst 1, 1) := by decide +kernel
theorem dX11_laysNumbers_68 : decode cX11_laysNumbers 68 = .ok (.goto 4, 3) := by decide +kernel
theorem dX11_laysNumbers_71 : decode cX11_laysNumbers 71 = .ok (.iconst 0, 1) := by decide +kernel
theorem dX11_laysNumbers_72 : decode cX11_laysNumbers 72 = .ok (.istore 8, 2) := by decide +kernel
theorem dX11_laysNumbers_74 : decode cX11_laysNumbers 74 = .ok (.aload_n 0, 1) := by decide +kernel
theorem dX11_laysNumbers_75 : decode cX11_laysNumbers 75 = .ok (.getfield 40, 3) := by decide +kernel
theorem dX11_laysNumbers_78 : decode cX11_laysNumbers 78 = .ok (.iload 6, 2) := by decide +kernel
theorem dX11_laysNumbers_80 : decode cX11_laysNumbers 80 = .ok (.iload 7, 2) := by decide +kernel
theorem dX11_laysNumbers_82 : decode cX11_laysNumbers 82 = .ok (.ifCond .ne 7, 3) := by decide +kernel
theorem dX11_laysNumbers_85 : decode cX11_laysNumbers 85 = .ok (.iconst 0, 1) := by decide +kernel
theorem dX11_laysNumbers_86 : decode cX11_laysNumbers 86 = .ok (.goto 33, 3) := by decide +kernel
theorem dX11_laysNumbers_89 : decode cX11_laysNumbers 89 = .ok (.iload 7, 2) := by decide +kernel
theorem dX11_laysNumbers_91 : decode cX11_laysNumbers 91 = .ok (.iconst 1, 1) := by decide +kernel
theorem dX11_laysNumbers_92 : decode cX11_laysNumbers 92 = .ok (.if_icmp .ne 7, 3) := by decide +kernel
theorem dX11_laysNumbers_95 : decode cX11_laysNumbers 95 = .ok (.iconst 1, 1) := by decide +kernel
theorem dX11_laysNumbers_96 : decode cX11_laysNumbers 96 = .ok (.goto 23, 3) := by decide +kernel
theorem dX11_laysNumbers_99 : decode cX11_laysNumbers 99 = .ok (.iload 7, 2) := by decide +kernel
theorem dX11_laysNumbers_101 : decode cX11_laysNumbers 101 = .ok (.iconst 2, 1) := by decide +kernel
theorem dX11_laysNumbers_102 : decode cX11_laysNumbers 102 = .ok (.if_icmp .ne 16, 3) := by decide +kernel
theorem dX11_laysNumbers_105 : decode cX11_laysNumbers 105 = .ok (.iload 8, 2) := by decide +kernel
theorem dX11_laysNumbers_107 : decode cX11_laysNumbers 107 = .ok (.ifCond .eq 7, 3) := by decide +kernel
theorem dX11_laysNumbers_110 : decode cX11_laysNumbers 110 = .ok (.iconst 0, 1) := by decide +kernel
theorem dX11_laysNumbers_111 : decode cX11_laysNumbers 111 = .ok (.goto 8, 3) := by decide +kernel
theorem dX11_laysNumbers_114 : decode cX11_laysNumbers 114 = .ok (.iconst 2, 1) := by decide +kernel
theorem dX11_laysNumbers_115 : decode cX11_laysNumbers 115 = .ok (.goto 4, 3) := by decide +kernel
theorem dX11_laysNumbers_118 : decode cX11_laysNumbers 118 = .ok (.iconst 3, 1) := by decide +kernel
theorem dX11_laysNumbers_119 : decode cX11_laysNumbers 119 = .ok (.iastore, 1) := by decide +kernel
theorem dX11_laysNumbers_120 : decode cX11_laysNumbers 120 = .ok (.iinc 5 1, 3) := by decide +kernel
theorem dX11_laysNumbers_123 : decode cX11_laysNumbers 123 = .ok (.goto (-117), 3) := by decide +kernel
theorem dX11_laysNumbers_126 : decode cX11_laysNumbers 126 = .ok (.return_, 1) := by decide +kernel
theorem dX11_laysPartners_0 : decode cX11_laysPartners 0 = .ok (.iconst 0, 1) := by decide +kernel
theorem dX11_laysPartners_1 : decode cX11_laysPartners 1 = .ok (.istore_n 3, 1) := by decide +kernel
theorem dX11_laysPartners_2 : decode cX11_laysPartners 2 = .ok (.iconst 0, 1) := by decide +kernel
theorem dX11_laysPartners_3 : decode cX11_laysPartners 3 = .ok (.istore 4, 2) := by decide +kernel
theorem dX11_laysPartners_5 : decode cX11_laysPartners 5 = .ok (.iload 4, 2) := by decide +kernel
theorem dX11_laysPartners_7 : decode cX11_laysPartners 7 = .ok (.iload_n 2, 1) := by decide +kernel
theorem dX11_laysPartners_8 : decode cX11_laysPartners 8 = .ok (.if_icmp .ge 143, 3) := by decide +kernel
theorem dX11_laysPartners_11 : decode cX11_laysPartners 11 = .ok (.aload_n 0, 1) := by decide +kernel
theorem dX11_laysPartners_12 : decode cX11_laysPartners 12 = .ok (.iload_n 1, 1) := by decide +kernel
theorem dX11_laysPartners_13 : decode cX11_laysPartners 13 = .ok (.aload_n 0, 1) := by decide +kernel
theorem dX11_laysPartners_14 : decode cX11_laysPartners 14 = .ok (.getfield 61, 3) := by decide +kernel
theorem dX11_laysPartners_17 : decode cX11_laysPartners 17 = .ok (.iload 4, 2) := by decide +kernel
theorem dX11_laysPartners_19 : decode cX11_laysPartners 19 = .ok (.iaload, 1) := by decide +kernel
theorem dX11_laysPartners_20 : decode cX11_laysPartners 20 = .ok (.invokevirtual 148, 3) := by decide +kernel
theorem dX11_laysPartners_23 : decode cX11_laysPartners 23 = .ok (.istore 5, 2) := by decide +kernel
theorem dX11_laysPartners_25 : decode cX11_laysPartners 25 = .ok (.aload_n 0, 1) := by decide +kernel
theorem dX11_laysPartners_26 : decode cX11_laysPartners 26 = .ok (.iload 5, 2) := by decide +kernel
theorem dX11_laysPartners_28 : decode cX11_laysPartners 28 = .ok (.iconst 1, 1) := by decide +kernel
theorem dX11_laysPartners_29 : decode cX11_laysPartners 29 = .ok (.invokevirtual 127, 3) := by decide +kernel
theorem dX11_laysPartners_32 : decode cX11_laysPartners 32 = .ok (.iconst 3, 1) := by decide +kernel
theorem dX11_laysPartners_33 : decode cX11_laysPartners 33 = .ok (.if_icmp .ne 14, 3) := by decide +kernel
theorem dX11_laysPartners_36 : decode cX11_laysPartners 36 = .ok (.aload_n 0, 1) := by decide +kernel
theorem dX11_laysPartners_37 : decode cX11_laysPartners 37 = .ok (.iload 5, 2) := by decide +kernel
theorem dX11_laysPartners_39 : decode cX11_laysPartners 39 = .ok (.bipush 8, 2) := by decide +kernel
theorem dX11_laysPartners_41 : decode cX11_laysPartners 41 = .ok (.invokevirtual 127, 3) := by decide +kernel
theorem dX11_laysPartners_44 : decode cX11_laysPartners 44 = .ok (.goto 4, 3) := by decide +kernel
theorem dX11_laysPartners_47 : decode cX11_laysPartners 47 = .ok (.iconst 0, 1) := by decide +kernel
theorem dX11_laysPartners_48 : decode cX11_laysPartners 48 = .ok (.istore 6, 2) := by decide +kernel
theorem dX11_laysPartners_50 : decode cX11_laysPartners 50 = .ok (.aload_n 0, 1) := by decide +kernel
theorem dX11_laysPartners_51 : decode cX11_laysPartners 51 = .ok (.getfield 64, 3) := by decide +kernel
theorem dX11_laysPartners_54 : decode cX11_laysPartners 54 = .ok (.iload 4, 2) := by decide +kernel
theorem dX11_laysPartners_56 : decode cX11_laysPartners 56 = .ok (.iconst (-1), 1) := by decide +kernel
theorem dX11_laysPartners_57 : decode cX11_laysPartners 57 = .ok (.iastore, 1) := by decide +kernel
theorem dX11_laysPartners_58 : decode cX11_laysPartners 58 = .ok (.iload 6, 2) := by decide +kernel
theorem dX11_laysPartners_60 : decode cX11_laysPartners 60 = .ok (.ifCond .le 17, 3) := by decide +kernel
theorem dX11_laysPartners_63 : decode cX11_laysPartners 63 = .ok (.aload_n 0, 1) := by decide +kernel
theorem dX11_laysPartners_64 : decode cX11_laysPartners 64 = .ok (.getfield 49, 3) := by decide +kernel
theorem dX11_laysPartners_67 : decode cX11_laysPartners 67 = .ok (.iload_n 3, 1) := by decide +kernel
theorem dX11_laysPartners_68 : decode cX11_laysPartners 68 = .ok (.iload 4, 2) := by decide +kernel
theorem dX11_laysPartners_70 : decode cX11_laysPartners 70 = .ok (.iastore, 1) := by decide +kernel
theorem dX11_laysPartners_71 : decode cX11_laysPartners 71 = .ok (.iinc 3 1, 3) := by decide +kernel
theorem dX11_laysPartners_74 : decode cX11_laysPartners 74 = .ok (.goto 71, 3) := by decide +kernel
theorem dX11_laysPartners_77 : decode cX11_laysPartners 77 = .ok (.iload 6, 2) := by decide +kernel
theorem dX11_laysPartners_79 : decode cX11_laysPartners 79 = .ok (.ifCond .ge 66, 3) := by decide +kernel
theorem dX11_laysPartners_82 : decode cX11_laysPartners 82 = .ok (.iload_n 3, 1) := by decide +kernel
theorem dX11_laysPartners_83 : decode cX11_laysPartners 83 = .ok (.iconst 1, 1) := by decide +kernel
theorem dX11_laysPartners_84 : decode cX11_laysPartners 84 = .ok (.isub, 1) := by decide +kernel
theorem dX11_laysPartners_85 : decode cX11_laysPartners 85 = .ok (.istore 7, 2) := by decide +kernel
theorem dX11_laysPartners_87 : decode cX11_laysPartners 87 = .ok (.iload 7, 2) := by decide +kernel
theorem dX11_laysPartners_89 : decode cX11_laysPartners 89 = .ok (.ifCond .lt 34, 3) := by decide +kernel
theorem dX11_laysPartners_92 : decode cX11_laysPartners 92 = .ok (.aload_n 0, 1) := by decide +kernel
theorem dX11_laysPartners_93 : decode cX11_laysPartners 93 = .ok (.iload_n 1, 1) := by decide +kernel
theorem dX11_laysPartners_94 : decode cX11_laysPartners 94 = .ok (.aload_n 0, 1) := by decide +kernel
theorem dX11_laysPartners_95 : decode cX11_laysPartners 95 = .ok (.getfield 61, 3) := by decide +kernel
theorem dX11_laysPartners_98 : decode cX11_laysPartners 98 = .ok (.aload_n 0, 1) := by decide +kernel
theorem dX11_laysPartners_99 : decode cX11_laysPartners 99 = .ok (.getfield 49, 3) := by decide +kernel
theorem dX11_laysPartners_102 : decode cX11_laysPartners 102 = .ok (.iload 7, 2) := by decide +kernel
theorem dX11_laysPartners_104 : decode cX11_laysPartners 104 = .ok (.iaload, 1) := by decide +kernel
theorem dX11_laysPartners_105 : decode cX11_laysPartners 105 = .ok (.iaload, 1) := by decide +kernel
theorem dX11_laysPartners_106 : decode cX11_laysPartners 106 = .ok (.invokevirtual 148, 3) := by decide +kernel
theorem dX11_laysPartners_109 : decode cX11_laysPartners 109 = .ok (.iload 6, 2) := by decide +kernel
theorem dX11_laysPartners_111 : decode cX11_laysPartners 111 = .ok (.ineg, 1) := by decide +kernel
theorem dX11_laysPartners_112 : decode cX11_laysPartners 112 = .ok (.iconst 1, 1) := by decide +kernel
theorem dX11_laysPartners_113 : decode cX11_laysPartners 113 = .ok (.isub, 1) := by decide +kernel
theorem dX11_laysPartners_114 : decode cX11_laysPartners 114 = .ok (.if_icmp .eq 9, 3) := by decide +kernel
theorem dX11_laysPartners_117 : decode cX11_laysPartners 117 = .ok (.iinc 7 (-1), 3) := by decide +kernel
theorem dX11_laysPartners_120 : decode cX11_laysPartners 120 = .ok (.goto (-33), 3) := by decide +kernel
theorem dX11_laysPartners_123 : decode cX11_laysPartners 123 = .ok (.iload 7, 2) := by decide +kernel
theorem dX11_laysPartners_125 : decode cX11_laysPartners 125 = .ok (.ifCond .lt 20, 3) := by decide +kernel
theorem dX11_laysPartners_128 : decode cX11_laysPartners 128 = .ok (.aload_n 0, 1) := by decide +kernel
theorem dX11_laysPartners_129 : decode cX11_laysPartners 129 = .ok (.getfield 64, 3) := by decide +kernel
theorem dX11_laysPartners_132 : decode cX11_laysPartners 132 = .ok (.aload_n 0, 1) := by decide +kernel
theorem dX11_laysPartners_133 : decode cX11_laysPartners 133 = .ok (.getfield 49, 3) := by decide +kernel
theorem dX11_laysPartners_136 : decode cX11_laysPartners 136 = .ok (.iload 7, 2) := by decide +kernel
theorem dX11_laysPartners_138 : decode cX11_laysPartners 138 = .ok (.iaload, 1) := by decide +kernel
theorem dX11_laysPartners_139 : decode cX11_laysPartners 139 = .ok (.iload 4, 2) := by decide +kernel
theorem dX11_laysPartners_141 : decode cX11_laysPartners 141 = .ok (.iastore, 1) := by decide +kernel
theorem dX11_laysPartners_142 : decode cX11_laysPartners 142 = .ok (.iload 7, 2) := by decide +kernel
theorem dX11_laysPartners_144 : decode cX11_laysPartners 144 = .ok (.istore_n 3, 1) := by decide +kernel
theorem dX11_laysPartners_145 : decode cX11_laysPartners 145 = .ok (.iinc 4 1, 3) := by decide +kernel
theorem dX11_laysPartners_148 : decode cX11_laysPartners 148 = .ok (.goto (-143), 3) := by decide +kernel
theorem dX11_laysPartners_151 : decode cX11_laysPartners 151 = .ok (.return_, 1) := by decide +kernel
theorem dX11_settlesPartners_0 : decode cX11_settlesPartners 0 = .ok (.iconst 0, 1) := by decide +kernel
theorem dX11_settlesPartners_1 : decode cX11_settlesPartners 1 = .ok (.istore_n 3, 1) := by decide +kernel
theorem dX11_settlesPartners_2 : decode cX11_settlesPartners 2 = .ok (.iload_n 3, 1) := by decide +kernel
theorem dX11_settlesPartners_3 : decode cX11_settlesPartners 3 = .ok (.iload_n 1, 1) := by decide +kernel
theorem dX11_settlesPartners_4 : decode cX11_settlesPartners 4 = .ok (.if_icmp .ge 195, 3) := by decide +kernel
theorem dX11_settlesPartners_7 : decode cX11_settlesPartners 7 = .ok (.aload_n 0, 1) := by decide +kernel
theorem dX11_settlesPartners_8 : decode cX11_settlesPartners 8 = .ok (.getfield 64, 3) := by decide +kernel
theorem dX11_settlesPartners_11 : decode cX11_settlesPartners 11 = .ok (.iload_n 3, 1) := by decide +kernel
theorem dX11_settlesPartners_12 : decode cX11_settlesPartners 12 = .ok (.iaload, 1) := by decide +kernel
theorem dX11_settlesPartners_13 : decode cX11_settlesPartners 13 = .ok (.iconst (-1), 1) := by decide +kernel
theorem dX11_settlesPartners_14 : decode cX11_settlesPartners 14 = .ok (.if_icmp .eq 179, 3) := by decide +kernel
theorem dX11_settlesPartners_17 : decode cX11_settlesPartners 17 = .ok (.iconst 0, 1) := by decide +kernel
theorem dX11_settlesPartners_18 : decode cX11_settlesPartners 18 = .ok (.istore 4, 2) := by decide +kernel
theorem dX11_settlesPartners_20 : decode cX11_settlesPartners 20 = .ok (.iconst 0, 1) := by decide +kernel
theorem dX11_settlesPartners_21 : decode cX11_settlesPartners 21 = .ok (.istore 5, 2) := by decide +kernel
theorem dX11_settlesPartners_23 : decode cX11_settlesPartners 23 = .ok (.iconst 3, 1) := by decide +kernel
theorem dX11_settlesPartners_24 : decode cX11_settlesPartners 24 = .ok (.istore 6, 2) := by decide +kernel
theorem dX11_settlesPartners_26 : decode cX11_settlesPartners 26 = .ok (.iconst 0, 1) := by decide +kernel
theorem dX11_settlesPartners_27 : decode cX11_settlesPartners 27 = .ok (.istore 7, 2) := by decide +kernel
theorem dX11_settlesPartners_29 : decode cX11_settlesPartners 29 = .ok (.iload 7, 2) := by decide +kernel
theorem dX11_settlesPartners_31 : decode cX11_settlesPartners 31 = .ok (.aload_n 0, 1) := by decide +kernel
theorem dX11_settlesPartners_32 : decode cX11_settlesPartners 32 = .ok (.getfield 64, 3) := by decide +kernel
theorem dX11_settlesPartners_35 : decode cX11_settlesPartners 35 = .ok (.iload_n 3, 1) := by decide +kernel
theorem dX11_settlesPartners_36 : decode cX11_settlesPartners 36 = .ok (.iaload, 1) := by decide +kernel
theorem dX11_settlesPartners_37 : decode cX11_settlesPartners 37 = .ok (.if_icmp .ge 93, 3) := by decide +kernel
theorem dX11_settlesPartners_40 : decode cX11_settlesPartners 40 = .ok (.aload_n 0, 1) := by decide +kernel
theorem dX11_settlesPartners_41 : decode cX11_settlesPartners 41 = .ok (.aload_n 0, 1) := by decide +kernel
theorem dX11_settlesPartners_42 : decode cX11_settlesPartners 42 = .ok (.getfield 61, 3) := by decide +kernel
theorem dX11_settlesPartners_45 : decode cX11_settlesPartners 45 = .ok (.iload 7, 2) := by decide +kernel
theorem dX11_settlesPartners_47 : decode cX11_settlesPartners 47 = .ok (.iaload, 1) := by decide +kernel
theorem dX11_settlesPartners_48 : decode cX11_settlesPartners 48 = .ok (.invokevirtual 217, 3) := by decide +kernel
theorem dX11_settlesPartners_51 : decode cX11_settlesPartners 51 = .ok (.istore 8, 2) := by decide +kernel
theorem dX11_settlesPartners_53 : decode cX11_settlesPartners 53 = .ok (.iload 7, 2) := by decide +kernel
theorem dX11_settlesPartners_55 : decode cX11_settlesPartners 55 = .ok (.iload_n 3, 1) := by decide +kernel
theorem dX11_settlesPartners_56 : decode cX11_settlesPartners 56 = .ok (.if_icmp .ge 14, 3) := by decide +kernel
theorem dX11_settlesPartners_59 : decode cX11_settlesPartners 59 = .ok (.iload 8, 2) := by decide +kernel
theorem dX11_settlesPartners_61 : decode cX11_settlesPartners 61 = .ok (.iconst 3, 1) := by decide +kernel
theorem dX11_settlesPartners_62 : decode cX11_settlesPartners 62 = .ok (.if_icmp .eq 8, 3) := by decide +kernel
theorem dX11_settlesPartners_65 : decode cX11_settlesPartners 65 = .ok (.iload 8, 2) := by decide +kernel
theorem dX11_settlesPartners_67 : decode cX11_settlesPartners 67 = .ok (.goto 5, 3) := by decide +kernel
theorem dX11_settlesPartners_70 : decode cX11_settlesPartners 70 = .ok (.iload 6, 2) := by decide +kernel
theorem dX11_settlesPartners_72 : decode cX11_settlesPartners 72 = .ok (.istore 6, 2) := by decide +kernel
theorem dX11_settlesPartners_74 : decode cX11_settlesPartners 74 = .ok (.iload 4, 2) := by decide +kernel
theorem dX11_settlesPartners_76 : decode cX11_settlesPartners 76 = .ok (.ifCond .ne 15, 3) := by decide +kernel
theorem dX11_settlesPartners_79 : decode cX11_settlesPartners 79 = .ok (.iload 7, 2) := by decide +kernel
theorem dX11_settlesPartners_81 : decode cX11_settlesPartners 81 = .ok (.iload_n 3, 1) := by decide +kernel
theorem dX11_settlesPartners_82 : decode cX11_settlesPartners 82 = .ok (.if_icmp .le 13, 3) := by decide +kernel
theorem dX11_settlesPartners_85 : decode cX11_settlesPartners 85 = .ok (.iload 8, 2) := by decide +kernel
theorem dX11_settlesPartners_87 : decode cX11_settlesPartners 87 = .ok (.iload_n 2, 1) := by decide +kernel
theorem dX11_settlesPartners_88 : decode cX11_settlesPartners 88 = .ok (.if_icmp .ne 7, 3) := by decide +kernel
theorem dX11_settlesPartners_91 : decode cX11_settlesPartners 91 = .ok (.iconst 1, 1) := by decide +kernel
theorem dX11_settlesPartners_92 : decode cX11_settlesPartners 92 = .ok (.goto 4, 3) := by decide +kernel
theorem dX11_settlesPartners_95 : decode cX11_settlesPartners 95 = .ok (.iconst 0, 1) := by decide +kernel
theorem dX11_settlesPartners_96 : decode cX11_settlesPartners 96 = .ok (.istore 4, 2) := by decide +kernel
theorem dX11_settlesPartners_98 : decode cX11_settlesPartners 98 = .ok (.iload 5, 2) := by decide +kernel
theorem dX11_settlesPartners_100 : decode cX11_settlesPartners 100 = .ok (.ifCond .ne 17, 3) := by decide +kernel
theorem dX11_settlesPartners_103 : decode cX11_settlesPartners 103 = .ok (.iload 7, 2) := by decide +kernel
theorem dX11_settlesPartners_105 : decode cX11_settlesPartners 105 = .ok (.iload_n 3, 1) := by decide +kernel
theorem dX11_settlesPartners_106 : decode cX11_settlesPartners 106 = .ok (.if_icmp .le 15, 3) := by decide +kernel
theorem dX11_settlesPartners_109 : decode cX11_settlesPartners 109 = .ok (.iload 8, 2) := by decide +kernel
theorem dX11_settlesPartners_111 : decode cX11_settlesPartners 111 = .ok (.iconst 1, 1) := by decide +kernel
theorem dX11_settlesPartners_112 : decode cX11_settlesPartners 112 = .ok (.iload_n 2, 1) := by decide +kernel
theorem dX11_settlesPartners_113 : decode cX11_settlesPartners 113 = .ok (.isub, 1) := by decide +kernel
theorem dX11_settlesPartners_114 : decode cX11_settlesPartners 114 = .ok (.if_icmp .ne 7, 3) := by decide +kernel
theorem dX11_settlesPartners_117 : decode cX11_settlesPartners 117 = .ok (.iconst 1, 1) := by decide +kernel
theorem dX11_settlesPartners_118 : decode cX11_settlesPartners 118 = .ok (.goto 4, 3) := by decide +kernel
theorem dX11_settlesPartners_121 : decode cX11_settlesPartners 121 = .ok (.iconst 0, 1) := by decide +kernel
theorem dX11_settlesPartners_122 : decode cX11_settlesPartners 122 = .ok (.istore 5, 2) := by decide +kernel
theorem dX11_settlesPartners_124 : decode cX11_settlesPartners 124 = .ok (.iinc 7 1, 3) := by decide +kernel
theorem dX11_settlesPartners_127 : decode cX11_settlesPartners 127 = .ok (.goto (-98), 3) := by decide +kernel
theorem dX11_settlesPartners_130 : decode cX11_settlesPartners 130 = .ok (.iload 4, 2) := by decide +kernel
theorem dX11_settlesPartners_132 : decode cX11_settlesPartners 132 = .ok (.ifCond .ne 8, 3) := by decide +kernel
theorem dX11_settlesPartners_135 : decode cX11_settlesPartners 135 = .ok (.iload 5, 2) := by decide +kernel
theorem dX11_settlesPartners_137 : decode cX11_settlesPartners 137 = .ok (.ifCond .eq 56, 3) := by decide +kernel
theorem dX11_settlesPartners_140 : decode cX11_settlesPartners 140 = .ok (.iload 4, 2) := by decide +kernel
theorem dX11_settlesPartners_142 : decode cX11_settlesPartners 142 = .ok (.ifCond .ne 11, 3) := by decide +kernel
theorem dX11_settlesPartners_145 : decode cX11_settlesPartners 145 = .ok (.iload 6, 2) := by decide +kernel
theorem dX11_settlesPartners_147 : decode cX11_settlesPartners 147 = .ok (.iconst 1, 1) := by decide +kernel
theorem dX11_settlesPartners_148 : decode cX11_settlesPartners 148 = .ok (.iload_n 2, 1) := by decide +kernel
theorem dX11_settlesPartners_149 : decode cX11_settlesPartners 149 = .ok (.isub, 1) := by decide +kernel
theorem dX11_settlesPartners_150 : decode cX11_settlesPartners 150 = .ok (.if_icmp .eq 7, 3) := by decide +kernel
theorem dX11_settlesPartners_153 : decode cX11_settlesPartners 153 = .ok (.iload_n 2, 1) := by decide +kernel
theorem dX11_settlesPartners_154 : decode cX11_settlesPartners 154 = .ok (.goto 6, 3) := by decide +kernel
theorem dX11_settlesPartners_157 : decode cX11_settlesPartners 157 = .ok (.iconst 1, 1) := by decide +kernel
theorem dX11_settlesPartners_158 : decode cX11_settlesPartners 158 = .ok (.iload_n 2, 1) := by decide +kernel
theorem dX11_settlesPartners_159 : decode cX11_settlesPartners 159 = .ok (.isub, 1) := by decide +kernel
theorem dX11_settlesPartners_160 : decode cX11_settlesPartners 160 = .ok (.istore 7, 2) := by decide +kernel
theorem dX11_settlesPartners_162 : decode cX11_settlesPartners 162 = .ok (.aload_n 0, 1) := by decide +kernel
theorem dX11_settlesPartners_163 : decode cX11_settlesPartners 163 = .ok (.getfield 40, 3) := by decide +kernel
theorem dX11_settlesPartners_166 : decode cX11_settlesPartners 166 = .ok (.aload_n 0, 1) := by decide +kernel
theorem dX11_settlesPartners_167 : decode cX11_settlesPartners 167 = .ok (.getfield 61, 3) := by decide +kernel
theorem dX11_settlesPartners_170 : decode cX11_settlesPartners 170 = .ok (.iload_n 3, 1) := by decide +kernel
theorem dX11_settlesPartners_171 : decode cX11_settlesPartners 171 = .ok (.iaload, 1) := by decide +kernel
theorem dX11_settlesPartners_172 : decode cX11_settlesPartners 172 = .ok (.iload 7, 2) := by decide +kernel
theorem dX11_settlesPartners_174 : decode cX11_settlesPartners 174 = .ok (.iastore, 1) := by decide +kernel
theorem dX11_settlesPartners_175 : decode cX11_settlesPartners 175 = .ok (.aload_n 0, 1) := by decide +kernel
theorem dX11_settlesPartners_176 : decode cX11_settlesPartners 176 = .ok (.getfield 40, 3) := by decide +kernel
theorem dX11_settlesPartners_179 : decode cX11_settlesPartners 179 = .ok (.aload_n 0, 1) := by decide +kernel
theorem dX11_settlesPartners_180 : decode cX11_settlesPartners 180 = .ok (.getfield 61, 3) := by decide +kernel
theorem dX11_settlesPartners_183 : decode cX11_settlesPartners 183 = .ok (.aload_n 0, 1) := by decide +kernel
theorem dX11_settlesPartners_184 : decode cX11_settlesPartners 184 = .ok (.getfield 64, 3) := by decide +kernel
theorem dX11_settlesPartners_187 : decode cX11_settlesPartners 187 = .ok (.iload_n 3, 1) := by decide +kernel
theorem dX11_settlesPartners_188 : decode cX11_settlesPartners 188 = .ok (.iaload, 1) := by decide +kernel
theorem dX11_settlesPartners_189 : decode cX11_settlesPartners 189 = .ok (.iaload, 1) := by decide +kernel
theorem dX11_settlesPartners_190 : decode cX11_settlesPartners 190 = .ok (.iload 7, 2) := by decide +kernel
theorem dX11_settlesPartners_192 : decode cX11_settlesPartners 192 = .ok (.iastore, 1) := by decide +kernel
theorem dX11_settlesPartners_193 : decode cX11_settlesPartners 193 = .ok (.iinc 3 1, 3) := by decide +kernel
theorem dX11_settlesPartners_196 : decode cX11_settlesPartners 196 = .ok (.goto (-194), 3) := by decide +kernel
theorem dX11_settlesPartners_199 : decode cX11_settlesPartners 199 = .ok (.return_, 1) := by decide +kernel
theorem dX11_settlesOthers_0 : decode cX11_settlesOthers 0 = .ok (.iconst 0, 1) := by decide +kernel
theorem dX11_settlesOthers_1 : decode cX11_settlesOthers 1 = .ok (.istore_n 3, 1) := by decide +kernel
theorem dX11_settlesOthers_2 : decode cX11_settlesOthers 2 = .ok (.iload_n 3, 1) := by decide +kernel
theorem dX11_settlesOthers_3 : decode cX11_settlesOthers 3 = .ok (.iload_n 1, 1) := by decide +kernel
theorem dX11_settlesOthers_4 : decode cX11_settlesOthers 4 = .ok (.if_icmp .ge 139, 3) := by decide +kernel
theorem dX11_settlesOthers_7 : decode cX11_settlesOthers 7 = .ok (.aload_n 0, 1) := by decide +kernel
theorem dX11_settlesOthers_8 : decode cX11_settlesOthers 8 = .ok (.getfield 40, 3) := by decide +kernel
theorem dX11_settlesOthers_11 : decode cX11_settlesOthers 11 = .ok (.aload_n 0, 1) := by decide +kernel
theorem dX11_settlesOthers_12 : decode cX11_settlesOthers 12 = .ok (.getfield 61, 3) := by decide +kernel
theorem dX11_settlesOthers_15 : decode cX11_settlesOthers 15 = .ok (.iload_n 3, 1) := by decide +kernel
theorem dX11_settlesOthers_16 : decode cX11_settlesOthers 16 = .ok (.iaload, 1) := by decide +kernel
theorem dX11_settlesOthers_17 : decode cX11_settlesOthers 17 = .ok (.iaload, 1) := by decide +kernel
theorem dX11_settlesOthers_18 : decode cX11_settlesOthers 18 = .ok (.iconst 3, 1) := by decide +kernel
theorem dX11_settlesOthers_19 : decode cX11_settlesOthers 19 = .ok (.if_icmp .eq 9, 3) := by decide +kernel
theorem dX11_settlesOthers_22 : decode cX11_settlesOthers 22 = .ok (.iinc 3 1, 3) := by decide +kernel
theorem dX11_settlesOthers_25 : decode cX11_settlesOthers 25 = .ok (.goto (-23), 3) := by decide +kernel
theorem dX11_settlesOthers_28 : decode cX11_settlesOthers 28 = .ok (.iload_n 3, 1) := by decide +kernel
theorem dX11_settlesOthers_29 : decode cX11_settlesOthers 29 = .ok (.istore 4, 2) := by decide +kernel
theorem dX11_settlesOthers_31 : decode cX11_settlesOthers 31 = .ok (.iload 4, 2) := by decide +kernel
theorem dX11_settlesOthers_33 : decode cX11_settlesOthers 33 = .ok (.iload_n 1, 1) := by decide +kernel
theorem dX11_settlesOthers_34 : decode cX11_settlesOthers 34 = .ok (.if_icmp .ge 25, 3) := by decide +kernel
theorem dX11_settlesOthers_37 : decode cX11_settlesOthers 37 = .ok (.aload_n 0, 1) := by decide +kernel
theorem dX11_settlesOthers_38 : decode cX11_settlesOthers 38 = .ok (.getfield 40, 3) := by decide +kernel
theorem dX11_settlesOthers_41 : decode cX11_settlesOthers 41 = .ok (.aload_n 0, 1) := by decide +kernel
theorem dX11_settlesOthers_42 : decode cX11_settlesOthers 42 = .ok (.getfield 61, 3) := by decide +kernel
theorem dX11_settlesOthers_45 : decode cX11_settlesOthers 45 = .ok (.iload 4, 2) := by decide +kernel
theorem dX11_settlesOthers_47 : decode cX11_settlesOthers 47 = .ok (.iaload, 1) := by decide +kernel
theorem dX11_settlesOthers_48 : decode cX11_settlesOthers 48 = .ok (.iaload, 1) := by decide +kernel
theorem dX11_settlesOthers_49 : decode cX11_settlesOthers 49 = .ok (.iconst 3, 1) := by decide +kernel
theorem dX11_settlesOthers_50 : decode cX11_settlesOthers 50 = .ok (.if_icmp .ne 9, 3) := by decide +kernel
theorem dX11_settlesOthers_53 : decode cX11_settlesOthers 53 = .ok (.iinc 4 1, 3) := by decide +kernel
theorem dX11_settlesOthers_56 : decode cX11_settlesOthers 56 = .ok (.goto (-25), 3) := by decide +kernel
theorem dX11_settlesOthers_59 : decode cX11_settlesOthers 59 = .ok (.iload_n 3, 1) := by decide +kernel
theorem dX11_settlesOthers_60 : decode cX11_settlesOthers 60 = .ok (.ifCond .ne 7, 3) := by decide +kernel
theorem dX11_settlesOthers_63 : decode cX11_settlesOthers 63 = .ok (.iload_n 2, 1) := by decide +kernel
theorem dX11_settlesOthers_64 : decode cX11_settlesOthers 64 = .ok (.goto 15, 3) := by decide +kernel
theorem dX11_settlesOthers_67 : decode cX11_settlesOthers 67 = .ok (.aload_n 0, 1) := by decide +kernel
theorem dX11_settlesOthers_68 : decode cX11_settlesOthers 68 = .ok (.aload_n 0, 1) := by decide +kernel
theorem dX11_settlesOthers_69 : decode cX11_settlesOthers 69 = .ok (.getfield 61, 3) := by decide +kernel
theorem dX11_settlesOthers_72 : decode cX11_settlesOthers 72 = .ok (.iload_n 3, 1) := by decide +kernel
