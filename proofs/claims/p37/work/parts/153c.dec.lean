theorem dX10_languageOf_23 : decode cX10_languageOf 23 = .ok (.athrow, 1) := by decide +kernel
theorem dX10_languageOf_24 : decode cX10_languageOf 24 = .ok (.aload_n 2, 1) := by decide +kernel
theorem dX10_languageOf_25 : decode cX10_languageOf 25 = .ok (.areturn, 1) := by decide +kernel
theorem dX10_endOfFound_0 : decode cX10_endOfFound 0 = .ok (.aload_n 0, 1) := by decide +kernel
theorem dX10_endOfFound_1 : decode cX10_endOfFound 1 = .ok (.getfield 41, 3) := by decide +kernel
theorem dX10_endOfFound_4 : decode cX10_endOfFound 4 = .ok (.iload_n 1, 1) := by decide +kernel
theorem dX10_endOfFound_5 : decode cX10_endOfFound 5 = .ok (.invokevirtual 384, 3) := by decide +kernel
theorem dX10_endOfFound_8 : decode cX10_endOfFound 8 = .ok (.istore 5, 2) := by decide +kernel
theorem dX10_endOfFound_10 : decode cX10_endOfFound 10 = .ok (.aload_n 0, 1) := by decide +kernel
theorem dX10_endOfFound_11 : decode cX10_endOfFound 11 = .ok (.getfield 78, 3) := by decide +kernel
theorem dX10_endOfFound_14 : decode cX10_endOfFound 14 = .ok (.aload_n 0, 1) := by decide +kernel
theorem dX10_endOfFound_15 : decode cX10_endOfFound 15 = .ok (.getfield 81, 3) := by decide +kernel
theorem dX10_endOfFound_18 : decode cX10_endOfFound 18 = .ok (.iload 5, 2) := by decide +kernel
theorem dX10_endOfFound_20 : decode cX10_endOfFound 20 = .ok (.invokevirtual 387, 3) := by decide +kernel
theorem dX10_endOfFound_23 : decode cX10_endOfFound 23 = .ok (.ifCond .ne 5, 3) := by decide +kernel
theorem dX10_endOfFound_26 : decode cX10_endOfFound 26 = .ok (.iconst (-1), 1) := by decide +kernel
theorem dX10_endOfFound_27 : decode cX10_endOfFound 27 = .ok (.ireturn, 1) := by decide +kernel
theorem dX10_endOfFound_28 : decode cX10_endOfFound 28 = .ok (.iload 5, 2) := by decide +kernel
theorem dX10_endOfFound_30 : decode cX10_endOfFound 30 = .ok (.aload_n 0, 1) := by decide +kernel
theorem dX10_endOfFound_31 : decode cX10_endOfFound 31 = .ok (.getfield 81, 3) := by decide +kernel
theorem dX10_endOfFound_34 : decode cX10_endOfFound 34 = .ok (.invokevirtual 107, 3) := by decide +kernel
theorem dX10_endOfFound_37 : decode cX10_endOfFound 37 = .ok (.iadd, 1) := by decide +kernel
theorem dX10_endOfFound_38 : decode cX10_endOfFound 38 = .ok (.istore 6, 2) := by decide +kernel
theorem dX10_endOfFound_40 : decode cX10_endOfFound 40 = .ok (.iload_n 1, 1) := by decide +kernel
theorem dX10_endOfFound_41 : decode cX10_endOfFound 41 = .ok (.iconst 1, 1) := by decide +kernel
theorem dX10_endOfFound_42 : decode cX10_endOfFound 42 = .ok (.iadd, 1) := by decide +kernel
theorem dX10_endOfFound_43 : decode cX10_endOfFound 43 = .ok (.istore 7, 2) := by decide +kernel
theorem dX10_endOfFound_45 : decode cX10_endOfFound 45 = .ok (.iload 7, 2) := by decide +kernel
theorem dX10_endOfFound_47 : decode cX10_endOfFound 47 = .ok (.iload_n 2, 1) := by decide +kernel
theorem dX10_endOfFound_48 : decode cX10_endOfFound 48 = .ok (.if_icmp .gt 53, 3) := by decide +kernel
theorem dX10_endOfFound_51 : decode cX10_endOfFound 51 = .ok (.iload 7, 2) := by decide +kernel
theorem dX10_endOfFound_53 : decode cX10_endOfFound 53 = .ok (.iload_n 2, 1) := by decide +kernel
theorem dX10_endOfFound_54 : decode cX10_endOfFound 54 = .ok (.if_icmp .eq 12, 3) := by decide +kernel
theorem dX10_endOfFound_57 : decode cX10_endOfFound 57 = .ok (.lload_n 3, 1) := by decide +kernel
theorem dX10_endOfFound_58 : decode cX10_endOfFound 58 = .ok (.iload 7, 2) := by decide +kernel
theorem dX10_endOfFound_60 : decode cX10_endOfFound 60 = .ok (.invokestatic 285, 3) := by decide +kernel
theorem dX10_endOfFound_63 : decode cX10_endOfFound 63 = .ok (.ifCond .eq 7, 3) := by decide +kernel
theorem dX10_endOfFound_66 : decode cX10_endOfFound 66 = .ok (.iconst 1, 1) := by decide +kernel
theorem dX10_endOfFound_67 : decode cX10_endOfFound 67 = .ok (.goto 4, 3) := by decide +kernel
theorem dX10_endOfFound_70 : decode cX10_endOfFound 70 = .ok (.iconst 0, 1) := by decide +kernel
theorem dX10_endOfFound_71 : decode cX10_endOfFound 71 = .ok (.istore 8, 2) := by decide +kernel
theorem dX10_endOfFound_73 : decode cX10_endOfFound 73 = .ok (.iload 8, 2) := by decide +kernel
theorem dX10_endOfFound_75 : decode cX10_endOfFound 75 = .ok (.ifCond .eq 20, 3) := by decide +kernel
theorem dX10_endOfFound_78 : decode cX10_endOfFound 78 = .ok (.aload_n 0, 1) := by decide +kernel
theorem dX10_endOfFound_79 : decode cX10_endOfFound 79 = .ok (.getfield 41, 3) := by decide +kernel
theorem dX10_endOfFound_82 : decode cX10_endOfFound 82 = .ok (.iload 7, 2) := by decide +kernel
theorem dX10_endOfFound_84 : decode cX10_endOfFound 84 = .ok (.invokevirtual 384, 3) := by decide +kernel
theorem dX10_endOfFound_87 : decode cX10_endOfFound 87 = .ok (.iload 6, 2) := by decide +kernel
theorem dX10_endOfFound_89 : decode cX10_endOfFound 89 = .ok (.if_icmp .ne 6, 3) := by decide +kernel
theorem dX10_endOfFound_92 : decode cX10_endOfFound 92 = .ok (.iload 7, 2) := by decide +kernel
theorem dX10_endOfFound_94 : decode cX10_endOfFound 94 = .ok (.ireturn, 1) := by decide +kernel
theorem dX10_endOfFound_95 : decode cX10_endOfFound 95 = .ok (.iinc 7 1, 3) := by decide +kernel
theorem dX10_endOfFound_98 : decode cX10_endOfFound 98 = .ok (.goto (-53), 3) := by decide +kernel
theorem dX10_endOfFound_101 : decode cX10_endOfFound 101 = .ok (.iconst (-1), 1) := by decide +kernel
theorem dX10_endOfFound_102 : decode cX10_endOfFound 102 = .ok (.ireturn, 1) := by decide +kernel
theorem dX10_decodeInto_0 : decode cX10_decodeInto 0 = .ok (.aload_n 1, 1) := by decide +kernel
theorem dX10_decodeInto_1 : decode cX10_decodeInto 1 = .ok (.iconst 0, 1) := by decide +kernel
theorem dX10_decodeInto_2 : decode cX10_decodeInto 2 = .ok (.invokevirtual 237, 3) := by decide +kernel
theorem dX10_decodeInto_5 : decode cX10_decodeInto 5 = .ok (.iconst 0, 1) := by decide +kernel
theorem dX10_decodeInto_6 : decode cX10_decodeInto 6 = .ok (.istore_n 2, 1) := by decide +kernel
theorem dX10_decodeInto_7 : decode cX10_decodeInto 7 = .ok (.iconst 0, 1) := by decide +kernel
theorem dX10_decodeInto_8 : decode cX10_decodeInto 8 = .ok (.istore_n 3, 1) := by decide +kernel
theorem dX10_decodeInto_9 : decode cX10_decodeInto 9 = .ok (.iconst 0, 1) := by decide +kernel
theorem dX10_decodeInto_10 : decode cX10_decodeInto 10 = .ok (.istore 4, 2) := by decide +kernel
theorem dX10_decodeInto_12 : decode cX10_decodeInto 12 = .ok (.iload 4, 2) := by decide +kernel
theorem dX10_decodeInto_14 : decode cX10_decodeInto 14 = .ok (.aload_n 0, 1) := by decide +kernel
theorem dX10_decodeInto_15 : decode cX10_decodeInto 15 = .ok (.getfield 29, 3) := by decide +kernel
theorem dX10_decodeInto_18 : decode cX10_decodeInto 18 = .ok (.invokevirtual 107, 3) := by decide +kernel
theorem dX10_decodeInto_21 : decode cX10_decodeInto 21 = .ok (.if_icmp .ge 125, 3) := by decide +kernel
theorem dX10_decodeInto_24 : decode cX10_decodeInto 24 = .ok (.aload_n 0, 1) := by decide +kernel
theorem dX10_decodeInto_25 : decode cX10_decodeInto 25 = .ok (.getfield 29, 3) := by decide +kernel
theorem dX10_decodeInto_28 : decode cX10_decodeInto 28 = .ok (.iload 4, 2) := by decide +kernel
theorem dX10_decodeInto_30 : decode cX10_decodeInto 30 = .ok (.invokevirtual 243, 3) := by decide +kernel
theorem dX10_decodeInto_33 : decode cX10_decodeInto 33 = .ok (.istore 5, 2) := by decide +kernel
theorem dX10_decodeInto_35 : decode cX10_decodeInto 35 = .ok (.iload 5, 2) := by decide +kernel
theorem dX10_decodeInto_37 : decode cX10_decodeInto 37 = .ok (.bipush 14, 2) := by decide +kernel
theorem dX10_decodeInto_39 : decode cX10_decodeInto 39 = .ok (.if_icmp .eq 10, 3) := by decide +kernel
theorem dX10_decodeInto_42 : decode cX10_decodeInto 42 = .ok (.iload 5, 2) := by decide +kernel
theorem dX10_decodeInto_44 : decode cX10_decodeInto 44 = .ok (.bipush 15, 2) := by decide +kernel
theorem dX10_decodeInto_46 : decode cX10_decodeInto 46 = .ok (.if_icmp .ne 19, 3) := by decide +kernel
theorem dX10_decodeInto_49 : decode cX10_decodeInto 49 = .ok (.iload 5, 2) := by decide +kernel
theorem dX10_decodeInto_51 : decode cX10_decodeInto 51 = .ok (.bipush 14, 2) := by decide +kernel
theorem dX10_decodeInto_53 : decode cX10_decodeInto 53 = .ok (.if_icmp .ne 7, 3) := by decide +kernel
theorem dX10_decodeInto_56 : decode cX10_decodeInto 56 = .ok (.iconst 1, 1) := by decide +kernel
theorem dX10_decodeInto_57 : decode cX10_decodeInto 57 = .ok (.goto 4, 3) := by decide +kernel
theorem dX10_decodeInto_60 : decode cX10_decodeInto 60 = .ok (.iconst 0, 1) := by decide +kernel
theorem dX10_decodeInto_61 : decode cX10_decodeInto 61 = .ok (.istore_n 3, 1) := by decide +kernel
theorem dX10_decodeInto_62 : decode cX10_decodeInto 62 = .ok (.goto 78, 3) := by decide +kernel
theorem dX10_decodeInto_65 : decode cX10_decodeInto 65 = .ok (.iload 5, 2) := by decide +kernel
theorem dX10_decodeInto_67 : decode cX10_decodeInto 67 = .ok (.bipush 32, 2) := by decide +kernel
theorem dX10_decodeInto_69 : decode cX10_decodeInto 69 = .ok (.isub, 1) := by decide +kernel
theorem dX10_decodeInto_70 : decode cX10_decodeInto 70 = .ok (.iload_n 3, 1) := by decide +kernel
theorem dX10_decodeInto_71 : decode cX10_decodeInto 71 = .ok (.bipush 64, 2) := by decide +kernel
theorem dX10_decodeInto_73 : decode cX10_decodeInto 73 = .ok (.imul, 1) := by decide +kernel
theorem dX10_decodeInto_74 : decode cX10_decodeInto 74 = .ok (.iadd, 1) := by decide +kernel
theorem dX10_decodeInto_75 : decode cX10_decodeInto 75 = .ok (.istore 6, 2) := by decide +kernel
theorem dX10_decodeInto_77 : decode cX10_decodeInto 77 = .ok (.iload 5, 2) := by decide +kernel
theorem dX10_decodeInto_79 : decode cX10_decodeInto 79 = .ok (.bipush 32, 2) := by decide +kernel
theorem dX10_decodeInto_81 : decode cX10_decodeInto 81 = .ok (.if_icmp .lt 23, 3) := by decide +kernel
theorem dX10_decodeInto_84 : decode cX10_decodeInto 84 = .ok (.iload 6, 2) := by decide +kernel
theorem dX10_decodeInto_86 : decode cX10_decodeInto 86 = .ok (.iload_n 3, 1) := by decide +kernel
theorem dX10_decodeInto_87 : decode cX10_decodeInto 87 = .ok (.ifCond .ne 8, 3) := by decide +kernel
theorem dX10_decodeInto_90 : decode cX10_decodeInto 90 = .ok (.bipush 64, 2) := by decide +kernel
theorem dX10_decodeInto_92 : decode cX10_decodeInto 92 = .ok (.goto 5, 3) := by decide +kernel
theorem dX10_decodeInto_95 : decode cX10_decodeInto 95 = .ok (.bipush 96, 2) := by decide +kernel
theorem dX10_decodeInto_97 : decode cX10_decodeInto 97 = .ok (.if_icmp .ge 7, 3) := by decide +kernel
theorem dX10_decodeInto_100 : decode cX10_decodeInto 100 = .ok (.iconst 1, 1) := by decide +kernel
theorem dX10_decodeInto_101 : decode cX10_decodeInto 101 = .ok (.goto 4, 3) := by decide +kernel
theorem dX10_decodeInto_104 : decode cX10_decodeInto 104 = .ok (.iconst 0, 1) := by decide +kernel
theorem dX10_decodeInto_105 : decode cX10_decodeInto 105 = .ok (.istore 7, 2) := by decide +kernel
theorem dX10_decodeInto_107 : decode cX10_decodeInto 107 = .ok (.iload_n 2, 1) := by decide +kernel
theorem dX10_decodeInto_108 : decode cX10_decodeInto 108 = .ok (.iload 7, 2) := by decide +kernel
theorem dX10_decodeInto_110 : decode cX10_decodeInto 110 = .ok (.ifCond .eq 7, 3) := by decide +kernel
theorem dX10_decodeInto_113 : decode cX10_decodeInto 113 = .ok (.iconst 0, 1) := by decide +kernel
theorem dX10_decodeInto_114 : decode cX10_decodeInto 114 = .ok (.goto 4, 3) := by decide +kernel
theorem dX10_decodeInto_117 : decode cX10_decodeInto 117 = .ok (.iconst 1, 1) := by decide +kernel
theorem dX10_decodeInto_118 : decode cX10_decodeInto 118 = .ok (.iadd, 1) := by decide +kernel
theorem dX10_decodeInto_119 : decode cX10_decodeInto 119 = .ok (.istore_n 2, 1) := by decide +kernel
theorem dX10_decodeInto_120 : decode cX10_decodeInto 120 = .ok (.aload_n 1, 1) := by decide +kernel
theorem dX10_decodeInto_121 : decode cX10_decodeInto 121 = .ok (.iload 7, 2) := by decide +kernel
theorem dX10_decodeInto_123 : decode cX10_decodeInto 123 = .ok (.ifCond .eq 8, 3) := by decide +kernel
theorem dX10_decodeInto_126 : decode cX10_decodeInto 126 = .ok (.iload 6, 2) := by decide +kernel
theorem dX10_decodeInto_128 : decode cX10_decodeInto 128 = .ok (.goto 4, 3) := by decide +kernel
theorem dX10_decodeInto_131 : decode cX10_decodeInto 131 = .ok (.iconst 0, 1) := by decide +kernel
theorem dX10_decodeInto_132 : decode cX10_decodeInto 132 = .ok (.invokevirtual 120, 3) := by decide +kernel
theorem dX10_decodeInto_135 : decode cX10_decodeInto 135 = .ok (.ifCond .ne 5, 3) := by decide +kernel
theorem dX10_decodeInto_138 : decode cX10_decodeInto 138 = .ok (.iconst (-1), 1) := by decide +kernel
theorem dX10_decodeInto_139 : decode cX10_decodeInto 139 = .ok (.ireturn, 1) := by decide +kernel
theorem dX10_decodeInto_140 : decode cX10_decodeInto 140 = .ok (.iinc 4 1, 3) := by decide +kernel
theorem dX10_decodeInto_143 : decode cX10_decodeInto 143 = .ok (.goto (-131), 3) := by decide +kernel
theorem dX10_decodeInto_146 : decode cX10_decodeInto 146 = .ok (.iload_n 2, 1) := by decide +kernel
theorem dX10_decodeInto_147 : decode cX10_decodeInto 147 = .ok (.iload_n 3, 1) := by decide +kernel
theorem dX10_decodeInto_148 : decode cX10_decodeInto 148 = .ok (.iadd, 1) := by decide +kernel
theorem dX10_decodeInto_149 : decode cX10_decodeInto 149 = .ok (.ireturn, 1) := by decide +kernel
theorem dX10_cellOf_0 : decode cX10_cellOf 0 = .ok (.iload_n 1, 1) := by decide +kernel
theorem dX10_cellOf_1 : decode cX10_cellOf 1 = .ok (.ifCond .lt 9, 3) := by decide +kernel
theorem dX10_cellOf_4 : decode cX10_cellOf 4 = .ok (.iload_n 1, 1) := by decide +kernel
theorem dX10_cellOf_5 : decode cX10_cellOf 5 = .ok (.aload_n 0, 1) := by decide +kernel
theorem dX10_cellOf_6 : decode cX10_cellOf 6 = .ok (.arraylength, 1) := by decide +kernel
theorem dX10_cellOf_7 : decode cX10_cellOf 7 = .ok (.if_icmp .lt 7, 3) := by decide +kernel
theorem dX10_cellOf_10 : decode cX10_cellOf 10 = .ok (.iload_n 2, 1) := by decide +kernel
theorem dX10_cellOf_11 : decode cX10_cellOf 11 = .ok (.goto 6, 3) := by decide +kernel
theorem dX10_cellOf_14 : decode cX10_cellOf 14 = .ok (.aload_n 0, 1) := by decide +kernel
theorem dX10_cellOf_15 : decode cX10_cellOf 15 = .ok (.iload_n 1, 1) := by decide +kernel
theorem dX10_cellOf_16 : decode cX10_cellOf 16 = .ok (.iaload, 1) := by decide +kernel
theorem dX10_cellOf_17 : decode cX10_cellOf 17 = .ok (.ireturn, 1) := by decide +kernel
theorem dX10_setCell_0 : decode cX10_setCell 0 = .ok (.iload_n 1, 1) := by decide +kernel
theorem dX10_setCell_1 : decode cX10_setCell 1 = .ok (.ifCond .lt 13, 3) := by decide +kernel
theorem dX10_setCell_4 : decode cX10_setCell 4 = .ok (.iload_n 1, 1) := by decide +kernel
theorem dX10_setCell_5 : decode cX10_setCell 5 = .ok (.aload_n 0, 1) := by decide +kernel
theorem dX10_setCell_6 : decode cX10_setCell 6 = .ok (.arraylength, 1) := by decide +kernel
theorem dX10_setCell_7 : decode cX10_setCell 7 = .ok (.if_icmp .ge 7, 3) := by decide +kernel
theorem dX10_setCell_10 : decode cX10_setCell 10 = .ok (.aload_n 0, 1) := by decide +kernel
theorem dX10_setCell_11 : decode cX10_setCell 11 = .ok (.iload_n 1, 1) := by decide +kernel
theorem dX10_setCell_12 : decode cX10_setCell 12 = .ok (.iload_n 2, 1) := by decide +kernel
theorem dX10_setCell_13 : decode cX10_setCell 13 = .ok (.iastore, 1) := by decide +kernel
theorem dX10_setCell_14 : decode cX10_setCell 14 = .ok (.return_, 1) := by decide +kernel
theorem dX10_copyCells_0 : decode cX10_copyCells 0 = .ok (.iconst 0, 1) := by decide +kernel
theorem dX10_copyCells_1 : decode cX10_copyCells 1 = .ok (.istore_n 2, 1) := by decide +kernel
theorem dX10_copyCells_2 : decode cX10_copyCells 2 = .ok (.iload_n 2, 1) := by decide +kernel
theorem dX10_copyCells_3 : decode cX10_copyCells 3 = .ok (.aload_n 0, 1) := by decide +kernel
theorem dX10_copyCells_4 : decode cX10_copyCells 4 = .ok (.arraylength, 1) := by decide +kernel
theorem dX10_copyCells_5 : decode cX10_copyCells 5 = .ok (.if_icmp .ge 21, 3) := by decide +kernel
theorem dX10_copyCells_8 : decode cX10_copyCells 8 = .ok (.iload_n 2, 1) := by decide +kernel
theorem dX10_copyCells_9 : decode cX10_copyCells 9 = .ok (.aload_n 1, 1) := by decide +kernel
theorem dX10_copyCells_10 : decode cX10_copyCells 10 = .ok (.arraylength, 1) := by decide +kernel
theorem dX10_copyCells_11 : decode cX10_copyCells 11 = .ok (.if_icmp .ge 15, 3) := by decide +kernel
theorem dX10_copyCells_14 : decode cX10_copyCells 14 = .ok (.aload_n 1, 1) := by decide +kernel
theorem dX10_copyCells_15 : decode cX10_copyCells 15 = .ok (.iload_n 2, 1) := by decide +kernel
theorem dX10_copyCells_16 : decode cX10_copyCells 16 = .ok (.aload_n 0, 1) := by decide +kernel
theorem dX10_copyCells_17 : decode cX10_copyCells 17 = .ok (.iload_n 2, 1) := by decide +kernel
theorem dX10_copyCells_18 : decode cX10_copyCells 18 = .ok (.iaload, 1) := by decide +kernel
theorem dX10_copyCells_19 : decode cX10_copyCells 19 = .ok (.iastore, 1) := by decide +kernel
theorem dX10_copyCells_20 : decode cX10_copyCells 20 = .ok (.iinc 2 1, 3) := by decide +kernel
theorem dX10_copyCells_23 : decode cX10_copyCells 23 = .ok (.goto (-21), 3) := by decide +kernel
theorem dX10_copyCells_26 : decode cX10_copyCells 26 = .ok (.return_, 1) := by decide +kernel
theorem dX10_fillCells_0 : decode cX10_fillCells 0 = .ok (.iconst 0, 1) := by decide +kernel
theorem dX10_fillCells_1 : decode cX10_fillCells 1 = .ok (.istore_n 2, 1) := by decide +kernel
theorem dX10_fillCells_2 : decode cX10_fillCells 2 = .ok (.iload_n 2, 1) := by decide +kernel
theorem dX10_fillCells_3 : decode cX10_fillCells 3 = .ok (.aload_n 0, 1) := by decide +kernel
theorem dX10_fillCells_4 : decode cX10_fillCells 4 = .ok (.arraylength, 1) := by decide +kernel
theorem dX10_fillCells_5 : decode cX10_fillCells 5 = .ok (.if_icmp .ge 13, 3) := by decide +kernel
theorem dX10_fillCells_8 : decode cX10_fillCells 8 = .ok (.aload_n 0, 1) := by decide +kernel
theorem dX10_fillCells_9 : decode cX10_fillCells 9 = .ok (.iload_n 2, 1) := by decide +kernel
theorem dX10_fillCells_10 : decode cX10_fillCells 10 = .ok (.iload_n 1, 1) := by decide +kernel
theorem dX10_fillCells_11 : decode cX10_fillCells 11 = .ok (.iastore, 1) := by decide +kernel
theorem dX10_fillCells_12 : decode cX10_fillCells 12 = .ok (.iinc 2 1, 3) := by decide +kernel
theorem dX10_fillCells_15 : decode cX10_fillCells 15 = .ok (.goto (-13), 3) := by decide +kernel
theorem dX10_fillCells_18 : decode cX10_fillCells 18 = .ok (.return_, 1) := by decide +kernel
theorem dL_cell_0 : decode cL_cell 0 = .ok (.iload_n 1, 1) := by decide +kernel
theorem dL_cell_1 : decode cL_cell 1 = .ok (.aload_n 0, 1) := by decide +kernel
theorem dL_cell_2 : decode cL_cell 2 = .ok (.arraylength, 1) := by decide +kernel
theorem dL_cell_3 : decode cL_cell 3 = .ok (.if_icmp .ge 9, 3) := by decide +kernel
theorem dL_cell_6 : decode cL_cell 6 = .ok (.aload_n 0, 1) := by decide +kernel
theorem dL_cell_7 : decode cL_cell 7 = .ok (.iload_n 1, 1) := by decide +kernel
theorem dL_cell_8 : decode cL_cell 8 = .ok (.iaload, 1) := by decide +kernel
theorem dL_cell_9 : decode cL_cell 9 = .ok (.goto 18, 3) := by decide +kernel
theorem dL_cell_12 : decode cL_cell 12 = .ok (.sipush 7919, 3) := by decide +kernel
theorem dL_cell_15 : decode cL_cell 15 = .ok (.iload_n 1, 1) := by decide +kernel
theorem dL_cell_16 : decode cL_cell 16 = .ok (.sipush 1291, 3) := by decide +kernel
theorem dL_cell_19 : decode cL_cell 19 = .ok (.iadd, 1) := by decide +kernel
theorem dL_cell_20 : decode cL_cell 20 = .ok (.imul, 1) := by decide +kernel
theorem dL_cell_21 : decode cL_cell 21 = .ok (.iload_n 1, 1) := by decide +kernel
theorem dL_cell_22 : decode cL_cell 22 = .ok (.sipush 3761, 3) := by decide +kernel
theorem dL_cell_25 : decode cL_cell 25 = .ok (.iadd, 1) := by decide +kernel
theorem dL_cell_26 : decode cL_cell 26 = .ok (.imul, 1) := by decide +kernel
theorem dL_cell_27 : decode cL_cell 27 = .ok (.ireturn, 1) := by decide +kernel
theorem dL_low_0 : decode cL_low 0 = .ok (.iload_n 0, 1) := by decide +kernel
theorem dL_low_1 : decode cL_low 1 = .ok (.ldc 7, 2) := by decide +kernel
theorem dL_low_3 : decode cL_low 3 = .ok (.iand, 1) := by decide +kernel
theorem dL_low_4 : decode cL_low 4 = .ok (.iload_n 1, 1) := by decide +kernel
theorem dL_low_5 : decode cL_low 5 = .ok (.irem, 1) := by decide +kernel
theorem dL_low_6 : decode cL_low 6 = .ok (.ireturn, 1) := by decide +kernel
theorem dL_does_0 : decode cL_does 0 = .ok (.iload_n 1, 1) := by decide +kernel
theorem dL_does_1 : decode cL_does 1 = .ok (.iconst 5, 1) := by decide +kernel
theorem dL_does_2 : decode cL_does 2 = .ok (.if_icmp .ge 15, 3) := by decide +kernel
theorem dL_does_5 : decode cL_does 5 = .ok (.aload_n 0, 1) := by decide +kernel
theorem dL_does_6 : decode cL_does 6 = .ok (.iload_n 1, 1) := by decide +kernel
theorem dL_does_7 : decode cL_does 7 = .ok (.iload_n 2, 1) := by decide +kernel
theorem dL_does_8 : decode cL_does 8 = .ok (.iload_n 3, 1) := by decide +kernel
theorem dL_does_9 : decode cL_does 9 = .ok (.iload 4, 2) := by decide +kernel
theorem dL_does_11 : decode cL_does 11 = .ok (.invokestatic 8, 3) := by decide +kernel
theorem dL_does_14 : decode cL_does 14 = .ok (.goto 267, 3) := by decide +kernel
theorem dL_does_17 : decode cL_does 17 = .ok (.iload_n 1, 1) := by decide +kernel
theorem dL_does_18 : decode cL_does 18 = .ok (.bipush 15, 2) := by decide +kernel
theorem dL_does_20 : decode cL_does 20 = .ok (.if_icmp .ge 15, 3) := by decide +kernel
theorem dL_does_23 : decode cL_does 23 = .ok (.aload_n 0, 1) := by decide +kernel
theorem dL_does_24 : decode cL_does 24 = .ok (.iload_n 1, 1) := by decide +kernel
theorem dL_does_25 : decode cL_does 25 = .ok (.iload_n 2, 1) := by decide +kernel
theorem dL_does_26 : decode cL_does 26 = .ok (.iload_n 3, 1) := by decide +kernel
theorem dL_does_27 : decode cL_does 27 = .ok (.iload 4, 2) := by decide +kernel
theorem dL_does_29 : decode cL_does 29 = .ok (.invokestatic 14, 3) := by decide +kernel
theorem dL_does_32 : decode cL_does 32 = .ok (.goto 249, 3) := by decide +kernel
theorem dL_does_35 : decode cL_does 35 = .ok (.iload_n 1, 1) := by decide +kernel
theorem dL_does_36 : decode cL_does 36 = .ok (.bipush 15, 2) := by decide +kernel
theorem dL_does_38 : decode cL_does 38 = .ok (.if_icmp .ne 14, 3) := by decide +kernel
theorem dL_does_41 : decode cL_does 41 = .ok (.aload_n 0, 1) := by decide +kernel
theorem dL_does_42 : decode cL_does 42 = .ok (.iload_n 2, 1) := by decide +kernel
theorem dL_does_43 : decode cL_does 43 = .ok (.iload_n 3, 1) := by decide +kernel
theorem dL_does_44 : decode cL_does 44 = .ok (.iload 4, 2) := by decide +kernel
theorem dL_does_46 : decode cL_does 46 = .ok (.invokevirtual 17, 3) := by decide +kernel
theorem dL_does_49 : decode cL_does 49 = .ok (.goto 232, 3) := by decide +kernel
theorem dL_does_52 : decode cL_does 52 = .ok (.iload_n 1, 1) := by decide +kernel
theorem dL_does_53 : decode cL_does 53 = .ok (.bipush 16, 2) := by decide +kernel
theorem dL_does_55 : decode cL_does 55 = .ok (.if_icmp .ne 14, 3) := by decide +kernel
theorem dL_does_58 : decode cL_does 58 = .ok (.aload_n 0, 1) := by decide +kernel
theorem dL_does_59 : decode cL_does 59 = .ok (.iload_n 2, 1) := by decide +kernel
theorem dL_does_60 : decode cL_does 60 = .ok (.iload_n 3, 1) := by decide +kernel
theorem dL_does_61 : decode cL_does 61 = .ok (.iload 4, 2) := by decide +kernel
theorem dL_does_63 : decode cL_does 63 = .ok (.invokevirtual 23, 3) := by decide +kernel
theorem dL_does_66 : decode cL_does 66 = .ok (.goto 215, 3) := by decide +kernel
theorem dL_does_69 : decode cL_does 69 = .ok (.iload_n 1, 1) := by decide +kernel
theorem dL_does_70 : decode cL_does 70 = .ok (.bipush 17, 2) := by decide +kernel
theorem dL_does_72 : decode cL_does 72 = .ok (.if_icmp .ne 23, 3) := by decide +kernel
theorem dL_does_75 : decode cL_does 75 = .ok (.aload_n 0, 1) := by decide +kernel
theorem dL_does_76 : decode cL_does 76 = .ok (.iload_n 2, 1) := by decide +kernel
theorem dL_does_77 : decode cL_does 77 = .ok (.iload_n 3, 1) := by decide +kernel
theorem dL_does_78 : decode cL_does 78 = .ok (.iload 4, 2) := by decide +kernel
theorem dL_does_80 : decode cL_does 80 = .ok (.iconst 1, 1) := by decide +kernel
theorem dL_does_81 : decode cL_does 81 = .ok (.if_icmp .ne 7, 3) := by decide +kernel
theorem dL_does_84 : decode cL_does 84 = .ok (.iconst 1, 1) := by decide +kernel
theorem dL_does_85 : decode cL_does 85 = .ok (.goto 4, 3) := by decide +kernel
theorem dL_does_88 : decode cL_does 88 = .ok (.iconst 0, 1) := by decide +kernel
theorem dL_does_89 : decode cL_does 89 = .ok (.invokevirtual 26, 3) := by decide +kernel
theorem dL_does_92 : decode cL_does 92 = .ok (.goto 189, 3) := by decide +kernel
theorem dL_does_95 : decode cL_does 95 = .ok (.iload_n 1, 1) := by decide +kernel
theorem dL_does_96 : decode cL_does 96 = .ok (.bipush 18, 2) := by decide +kernel
theorem dL_does_98 : decode cL_does 98 = .ok (.if_icmp .ne 23, 3) := by decide +kernel
theorem dL_does_101 : decode cL_does 101 = .ok (.aload_n 0, 1) := by decide +kernel
theorem dL_does_102 : decode cL_does 102 = .ok (.iload_n 2, 1) := by decide +kernel
theorem dL_does_103 : decode cL_does 103 = .ok (.iload_n 3, 1) := by decide +kernel
theorem dL_does_104 : decode cL_does 104 = .ok (.iload 4, 2) := by decide +kernel
theorem dL_does_106 : decode cL_does 106 = .ok (.iconst 1, 1) := by decide +kernel
theorem dL_does_107 : decode cL_does 107 = .ok (.if_icmp .ne 7, 3) := by decide +kernel
theorem dL_does_110 : decode cL_does 110 = .ok (.iconst 1, 1) := by decide +kernel
theorem dL_does_111 : decode cL_does 111 = .ok (.goto 4, 3) := by decide +kernel
theorem dL_does_114 : decode cL_does 114 = .ok (.iconst 0, 1) := by decide +kernel
theorem dL_does_115 : decode cL_does 115 = .ok (.invokevirtual 30, 3) := by decide +kernel
theorem dL_does_118 : decode cL_does 118 = .ok (.goto 163, 3) := by decide +kernel
theorem dL_does_121 : decode cL_does 121 = .ok (.iload_n 1, 1) := by decide +kernel
theorem dL_does_122 : decode cL_does 122 = .ok (.bipush 19, 2) := by decide +kernel
theorem dL_does_124 : decode cL_does 124 = .ok (.if_icmp .ne 14, 3) := by decide +kernel
theorem dL_does_127 : decode cL_does 127 = .ok (.aload_n 0, 1) := by decide +kernel
theorem dL_does_128 : decode cL_does 128 = .ok (.iload_n 2, 1) := by decide +kernel
theorem dL_does_129 : decode cL_does 129 = .ok (.iload_n 3, 1) := by decide +kernel
theorem dL_does_130 : decode cL_does 130 = .ok (.iload 4, 2) := by decide +kernel
theorem dL_does_132 : decode cL_does 132 = .ok (.invokevirtual 33, 3) := by decide +kernel
theorem dL_does_135 : decode cL_does 135 = .ok (.goto 146, 3) := by decide +kernel
theorem dL_does_138 : decode cL_does 138 = .ok (.iload_n 1, 1) := by decide +kernel
theorem dL_does_139 : decode cL_does 139 = .ok (.bipush 20, 2) := by decide +kernel
theorem dL_does_141 : decode cL_does 141 = .ok (.if_icmp .ne 14, 3) := by decide +kernel
theorem dL_does_144 : decode cL_does 144 = .ok (.aload_n 0, 1) := by decide +kernel
theorem dL_does_145 : decode cL_does 145 = .ok (.iload_n 2, 1) := by decide +kernel
theorem dL_does_146 : decode cL_does 146 = .ok (.iload_n 3, 1) := by decide +kernel
theorem dL_does_147 : decode cL_does 147 = .ok (.iload 4, 2) := by decide +kernel
theorem dL_does_149 : decode cL_does 149 = .ok (.invokevirtual 36, 3) := by decide +kernel
theorem dL_does_152 : decode cL_does 152 = .ok (.goto 129, 3) := by decide +kernel
theorem dL_does_155 : decode cL_does 155 = .ok (.iload_n 1, 1) := by decide +kernel
theorem dL_does_156 : decode cL_does 156 = .ok (.bipush 21, 2) := by decide +kernel
theorem dL_does_158 : decode cL_does 158 = .ok (.if_icmp .ne 14, 3) := by decide +kernel
theorem dL_does_161 : decode cL_does 161 = .ok (.aload_n 0, 1) := by decide +kernel
theorem dL_does_162 : decode cL_does 162 = .ok (.iload_n 2, 1) := by decide +kernel
theorem dL_does_163 : decode cL_does 163 = .ok (.iload_n 3, 1) := by decide +kernel
theorem dL_does_164 : decode cL_does 164 = .ok (.iload 4, 2) := by decide +kernel
theorem dL_does_166 : decode cL_does 166 = .ok (.invokevirtual 39, 3) := by decide +kernel
theorem dL_does_169 : decode cL_does 169 = .ok (.goto 112, 3) := by decide +kernel
theorem dL_does_172 : decode cL_does 172 = .ok (.iload_n 1, 1) := by decide +kernel
theorem dL_does_173 : decode cL_does 173 = .ok (.bipush 22, 2) := by decide +kernel
theorem dL_does_175 : decode cL_does 175 = .ok (.if_icmp .ne 10, 3) := by decide +kernel
theorem dL_does_178 : decode cL_does 178 = .ok (.aload_n 0, 1) := by decide +kernel
theorem dL_does_179 : decode cL_does 179 = .ok (.invokevirtual 42, 3) := by decide +kernel
theorem dL_does_182 : decode cL_does 182 = .ok (.goto 99, 3) := by decide +kernel
theorem dL_does_185 : decode cL_does 185 = .ok (.iload_n 1, 1) := by decide +kernel
theorem dL_does_186 : decode cL_does 186 = .ok (.bipush 23, 2) := by decide +kernel
theorem dL_does_188 : decode cL_does 188 = .ok (.if_icmp .ne 12, 3) := by decide +kernel
theorem dL_does_191 : decode cL_does 191 = .ok (.aload_n 0, 1) := by decide +kernel
theorem dL_does_192 : decode cL_does 192 = .ok (.iload_n 2, 1) := by decide +kernel
theorem dL_does_193 : decode cL_does 193 = .ok (.iload_n 3, 1) := by decide +kernel
theorem dL_does_194 : decode cL_does 194 = .ok (.invokevirtual 46, 3) := by decide +kernel
theorem dL_does_197 : decode cL_does 197 = .ok (.goto 84, 3) := by decide +kernel
theorem dL_does_200 : decode cL_does 200 = .ok (.iload_n 1, 1) := by decide +kernel
theorem dL_does_201 : decode cL_does 201 = .ok (.bipush 24, 2) := by decide +kernel
theorem dL_does_203 : decode cL_does 203 = .ok (.if_icmp .ne 23, 3) := by decide +kernel
theorem dL_does_206 : decode cL_does 206 = .ok (.aload_n 0, 1) := by decide +kernel
theorem dL_does_207 : decode cL_does 207 = .ok (.iload_n 2, 1) := by decide +kernel
theorem dL_does_208 : decode cL_does 208 = .ok (.iload_n 3, 1) := by decide +kernel
theorem dL_does_209 : decode cL_does 209 = .ok (.iload 4, 2) := by decide +kernel
theorem dL_does_211 : decode cL_does 211 = .ok (.iconst 1, 1) := by decide +kernel
theorem dL_does_212 : decode cL_does 212 = .ok (.if_icmp .ne 7, 3) := by decide +kernel
theorem dL_does_215 : decode cL_does 215 = .ok (.iconst 1, 1) := by decide +kernel
theorem dL_does_216 : decode cL_does 216 = .ok (.goto 4, 3) := by decide +kernel
theorem dL_does_219 : decode cL_does 219 = .ok (.iconst 0, 1) := by decide +kernel
theorem dL_does_220 : decode cL_does 220 = .ok (.invokevirtual 50, 3) := by decide +kernel
theorem dL_does_223 : decode cL_does 223 = .ok (.goto 58, 3) := by decide +kernel
theorem dL_does_226 : decode cL_does 226 = .ok (.iload_n 1, 1) := by decide +kernel
theorem dL_does_227 : decode cL_does 227 = .ok (.bipush 25, 2) := by decide +kernel
theorem dL_does_229 : decode cL_does 229 = .ok (.if_icmp .ne 12, 3) := by decide +kernel
theorem dL_does_232 : decode cL_does 232 = .ok (.aload_n 0, 1) := by decide +kernel
theorem dL_does_233 : decode cL_does 233 = .ok (.iload_n 2, 1) := by decide +kernel
theorem dL_does_234 : decode cL_does 234 = .ok (.iload_n 3, 1) := by decide +kernel
theorem dL_does_235 : decode cL_does 235 = .ok (.invokevirtual 53, 3) := by decide +kernel
theorem dL_does_238 : decode cL_does 238 = .ok (.goto 43, 3) := by decide +kernel
theorem dL_does_241 : decode cL_does 241 = .ok (.iload_n 1, 1) := by decide +kernel
theorem dL_does_242 : decode cL_does 242 = .ok (.bipush 26, 2) := by decide +kernel
theorem dL_does_244 : decode cL_does 244 = .ok (.if_icmp .ne 18, 3) := by decide +kernel
theorem dL_does_247 : decode cL_does 247 = .ok (.aload_n 0, 1) := by decide +kernel
theorem dL_does_248 : decode cL_does 248 = .ok (.iload_n 2, 1) := by decide +kernel
theorem dL_does_249 : decode cL_does 249 = .ok (.iload_n 3, 1) := by decide +kernel
theorem dL_does_250 : decode cL_does 250 = .ok (.iload 4, 2) := by decide +kernel
theorem dL_does_252 : decode cL_does 252 = .ok (.bipush 22, 2) := by decide +kernel
theorem dL_does_254 : decode cL_does 254 = .ok (.ldc 56, 2) := by decide +kernel
theorem dL_does_256 : decode cL_does 256 = .ok (.invokevirtual 57, 3) := by decide +kernel
theorem dL_does_259 : decode cL_does 259 = .ok (.goto 22, 3) := by decide +kernel
theorem dL_does_262 : decode cL_does 262 = .ok (.iload_n 1, 1) := by decide +kernel
theorem dL_does_263 : decode cL_does 263 = .ok (.bipush 27, 2) := by decide +kernel
theorem dL_does_265 : decode cL_does 265 = .ok (.if_icmp .ne 11, 3) := by decide +kernel
theorem dL_does_268 : decode cL_does 268 = .ok (.aload_n 0, 1) := by decide +kernel
theorem dL_does_269 : decode cL_does 269 = .ok (.iload_n 2, 1) := by decide +kernel
theorem dL_does_270 : decode cL_does 270 = .ok (.invokevirtual 61, 3) := by decide +kernel
theorem dL_does_273 : decode cL_does 273 = .ok (.goto 8, 3) := by decide +kernel
theorem dL_does_276 : decode cL_does 276 = .ok (.aload_n 0, 1) := by decide +kernel
theorem dL_does_277 : decode cL_does 277 = .ok (.iload_n 2, 1) := by decide +kernel
theorem dL_does_278 : decode cL_does 278 = .ok (.invokevirtual 65, 3) := by decide +kernel
theorem dL_does_281 : decode cL_does 281 = .ok (.ireturn, 1) := by decide +kernel
theorem dL_does_282 : decode cL_does 282 = .ok (.astore 5, 2) := by decide +kernel
theorem dL_does_284 : decode cL_does 284 = .ok (.ldc 70, 2) := by decide +kernel
theorem dL_does_286 : decode cL_does 286 = .ok (.ireturn, 1) := by decide +kernel
theorem dL_does_287 : decode cL_does 287 = .ok (.astore 5, 2) := by decide +kernel
theorem dL_does_289 : decode cL_does 289 = .ok (.ldc 70, 2) := by decide +kernel
theorem dL_does_291 : decode cL_does 291 = .ok (.ireturn, 1) := by decide +kernel
theorem dL_does_292 : decode cL_does 292 = .ok (.astore 5, 2) := by decide +kernel
theorem dL_does_294 : decode cL_does 294 = .ok (.ldc 70, 2) := by decide +kernel
theorem dL_does_296 : decode cL_does 296 = .ok (.ireturn, 1) := by decide +kernel
theorem dL_tells_0 : decode cL_tells 0 = .ok (.iload_n 1, 1) := by decide +kernel
theorem dL_tells_1 : decode cL_tells 1 = .ok (.ifCond .ne 31, 3) := by decide +kernel
theorem dL_tells_4 : decode cL_tells 4 = .ok (.aload_n 0, 1) := by decide +kernel
theorem dL_tells_5 : decode cL_tells 5 = .ok (.iload_n 2, 1) := by decide +kernel
theorem dL_tells_6 : decode cL_tells 6 = .ok (.iload_n 3, 1) := by decide +kernel
theorem dL_tells_7 : decode cL_tells 7 = .ok (.iload 4, 2) := by decide +kernel
theorem dL_tells_9 : decode cL_tells 9 = .ok (.sipush 1000, 3) := by decide +kernel
theorem dL_tells_12 : decode cL_tells 12 = .ok (.idiv, 1) := by decide +kernel
theorem dL_tells_13 : decode cL_tells 13 = .ok (.iload 4, 2) := by decide +kernel
theorem dL_tells_15 : decode cL_tells 15 = .ok (.bipush 100, 2) := by decide +kernel
theorem dL_tells_17 : decode cL_tells 17 = .ok (.idiv, 1) := by decide +kernel
theorem dL_tells_18 : decode cL_tells 18 = .ok (.bipush 10, 2) := by decide +kernel
theorem dL_tells_20 : decode cL_tells 20 = .ok (.irem, 1) := by decide +kernel
theorem dL_tells_21 : decode cL_tells 21 = .ok (.iload 4, 2) := by decide +kernel
theorem dL_tells_23 : decode cL_tells 23 = .ok (.bipush 100, 2) := by decide +kernel
theorem dL_tells_25 : decode cL_tells 25 = .ok (.irem, 1) := by decide +kernel
theorem dL_tells_26 : decode cL_tells 26 = .ok (.invokevirtual 75, 3) := by decide +kernel
theorem dL_tells_29 : decode cL_tells 29 = .ok (.goto 74, 3) := by decide +kernel
theorem dL_tells_32 : decode cL_tells 32 = .ok (.iload_n 1, 1) := by decide +kernel
theorem dL_tells_33 : decode cL_tells 33 = .ok (.iconst 1, 1) := by decide +kernel
theorem dL_tells_34 : decode cL_tells 34 = .ok (.if_icmp .ne 14, 3) := by decide +kernel
theorem dL_tells_37 : decode cL_tells 37 = .ok (.aload_n 0, 1) := by decide +kernel
theorem dL_tells_38 : decode cL_tells 38 = .ok (.iload_n 2, 1) := by decide +kernel
theorem dL_tells_39 : decode cL_tells 39 = .ok (.iload_n 3, 1) := by decide +kernel
theorem dL_tells_40 : decode cL_tells 40 = .ok (.iload 4, 2) := by decide +kernel
theorem dL_tells_42 : decode cL_tells 42 = .ok (.invokevirtual 79, 3) := by decide +kernel
theorem dL_tells_45 : decode cL_tells 45 = .ok (.goto 58, 3) := by decide +kernel
theorem dL_tells_48 : decode cL_tells 48 = .ok (.iload_n 1, 1) := by decide +kernel
theorem dL_tells_49 : decode cL_tells 49 = .ok (.iconst 2, 1) := by decide +kernel
theorem dL_tells_50 : decode cL_tells 50 = .ok (.if_icmp .ne 14, 3) := by decide +kernel
theorem dL_tells_53 : decode cL_tells 53 = .ok (.aload_n 0, 1) := by decide +kernel
theorem dL_tells_54 : decode cL_tells 54 = .ok (.iload_n 2, 1) := by decide +kernel
theorem dL_tells_55 : decode cL_tells 55 = .ok (.iload_n 3, 1) := by decide +kernel
theorem dL_tells_56 : decode cL_tells 56 = .ok (.iload 4, 2) := by decide +kernel
theorem dL_tells_58 : decode cL_tells 58 = .ok (.invokevirtual 83, 3) := by decide +kernel
theorem dL_tells_61 : decode cL_tells 61 = .ok (.goto 42, 3) := by decide +kernel
theorem dL_tells_64 : decode cL_tells 64 = .ok (.iload_n 1, 1) := by decide +kernel
theorem dL_tells_65 : decode cL_tells 65 = .ok (.iconst 3, 1) := by decide +kernel
theorem dL_tells_66 : decode cL_tells 66 = .ok (.if_icmp .ne 12, 3) := by decide +kernel
theorem dL_tells_69 : decode cL_tells 69 = .ok (.aload_n 0, 1) := by decide +kernel
theorem dL_tells_70 : decode cL_tells 70 = .ok (.iload_n 2, 1) := by decide +kernel
theorem dL_tells_71 : decode cL_tells 71 = .ok (.iload_n 3, 1) := by decide +kernel
theorem dL_tells_72 : decode cL_tells 72 = .ok (.invokevirtual 86, 3) := by decide +kernel
theorem dL_tells_75 : decode cL_tells 75 = .ok (.goto 28, 3) := by decide +kernel
theorem dL_tells_78 : decode cL_tells 78 = .ok (.aload_n 0, 1) := by decide +kernel
theorem dL_tells_79 : decode cL_tells 79 = .ok (.iload_n 2, 1) := by decide +kernel
theorem dL_tells_80 : decode cL_tells 80 = .ok (.sipush 1000, 3) := by decide +kernel
theorem dL_tells_83 : decode cL_tells 83 = .ok (.idiv, 1) := by decide +kernel
theorem dL_tells_84 : decode cL_tells 84 = .ok (.iload_n 2, 1) := by decide +kernel
theorem dL_tells_85 : decode cL_tells 85 = .ok (.sipush 1000, 3) := by decide +kernel
theorem dL_tells_88 : decode cL_tells 88 = .ok (.irem, 1) := by decide +kernel
theorem dL_tells_89 : decode cL_tells 89 = .ok (.iload_n 3, 1) := by decide +kernel
theorem dL_tells_90 : decode cL_tells 90 = .ok (.iload 4, 2) := by decide +kernel
theorem dL_tells_92 : decode cL_tells 92 = .ok (.bipush 10, 2) := by decide +kernel
theorem dL_tells_94 : decode cL_tells 94 = .ok (.idiv, 1) := by decide +kernel
theorem dL_tells_95 : decode cL_tells 95 = .ok (.iload 4, 2) := by decide +kernel
theorem dL_tells_97 : decode cL_tells 97 = .ok (.bipush 10, 2) := by decide +kernel
theorem dL_tells_99 : decode cL_tells 99 = .ok (.irem, 1) := by decide +kernel
theorem dL_tells_100 : decode cL_tells 100 = .ok (.invokevirtual 90, 3) := by decide +kernel
theorem dL_tells_103 : decode cL_tells 103 = .ok (.iconst 0, 1) := by decide +kernel
theorem dL_tells_104 : decode cL_tells 104 = .ok (.ireturn, 1) := by decide +kernel
theorem dL_first_0 : decode cL_first 0 = .ok (.iload_n 1, 1) := by decide +kernel
theorem dL_first_1 : decode cL_first 1 = .ok (.bipush 8, 2) := by decide +kernel
theorem dL_first_3 : decode cL_first 3 = .ok (.if_icmp .ne 10, 3) := by decide +kernel
theorem dL_first_6 : decode cL_first 6 = .ok (.aload_n 0, 1) := by decide +kernel
theorem dL_first_7 : decode cL_first 7 = .ok (.iload_n 2, 1) := by decide +kernel
theorem dL_first_8 : decode cL_first 8 = .ok (.invokevirtual 93, 3) := by decide +kernel
theorem dL_first_11 : decode cL_first 11 = .ok (.iconst 0, 1) := by decide +kernel
theorem dL_first_12 : decode cL_first 12 = .ok (.ireturn, 1) := by decide +kernel
theorem dL_first_13 : decode cL_first 13 = .ok (.iload_n 1, 1) := by decide +kernel
theorem dL_first_14 : decode cL_first 14 = .ok (.iconst 5, 1) := by decide +kernel
theorem dL_first_15 : decode cL_first 15 = .ok (.if_icmp .ne 11, 3) := by decide +kernel
theorem dL_first_18 : decode cL_first 18 = .ok (.aload_n 0, 1) := by decide +kernel
theorem dL_first_19 : decode cL_first 19 = .ok (.iload_n 2, 1) := by decide +kernel
theorem dL_first_20 : decode cL_first 20 = .ok (.invokevirtual 97, 3) := by decide +kernel
theorem dL_first_23 : decode cL_first 23 = .ok (.goto 142, 3) := by decide +kernel
theorem dL_first_26 : decode cL_first 26 = .ok (.iload_n 1, 1) := by decide +kernel
theorem dL_first_27 : decode cL_first 27 = .ok (.bipush 6, 2) := by decide +kernel
theorem dL_first_29 : decode cL_first 29 = .ok (.if_icmp .ne 34, 3) := by decide +kernel
theorem dL_first_32 : decode cL_first 32 = .ok (.aload_n 0, 1) := by decide +kernel
theorem dL_first_33 : decode cL_first 33 = .ok (.iload_n 2, 1) := by decide +kernel
theorem dL_first_34 : decode cL_first 34 = .ok (.iload_n 3, 1) := by decide +kernel
theorem dL_first_35 : decode cL_first 35 = .ok (.sipush 1000, 3) := by decide +kernel
theorem dL_first_38 : decode cL_first 38 = .ok (.idiv, 1) := by decide +kernel
theorem dL_first_39 : decode cL_first 39 = .ok (.iload_n 3, 1) := by decide +kernel
theorem dL_first_40 : decode cL_first 40 = .ok (.bipush 100, 2) := by decide +kernel
theorem dL_first_42 : decode cL_first 42 = .ok (.idiv, 1) := by decide +kernel
theorem dL_first_43 : decode cL_first 43 = .ok (.bipush 10, 2) := by decide +kernel
theorem dL_first_45 : decode cL_first 45 = .ok (.irem, 1) := by decide +kernel
theorem dL_first_46 : decode cL_first 46 = .ok (.iload_n 3, 1) := by decide +kernel
theorem dL_first_47 : decode cL_first 47 = .ok (.bipush 10, 2) := by decide +kernel
theorem dL_first_49 : decode cL_first 49 = .ok (.idiv, 1) := by decide +kernel
theorem dL_first_50 : decode cL_first 50 = .ok (.bipush 10, 2) := by decide +kernel
theorem dL_first_52 : decode cL_first 52 = .ok (.irem, 1) := by decide +kernel
theorem dL_first_53 : decode cL_first 53 = .ok (.iload_n 3, 1) := by decide +kernel
theorem dL_first_54 : decode cL_first 54 = .ok (.bipush 10, 2) := by decide +kernel
theorem dL_first_56 : decode cL_first 56 = .ok (.irem, 1) := by decide +kernel
theorem dL_first_57 : decode cL_first 57 = .ok (.invokevirtual 100, 3) := by decide +kernel
theorem dL_first_60 : decode cL_first 60 = .ok (.goto 105, 3) := by decide +kernel
theorem dL_first_63 : decode cL_first 63 = .ok (.iload_n 1, 1) := by decide +kernel
theorem dL_first_64 : decode cL_first 64 = .ok (.bipush 7, 2) := by decide +kernel
theorem dL_first_66 : decode cL_first 66 = .ok (.if_icmp .ne 10, 3) := by decide +kernel
theorem dL_first_69 : decode cL_first 69 = .ok (.aload_n 0, 1) := by decide +kernel
theorem dL_first_70 : decode cL_first 70 = .ok (.invokevirtual 103, 3) := by decide +kernel
theorem dL_first_73 : decode cL_first 73 = .ok (.goto 92, 3) := by decide +kernel
theorem dL_first_76 : decode cL_first 76 = .ok (.iload_n 1, 1) := by decide +kernel
theorem dL_first_77 : decode cL_first 77 = .ok (.bipush 9, 2) := by decide +kernel
theorem dL_first_79 : decode cL_first 79 = .ok (.if_icmp .ne 12, 3) := by decide +kernel
theorem dL_first_82 : decode cL_first 82 = .ok (.aload_n 0, 1) := by decide +kernel
theorem dL_first_83 : decode cL_first 83 = .ok (.iload_n 2, 1) := by decide +kernel
theorem dL_first_84 : decode cL_first 84 = .ok (.iload_n 3, 1) := by decide +kernel
theorem dL_first_85 : decode cL_first 85 = .ok (.invokevirtual 106, 3) := by decide +kernel
theorem dL_first_88 : decode cL_first 88 = .ok (.goto 77, 3) := by decide +kernel
theorem dL_first_91 : decode cL_first 91 = .ok (.iload_n 1, 1) := by decide +kernel
theorem dL_first_92 : decode cL_first 92 = .ok (.bipush 10, 2) := by decide +kernel
theorem dL_first_94 : decode cL_first 94 = .ok (.if_icmp .ne 11, 3) := by decide +kernel
theorem dL_first_97 : decode cL_first 97 = .ok (.aload_n 0, 1) := by decide +kernel
theorem dL_first_98 : decode cL_first 98 = .ok (.iload_n 2, 1) := by decide +kernel
theorem dL_first_99 : decode cL_first 99 = .ok (.invokevirtual 109, 3) := by decide +kernel
theorem dL_first_102 : decode cL_first 102 = .ok (.goto 63, 3) := by decide +kernel
theorem dL_first_105 : decode cL_first 105 = .ok (.iload_n 1, 1) := by decide +kernel
theorem dL_first_106 : decode cL_first 106 = .ok (.bipush 11, 2) := by decide +kernel
theorem dL_first_108 : decode cL_first 108 = .ok (.if_icmp .ne 12, 3) := by decide +kernel
theorem dL_first_111 : decode cL_first 111 = .ok (.aload_n 0, 1) := by decide +kernel
theorem dL_first_112 : decode cL_first 112 = .ok (.iload_n 2, 1) := by decide +kernel
theorem dL_first_113 : decode cL_first 113 = .ok (.iload_n 3, 1) := by decide +kernel
theorem dL_first_114 : decode cL_first 114 = .ok (.invokevirtual 112, 3) := by decide +kernel
theorem dL_first_117 : decode cL_first 117 = .ok (.goto 48, 3) := by decide +kernel
theorem dL_first_120 : decode cL_first 120 = .ok (.iload_n 1, 1) := by decide +kernel
theorem dL_first_121 : decode cL_first 121 = .ok (.bipush 12, 2) := by decide +kernel
theorem dL_first_123 : decode cL_first 123 = .ok (.if_icmp .ne 14, 3) := by decide +kernel
theorem dL_first_126 : decode cL_first 126 = .ok (.aload_n 0, 1) := by decide +kernel
theorem dL_first_127 : decode cL_first 127 = .ok (.iload_n 2, 1) := by decide +kernel
theorem dL_first_128 : decode cL_first 128 = .ok (.iload_n 3, 1) := by decide +kernel
theorem dL_first_129 : decode cL_first 129 = .ok (.iload 4, 2) := by decide +kernel
theorem dL_first_131 : decode cL_first 131 = .ok (.invokevirtual 115, 3) := by decide +kernel
theorem dL_first_134 : decode cL_first 134 = .ok (.goto 31, 3) := by decide +kernel
theorem dL_first_137 : decode cL_first 137 = .ok (.iload_n 1, 1) := by decide +kernel
theorem dL_first_138 : decode cL_first 138 = .ok (.bipush 13, 2) := by decide +kernel
theorem dL_first_140 : decode cL_first 140 = .ok (.if_icmp .ne 20, 3) := by decide +kernel
theorem dL_first_143 : decode cL_first 143 = .ok (.aload_n 0, 1) := by decide +kernel
theorem dL_first_144 : decode cL_first 144 = .ok (.iload_n 2, 1) := by decide +kernel
theorem dL_first_145 : decode cL_first 145 = .ok (.iload_n 3, 1) := by decide +kernel
theorem dL_first_146 : decode cL_first 146 = .ok (.invokevirtual 118, 3) := by decide +kernel
theorem dL_first_149 : decode cL_first 149 = .ok (.ifCond .eq 7, 3) := by decide +kernel
theorem dL_first_152 : decode cL_first 152 = .ok (.iconst 1, 1) := by decide +kernel
theorem dL_first_153 : decode cL_first 153 = .ok (.goto 12, 3) := by decide +kernel
theorem dL_first_156 : decode cL_first 156 = .ok (.iconst 0, 1) := by decide +kernel
theorem dL_first_157 : decode cL_first 157 = .ok (.goto 8, 3) := by decide +kernel
theorem dL_first_160 : decode cL_first 160 = .ok (.aload_n 0, 1) := by decide +kernel
theorem dL_first_161 : decode cL_first 161 = .ok (.iload_n 2, 1) := by decide +kernel
theorem dL_first_162 : decode cL_first 162 = .ok (.invokevirtual 122, 3) := by decide +kernel
theorem dL_first_165 : decode cL_first 165 = .ok (.ireturn, 1) := by decide +kernel
theorem dL_more_0 : decode cL_more 0 = .ok (.iload_n 1, 1) := by decide +kernel
theorem dL_more_1 : decode cL_more 1 = .ok (.ifCond .ne 19, 3) := by decide +kernel
theorem dL_more_4 : decode cL_more 4 = .ok (.aload_n 0, 1) := by decide +kernel
theorem dL_more_5 : decode cL_more 5 = .ok (.iconst 0, 1) := by decide +kernel
theorem dL_more_6 : decode cL_more 6 = .ok (.iload_n 2, 1) := by decide +kernel
theorem dL_more_7 : decode cL_more 7 = .ok (.iload_n 3, 1) := by decide +kernel
theorem dL_more_8 : decode cL_more 8 = .ok (.iload 4, 2) := by decide +kernel
theorem dL_more_10 : decode cL_more 10 = .ok (.iload 5, 2) := by decide +kernel
theorem dL_more_12 : decode cL_more 12 = .ok (.iload 6, 2) := by decide +kernel
theorem dL_more_14 : decode cL_more 14 = .ok (.invokevirtual 125, 3) := by decide +kernel
theorem dL_more_17 : decode cL_more 17 = .ok (.goto 32, 3) := by decide +kernel
theorem dL_more_20 : decode cL_more 20 = .ok (.aload_n 0, 1) := by decide +kernel
theorem dL_more_21 : decode cL_more 21 = .ok (.iconst 0, 1) := by decide +kernel
theorem dL_more_22 : decode cL_more 22 = .ok (.iload_n 2, 1) := by decide +kernel
theorem dL_more_23 : decode cL_more 23 = .ok (.iload_n 3, 1) := by decide +kernel
theorem dL_more_24 : decode cL_more 24 = .ok (.iload 4, 2) := by decide +kernel
theorem dL_more_26 : decode cL_more 26 = .ok (.bipush 100, 2) := by decide +kernel
theorem dL_more_28 : decode cL_more 28 = .ok (.irem, 1) := by decide +kernel
theorem dL_more_29 : decode cL_more 29 = .ok (.iload 4, 2) := by decide +kernel
theorem dL_more_31 : decode cL_more 31 = .ok (.bipush 100, 2) := by decide +kernel
theorem dL_more_33 : decode cL_more 33 = .ok (.idiv, 1) := by decide +kernel
theorem dL_more_34 : decode cL_more 34 = .ok (.iload 5, 2) := by decide +kernel
theorem dL_more_36 : decode cL_more 36 = .ok (.iload 6, 2) := by decide +kernel
theorem dL_more_38 : decode cL_more 38 = .ok (.bipush 100, 2) := by decide +kernel
theorem dL_more_40 : decode cL_more 40 = .ok (.irem, 1) := by decide +kernel
theorem dL_more_41 : decode cL_more 41 = .ok (.iload 6, 2) := by decide +kernel
theorem dL_more_43 : decode cL_more 43 = .ok (.bipush 100, 2) := by decide +kernel
theorem dL_more_45 : decode cL_more 45 = .ok (.idiv, 1) := by decide +kernel
theorem dL_more_46 : decode cL_more 46 = .ok (.invokevirtual 129, 3) := by decide +kernel
theorem dL_more_49 : decode cL_more 49 = .ok (.ireturn, 1) := by decide +kernel
theorem dL_more_50 : decode cL_more 50 = .ok (.astore 7, 2) := by decide +kernel
theorem dL_more_52 : decode cL_more 52 = .ok (.ldc 70, 2) := by decide +kernel
theorem dL_more_54 : decode cL_more 54 = .ok (.ireturn, 1) := by decide +kernel
theorem dL_more_55 : decode cL_more 55 = .ok (.astore 7, 2) := by decide +kernel
theorem dL_more_57 : decode cL_more 57 = .ok (.ldc 70, 2) := by decide +kernel
theorem dL_more_59 : decode cL_more 59 = .ok (.ireturn, 1) := by decide +kernel
theorem dL_more_60 : decode cL_more 60 = .ok (.astore 7, 2) := by decide +kernel
theorem dL_more_62 : decode cL_more 62 = .ok (.ldc 70, 2) := by decide +kernel
theorem dL_more_64 : decode cL_more 64 = .ok (.ireturn, 1) := by decide +kernel
theorem dL_feed_0 : decode cL_feed 0 = .ok (.aload_n 0, 1) := by decide +kernel
theorem dL_feed_1 : decode cL_feed 1 = .ok (.lload_n 1, 1) := by decide +kernel
theorem dL_feed_2 : decode cL_feed 2 = .ok (.iload_n 3, 1) := by decide +kernel
theorem dL_feed_3 : decode cL_feed 3 = .ok (.invokevirtual 133, 3) := by decide +kernel
theorem dL_feed_6 : decode cL_feed 6 = .ok (.ireturn, 1) := by decide +kernel
theorem dL_feed_7 : decode cL_feed 7 = .ok (.astore 4, 2) := by decide +kernel
theorem dL_feed_9 : decode cL_feed 9 = .ok (.ldc 70, 2) := by decide +kernel
theorem dL_feed_11 : decode cL_feed 11 = .ok (.ireturn, 1) := by decide +kernel
theorem dL_feed_12 : decode cL_feed 12 = .ok (.astore 4, 2) := by decide +kernel
theorem dL_feed_14 : decode cL_feed 14 = .ok (.ldc 70, 2) := by decide +kernel
theorem dL_feed_16 : decode cL_feed 16 = .ok (.ireturn, 1) := by decide +kernel
theorem dL_act_0 : decode cL_act 0 = .ok (.iload_n 1, 1) := by decide +kernel
theorem dL_act_1 : decode cL_act 1 = .ok (.bipush 18, 2) := by decide +kernel
theorem dL_act_3 : decode cL_act 3 = .ok (.ishr, 1) := by decide +kernel
theorem dL_act_4 : decode cL_act 4 = .ok (.bipush 7, 2) := by decide +kernel
theorem dL_act_6 : decode cL_act 6 = .ok (.iand, 1) := by decide +kernel
theorem dL_act_7 : decode cL_act 7 = .ok (.bipush 7, 2) := by decide +kernel
theorem dL_act_9 : decode cL_act 9 = .ok (.if_icmp .ne 7, 3) := by decide +kernel
theorem dL_act_12 : decode cL_act 12 = .ok (.iconst 1, 1) := by decide +kernel
theorem dL_act_13 : decode cL_act 13 = .ok (.goto 4, 3) := by decide +kernel
theorem dL_act_16 : decode cL_act 16 = .ok (.iconst 0, 1) := by decide +kernel
theorem dL_act_17 : decode cL_act 17 = .ok (.istore_n 2, 1) := by decide +kernel
theorem dL_act_18 : decode cL_act 18 = .ok (.iload_n 1, 1) := by decide +kernel
theorem dL_act_19 : decode cL_act 19 = .ok (.bipush 56, 2) := by decide +kernel
theorem dL_act_21 : decode cL_act 21 = .ok (.invokestatic 137, 3) := by decide +kernel
theorem dL_act_24 : decode cL_act 24 = .ok (.istore_n 3, 1) := by decide +kernel
theorem dL_act_25 : decode cL_act 25 = .ok (.iload_n 2, 1) := by decide +kernel
theorem dL_act_26 : decode cL_act 26 = .ok (.ifCond .eq 17, 3) := by decide +kernel
theorem dL_act_29 : decode cL_act 29 = .ok (.iload_n 1, 1) := by decide +kernel
theorem dL_act_30 : decode cL_act 30 = .ok (.bipush 6, 2) := by decide +kernel
theorem dL_act_32 : decode cL_act 32 = .ok (.ishr, 1) := by decide +kernel
theorem dL_act_33 : decode cL_act 33 = .ok (.bipush 110, 2) := by decide +kernel
theorem dL_act_35 : decode cL_act 35 = .ok (.invokestatic 137, 3) := by decide +kernel
theorem dL_act_38 : decode cL_act 38 = .ok (.iconst 5, 1) := by decide +kernel
theorem dL_act_39 : decode cL_act 39 = .ok (.isub, 1) := by decide +kernel
theorem dL_act_40 : decode cL_act 40 = .ok (.goto 12, 3) := by decide +kernel
theorem dL_act_43 : decode cL_act 43 = .ok (.iload_n 1, 1) := by decide +kernel
theorem dL_act_44 : decode cL_act 44 = .ok (.bipush 6, 2) := by decide +kernel
theorem dL_act_46 : decode cL_act 46 = .ok (.ishr, 1) := by decide +kernel
theorem dL_act_47 : decode cL_act 47 = .ok (.bipush 16, 2) := by decide +kernel
theorem dL_act_49 : decode cL_act 49 = .ok (.invokestatic 137, 3) := by decide +kernel
theorem dL_act_52 : decode cL_act 52 = .ok (.istore 4, 2) := by decide +kernel
theorem dL_act_54 : decode cL_act 54 = .ok (.iload_n 2, 1) := by decide +kernel
theorem dL_act_55 : decode cL_act 55 = .ok (.ifCond .eq 17, 3) := by decide +kernel
theorem dL_act_58 : decode cL_act 58 = .ok (.iload_n 1, 1) := by decide +kernel
theorem dL_act_59 : decode cL_act 59 = .ok (.bipush 10, 2) := by decide +kernel
theorem dL_act_61 : decode cL_act 61 = .ok (.ishr, 1) := by decide +kernel
theorem dL_act_62 : decode cL_act 62 = .ok (.bipush 110, 2) := by decide +kernel
theorem dL_act_64 : decode cL_act 64 = .ok (.invokestatic 137, 3) := by decide +kernel
theorem dL_act_67 : decode cL_act 67 = .ok (.iconst 5, 1) := by decide +kernel
theorem dL_act_68 : decode cL_act 68 = .ok (.isub, 1) := by decide +kernel
theorem dL_act_69 : decode cL_act 69 = .ok (.goto 12, 3) := by decide +kernel
theorem dL_act_72 : decode cL_act 72 = .ok (.iload_n 1, 1) := by decide +kernel
theorem dL_act_73 : decode cL_act 73 = .ok (.bipush 10, 2) := by decide +kernel
theorem dL_act_75 : decode cL_act 75 = .ok (.ishr, 1) := by decide +kernel
theorem dL_act_76 : decode cL_act 76 = .ok (.bipush 16, 2) := by decide +kernel
theorem dL_act_78 : decode cL_act 78 = .ok (.invokestatic 137, 3) := by decide +kernel
theorem dL_act_81 : decode cL_act 81 = .ok (.istore 5, 2) := by decide +kernel
theorem dL_act_83 : decode cL_act 83 = .ok (.iload_n 2, 1) := by decide +kernel
theorem dL_act_84 : decode cL_act 84 = .ok (.ifCond .eq 16, 3) := by decide +kernel
theorem dL_act_87 : decode cL_act 87 = .ok (.iload_n 1, 1) := by decide +kernel
theorem dL_act_88 : decode cL_act 88 = .ok (.iconst 5, 1) := by decide +kernel
theorem dL_act_89 : decode cL_act 89 = .ok (.ishr, 1) := by decide +kernel
theorem dL_act_90 : decode cL_act 90 = .ok (.bipush 9, 2) := by decide +kernel
theorem dL_act_92 : decode cL_act 92 = .ok (.invokestatic 137, 3) := by decide +kernel
theorem dL_act_95 : decode cL_act 95 = .ok (.iconst 1, 1) := by decide +kernel
theorem dL_act_96 : decode cL_act 96 = .ok (.isub, 1) := by decide +kernel
theorem dL_act_97 : decode cL_act 97 = .ok (.goto 10, 3) := by decide +kernel
theorem dL_act_100 : decode cL_act 100 = .ok (.iload_n 1, 1) := by decide +kernel
theorem dL_act_101 : decode cL_act 101 = .ok (.iconst 5, 1) := by decide +kernel
theorem dL_act_102 : decode cL_act 102 = .ok (.ishr, 1) := by decide +kernel
theorem dL_act_103 : decode cL_act 103 = .ok (.iconst 3, 1) := by decide +kernel
theorem dL_act_104 : decode cL_act 104 = .ok (.invokestatic 137, 3) := by decide +kernel
theorem dL_act_107 : decode cL_act 107 = .ok (.istore 6, 2) := by decide +kernel
theorem dL_act_109 : decode cL_act 109 = .ok (.iload_n 3, 1) := by decide +kernel
theorem dL_act_110 : decode cL_act 110 = .ok (.bipush 14, 2) := by decide +kernel
theorem dL_act_112 : decode cL_act 112 = .ok (.if_icmp .ge 153, 3) := by decide +kernel
theorem dL_act_115 : decode cL_act 115 = .ok (.iload_n 3, 1) := by decide +kernel
theorem dL_act_116 : decode cL_act 116 = .ok (.bipush 9, 2) := by decide +kernel
theorem dL_act_118 : decode cL_act 118 = .ok (.if_icmp .ge 90, 3) := by decide +kernel
theorem dL_act_121 : decode cL_act 121 = .ok (.aload_n 0, 1) := by decide +kernel
theorem dL_act_122 : decode cL_act 122 = .ok (.iconst 0, 1) := by decide +kernel
theorem dL_act_123 : decode cL_act 123 = .ok (.iload 4, 2) := by decide +kernel
theorem dL_act_125 : decode cL_act 125 = .ok (.iload_n 1, 1) := by decide +kernel
theorem dL_act_126 : decode cL_act 126 = .ok (.iconst 4, 1) := by decide +kernel
theorem dL_act_127 : decode cL_act 127 = .ok (.ishr, 1) := by decide +kernel
theorem dL_act_128 : decode cL_act 128 = .ok (.iconst 1, 1) := by decide +kernel
theorem dL_act_129 : decode cL_act 129 = .ok (.iand, 1) := by decide +kernel
theorem dL_act_130 : decode cL_act 130 = .ok (.ifCond .ne 7, 3) := by decide +kernel
theorem dL_act_133 : decode cL_act 133 = .ok (.iconst 0, 1) := by decide +kernel
theorem dL_act_134 : decode cL_act 134 = .ok (.goto 20, 3) := by decide +kernel
theorem dL_act_137 : decode cL_act 137 = .ok (.iload_n 1, 1) := by decide +kernel
theorem dL_act_138 : decode cL_act 138 = .ok (.bipush 7, 2) := by decide +kernel
theorem dL_act_140 : decode cL_act 140 = .ok (.ishr, 1) := by decide +kernel
theorem dL_act_141 : decode cL_act 141 = .ok (.iload_n 2, 1) := by decide +kernel
theorem dL_act_142 : decode cL_act 142 = .ok (.ifCond .eq 8, 3) := by decide +kernel
theorem dL_act_145 : decode cL_act 145 = .ok (.bipush 14, 2) := by decide +kernel
theorem dL_act_147 : decode cL_act 147 = .ok (.goto 4, 3) := by decide +kernel
theorem dL_act_150 : decode cL_act 150 = .ok (.iconst 4, 1) := by decide +kernel
theorem dL_act_151 : decode cL_act 151 = .ok (.invokestatic 137, 3) := by decide +kernel
theorem dL_act_154 : decode cL_act 154 = .ok (.sipush 1000, 3) := by decide +kernel
theorem dL_act_157 : decode cL_act 157 = .ok (.iload_n 1, 1) := by decide +kernel
theorem dL_act_158 : decode cL_act 158 = .ok (.bipush 9, 2) := by decide +kernel
theorem dL_act_160 : decode cL_act 160 = .ok (.ishr, 1) := by decide +kernel
theorem dL_act_161 : decode cL_act 161 = .ok (.bipush 14, 2) := by decide +kernel
theorem dL_act_163 : decode cL_act 163 = .ok (.invokestatic 137, 3) := by decide +kernel
theorem dL_act_166 : decode cL_act 166 = .ok (.bipush 11, 2) := by decide +kernel
theorem dL_act_168 : decode cL_act 168 = .ok (.irem, 1) := by decide +kernel
theorem dL_act_169 : decode cL_act 169 = .ok (.imul, 1) := by decide +kernel
theorem dL_act_170 : decode cL_act 170 = .ok (.bipush 100, 2) := by decide +kernel
theorem dL_act_172 : decode cL_act 172 = .ok (.iload_n 1, 1) := by decide +kernel
theorem dL_act_173 : decode cL_act 173 = .ok (.bipush 11, 2) := by decide +kernel
theorem dL_act_175 : decode cL_act 175 = .ok (.ishr, 1) := by decide +kernel
theorem dL_act_176 : decode cL_act 176 = .ok (.iload_n 2, 1) := by decide +kernel
theorem dL_act_177 : decode cL_act 177 = .ok (.ifCond .eq 8, 3) := by decide +kernel
theorem dL_act_180 : decode cL_act 180 = .ok (.bipush 9, 2) := by decide +kernel
theorem dL_act_182 : decode cL_act 182 = .ok (.goto 5, 3) := by decide +kernel
theorem dL_act_185 : decode cL_act 185 = .ok (.bipush 7, 2) := by decide +kernel
theorem dL_act_187 : decode cL_act 187 = .ok (.invokestatic 137, 3) := by decide +kernel
theorem dL_act_190 : decode cL_act 190 = .ok (.imul, 1) := by decide +kernel
theorem dL_act_191 : decode cL_act 191 = .ok (.iadd, 1) := by decide +kernel
theorem dL_act_192 : decode cL_act 192 = .ok (.iload_n 1, 1) := by decide +kernel
theorem dL_act_193 : decode cL_act 193 = .ok (.bipush 8, 2) := by decide +kernel
theorem dL_act_195 : decode cL_act 195 = .ok (.ishr, 1) := by decide +kernel
theorem dL_act_196 : decode cL_act 196 = .ok (.bipush 16, 2) := by decide +kernel
theorem dL_act_198 : decode cL_act 198 = .ok (.invokestatic 137, 3) := by decide +kernel
theorem dL_act_201 : decode cL_act 201 = .ok (.iadd, 1) := by decide +kernel
theorem dL_act_202 : decode cL_act 202 = .ok (.invokestatic 140, 3) := by decide +kernel
theorem dL_act_205 : decode cL_act 205 = .ok (.goto 59, 3) := by decide +kernel
theorem dL_act_208 : decode cL_act 208 = .ok (.iload_n 3, 1) := by decide +kernel
theorem dL_act_209 : decode cL_act 209 = .ok (.bipush 12, 2) := by decide +kernel
theorem dL_act_211 : decode cL_act 211 = .ok (.if_icmp .ge 24, 3) := by decide +kernel
theorem dL_act_214 : decode cL_act 214 = .ok (.aload_n 0, 1) := by decide +kernel
theorem dL_act_215 : decode cL_act 215 = .ok (.iconst 1, 1) := by decide +kernel
theorem dL_act_216 : decode cL_act 216 = .ok (.iload 4, 2) := by decide +kernel
theorem dL_act_218 : decode cL_act 218 = .ok (.iload 5, 2) := by decide +kernel
theorem dL_act_220 : decode cL_act 220 = .ok (.iload_n 1, 1) := by decide +kernel
theorem dL_act_221 : decode cL_act 221 = .ok (.bipush 12, 2) := by decide +kernel
theorem dL_act_223 : decode cL_act 223 = .ok (.ishr, 1) := by decide +kernel
theorem dL_act_224 : decode cL_act 224 = .ok (.bipush 16, 2) := by decide +kernel
theorem dL_act_226 : decode cL_act 226 = .ok (.invokestatic 137, 3) := by decide +kernel
theorem dL_act_229 : decode cL_act 229 = .ok (.invokestatic 140, 3) := by decide +kernel
theorem dL_act_232 : decode cL_act 232 = .ok (.goto 32, 3) := by decide +kernel
theorem dL_act_235 : decode cL_act 235 = .ok (.iload_n 3, 1) := by decide +kernel
theorem dL_act_236 : decode cL_act 236 = .ok (.bipush 12, 2) := by decide +kernel
theorem dL_act_238 : decode cL_act 238 = .ok (.if_icmp .ne 16, 3) := by decide +kernel
theorem dL_act_241 : decode cL_act 241 = .ok (.aload_n 0, 1) := by decide +kernel
theorem dL_act_242 : decode cL_act 242 = .ok (.iconst 3, 1) := by decide +kernel
theorem dL_act_243 : decode cL_act 243 = .ok (.iload 4, 2) := by decide +kernel
theorem dL_act_245 : decode cL_act 245 = .ok (.iload 5, 2) := by decide +kernel
theorem dL_act_247 : decode cL_act 247 = .ok (.iconst 0, 1) := by decide +kernel
theorem dL_act_248 : decode cL_act 248 = .ok (.invokestatic 140, 3) := by decide +kernel
theorem dL_act_251 : decode cL_act 251 = .ok (.goto 13, 3) := by decide +kernel
theorem dL_act_254 : decode cL_act 254 = .ok (.aload_n 0, 1) := by decide +kernel
theorem dL_act_255 : decode cL_act 255 = .ok (.iconst 2, 1) := by decide +kernel
theorem dL_act_256 : decode cL_act 256 = .ok (.iload 4, 2) := by decide +kernel
theorem dL_act_258 : decode cL_act 258 = .ok (.iload 5, 2) := by decide +kernel
theorem dL_act_260 : decode cL_act 260 = .ok (.iconst (-1), 1) := by decide +kernel
theorem dL_act_261 : decode cL_act 261 = .ok (.invokestatic 140, 3) := by decide +kernel
theorem dL_act_264 : decode cL_act 264 = .ok (.ireturn, 1) := by decide +kernel
theorem dL_act_265 : decode cL_act 265 = .ok (.iload_n 3, 1) := by decide +kernel
theorem dL_act_266 : decode cL_act 266 = .ok (.bipush 20, 2) := by decide +kernel
theorem dL_act_268 : decode cL_act 268 = .ok (.if_icmp .ge 168, 3) := by decide +kernel
theorem dL_act_271 : decode cL_act 271 = .ok (.iload_n 3, 1) := by decide +kernel
theorem dL_act_272 : decode cL_act 272 = .ok (.bipush 16, 2) := by decide +kernel
theorem dL_act_274 : decode cL_act 274 = .ok (.if_icmp .ge 26, 3) := by decide +kernel
theorem dL_act_277 : decode cL_act 277 = .ok (.aload_n 0, 1) := by decide +kernel
theorem dL_act_278 : decode cL_act 278 = .ok (.iconst 2, 1) := by decide +kernel
theorem dL_act_279 : decode cL_act 279 = .ok (.iload 4, 2) := by decide +kernel
theorem dL_act_281 : decode cL_act 281 = .ok (.iload 5, 2) := by decide +kernel
theorem dL_act_283 : decode cL_act 283 = .ok (.iload_n 1, 1) := by decide +kernel
theorem dL_act_284 : decode cL_act 284 = .ok (.bipush 12, 2) := by decide +kernel
theorem dL_act_286 : decode cL_act 286 = .ok (.ishr, 1) := by decide +kernel
theorem dL_act_287 : decode cL_act 287 = .ok (.bipush 17, 2) := by decide +kernel
theorem dL_act_289 : decode cL_act 289 = .ok (.invokestatic 137, 3) := by decide +kernel
theorem dL_act_292 : decode cL_act 292 = .ok (.iconst 1, 1) := by decide +kernel
theorem dL_act_293 : decode cL_act 293 = .ok (.isub, 1) := by decide +kernel
theorem dL_act_294 : decode cL_act 294 = .ok (.invokestatic 140, 3) := by decide +kernel
theorem dL_act_297 : decode cL_act 297 = .ok (.goto 138, 3) := by decide +kernel
theorem dL_act_300 : decode cL_act 300 = .ok (.iload_n 3, 1) := by decide +kernel
theorem dL_act_301 : decode cL_act 301 = .ok (.bipush 18, 2) := by decide +kernel
theorem dL_act_303 : decode cL_act 303 = .ok (.if_icmp .ge 40, 3) := by decide +kernel
theorem dL_act_306 : decode cL_act 306 = .ok (.aload_n 0, 1) := by decide +kernel
theorem dL_act_307 : decode cL_act 307 = .ok (.iconst 4, 1) := by decide +kernel
theorem dL_act_308 : decode cL_act 308 = .ok (.iload 4, 2) := by decide +kernel
theorem dL_act_310 : decode cL_act 310 = .ok (.iload_n 1, 1) := by decide +kernel
theorem dL_act_311 : decode cL_act 311 = .ok (.bipush 9, 2) := by decide +kernel
theorem dL_act_313 : decode cL_act 313 = .ok (.ishr, 1) := by decide +kernel
theorem dL_act_314 : decode cL_act 314 = .ok (.iload_n 2, 1) := by decide +kernel
theorem dL_act_315 : decode cL_act 315 = .ok (.ifCond .eq 9, 3) := by decide +kernel
theorem dL_act_318 : decode cL_act 318 = .ok (.sipush 140, 3) := by decide +kernel
theorem dL_act_321 : decode cL_act 321 = .ok (.goto 5, 3) := by decide +kernel
theorem dL_act_324 : decode cL_act 324 = .ok (.bipush 100, 2) := by decide +kernel
theorem dL_act_326 : decode cL_act 326 = .ok (.invokestatic 137, 3) := by decide +kernel
theorem dL_act_329 : decode cL_act 329 = .ok (.iload_n 1, 1) := by decide +kernel
theorem dL_act_330 : decode cL_act 330 = .ok (.iconst 5, 1) := by decide +kernel
theorem dL_act_331 : decode cL_act 331 = .ok (.ishr, 1) := by decide +kernel
theorem dL_act_332 : decode cL_act 332 = .ok (.bipush 100, 2) := by decide +kernel
theorem dL_act_334 : decode cL_act 334 = .ok (.invokestatic 137, 3) := by decide +kernel
theorem dL_act_337 : decode cL_act 337 = .ok (.invokestatic 140, 3) := by decide +kernel
theorem dL_act_340 : decode cL_act 340 = .ok (.goto 95, 3) := by decide +kernel
theorem dL_act_343 : decode cL_act 343 = .ok (.iload_n 3, 1) := by decide +kernel
theorem dL_act_344 : decode cL_act 344 = .ok (.bipush 18, 2) := by decide +kernel
theorem dL_act_346 : decode cL_act 346 = .ok (.if_icmp .ne 43, 3) := by decide +kernel
theorem dL_act_349 : decode cL_act 349 = .ok (.aload_n 0, 1) := by decide +kernel
theorem dL_act_350 : decode cL_act 350 = .ok (.iconst 0, 1) := by decide +kernel
theorem dL_act_351 : decode cL_act 351 = .ok (.iload 4, 2) := by decide +kernel
theorem dL_act_353 : decode cL_act 353 = .ok (.iload 5, 2) := by decide +kernel
theorem dL_act_355 : decode cL_act 355 = .ok (.iload_n 1, 1) := by decide +kernel
theorem dL_act_356 : decode cL_act 356 = .ok (.bipush 9, 2) := by decide +kernel
theorem dL_act_358 : decode cL_act 358 = .ok (.ishr, 1) := by decide +kernel
theorem dL_act_359 : decode cL_act 359 = .ok (.iload_n 2, 1) := by decide +kernel
theorem dL_act_360 : decode cL_act 360 = .ok (.ifCond .eq 9, 3) := by decide +kernel
theorem dL_act_363 : decode cL_act 363 = .ok (.sipush 140, 3) := by decide +kernel
theorem dL_act_366 : decode cL_act 366 = .ok (.goto 5, 3) := by decide +kernel
theorem dL_act_369 : decode cL_act 369 = .ok (.bipush 100, 2) := by decide +kernel
theorem dL_act_371 : decode cL_act 371 = .ok (.invokestatic 137, 3) := by decide +kernel
theorem dL_act_374 : decode cL_act 374 = .ok (.iconst 1, 1) := by decide +kernel
theorem dL_act_375 : decode cL_act 375 = .ok (.iload_n 1, 1) := by decide +kernel
theorem dL_act_376 : decode cL_act 376 = .ok (.iconst 5, 1) := by decide +kernel
theorem dL_act_377 : decode cL_act 377 = .ok (.ishr, 1) := by decide +kernel
theorem dL_act_378 : decode cL_act 378 = .ok (.bipush 10, 2) := by decide +kernel
theorem dL_act_380 : decode cL_act 380 = .ok (.invokestatic 137, 3) := by decide +kernel
theorem dL_act_383 : decode cL_act 383 = .ok (.invokestatic 143, 3) := by decide +kernel
theorem dL_act_386 : decode cL_act 386 = .ok (.goto 49, 3) := by decide +kernel
theorem dL_act_389 : decode cL_act 389 = .ok (.aload_n 0, 1) := by decide +kernel
theorem dL_act_390 : decode cL_act 390 = .ok (.iconst 1, 1) := by decide +kernel
theorem dL_act_391 : decode cL_act 391 = .ok (.iload_n 1, 1) := by decide +kernel
theorem dL_act_392 : decode cL_act 392 = .ok (.bipush 7, 2) := by decide +kernel
theorem dL_act_394 : decode cL_act 394 = .ok (.ishr, 1) := by decide +kernel
theorem dL_act_395 : decode cL_act 395 = .ok (.iload_n 2, 1) := by decide +kernel
theorem dL_act_396 : decode cL_act 396 = .ok (.ifCond .eq 7, 3) := by decide +kernel
theorem dL_act_399 : decode cL_act 399 = .ok (.iconst 5, 1) := by decide +kernel
theorem dL_act_400 : decode cL_act 400 = .ok (.goto 4, 3) := by decide +kernel
theorem dL_act_403 : decode cL_act 403 = .ok (.iconst 3, 1) := by decide +kernel
theorem dL_act_404 : decode cL_act 404 = .ok (.invokestatic 137, 3) := by decide +kernel
theorem dL_act_407 : decode cL_act 407 = .ok (.iload_n 1, 1) := by decide +kernel
theorem dL_act_408 : decode cL_act 408 = .ok (.iconst 5, 1) := by decide +kernel
theorem dL_act_409 : decode cL_act 409 = .ok (.ishr, 1) := by decide +kernel
theorem dL_act_410 : decode cL_act 410 = .ok (.bipush 101, 2) := by decide +kernel
theorem dL_act_412 : decode cL_act 412 = .ok (.invokestatic 137, 3) := by decide +kernel
theorem dL_act_415 : decode cL_act 415 = .ok (.iload_n 1, 1) := by decide +kernel
theorem dL_act_416 : decode cL_act 416 = .ok (.bipush 9, 2) := by decide +kernel
theorem dL_act_418 : decode cL_act 418 = .ok (.ishr, 1) := by decide +kernel
theorem dL_act_419 : decode cL_act 419 = .ok (.sipush 10000, 3) := by decide +kernel
theorem dL_act_422 : decode cL_act 422 = .ok (.invokestatic 137, 3) := by decide +kernel
theorem dL_act_425 : decode cL_act 425 = .ok (.iload_n 1, 1) := by decide +kernel
theorem dL_act_426 : decode cL_act 426 = .ok (.bipush 6, 2) := by decide +kernel
theorem dL_act_428 : decode cL_act 428 = .ok (.ishr, 1) := by decide +kernel
theorem dL_act_429 : decode cL_act 429 = .ok (.iconst 1, 1) := by decide +kernel
theorem dL_act_430 : decode cL_act 430 = .ok (.iand, 1) := by decide +kernel
theorem dL_act_431 : decode cL_act 431 = .ok (.iconst 0, 1) := by decide +kernel
theorem dL_act_432 : decode cL_act 432 = .ok (.invokestatic 143, 3) := by decide +kernel
theorem dL_act_435 : decode cL_act 435 = .ok (.ireturn, 1) := by decide +kernel
theorem dL_act_436 : decode cL_act 436 = .ok (.iload_n 3, 1) := by decide +kernel
theorem dL_act_437 : decode cL_act 437 = .ok (.bipush 33, 2) := by decide +kernel
theorem dL_act_439 : decode cL_act 439 = .ok (.if_icmp .ge 34, 3) := by decide +kernel
theorem dL_act_442 : decode cL_act 442 = .ok (.iload_n 3, 1) := by decide +kernel
theorem dL_act_443 : decode cL_act 443 = .ok (.bipush 31, 2) := by decide +kernel
theorem dL_act_445 : decode cL_act 445 = .ok (.if_icmp .ge 17, 3) := by decide +kernel
theorem dL_act_448 : decode cL_act 448 = .ok (.aload_n 0, 1) := by decide +kernel
theorem dL_act_449 : decode cL_act 449 = .ok (.bipush 9, 2) := by decide +kernel
theorem dL_act_451 : decode cL_act 451 = .ok (.iload 6, 2) := by decide +kernel
theorem dL_act_453 : decode cL_act 453 = .ok (.iload 4, 2) := by decide +kernel
theorem dL_act_455 : decode cL_act 455 = .ok (.iconst 0, 1) := by decide +kernel
theorem dL_act_456 : decode cL_act 456 = .ok (.invokestatic 140, 3) := by decide +kernel
theorem dL_act_459 : decode cL_act 459 = .ok (.goto 13, 3) := by decide +kernel
theorem dL_act_462 : decode cL_act 462 = .ok (.aload_n 0, 1) := by decide +kernel
theorem dL_act_463 : decode cL_act 463 = .ok (.bipush 10, 2) := by decide +kernel
theorem dL_act_465 : decode cL_act 465 = .ok (.iload 6, 2) := by decide +kernel
theorem dL_act_467 : decode cL_act 467 = .ok (.iconst 0, 1) := by decide +kernel
theorem dL_act_468 : decode cL_act 468 = .ok (.iconst 0, 1) := by decide +kernel
theorem dL_act_469 : decode cL_act 469 = .ok (.invokestatic 140, 3) := by decide +kernel
theorem dL_act_472 : decode cL_act 472 = .ok (.ireturn, 1) := by decide +kernel
theorem dL_act_473 : decode cL_act 473 = .ok (.iload_n 3, 1) := by decide +kernel
theorem dL_act_474 : decode cL_act 474 = .ok (.bipush 39, 2) := by decide +kernel
theorem dL_act_476 : decode cL_act 476 = .ok (.if_icmp .ge 141, 3) := by decide +kernel
theorem dL_act_479 : decode cL_act 479 = .ok (.iload_n 3, 1) := by decide +kernel
theorem dL_act_480 : decode cL_act 480 = .ok (.bipush 33, 2) := by decide +kernel
theorem dL_act_482 : decode cL_act 482 = .ok (.if_icmp .ne 15, 3) := by decide +kernel
theorem dL_act_485 : decode cL_act 485 = .ok (.aload_n 0, 1) := by decide +kernel
theorem dL_act_486 : decode cL_act 486 = .ok (.iconst 5, 1) := by decide +kernel
theorem dL_act_487 : decode cL_act 487 = .ok (.iload 6, 2) := by decide +kernel
theorem dL_act_489 : decode cL_act 489 = .ok (.iconst 0, 1) := by decide +kernel
theorem dL_act_490 : decode cL_act 490 = .ok (.iconst 0, 1) := by decide +kernel
theorem dL_act_491 : decode cL_act 491 = .ok (.invokestatic 140, 3) := by decide +kernel
theorem dL_act_494 : decode cL_act 494 = .ok (.goto 122, 3) := by decide +kernel
theorem dL_act_497 : decode cL_act 497 = .ok (.iload_n 3, 1) := by decide +kernel
theorem dL_act_498 : decode cL_act 498 = .ok (.bipush 34, 2) := by decide +kernel
theorem dL_act_500 : decode cL_act 500 = .ok (.if_icmp .ne 57, 3) := by decide +kernel
theorem dL_act_503 : decode cL_act 503 = .ok (.aload_n 0, 1) := by decide +kernel
theorem dL_act_504 : decode cL_act 504 = .ok (.bipush 6, 2) := by decide +kernel
theorem dL_act_506 : decode cL_act 506 = .ok (.iload_n 1, 1) := by decide +kernel
theorem dL_act_507 : decode cL_act 507 = .ok (.bipush 8, 2) := by decide +kernel
theorem dL_act_509 : decode cL_act 509 = .ok (.ishr, 1) := by decide +kernel
theorem dL_act_510 : decode cL_act 510 = .ok (.iconst 1, 1) := by decide +kernel
theorem dL_act_511 : decode cL_act 511 = .ok (.iand, 1) := by decide +kernel
theorem dL_act_512 : decode cL_act 512 = .ok (.iload_n 1, 1) := by decide +kernel
theorem dL_act_513 : decode cL_act 513 = .ok (.bipush 9, 2) := by decide +kernel
theorem dL_act_515 : decode cL_act 515 = .ok (.ishr, 1) := by decide +kernel
theorem dL_act_516 : decode cL_act 516 = .ok (.bipush 6, 2) := by decide +kernel
theorem dL_act_518 : decode cL_act 518 = .ok (.invokestatic 137, 3) := by decide +kernel
theorem dL_act_521 : decode cL_act 521 = .ok (.sipush 1000, 3) := by decide +kernel
theorem dL_act_524 : decode cL_act 524 = .ok (.imul, 1) := by decide +kernel
theorem dL_act_525 : decode cL_act 525 = .ok (.iload_n 1, 1) := by decide +kernel
theorem dL_act_526 : decode cL_act 526 = .ok (.bipush 7, 2) := by decide +kernel
theorem dL_act_528 : decode cL_act 528 = .ok (.ishr, 1) := by decide +kernel
theorem dL_act_529 : decode cL_act 529 = .ok (.iconst 3, 1) := by decide +kernel
theorem dL_act_530 : decode cL_act 530 = .ok (.invokestatic 137, 3) := by decide +kernel
theorem dL_act_533 : decode cL_act 533 = .ok (.bipush 100, 2) := by decide +kernel
theorem dL_act_535 : decode cL_act 535 = .ok (.imul, 1) := by decide +kernel
theorem dL_act_536 : decode cL_act 536 = .ok (.iadd, 1) := by decide +kernel
theorem dL_act_537 : decode cL_act 537 = .ok (.bipush 30, 2) := by decide +kernel
theorem dL_act_539 : decode cL_act 539 = .ok (.iadd, 1) := by decide +kernel
theorem dL_act_540 : decode cL_act 540 = .ok (.iload_n 1, 1) := by decide +kernel
theorem dL_act_541 : decode cL_act 541 = .ok (.bipush 6, 2) := by decide +kernel
theorem dL_act_543 : decode cL_act 543 = .ok (.ishr, 1) := by decide +kernel
theorem dL_act_544 : decode cL_act 544 = .ok (.bipush 6, 2) := by decide +kernel
theorem dL_act_546 : decode cL_act 546 = .ok (.invokestatic 137, 3) := by decide +kernel
theorem dL_act_549 : decode cL_act 549 = .ok (.iadd, 1) := by decide +kernel
theorem dL_act_550 : decode cL_act 550 = .ok (.iconst 0, 1) := by decide +kernel
theorem dL_act_551 : decode cL_act 551 = .ok (.invokestatic 140, 3) := by decide +kernel
theorem dL_act_554 : decode cL_act 554 = .ok (.goto 62, 3) := by decide +kernel
theorem dL_act_557 : decode cL_act 557 = .ok (.iload_n 3, 1) := by decide +kernel
theorem dL_act_558 : decode cL_act 558 = .ok (.bipush 37, 2) := by decide +kernel
theorem dL_act_560 : decode cL_act 560 = .ok (.if_icmp .ge 32, 3) := by decide +kernel
theorem dL_act_563 : decode cL_act 563 = .ok (.aload_n 0, 1) := by decide +kernel
theorem dL_act_564 : decode cL_act 564 = .ok (.bipush 12, 2) := by decide +kernel
theorem dL_act_566 : decode cL_act 566 = .ok (.iload 6, 2) := by decide +kernel
theorem dL_act_568 : decode cL_act 568 = .ok (.iload_n 1, 1) := by decide +kernel
theorem dL_act_569 : decode cL_act 569 = .ok (.bipush 7, 2) := by decide +kernel
theorem dL_act_571 : decode cL_act 571 = .ok (.ishr, 1) := by decide +kernel
theorem dL_act_572 : decode cL_act 572 = .ok (.iload_n 2, 1) := by decide +kernel
theorem dL_act_573 : decode cL_act 573 = .ok (.ifCond .eq 8, 3) := by decide +kernel
theorem dL_act_576 : decode cL_act 576 = .ok (.bipush 6, 2) := by decide +kernel
theorem dL_act_578 : decode cL_act 578 = .ok (.goto 4, 3) := by decide +kernel
theorem dL_act_581 : decode cL_act 581 = .ok (.iconst 4, 1) := by decide +kernel
theorem dL_act_582 : decode cL_act 582 = .ok (.invokestatic 137, 3) := by decide +kernel
theorem dL_act_585 : decode cL_act 585 = .ok (.iconst 4, 1) := by decide +kernel
theorem dL_act_586 : decode cL_act 586 = .ok (.invokestatic 140, 3) := by decide +kernel
theorem dL_act_589 : decode cL_act 589 = .ok (.goto 27, 3) := by decide +kernel
theorem dL_act_592 : decode cL_act 592 = .ok (.aload_n 0, 1) := by decide +kernel
theorem dL_act_593 : decode cL_act 593 = .ok (.bipush 24, 2) := by decide +kernel
theorem dL_act_595 : decode cL_act 595 = .ok (.iload 6, 2) := by decide +kernel
theorem dL_act_597 : decode cL_act 597 = .ok (.iload_n 2, 1) := by decide +kernel
theorem dL_act_598 : decode cL_act 598 = .ok (.ifCond .eq 8, 3) := by decide +kernel
theorem dL_act_601 : decode cL_act 601 = .ok (.iload 6, 2) := by decide +kernel
theorem dL_act_603 : decode cL_act 603 = .ok (.goto 4, 3) := by decide +kernel
theorem dL_act_606 : decode cL_act 606 = .ok (.iconst 5, 1) := by decide +kernel
theorem dL_act_607 : decode cL_act 607 = .ok (.iload_n 1, 1) := by decide +kernel
theorem dL_act_608 : decode cL_act 608 = .ok (.bipush 7, 2) := by decide +kernel
theorem dL_act_610 : decode cL_act 610 = .ok (.ishr, 1) := by decide +kernel
theorem dL_act_611 : decode cL_act 611 = .ok (.iconst 1, 1) := by decide +kernel
theorem dL_act_612 : decode cL_act 612 = .ok (.iand, 1) := by decide +kernel
theorem dL_act_613 : decode cL_act 613 = .ok (.invokestatic 140, 3) := by decide +kernel
theorem dL_act_616 : decode cL_act 616 = .ok (.ireturn, 1) := by decide +kernel
theorem dL_act_617 : decode cL_act 617 = .ok (.iload_n 3, 1) := by decide +kernel
theorem dL_act_618 : decode cL_act 618 = .ok (.bipush 50, 2) := by decide +kernel
theorem dL_act_620 : decode cL_act 620 = .ok (.if_icmp .ge 260, 3) := by decide +kernel
theorem dL_act_623 : decode cL_act 623 = .ok (.iload_n 1, 1) := by decide +kernel
theorem dL_act_624 : decode cL_act 624 = .ok (.bipush 7, 2) := by decide +kernel
theorem dL_act_626 : decode cL_act 626 = .ok (.ishr, 1) := by decide +kernel
theorem dL_act_627 : decode cL_act 627 = .ok (.bipush 15, 2) := by decide +kernel
theorem dL_act_629 : decode cL_act 629 = .ok (.iand, 1) := by decide +kernel
theorem dL_act_630 : decode cL_act 630 = .ok (.istore 7, 2) := by decide +kernel
theorem dL_act_632 : decode cL_act 632 = .ok (.iload 7, 2) := by decide +kernel
theorem dL_act_634 : decode cL_act 634 = .ok (.ifCond .ne 9, 3) := by decide +kernel
theorem dL_act_637 : decode cL_act 637 = .ok (.ldc2_w 147, 3) := by decide +kernel
theorem dL_act_640 : decode cL_act 640 = .ok (.goto 129, 3) := by decide +kernel
theorem dL_act_643 : decode cL_act 643 = .ok (.iload 7, 2) := by decide +kernel
theorem dL_act_645 : decode cL_act 645 = .ok (.iconst 1, 1) := by decide +kernel
theorem dL_act_646 : decode cL_act 646 = .ok (.if_icmp .ne 9, 3) := by decide +kernel
theorem dL_act_649 : decode cL_act 649 = .ok (.ldc2_w 149, 3) := by decide +kernel
theorem dL_act_652 : decode cL_act 652 = .ok (.goto 117, 3) := by decide +kernel
theorem dL_act_655 : decode cL_act 655 = .ok (.iload 7, 2) := by decide +kernel
theorem dL_act_657 : decode cL_act 657 = .ok (.iconst 2, 1) := by decide +kernel
theorem dL_act_658 : decode cL_act 658 = .ok (.if_icmp .ne 9, 3) := by decide +kernel
theorem dL_act_661 : decode cL_act 661 = .ok (.ldc2_w 151, 3) := by decide +kernel
theorem dL_act_664 : decode cL_act 664 = .ok (.goto 105, 3) := by decide +kernel
theorem dL_act_667 : decode cL_act 667 = .ok (.iload 7, 2) := by decide +kernel
theorem dL_act_669 : decode cL_act 669 = .ok (.iconst 3, 1) := by decide +kernel
theorem dL_act_670 : decode cL_act 670 = .ok (.if_icmp .ne 9, 3) := by decide +kernel
theorem dL_act_673 : decode cL_act 673 = .ok (.ldc2_w 153, 3) := by decide +kernel
theorem dL_act_676 : decode cL_act 676 = .ok (.goto 93, 3) := by decide +kernel
theorem dL_act_679 : decode cL_act 679 = .ok (.iload 7, 2) := by decide +kernel
theorem dL_act_681 : decode cL_act 681 = .ok (.iconst 4, 1) := by decide +kernel
theorem dL_act_682 : decode cL_act 682 = .ok (.if_icmp .ne 9, 3) := by decide +kernel
theorem dL_act_685 : decode cL_act 685 = .ok (.ldc2_w 155, 3) := by decide +kernel
theorem dL_act_688 : decode cL_act 688 = .ok (.goto 81, 3) := by decide +kernel
theorem dL_act_691 : decode cL_act 691 = .ok (.iload 7, 2) := by decide +kernel
theorem dL_act_693 : decode cL_act 693 = .ok (.iconst 5, 1) := by decide +kernel
theorem dL_act_694 : decode cL_act 694 = .ok (.if_icmp .ne 9, 3) := by decide +kernel
theorem dL_act_697 : decode cL_act 697 = .ok (.ldc2_w 157, 3) := by decide +kernel
theorem dL_act_700 : decode cL_act 700 = .ok (.goto 69, 3) := by decide +kernel
theorem dL_act_703 : decode cL_act 703 = .ok (.iload 7, 2) := by decide +kernel
theorem dL_act_705 : decode cL_act 705 = .ok (.bipush 6, 2) := by decide +kernel
theorem dL_act_707 : decode cL_act 707 = .ok (.if_icmp .ne 9, 3) := by decide +kernel
theorem dL_act_710 : decode cL_act 710 = .ok (.ldc2_w 159, 3) := by decide +kernel
theorem dL_act_713 : decode cL_act 713 = .ok (.goto 56, 3) := by decide +kernel
theorem dL_act_716 : decode cL_act 716 = .ok (.iload 7, 2) := by decide +kernel
theorem dL_act_718 : decode cL_act 718 = .ok (.bipush 7, 2) := by decide +kernel
theorem dL_act_720 : decode cL_act 720 = .ok (.if_icmp .ne 9, 3) := by decide +kernel
theorem dL_act_723 : decode cL_act 723 = .ok (.ldc2_w 161, 3) := by decide +kernel
theorem dL_act_726 : decode cL_act 726 = .ok (.goto 43, 3) := by decide +kernel
theorem dL_act_729 : decode cL_act 729 = .ok (.iload 7, 2) := by decide +kernel
theorem dL_act_731 : decode cL_act 731 = .ok (.bipush 8, 2) := by decide +kernel
theorem dL_act_733 : decode cL_act 733 = .ok (.if_icmp .ne 9, 3) := by decide +kernel
theorem dL_act_736 : decode cL_act 736 = .ok (.ldc2_w 163, 3) := by decide +kernel
theorem dL_act_739 : decode cL_act 739 = .ok (.goto 30, 3) := by decide +kernel
theorem dL_act_742 : decode cL_act 742 = .ok (.iload 7, 2) := by decide +kernel
theorem dL_act_744 : decode cL_act 744 = .ok (.bipush 9, 2) := by decide +kernel
theorem dL_act_746 : decode cL_act 746 = .ok (.if_icmp .ne 9, 3) := by decide +kernel
theorem dL_act_749 : decode cL_act 749 = .ok (.ldc2_w 165, 3) := by decide +kernel
theorem dL_act_752 : decode cL_act 752 = .ok (.goto 17, 3) := by decide +kernel
theorem dL_act_755 : decode cL_act 755 = .ok (.ldc2_w 167, 3) := by decide +kernel
theorem dL_act_758 : decode cL_act 758 = .ok (.iload_n 1, 1) := by decide +kernel
theorem dL_act_759 : decode cL_act 759 = .ok (.bipush 11, 2) := by decide +kernel
theorem dL_act_761 : decode cL_act 761 = .ok (.ishr, 1) := by decide +kernel
theorem dL_act_762 : decode cL_act 762 = .ok (.bipush 64, 2) := by decide +kernel
theorem dL_act_764 : decode cL_act 764 = .ok (.invokestatic 137, 3) := by decide +kernel
theorem dL_act_767 : decode cL_act 767 = .ok (.i2l, 1) := by decide +kernel
theorem dL_act_768 : decode cL_act 768 = .ok (.ladd, 1) := by decide +kernel
theorem dL_act_769 : decode cL_act 769 = .ok (.lstore 8, 2) := by decide +kernel
theorem dL_act_771 : decode cL_act 771 = .ok (.iload_n 3, 1) := by decide +kernel
theorem dL_act_772 : decode cL_act 772 = .ok (.bipush 47, 2) := by decide +kernel
theorem dL_act_774 : decode cL_act 774 = .ok (.if_icmp .ge 29, 3) := by decide +kernel
theorem dL_act_777 : decode cL_act 777 = .ok (.aload_n 0, 1) := by decide +kernel
theorem dL_act_778 : decode cL_act 778 = .ok (.lload 8, 2) := by decide +kernel
theorem dL_act_780 : decode cL_act 780 = .ok (.iload_n 2, 1) := by decide +kernel
theorem dL_act_781 : decode cL_act 781 = .ok (.ifCond .eq 15, 3) := by decide +kernel
theorem dL_act_784 : decode cL_act 784 = .ok (.iload_n 1, 1) := by decide +kernel
theorem dL_act_785 : decode cL_act 785 = .ok (.bipush 9, 2) := by decide +kernel
theorem dL_act_787 : decode cL_act 787 = .ok (.ishr, 1) := by decide +kernel
theorem dL_act_788 : decode cL_act 788 = .ok (.bipush 12, 2) := by decide +kernel
theorem dL_act_790 : decode cL_act 790 = .ok (.invokestatic 137, 3) := by decide +kernel
theorem dL_act_793 : decode cL_act 793 = .ok (.goto 4, 3) := by decide +kernel
theorem dL_act_796 : decode cL_act 796 = .ok (.iconst 1, 1) := by decide +kernel
theorem dL_act_797 : decode cL_act 797 = .ok (.invokestatic 169, 3) := by decide +kernel
theorem dL_act_800 : decode cL_act 800 = .ok (.goto 79, 3) := by decide +kernel
theorem dL_act_803 : decode cL_act 803 = .ok (.iload_n 3, 1) := by decide +kernel
theorem dL_act_804 : decode cL_act 804 = .ok (.bipush 47, 2) := by decide +kernel
theorem dL_act_806 : decode cL_act 806 = .ok (.if_icmp .ne 15, 3) := by decide +kernel
theorem dL_act_809 : decode cL_act 809 = .ok (.aload_n 0, 1) := by decide +kernel
theorem dL_act_810 : decode cL_act 810 = .ok (.bipush 22, 2) := by decide +kernel
theorem dL_act_812 : decode cL_act 812 = .ok (.iconst 0, 1) := by decide +kernel
theorem dL_act_813 : decode cL_act 813 = .ok (.iconst 0, 1) := by decide +kernel
theorem dL_act_814 : decode cL_act 814 = .ok (.iconst 0, 1) := by decide +kernel
theorem dL_act_815 : decode cL_act 815 = .ok (.invokestatic 140, 3) := by decide +kernel
theorem dL_act_818 : decode cL_act 818 = .ok (.goto 61, 3) := by decide +kernel
theorem dL_act_821 : decode cL_act 821 = .ok (.iload_n 3, 1) := by decide +kernel
theorem dL_act_822 : decode cL_act 822 = .ok (.bipush 48, 2) := by decide +kernel
theorem dL_act_824 : decode cL_act 824 = .ok (.if_icmp .ne 37, 3) := by decide +kernel
theorem dL_act_827 : decode cL_act 827 = .ok (.aload_n 0, 1) := by decide +kernel
theorem dL_act_828 : decode cL_act 828 = .ok (.bipush 26, 2) := by decide +kernel
theorem dL_act_830 : decode cL_act 830 = .ok (.iload_n 1, 1) := by decide +kernel
theorem dL_act_831 : decode cL_act 831 = .ok (.bipush 9, 2) := by decide +kernel
theorem dL_act_833 : decode cL_act 833 = .ok (.ishr, 1) := by decide +kernel
theorem dL_act_834 : decode cL_act 834 = .ok (.iconst 1, 1) := by decide +kernel
theorem dL_act_835 : decode cL_act 835 = .ok (.iand, 1) := by decide +kernel
theorem dL_act_836 : decode cL_act 836 = .ok (.iload_n 1, 1) := by decide +kernel
theorem dL_act_837 : decode cL_act 837 = .ok (.bipush 7, 2) := by decide +kernel
theorem dL_act_839 : decode cL_act 839 = .ok (.ishr, 1) := by decide +kernel
theorem dL_act_840 : decode cL_act 840 = .ok (.iload_n 2, 1) := by decide +kernel
theorem dL_act_841 : decode cL_act 841 = .ok (.ifCond .eq 8, 3) := by decide +kernel
theorem dL_act_844 : decode cL_act 844 = .ok (.ldc 172, 2) := by decide +kernel
theorem dL_act_846 : decode cL_act 846 = .ok (.goto 5, 3) := by decide +kernel
theorem dL_act_849 : decode cL_act 849 = .ok (.bipush 40, 2) := by decide +kernel
theorem dL_act_851 : decode cL_act 851 = .ok (.invokestatic 137, 3) := by decide +kernel
theorem dL_act_854 : decode cL_act 854 = .ok (.iconst 3, 1) := by decide +kernel
theorem dL_act_855 : decode cL_act 855 = .ok (.invokestatic 140, 3) := by decide +kernel
theorem dL_act_858 : decode cL_act 858 = .ok (.goto 21, 3) := by decide +kernel
theorem dL_act_861 : decode cL_act 861 = .ok (.aload_n 0, 1) := by decide +kernel
theorem dL_act_862 : decode cL_act 862 = .ok (.bipush 28, 2) := by decide +kernel
theorem dL_act_864 : decode cL_act 864 = .ok (.iload_n 2, 1) := by decide +kernel
theorem dL_act_865 : decode cL_act 865 = .ok (.ifCond .eq 8, 3) := by decide +kernel
theorem dL_act_868 : decode cL_act 868 = .ok (.iload 6, 2) := by decide +kernel
theorem dL_act_870 : decode cL_act 870 = .ok (.goto 4, 3) := by decide +kernel
theorem dL_act_873 : decode cL_act 873 = .ok (.iconst 4, 1) := by decide +kernel
theorem dL_act_874 : decode cL_act 874 = .ok (.iconst 0, 1) := by decide +kernel
theorem dL_act_875 : decode cL_act 875 = .ok (.iconst 0, 1) := by decide +kernel
theorem dL_act_876 : decode cL_act 876 = .ok (.invokestatic 140, 3) := by decide +kernel
theorem dL_act_879 : decode cL_act 879 = .ok (.ireturn, 1) := by decide +kernel
theorem dL_act_880 : decode cL_act 880 = .ok (.iload_n 3, 1) := by decide +kernel
theorem dL_act_881 : decode cL_act 881 = .ok (.bipush 50, 2) := by decide +kernel
theorem dL_act_883 : decode cL_act 883 = .ok (.if_icmp .ne 15, 3) := by decide +kernel
theorem dL_act_886 : decode cL_act 886 = .ok (.aload_n 0, 1) := by decide +kernel
theorem dL_act_887 : decode cL_act 887 = .ok (.bipush 7, 2) := by decide +kernel
theorem dL_act_889 : decode cL_act 889 = .ok (.iconst 0, 1) := by decide +kernel
theorem dL_act_890 : decode cL_act 890 = .ok (.iconst 0, 1) := by decide +kernel
theorem dL_act_891 : decode cL_act 891 = .ok (.iconst 0, 1) := by decide +kernel
theorem dL_act_892 : decode cL_act 892 = .ok (.invokestatic 140, 3) := by decide +kernel
theorem dL_act_895 : decode cL_act 895 = .ok (.goto 58, 3) := by decide +kernel
theorem dL_act_898 : decode cL_act 898 = .ok (.iload_n 3, 1) := by decide +kernel
theorem dL_act_899 : decode cL_act 899 = .ok (.bipush 51, 2) := by decide +kernel
theorem dL_act_901 : decode cL_act 901 = .ok (.if_icmp .ne 22, 3) := by decide +kernel
theorem dL_act_904 : decode cL_act 904 = .ok (.aload_n 0, 1) := by decide +kernel
theorem dL_act_905 : decode cL_act 905 = .ok (.bipush 8, 2) := by decide +kernel
theorem dL_act_907 : decode cL_act 907 = .ok (.iload_n 1, 1) := by decide +kernel
theorem dL_act_908 : decode cL_act 908 = .ok (.bipush 7, 2) := by decide +kernel
theorem dL_act_910 : decode cL_act 910 = .ok (.ishr, 1) := by decide +kernel
theorem dL_act_911 : decode cL_act 911 = .ok (.iconst 5, 1) := by decide +kernel
theorem dL_act_912 : decode cL_act 912 = .ok (.invokestatic 137, 3) := by decide +kernel
theorem dL_act_915 : decode cL_act 915 = .ok (.iconst 0, 1) := by decide +kernel
theorem dL_act_916 : decode cL_act 916 = .ok (.iconst 0, 1) := by decide +kernel
theorem dL_act_917 : decode cL_act 917 = .ok (.invokestatic 140, 3) := by decide +kernel
theorem dL_act_920 : decode cL_act 920 = .ok (.goto 33, 3) := by decide +kernel
theorem dL_act_923 : decode cL_act 923 = .ok (.iload_n 3, 1) := by decide +kernel
theorem dL_act_924 : decode cL_act 924 = .ok (.bipush 52, 2) := by decide +kernel
theorem dL_act_926 : decode cL_act 926 = .ok (.if_icmp .ne 16, 3) := by decide +kernel
theorem dL_act_929 : decode cL_act 929 = .ok (.aload_n 0, 1) := by decide +kernel
theorem dL_act_930 : decode cL_act 930 = .ok (.bipush 27, 2) := by decide +kernel
theorem dL_act_932 : decode cL_act 932 = .ok (.iload 6, 2) := by decide +kernel
theorem dL_act_934 : decode cL_act 934 = .ok (.iconst 0, 1) := by decide +kernel
theorem dL_act_935 : decode cL_act 935 = .ok (.iconst 0, 1) := by decide +kernel
theorem dL_act_936 : decode cL_act 936 = .ok (.invokestatic 140, 3) := by decide +kernel
theorem dL_act_939 : decode cL_act 939 = .ok (.goto 14, 3) := by decide +kernel
theorem dL_act_942 : decode cL_act 942 = .ok (.aload_n 0, 1) := by decide +kernel
theorem dL_act_943 : decode cL_act 943 = .ok (.bipush 9, 2) := by decide +kernel
theorem dL_act_945 : decode cL_act 945 = .ok (.iload 6, 2) := by decide +kernel
theorem dL_act_947 : decode cL_act 947 = .ok (.iload 4, 2) := by decide +kernel
theorem dL_act_949 : decode cL_act 949 = .ok (.iconst 0, 1) := by decide +kernel
theorem dL_act_950 : decode cL_act 950 = .ok (.invokestatic 140, 3) := by decide +kernel
theorem dL_act_953 : decode cL_act 953 = .ok (.ireturn, 1) := by decide +kernel
theorem dL_areAlike_0 : decode cL_areAlike 0 = .ok (.aload_n 0, 1) := by decide +kernel
theorem dL_areAlike_1 : decode cL_areAlike 1 = .ok (.bipush 13, 2) := by decide +kernel
theorem dL_areAlike_3 : decode cL_areAlike 3 = .ok (.iconst 0, 1) := by decide +kernel
theorem dL_areAlike_4 : decode cL_areAlike 4 = .ok (.iconst 1, 1) := by decide +kernel
theorem dL_areAlike_5 : decode cL_areAlike 5 = .ok (.iconst 0, 1) := by decide +kernel
theorem dL_areAlike_6 : decode cL_areAlike 6 = .ok (.invokestatic 140, 3) := by decide +kernel
theorem dL_areAlike_9 : decode cL_areAlike 9 = .ok (.aload_n 1, 1) := by decide +kernel
theorem dL_areAlike_10 : decode cL_areAlike 10 = .ok (.bipush 13, 2) := by decide +kernel
theorem dL_areAlike_12 : decode cL_areAlike 12 = .ok (.iconst 0, 1) := by decide +kernel
theorem dL_areAlike_13 : decode cL_areAlike 13 = .ok (.iconst 1, 1) := by decide +kernel
theorem dL_areAlike_14 : decode cL_areAlike 14 = .ok (.iconst 0, 1) := by decide +kernel
theorem dL_areAlike_15 : decode cL_areAlike 15 = .ok (.invokestatic 140, 3) := by decide +kernel
theorem dL_areAlike_18 : decode cL_areAlike 18 = .ok (.if_icmp .ne 72, 3) := by decide +kernel
theorem dL_areAlike_21 : decode cL_areAlike 21 = .ok (.aload_n 0, 1) := by decide +kernel
theorem dL_areAlike_22 : decode cL_areAlike 22 = .ok (.bipush 19, 2) := by decide +kernel
theorem dL_areAlike_24 : decode cL_areAlike 24 = .ok (.iconst 0, 1) := by decide +kernel
theorem dL_areAlike_25 : decode cL_areAlike 25 = .ok (.iconst 0, 1) := by decide +kernel
theorem dL_areAlike_26 : decode cL_areAlike 26 = .ok (.iconst 1, 1) := by decide +kernel
theorem dL_areAlike_27 : decode cL_areAlike 27 = .ok (.invokestatic 140, 3) := by decide +kernel
theorem dL_areAlike_30 : decode cL_areAlike 30 = .ok (.aload_n 1, 1) := by decide +kernel
theorem dL_areAlike_31 : decode cL_areAlike 31 = .ok (.bipush 19, 2) := by decide +kernel
theorem dL_areAlike_33 : decode cL_areAlike 33 = .ok (.iconst 0, 1) := by decide +kernel
theorem dL_areAlike_34 : decode cL_areAlike 34 = .ok (.iconst 0, 1) := by decide +kernel
theorem dL_areAlike_35 : decode cL_areAlike 35 = .ok (.iconst 1, 1) := by decide +kernel
theorem dL_areAlike_36 : decode cL_areAlike 36 = .ok (.invokestatic 140, 3) := by decide +kernel
theorem dL_areAlike_39 : decode cL_areAlike 39 = .ok (.if_icmp .ne 51, 3) := by decide +kernel
theorem dL_areAlike_42 : decode cL_areAlike 42 = .ok (.aload_n 0, 1) := by decide +kernel
theorem dL_areAlike_43 : decode cL_areAlike 43 = .ok (.bipush 21, 2) := by decide +kernel
theorem dL_areAlike_45 : decode cL_areAlike 45 = .ok (.iconst 0, 1) := by decide +kernel
theorem dL_areAlike_46 : decode cL_areAlike 46 = .ok (.iconst 1, 1) := by decide +kernel
theorem dL_areAlike_47 : decode cL_areAlike 47 = .ok (.iconst 0, 1) := by decide +kernel
theorem dL_areAlike_48 : decode cL_areAlike 48 = .ok (.invokestatic 140, 3) := by decide +kernel
theorem dL_areAlike_51 : decode cL_areAlike 51 = .ok (.aload_n 1, 1) := by decide +kernel
theorem dL_areAlike_52 : decode cL_areAlike 52 = .ok (.bipush 21, 2) := by decide +kernel
theorem dL_areAlike_54 : decode cL_areAlike 54 = .ok (.iconst 0, 1) := by decide +kernel
theorem dL_areAlike_55 : decode cL_areAlike 55 = .ok (.iconst 1, 1) := by decide +kernel
theorem dL_areAlike_56 : decode cL_areAlike 56 = .ok (.iconst 0, 1) := by decide +kernel
theorem dL_areAlike_57 : decode cL_areAlike 57 = .ok (.invokestatic 140, 3) := by decide +kernel
theorem dL_areAlike_60 : decode cL_areAlike 60 = .ok (.if_icmp .ne 30, 3) := by decide +kernel
theorem dL_areAlike_63 : decode cL_areAlike 63 = .ok (.aload_n 0, 1) := by decide +kernel
theorem dL_areAlike_64 : decode cL_areAlike 64 = .ok (.bipush 25, 2) := by decide +kernel
theorem dL_areAlike_66 : decode cL_areAlike 66 = .ok (.iconst 0, 1) := by decide +kernel
theorem dL_areAlike_67 : decode cL_areAlike 67 = .ok (.bipush 7, 2) := by decide +kernel
theorem dL_areAlike_69 : decode cL_areAlike 69 = .ok (.iconst 0, 1) := by decide +kernel
theorem dL_areAlike_70 : decode cL_areAlike 70 = .ok (.invokestatic 140, 3) := by decide +kernel
theorem dL_areAlike_73 : decode cL_areAlike 73 = .ok (.aload_n 1, 1) := by decide +kernel
theorem dL_areAlike_74 : decode cL_areAlike 74 = .ok (.bipush 25, 2) := by decide +kernel
theorem dL_areAlike_76 : decode cL_areAlike 76 = .ok (.iconst 0, 1) := by decide +kernel
theorem dL_areAlike_77 : decode cL_areAlike 77 = .ok (.bipush 7, 2) := by decide +kernel
theorem dL_areAlike_79 : decode cL_areAlike 79 = .ok (.iconst 0, 1) := by decide +kernel
theorem dL_areAlike_80 : decode cL_areAlike 80 = .ok (.invokestatic 140, 3) := by decide +kernel
theorem dL_areAlike_83 : decode cL_areAlike 83 = .ok (.if_icmp .ne 7, 3) := by decide +kernel
theorem dL_areAlike_86 : decode cL_areAlike 86 = .ok (.iconst 1, 1) := by decide +kernel
theorem dL_areAlike_87 : decode cL_areAlike 87 = .ok (.goto 4, 3) := by decide +kernel
theorem dL_areAlike_90 : decode cL_areAlike 90 = .ok (.iconst 0, 1) := by decide +kernel
theorem dL_areAlike_91 : decode cL_areAlike 91 = .ok (.istore_n 2, 1) := by decide +kernel
theorem dL_areAlike_92 : decode cL_areAlike 92 = .ok (.iconst 0, 1) := by decide +kernel
theorem dL_areAlike_93 : decode cL_areAlike 93 = .ok (.istore_n 3, 1) := by decide +kernel
theorem dL_areAlike_94 : decode cL_areAlike 94 = .ok (.iload_n 3, 1) := by decide +kernel
theorem dL_areAlike_95 : decode cL_areAlike 95 = .ok (.bipush 6, 2) := by decide +kernel
theorem dL_areAlike_97 : decode cL_areAlike 97 = .ok (.if_icmp .ge 199, 3) := by decide +kernel
theorem dL_areAlike_100 : decode cL_areAlike 100 = .ok (.iload_n 2, 1) := by decide +kernel
theorem dL_areAlike_101 : decode cL_areAlike 101 = .ok (.ifCond .eq 195, 3) := by decide +kernel
theorem dL_areAlike_104 : decode cL_areAlike 104 = .ok (.aload_n 0, 1) := by decide +kernel
theorem dL_areAlike_105 : decode cL_areAlike 105 = .ok (.iload_n 3, 1) := by decide +kernel
theorem dL_areAlike_106 : decode cL_areAlike 106 = .ok (.iconst (-1), 1) := by decide +kernel
theorem dL_areAlike_107 : decode cL_areAlike 107 = .ok (.invokevirtual 112, 3) := by decide +kernel
theorem dL_areAlike_110 : decode cL_areAlike 110 = .ok (.istore 4, 2) := by decide +kernel
theorem dL_areAlike_112 : decode cL_areAlike 112 = .ok (.aload_n 1, 1) := by decide +kernel
theorem dL_areAlike_113 : decode cL_areAlike 113 = .ok (.iload_n 3, 1) := by decide +kernel
theorem dL_areAlike_114 : decode cL_areAlike 114 = .ok (.iconst (-1), 1) := by decide +kernel
theorem dL_areAlike_115 : decode cL_areAlike 115 = .ok (.invokevirtual 112, 3) := by decide +kernel
theorem dL_areAlike_118 : decode cL_areAlike 118 = .ok (.iload 4, 2) := by decide +kernel
theorem dL_areAlike_120 : decode cL_areAlike 120 = .ok (.if_icmp .ne 100, 3) := by decide +kernel
theorem dL_areAlike_123 : decode cL_areAlike 123 = .ok (.aload_n 0, 1) := by decide +kernel
theorem dL_areAlike_124 : decode cL_areAlike 124 = .ok (.bipush 14, 2) := by decide +kernel
theorem dL_areAlike_126 : decode cL_areAlike 126 = .ok (.iload_n 3, 1) := by decide +kernel
theorem dL_areAlike_127 : decode cL_areAlike 127 = .ok (.iconst 0, 1) := by decide +kernel
theorem dL_areAlike_128 : decode cL_areAlike 128 = .ok (.iconst 0, 1) := by decide +kernel
theorem dL_areAlike_129 : decode cL_areAlike 129 = .ok (.invokestatic 140, 3) := by decide +kernel
theorem dL_areAlike_132 : decode cL_areAlike 132 = .ok (.aload_n 1, 1) := by decide +kernel
theorem dL_areAlike_133 : decode cL_areAlike 133 = .ok (.bipush 14, 2) := by decide +kernel
theorem dL_areAlike_135 : decode cL_areAlike 135 = .ok (.iload_n 3, 1) := by decide +kernel
theorem dL_areAlike_136 : decode cL_areAlike 136 = .ok (.iconst 0, 1) := by decide +kernel
theorem dL_areAlike_137 : decode cL_areAlike 137 = .ok (.iconst 0, 1) := by decide +kernel
theorem dL_areAlike_138 : decode cL_areAlike 138 = .ok (.invokestatic 140, 3) := by decide +kernel
theorem dL_areAlike_141 : decode cL_areAlike 141 = .ok (.if_icmp .ne 79, 3) := by decide +kernel
theorem dL_areAlike_144 : decode cL_areAlike 144 = .ok (.aload_n 0, 1) := by decide +kernel
theorem dL_areAlike_145 : decode cL_areAlike 145 = .ok (.iload_n 3, 1) := by decide +kernel
theorem dL_areAlike_146 : decode cL_areAlike 146 = .ok (.invokevirtual 173, 3) := by decide +kernel
theorem dL_areAlike_149 : decode cL_areAlike 149 = .ok (.aload_n 1, 1) := by decide +kernel
theorem dL_areAlike_150 : decode cL_areAlike 150 = .ok (.iload_n 3, 1) := by decide +kernel
theorem dL_areAlike_151 : decode cL_areAlike 151 = .ok (.invokevirtual 173, 3) := by decide +kernel
theorem dL_areAlike_154 : decode cL_areAlike 154 = .ok (.lcmp, 1) := by decide +kernel
theorem dL_areAlike_155 : decode cL_areAlike 155 = .ok (.ifCond .ne 65, 3) := by decide +kernel
theorem dL_areAlike_158 : decode cL_areAlike 158 = .ok (.aload_n 0, 1) := by decide +kernel
theorem dL_areAlike_159 : decode cL_areAlike 159 = .ok (.iload_n 3, 1) := by decide +kernel
theorem dL_areAlike_160 : decode cL_areAlike 160 = .ok (.iconst 2, 1) := by decide +kernel
theorem dL_areAlike_161 : decode cL_areAlike 161 = .ok (.invokevirtual 177, 3) := by decide +kernel
theorem dL_areAlike_164 : decode cL_areAlike 164 = .ok (.aload_n 1, 1) := by decide +kernel
theorem dL_areAlike_165 : decode cL_areAlike 165 = .ok (.iload_n 3, 1) := by decide +kernel
theorem dL_areAlike_166 : decode cL_areAlike 166 = .ok (.iconst 2, 1) := by decide +kernel
theorem dL_areAlike_167 : decode cL_areAlike 167 = .ok (.invokevirtual 177, 3) := by decide +kernel
theorem dL_areAlike_170 : decode cL_areAlike 170 = .ok (.lcmp, 1) := by decide +kernel
theorem dL_areAlike_171 : decode cL_areAlike 171 = .ok (.ifCond .ne 49, 3) := by decide +kernel
theorem dL_areAlike_174 : decode cL_areAlike 174 = .ok (.aload_n 0, 1) := by decide +kernel
theorem dL_areAlike_175 : decode cL_areAlike 175 = .ok (.bipush 20, 2) := by decide +kernel
theorem dL_areAlike_177 : decode cL_areAlike 177 = .ok (.iconst 0, 1) := by decide +kernel
theorem dL_areAlike_178 : decode cL_areAlike 178 = .ok (.iload_n 3, 1) := by decide +kernel
theorem dL_areAlike_179 : decode cL_areAlike 179 = .ok (.iconst (-1), 1) := by decide +kernel
theorem dL_areAlike_180 : decode cL_areAlike 180 = .ok (.invokestatic 140, 3) := by decide +kernel
theorem dL_areAlike_183 : decode cL_areAlike 183 = .ok (.aload_n 1, 1) := by decide +kernel
theorem dL_areAlike_184 : decode cL_areAlike 184 = .ok (.bipush 20, 2) := by decide +kernel
theorem dL_areAlike_186 : decode cL_areAlike 186 = .ok (.iconst 0, 1) := by decide +kernel
theorem dL_areAlike_187 : decode cL_areAlike 187 = .ok (.iload_n 3, 1) := by decide +kernel
theorem dL_areAlike_188 : decode cL_areAlike 188 = .ok (.iconst (-1), 1) := by decide +kernel
theorem dL_areAlike_189 : decode cL_areAlike 189 = .ok (.invokestatic 140, 3) := by decide +kernel
theorem dL_areAlike_192 : decode cL_areAlike 192 = .ok (.if_icmp .ne 28, 3) := by decide +kernel
theorem dL_areAlike_195 : decode cL_areAlike 195 = .ok (.aload_n 0, 1) := by decide +kernel
theorem dL_areAlike_196 : decode cL_areAlike 196 = .ok (.bipush 23, 2) := by decide +kernel
theorem dL_areAlike_198 : decode cL_areAlike 198 = .ok (.iload_n 3, 1) := by decide +kernel
theorem dL_areAlike_199 : decode cL_areAlike 199 = .ok (.iconst 0, 1) := by decide +kernel
theorem dL_areAlike_200 : decode cL_areAlike 200 = .ok (.iconst 0, 1) := by decide +kernel
theorem dL_areAlike_201 : decode cL_areAlike 201 = .ok (.invokestatic 140, 3) := by decide +kernel
theorem dL_areAlike_204 : decode cL_areAlike 204 = .ok (.aload_n 1, 1) := by decide +kernel
theorem dL_areAlike_205 : decode cL_areAlike 205 = .ok (.bipush 23, 2) := by decide +kernel
theorem dL_areAlike_207 : decode cL_areAlike 207 = .ok (.iload_n 3, 1) := by decide +kernel
theorem dL_areAlike_208 : decode cL_areAlike 208 = .ok (.iconst 0, 1) := by decide +kernel
theorem dL_areAlike_209 : decode cL_areAlike 209 = .ok (.iconst 0, 1) := by decide +kernel
theorem dL_areAlike_210 : decode cL_areAlike 210 = .ok (.invokestatic 140, 3) := by decide +kernel
theorem dL_areAlike_213 : decode cL_areAlike 213 = .ok (.if_icmp .ne 7, 3) := by decide +kernel
theorem dL_areAlike_216 : decode cL_areAlike 216 = .ok (.iconst 1, 1) := by decide +kernel
theorem dL_areAlike_217 : decode cL_areAlike 217 = .ok (.goto 4, 3) := by decide +kernel
theorem dL_areAlike_220 : decode cL_areAlike 220 = .ok (.iconst 0, 1) := by decide +kernel
theorem dL_areAlike_221 : decode cL_areAlike 221 = .ok (.istore_n 2, 1) := by decide +kernel
theorem dL_areAlike_222 : decode cL_areAlike 222 = .ok (.iconst 0, 1) := by decide +kernel
theorem dL_areAlike_223 : decode cL_areAlike 223 = .ok (.istore 5, 2) := by decide +kernel
theorem dL_areAlike_225 : decode cL_areAlike 225 = .ok (.iload 5, 2) := by decide +kernel
theorem dL_areAlike_227 : decode cL_areAlike 227 = .ok (.iload 4, 2) := by decide +kernel
theorem dL_areAlike_229 : decode cL_areAlike 229 = .ok (.if_icmp .ge 61, 3) := by decide +kernel
theorem dL_areAlike_232 : decode cL_areAlike 232 = .ok (.iload_n 2, 1) := by decide +kernel
theorem dL_areAlike_233 : decode cL_areAlike 233 = .ok (.ifCond .eq 57, 3) := by decide +kernel
theorem dL_areAlike_236 : decode cL_areAlike 236 = .ok (.aload_n 0, 1) := by decide +kernel
theorem dL_areAlike_237 : decode cL_areAlike 237 = .ok (.iload_n 3, 1) := by decide +kernel
theorem dL_areAlike_238 : decode cL_areAlike 238 = .ok (.iload 5, 2) := by decide +kernel
theorem dL_areAlike_240 : decode cL_areAlike 240 = .ok (.invokevirtual 112, 3) := by decide +kernel
theorem dL_areAlike_243 : decode cL_areAlike 243 = .ok (.aload_n 1, 1) := by decide +kernel
theorem dL_areAlike_244 : decode cL_areAlike 244 = .ok (.iload_n 3, 1) := by decide +kernel
theorem dL_areAlike_245 : decode cL_areAlike 245 = .ok (.iload 5, 2) := by decide +kernel
theorem dL_areAlike_247 : decode cL_areAlike 247 = .ok (.invokevirtual 112, 3) := by decide +kernel
theorem dL_areAlike_250 : decode cL_areAlike 250 = .ok (.if_icmp .ne 32, 3) := by decide +kernel
theorem dL_areAlike_253 : decode cL_areAlike 253 = .ok (.iload 5, 2) := by decide +kernel
theorem dL_areAlike_255 : decode cL_areAlike 255 = .ok (.iconst 3, 1) := by decide +kernel
theorem dL_areAlike_256 : decode cL_areAlike 256 = .ok (.if_icmp .ne 22, 3) := by decide +kernel
theorem dL_areAlike_259 : decode cL_areAlike 259 = .ok (.aload_n 0, 1) := by decide +kernel
theorem dL_areAlike_260 : decode cL_areAlike 260 = .ok (.iload_n 3, 1) := by decide +kernel
theorem dL_areAlike_261 : decode cL_areAlike 261 = .ok (.iload 5, 2) := by decide +kernel
theorem dL_areAlike_263 : decode cL_areAlike 263 = .ok (.iconst (-1), 1) := by decide +kernel
theorem dL_areAlike_264 : decode cL_areAlike 264 = .ok (.invokevirtual 17, 3) := by decide +kernel
theorem dL_areAlike_267 : decode cL_areAlike 267 = .ok (.aload_n 1, 1) := by decide +kernel
theorem dL_areAlike_268 : decode cL_areAlike 268 = .ok (.iload_n 3, 1) := by decide +kernel
theorem dL_areAlike_269 : decode cL_areAlike 269 = .ok (.iload 5, 2) := by decide +kernel
theorem dL_areAlike_271 : decode cL_areAlike 271 = .ok (.iconst (-1), 1) := by decide +kernel
theorem dL_areAlike_272 : decode cL_areAlike 272 = .ok (.invokevirtual 17, 3) := by decide +kernel
theorem dL_areAlike_275 : decode cL_areAlike 275 = .ok (.if_icmp .ne 7, 3) := by decide +kernel
theorem dL_areAlike_278 : decode cL_areAlike 278 = .ok (.iconst 1, 1) := by decide +kernel
theorem dL_areAlike_279 : decode cL_areAlike 279 = .ok (.goto 4, 3) := by decide +kernel
theorem dL_areAlike_282 : decode cL_areAlike 282 = .ok (.iconst 0, 1) := by decide +kernel
theorem dL_areAlike_283 : decode cL_areAlike 283 = .ok (.istore_n 2, 1) := by decide +kernel
theorem dL_areAlike_284 : decode cL_areAlike 284 = .ok (.iinc 5 1, 3) := by decide +kernel
theorem dL_areAlike_287 : decode cL_areAlike 287 = .ok (.goto (-62), 3) := by decide +kernel
theorem dL_areAlike_290 : decode cL_areAlike 290 = .ok (.iinc 3 1, 3) := by decide +kernel
theorem dL_areAlike_293 : decode cL_areAlike 293 = .ok (.goto (-199), 3) := by decide +kernel
theorem dL_areAlike_296 : decode cL_areAlike 296 = .ok (.iload_n 2, 1) := by decide +kernel
theorem dL_areAlike_297 : decode cL_areAlike 297 = .ok (.ireturn, 1) := by decide +kernel
theorem dL_areFormsSo_0 : decode cL_areFormsSo 0 = .ok (.aload_n 0, 1) := by decide +kernel
theorem dL_areFormsSo_1 : decode cL_areFormsSo 1 = .ok (.bipush 12, 2) := by decide +kernel
theorem dL_areFormsSo_3 : decode cL_areFormsSo 3 = .ok (.iload_n 1, 1) := by decide +kernel
theorem dL_areFormsSo_4 : decode cL_areFormsSo 4 = .ok (.iconst 0, 1) := by decide +kernel
theorem dL_areFormsSo_5 : decode cL_areFormsSo 5 = .ok (.iconst 4, 1) := by decide +kernel
theorem dL_areFormsSo_6 : decode cL_areFormsSo 6 = .ok (.invokestatic 140, 3) := by decide +kernel
theorem dL_areFormsSo_9 : decode cL_areFormsSo 9 = .ok (.istore_n 2, 1) := by decide +kernel
theorem dL_areFormsSo_10 : decode cL_areFormsSo 10 = .ok (.iload_n 2, 1) := by decide +kernel
theorem dL_areFormsSo_11 : decode cL_areFormsSo 11 = .ok (.ifCond .ge 5, 3) := by decide +kernel
theorem dL_areFormsSo_14 : decode cL_areFormsSo 14 = .ok (.iconst 1, 1) := by decide +kernel
theorem dL_areFormsSo_15 : decode cL_areFormsSo 15 = .ok (.ireturn, 1) := by decide +kernel
theorem dL_areFormsSo_16 : decode cL_areFormsSo 16 = .ok (.aload_n 0, 1) := by decide +kernel
theorem dL_areFormsSo_17 : decode cL_areFormsSo 17 = .ok (.bipush 12, 2) := by decide +kernel
theorem dL_areFormsSo_19 : decode cL_areFormsSo 19 = .ok (.iconst 4, 1) := by decide +kernel
theorem dL_areFormsSo_20 : decode cL_areFormsSo 20 = .ok (.iconst 0, 1) := by decide +kernel
theorem dL_areFormsSo_21 : decode cL_areFormsSo 21 = .ok (.iconst 5, 1) := by decide +kernel
theorem dL_areFormsSo_22 : decode cL_areFormsSo 22 = .ok (.invokestatic 140, 3) := by decide +kernel
theorem dL_areFormsSo_25 : decode cL_areFormsSo 25 = .ok (.iload_n 2, 1) := by decide +kernel
theorem dL_areFormsSo_26 : decode cL_areFormsSo 26 = .ok (.if_icmp .ne 26, 3) := by decide +kernel
theorem dL_areFormsSo_29 : decode cL_areFormsSo 29 = .ok (.aload_n 0, 1) := by decide +kernel
theorem dL_areFormsSo_30 : decode cL_areFormsSo 30 = .ok (.iconst 4, 1) := by decide +kernel
theorem dL_areFormsSo_31 : decode cL_areFormsSo 31 = .ok (.iconst (-1), 1) := by decide +kernel
theorem dL_areFormsSo_32 : decode cL_areFormsSo 32 = .ok (.invokevirtual 112, 3) := by decide +kernel
theorem dL_areFormsSo_35 : decode cL_areFormsSo 35 = .ok (.iload_n 2, 1) := by decide +kernel
theorem dL_areFormsSo_36 : decode cL_areFormsSo 36 = .ok (.if_icmp .ne 16, 3) := by decide +kernel
theorem dL_areFormsSo_39 : decode cL_areFormsSo 39 = .ok (.aload_n 0, 1) := by decide +kernel
theorem dL_areFormsSo_40 : decode cL_areFormsSo 40 = .ok (.iconst 4, 1) := by decide +kernel
theorem dL_areFormsSo_41 : decode cL_areFormsSo 41 = .ok (.iconst 5, 1) := by decide +kernel
theorem dL_areFormsSo_42 : decode cL_areFormsSo 42 = .ok (.invokestatic 181, 3) := by decide +kernel
theorem dL_areFormsSo_45 : decode cL_areFormsSo 45 = .ok (.ifCond .eq 7, 3) := by decide +kernel
theorem dL_areFormsSo_48 : decode cL_areFormsSo 48 = .ok (.iconst 1, 1) := by decide +kernel
theorem dL_areFormsSo_49 : decode cL_areFormsSo 49 = .ok (.goto 4, 3) := by decide +kernel
theorem dL_areFormsSo_52 : decode cL_areFormsSo 52 = .ok (.iconst 0, 1) := by decide +kernel
theorem dL_areFormsSo_53 : decode cL_areFormsSo 53 = .ok (.istore_n 3, 1) := by decide +kernel
theorem dL_areFormsSo_54 : decode cL_areFormsSo 54 = .ok (.aload_n 0, 1) := by decide +kernel
theorem dL_areFormsSo_55 : decode cL_areFormsSo 55 = .ok (.bipush 12, 2) := by decide +kernel
theorem dL_areFormsSo_57 : decode cL_areFormsSo 57 = .ok (.iload_n 1, 1) := by decide +kernel
theorem dL_areFormsSo_58 : decode cL_areFormsSo 58 = .ok (.iconst 1, 1) := by decide +kernel
theorem dL_areFormsSo_59 : decode cL_areFormsSo 59 = .ok (.iconst 5, 1) := by decide +kernel
theorem dL_areFormsSo_60 : decode cL_areFormsSo 60 = .ok (.invokestatic 140, 3) := by decide +kernel
theorem dL_areFormsSo_63 : decode cL_areFormsSo 63 = .ok (.istore 4, 2) := by decide +kernel
theorem dL_areFormsSo_65 : decode cL_areFormsSo 65 = .ok (.iload_n 3, 1) := by decide +kernel
theorem dL_areFormsSo_66 : decode cL_areFormsSo 66 = .ok (.ifCond .eq 32, 3) := by decide +kernel
theorem dL_areFormsSo_69 : decode cL_areFormsSo 69 = .ok (.iload 4, 2) := by decide +kernel
theorem dL_areFormsSo_71 : decode cL_areFormsSo 71 = .ok (.ifCond .lt 27, 3) := by decide +kernel
theorem dL_areFormsSo_74 : decode cL_areFormsSo 74 = .ok (.iload 4, 2) := by decide +kernel
theorem dL_areFormsSo_76 : decode cL_areFormsSo 76 = .ok (.iload_n 2, 1) := by decide +kernel
theorem dL_areFormsSo_77 : decode cL_areFormsSo 77 = .ok (.if_icmp .gt 21, 3) := by decide +kernel
theorem dL_areFormsSo_80 : decode cL_areFormsSo 80 = .ok (.aload_n 0, 1) := by decide +kernel
theorem dL_areFormsSo_81 : decode cL_areFormsSo 81 = .ok (.bipush 12, 2) := by decide +kernel
theorem dL_areFormsSo_83 : decode cL_areFormsSo 83 = .ok (.iconst 4, 1) := by decide +kernel
theorem dL_areFormsSo_84 : decode cL_areFormsSo 84 = .ok (.iconst 1, 1) := by decide +kernel
theorem dL_areFormsSo_85 : decode cL_areFormsSo 85 = .ok (.iconst 5, 1) := by decide +kernel
theorem dL_areFormsSo_86 : decode cL_areFormsSo 86 = .ok (.invokestatic 140, 3) := by decide +kernel
theorem dL_areFormsSo_89 : decode cL_areFormsSo 89 = .ok (.iload 4, 2) := by decide +kernel
theorem dL_areFormsSo_91 : decode cL_areFormsSo 91 = .ok (.if_icmp .ne 7, 3) := by decide +kernel
theorem dL_areFormsSo_94 : decode cL_areFormsSo 94 = .ok (.iconst 1, 1) := by decide +kernel
theorem dL_areFormsSo_95 : decode cL_areFormsSo 95 = .ok (.goto 4, 3) := by decide +kernel
theorem dL_areFormsSo_98 : decode cL_areFormsSo 98 = .ok (.iconst 0, 1) := by decide +kernel
theorem dL_areFormsSo_99 : decode cL_areFormsSo 99 = .ok (.istore_n 3, 1) := by decide +kernel
theorem dL_areFormsSo_100 : decode cL_areFormsSo 100 = .ok (.aload_n 0, 1) := by decide +kernel
theorem dL_areFormsSo_101 : decode cL_areFormsSo 101 = .ok (.bipush 12, 2) := by decide +kernel
theorem dL_areFormsSo_103 : decode cL_areFormsSo 103 = .ok (.iload_n 1, 1) := by decide +kernel
theorem dL_areFormsSo_104 : decode cL_areFormsSo 104 = .ok (.iconst 2, 1) := by decide +kernel
theorem dL_areFormsSo_105 : decode cL_areFormsSo 105 = .ok (.iconst 4, 1) := by decide +kernel
theorem dL_areFormsSo_106 : decode cL_areFormsSo 106 = .ok (.invokestatic 140, 3) := by decide +kernel
theorem dL_areFormsSo_109 : decode cL_areFormsSo 109 = .ok (.istore 5, 2) := by decide +kernel
theorem dL_areFormsSo_111 : decode cL_areFormsSo 111 = .ok (.iload_n 3, 1) := by decide +kernel
theorem dL_areFormsSo_112 : decode cL_areFormsSo 112 = .ok (.ifCond .eq 35, 3) := by decide +kernel
theorem dL_areFormsSo_115 : decode cL_areFormsSo 115 = .ok (.iload 5, 2) := by decide +kernel
theorem dL_areFormsSo_117 : decode cL_areFormsSo 117 = .ok (.ifCond .lt 26, 3) := by decide +kernel
theorem dL_areFormsSo_120 : decode cL_areFormsSo 120 = .ok (.aload_n 0, 1) := by decide +kernel
theorem dL_areFormsSo_121 : decode cL_areFormsSo 121 = .ok (.bipush 12, 2) := by decide +kernel
theorem dL_areFormsSo_123 : decode cL_areFormsSo 123 = .ok (.iconst 4, 1) := by decide +kernel
theorem dL_areFormsSo_124 : decode cL_areFormsSo 124 = .ok (.iconst 0, 1) := by decide +kernel
theorem dL_areFormsSo_125 : decode cL_areFormsSo 125 = .ok (.iconst 5, 1) := by decide +kernel
theorem dL_areFormsSo_126 : decode cL_areFormsSo 126 = .ok (.invokestatic 140, 3) := by decide +kernel
theorem dL_areFormsSo_129 : decode cL_areFormsSo 129 = .ok (.iload 5, 2) := by decide +kernel
theorem dL_areFormsSo_131 : decode cL_areFormsSo 131 = .ok (.if_icmp .ne 16, 3) := by decide +kernel
theorem dL_areFormsSo_134 : decode cL_areFormsSo 134 = .ok (.aload_n 0, 1) := by decide +kernel
theorem dL_areFormsSo_135 : decode cL_areFormsSo 135 = .ok (.iconst 4, 1) := by decide +kernel
theorem dL_areFormsSo_136 : decode cL_areFormsSo 136 = .ok (.iconst 5, 1) := by decide +kernel
theorem dL_areFormsSo_137 : decode cL_areFormsSo 137 = .ok (.invokestatic 181, 3) := by decide +kernel
theorem dL_areFormsSo_140 : decode cL_areFormsSo 140 = .ok (.ifCond .eq 7, 3) := by decide +kernel
theorem dL_areFormsSo_143 : decode cL_areFormsSo 143 = .ok (.iconst 1, 1) := by decide +kernel
theorem dL_areFormsSo_144 : decode cL_areFormsSo 144 = .ok (.goto 4, 3) := by decide +kernel
theorem dL_areFormsSo_147 : decode cL_areFormsSo 147 = .ok (.iconst 0, 1) := by decide +kernel
theorem dL_areFormsSo_148 : decode cL_areFormsSo 148 = .ok (.istore_n 3, 1) := by decide +kernel
theorem dL_areFormsSo_149 : decode cL_areFormsSo 149 = .ok (.iload_n 3, 1) := by decide +kernel
theorem dL_areFormsSo_150 : decode cL_areFormsSo 150 = .ok (.ifCond .eq 31, 3) := by decide +kernel
theorem dL_areFormsSo_153 : decode cL_areFormsSo 153 = .ok (.aload_n 0, 1) := by decide +kernel
theorem dL_areFormsSo_154 : decode cL_areFormsSo 154 = .ok (.bipush 19, 2) := by decide +kernel
theorem dL_areFormsSo_156 : decode cL_areFormsSo 156 = .ok (.iconst 0, 1) := by decide +kernel
theorem dL_areFormsSo_157 : decode cL_areFormsSo 157 = .ok (.iload_n 1, 1) := by decide +kernel
theorem dL_areFormsSo_158 : decode cL_areFormsSo 158 = .ok (.iload_n 1, 1) := by decide +kernel
theorem dL_areFormsSo_159 : decode cL_areFormsSo 159 = .ok (.invokestatic 140, 3) := by decide +kernel
theorem dL_areFormsSo_162 : decode cL_areFormsSo 162 = .ok (.ifCond .ne 19, 3) := by decide +kernel
theorem dL_areFormsSo_165 : decode cL_areFormsSo 165 = .ok (.aload_n 0, 1) := by decide +kernel
theorem dL_areFormsSo_166 : decode cL_areFormsSo 166 = .ok (.bipush 13, 2) := by decide +kernel
theorem dL_areFormsSo_168 : decode cL_areFormsSo 168 = .ok (.iload_n 1, 1) := by decide +kernel
theorem dL_areFormsSo_169 : decode cL_areFormsSo 169 = .ok (.iload_n 1, 1) := by decide +kernel
theorem dL_areFormsSo_170 : decode cL_areFormsSo 170 = .ok (.iconst 0, 1) := by decide +kernel
theorem dL_areFormsSo_171 : decode cL_areFormsSo 171 = .ok (.invokestatic 140, 3) := by decide +kernel
theorem dL_areFormsSo_174 : decode cL_areFormsSo 174 = .ok (.ifCond .eq 7, 3) := by decide +kernel
theorem dL_areFormsSo_177 : decode cL_areFormsSo 177 = .ok (.iconst 1, 1) := by decide +kernel
theorem dL_areFormsSo_178 : decode cL_areFormsSo 178 = .ok (.goto 4, 3) := by decide +kernel
theorem dL_areFormsSo_181 : decode cL_areFormsSo 181 = .ok (.iconst 0, 1) := by decide +kernel
theorem dL_areFormsSo_182 : decode cL_areFormsSo 182 = .ok (.ireturn, 1) := by decide +kernel
theorem dL_areSame_0 : decode cL_areSame 0 = .ok (.aload_n 0, 1) := by decide +kernel
theorem dL_areSame_1 : decode cL_areSame 1 = .ok (.iload_n 1, 1) := by decide +kernel
theorem dL_areSame_2 : decode cL_areSame 2 = .ok (.iconst (-1), 1) := by decide +kernel
theorem dL_areSame_3 : decode cL_areSame 3 = .ok (.invokevirtual 112, 3) := by decide +kernel
theorem dL_areSame_6 : decode cL_areSame 6 = .ok (.aload_n 0, 1) := by decide +kernel
theorem dL_areSame_7 : decode cL_areSame 7 = .ok (.iload_n 2, 1) := by decide +kernel
theorem dL_areSame_8 : decode cL_areSame 8 = .ok (.iconst (-1), 1) := by decide +kernel
theorem dL_areSame_9 : decode cL_areSame 9 = .ok (.invokevirtual 112, 3) := by decide +kernel
theorem dL_areSame_12 : decode cL_areSame 12 = .ok (.if_icmp .ne 7, 3) := by decide +kernel
theorem dL_areSame_15 : decode cL_areSame 15 = .ok (.iconst 1, 1) := by decide +kernel
theorem dL_areSame_16 : decode cL_areSame 16 = .ok (.goto 4, 3) := by decide +kernel
theorem dL_areSame_19 : decode cL_areSame 19 = .ok (.iconst 0, 1) := by decide +kernel
theorem dL_areSame_20 : decode cL_areSame 20 = .ok (.istore_n 3, 1) := by decide +kernel
theorem dL_areSame_21 : decode cL_areSame 21 = .ok (.iconst 0, 1) := by decide +kernel
theorem dL_areSame_22 : decode cL_areSame 22 = .ok (.istore 4, 2) := by decide +kernel
theorem dL_areSame_24 : decode cL_areSame 24 = .ok (.iload 4, 2) := by decide +kernel
theorem dL_areSame_26 : decode cL_areSame 26 = .ok (.aload_n 0, 1) := by decide +kernel
theorem dL_areSame_27 : decode cL_areSame 27 = .ok (.iload_n 1, 1) := by decide +kernel
theorem dL_areSame_28 : decode cL_areSame 28 = .ok (.iconst (-1), 1) := by decide +kernel
theorem dL_areSame_29 : decode cL_areSame 29 = .ok (.invokevirtual 112, 3) := by decide +kernel
theorem dL_areSame_32 : decode cL_areSame 32 = .ok (.if_icmp .ge 36, 3) := by decide +kernel
theorem dL_areSame_35 : decode cL_areSame 35 = .ok (.iload_n 3, 1) := by decide +kernel
theorem dL_areSame_36 : decode cL_areSame 36 = .ok (.ifCond .eq 32, 3) := by decide +kernel
theorem dL_areSame_39 : decode cL_areSame 39 = .ok (.aload_n 0, 1) := by decide +kernel
theorem dL_areSame_40 : decode cL_areSame 40 = .ok (.iload_n 1, 1) := by decide +kernel
theorem dL_areSame_41 : decode cL_areSame 41 = .ok (.iload 4, 2) := by decide +kernel
theorem dL_areSame_43 : decode cL_areSame 43 = .ok (.invokevirtual 112, 3) := by decide +kernel
theorem dL_areSame_46 : decode cL_areSame 46 = .ok (.aload_n 0, 1) := by decide +kernel
theorem dL_areSame_47 : decode cL_areSame 47 = .ok (.iload_n 2, 1) := by decide +kernel
theorem dL_areSame_48 : decode cL_areSame 48 = .ok (.iload 4, 2) := by decide +kernel
theorem dL_areSame_50 : decode cL_areSame 50 = .ok (.invokevirtual 112, 3) := by decide +kernel
theorem dL_areSame_53 : decode cL_areSame 53 = .ok (.if_icmp .ne 7, 3) := by decide +kernel
theorem dL_areSame_56 : decode cL_areSame 56 = .ok (.iconst 1, 1) := by decide +kernel
theorem dL_areSame_57 : decode cL_areSame 57 = .ok (.goto 4, 3) := by decide +kernel
theorem dL_areSame_60 : decode cL_areSame 60 = .ok (.iconst 0, 1) := by decide +kernel
theorem dL_areSame_61 : decode cL_areSame 61 = .ok (.istore_n 3, 1) := by decide +kernel
theorem dL_areSame_62 : decode cL_areSame 62 = .ok (.iinc 4 1, 3) := by decide +kernel
theorem dL_areSame_65 : decode cL_areSame 65 = .ok (.goto (-41), 3) := by decide +kernel
theorem dL_areSame_68 : decode cL_areSame 68 = .ok (.iload_n 3, 1) := by decide +kernel
theorem dL_areSame_69 : decode cL_areSame 69 = .ok (.ireturn, 1) := by decide +kernel
theorem dL_isShownSo_0 : decode cL_isShownSo 0 = .ok (.aload_n 0, 1) := by decide +kernel
theorem dL_isShownSo_1 : decode cL_isShownSo 1 = .ok (.iload_n 1, 1) := by decide +kernel
theorem dL_isShownSo_2 : decode cL_isShownSo 2 = .ok (.iconst (-1), 1) := by decide +kernel
theorem dL_isShownSo_3 : decode cL_isShownSo 3 = .ok (.invokevirtual 112, 3) := by decide +kernel
theorem dL_isShownSo_6 : decode cL_isShownSo 6 = .ok (.istore_n 3, 1) := by decide +kernel
theorem dL_isShownSo_7 : decode cL_isShownSo 7 = .ok (.iload_n 3, 1) := by decide +kernel
theorem dL_isShownSo_8 : decode cL_isShownSo 8 = .ok (.bipush 8, 2) := by decide +kernel
theorem dL_isShownSo_10 : decode cL_isShownSo 10 = .ok (.if_icmp .ge 7, 3) := by decide +kernel
theorem dL_isShownSo_13 : decode cL_isShownSo 13 = .ok (.iload_n 3, 1) := by decide +kernel
theorem dL_isShownSo_14 : decode cL_isShownSo 14 = .ok (.goto 5, 3) := by decide +kernel
theorem dL_isShownSo_17 : decode cL_isShownSo 17 = .ok (.bipush 8, 2) := by decide +kernel
theorem dL_isShownSo_19 : decode cL_isShownSo 19 = .ok (.istore 4, 2) := by decide +kernel
theorem dL_isShownSo_21 : decode cL_isShownSo 21 = .ok (.lconst 0, 1) := by decide +kernel
theorem dL_isShownSo_22 : decode cL_isShownSo 22 = .ok (.lstore 5, 2) := by decide +kernel
theorem dL_isShownSo_24 : decode cL_isShownSo 24 = .ok (.iconst 1, 1) := by decide +kernel
theorem dL_isShownSo_25 : decode cL_isShownSo 25 = .ok (.istore 7, 2) := by decide +kernel
theorem dL_isShownSo_27 : decode cL_isShownSo 27 = .ok (.iconst 0, 1) := by decide +kernel
theorem dL_isShownSo_28 : decode cL_isShownSo 28 = .ok (.istore 8, 2) := by decide +kernel
theorem dL_isShownSo_30 : decode cL_isShownSo 30 = .ok (.iload 8, 2) := by decide +kernel
theorem dL_isShownSo_32 : decode cL_isShownSo 32 = .ok (.iload_n 3, 1) := by decide +kernel
theorem dL_isShownSo_33 : decode cL_isShownSo 33 = .ok (.if_icmp .ge 95, 3) := by decide +kernel
theorem dL_isShownSo_36 : decode cL_isShownSo 36 = .ok (.iload 7, 2) := by decide +kernel
theorem dL_isShownSo_38 : decode cL_isShownSo 38 = .ok (.ifCond .eq 90, 3) := by decide +kernel
theorem dL_isShownSo_41 : decode cL_isShownSo 41 = .ok (.iload_n 3, 1) := by decide +kernel
theorem dL_isShownSo_42 : decode cL_isShownSo 42 = .ok (.bipush 9, 2) := by decide +kernel
theorem dL_isShownSo_44 : decode cL_isShownSo 44 = .ok (.if_icmp .ge 84, 3) := by decide +kernel
theorem dL_isShownSo_47 : decode cL_isShownSo 47 = .ok (.aload_n 0, 1) := by decide +kernel
theorem dL_isShownSo_48 : decode cL_isShownSo 48 = .ok (.iload_n 1, 1) := by decide +kernel
theorem dL_isShownSo_49 : decode cL_isShownSo 49 = .ok (.iload 8, 2) := by decide +kernel
theorem dL_isShownSo_51 : decode cL_isShownSo 51 = .ok (.iload_n 2, 1) := by decide +kernel
theorem dL_isShownSo_52 : decode cL_isShownSo 52 = .ok (.invokevirtual 23, 3) := by decide +kernel
theorem dL_isShownSo_55 : decode cL_isShownSo 55 = .ok (.istore 9, 2) := by decide +kernel
theorem dL_isShownSo_57 : decode cL_isShownSo 57 = .ok (.lload 5, 2) := by decide +kernel
theorem dL_isShownSo_59 : decode cL_isShownSo 59 = .ok (.iload 9, 2) := by decide +kernel
theorem dL_isShownSo_61 : decode cL_isShownSo 61 = .ok (.lshr, 1) := by decide +kernel
theorem dL_isShownSo_62 : decode cL_isShownSo 62 = .ok (.lconst 1, 1) := by decide +kernel
theorem dL_isShownSo_63 : decode cL_isShownSo 63 = .ok (.land, 1) := by decide +kernel
theorem dL_isShownSo_64 : decode cL_isShownSo 64 = .ok (.lconst 0, 1) := by decide +kernel
theorem dL_isShownSo_65 : decode cL_isShownSo 65 = .ok (.lcmp, 1) := by decide +kernel
theorem dL_isShownSo_66 : decode cL_isShownSo 66 = .ok (.ifCond .ne 44, 3) := by decide +kernel
theorem dL_isShownSo_69 : decode cL_isShownSo 69 = .ok (.aload_n 0, 1) := by decide +kernel
theorem dL_isShownSo_70 : decode cL_isShownSo 70 = .ok (.iload_n 1, 1) := by decide +kernel
theorem dL_isShownSo_71 : decode cL_isShownSo 71 = .ok (.iload 9, 2) := by decide +kernel
theorem dL_isShownSo_73 : decode cL_isShownSo 73 = .ok (.iload_n 2, 1) := by decide +kernel
theorem dL_isShownSo_74 : decode cL_isShownSo 74 = .ok (.invokevirtual 17, 3) := by decide +kernel
theorem dL_isShownSo_77 : decode cL_isShownSo 77 = .ok (.iload_n 2, 1) := by decide +kernel
theorem dL_isShownSo_78 : decode cL_isShownSo 78 = .ok (.ifCond .ge 11, 3) := by decide +kernel
theorem dL_isShownSo_81 : decode cL_isShownSo 81 = .ok (.aload_n 0, 1) := by decide +kernel
theorem dL_isShownSo_82 : decode cL_isShownSo 82 = .ok (.iload_n 1, 1) := by decide +kernel
theorem dL_isShownSo_83 : decode cL_isShownSo 83 = .ok (.invokevirtual 122, 3) := by decide +kernel
theorem dL_isShownSo_86 : decode cL_isShownSo 86 = .ok (.goto 4, 3) := by decide +kernel
theorem dL_isShownSo_89 : decode cL_isShownSo 89 = .ok (.iload_n 2, 1) := by decide +kernel
theorem dL_isShownSo_90 : decode cL_isShownSo 90 = .ok (.if_icmp .lt 20, 3) := by decide +kernel
theorem dL_isShownSo_93 : decode cL_isShownSo 93 = .ok (.aload_n 0, 1) := by decide +kernel
theorem dL_isShownSo_94 : decode cL_isShownSo 94 = .ok (.iload_n 1, 1) := by decide +kernel
theorem dL_isShownSo_95 : decode cL_isShownSo 95 = .ok (.iload 9, 2) := by decide +kernel
theorem dL_isShownSo_97 : decode cL_isShownSo 97 = .ok (.iload_n 2, 1) := by decide +kernel
theorem dL_isShownSo_98 : decode cL_isShownSo 98 = .ok (.invokevirtual 17, 3) := by decide +kernel
theorem dL_isShownSo_101 : decode cL_isShownSo 101 = .ok (.bipush 11, 2) := by decide +kernel
theorem dL_isShownSo_103 : decode cL_isShownSo 103 = .ok (.if_icmp .ge 7, 3) := by decide +kernel
theorem dL_isShownSo_106 : decode cL_isShownSo 106 = .ok (.iconst 1, 1) := by decide +kernel
theorem dL_isShownSo_107 : decode cL_isShownSo 107 = .ok (.goto 4, 3) := by decide +kernel
theorem dL_isShownSo_110 : decode cL_isShownSo 110 = .ok (.iconst 0, 1) := by decide +kernel
theorem dL_isShownSo_111 : decode cL_isShownSo 111 = .ok (.istore 7, 2) := by decide +kernel
theorem dL_isShownSo_113 : decode cL_isShownSo 113 = .ok (.lload 5, 2) := by decide +kernel
theorem dL_isShownSo_115 : decode cL_isShownSo 115 = .ok (.lconst 1, 1) := by decide +kernel
theorem dL_isShownSo_116 : decode cL_isShownSo 116 = .ok (.iload 9, 2) := by decide +kernel
theorem dL_isShownSo_118 : decode cL_isShownSo 118 = .ok (.lshl, 1) := by decide +kernel
theorem dL_isShownSo_119 : decode cL_isShownSo 119 = .ok (.lor, 1) := by decide +kernel
theorem dL_isShownSo_120 : decode cL_isShownSo 120 = .ok (.lstore 5, 2) := by decide +kernel
theorem dL_isShownSo_122 : decode cL_isShownSo 122 = .ok (.iinc 8 1, 3) := by decide +kernel
theorem dL_isShownSo_125 : decode cL_isShownSo 125 = .ok (.goto (-95), 3) := by decide +kernel
theorem dL_isShownSo_128 : decode cL_isShownSo 128 = .ok (.iconst 1, 1) := by decide +kernel
theorem dL_isShownSo_129 : decode cL_isShownSo 129 = .ok (.istore 8, 2) := by decide +kernel
theorem dL_isShownSo_131 : decode cL_isShownSo 131 = .ok (.iload 8, 2) := by decide +kernel
theorem dL_isShownSo_133 : decode cL_isShownSo 133 = .ok (.iload 4, 2) := by decide +kernel
theorem dL_isShownSo_135 : decode cL_isShownSo 135 = .ok (.if_icmp .ge 129, 3) := by decide +kernel
theorem dL_isShownSo_138 : decode cL_isShownSo 138 = .ok (.iload 7, 2) := by decide +kernel
theorem dL_isShownSo_140 : decode cL_isShownSo 140 = .ok (.ifCond .eq 124, 3) := by decide +kernel
theorem dL_isShownSo_143 : decode cL_isShownSo 143 = .ok (.iload_n 3, 1) := by decide +kernel
theorem dL_isShownSo_144 : decode cL_isShownSo 144 = .ok (.bipush 9, 2) := by decide +kernel
theorem dL_isShownSo_146 : decode cL_isShownSo 146 = .ok (.if_icmp .ge 118, 3) := by decide +kernel
theorem dL_isShownSo_149 : decode cL_isShownSo 149 = .ok (.aload_n 0, 1) := by decide +kernel
theorem dL_isShownSo_150 : decode cL_isShownSo 150 = .ok (.iload_n 1, 1) := by decide +kernel
theorem dL_isShownSo_151 : decode cL_isShownSo 151 = .ok (.iload 8, 2) := by decide +kernel
theorem dL_isShownSo_153 : decode cL_isShownSo 153 = .ok (.iconst 1, 1) := by decide +kernel
theorem dL_isShownSo_154 : decode cL_isShownSo 154 = .ok (.isub, 1) := by decide +kernel
theorem dL_isShownSo_155 : decode cL_isShownSo 155 = .ok (.iload_n 2, 1) := by decide +kernel
theorem dL_isShownSo_156 : decode cL_isShownSo 156 = .ok (.invokevirtual 23, 3) := by decide +kernel
theorem dL_isShownSo_159 : decode cL_isShownSo 159 = .ok (.istore 9, 2) := by decide +kernel
theorem dL_isShownSo_161 : decode cL_isShownSo 161 = .ok (.aload_n 0, 1) := by decide +kernel
theorem dL_isShownSo_162 : decode cL_isShownSo 162 = .ok (.iload_n 1, 1) := by decide +kernel
theorem dL_isShownSo_163 : decode cL_isShownSo 163 = .ok (.iload 8, 2) := by decide +kernel
theorem dL_isShownSo_165 : decode cL_isShownSo 165 = .ok (.iload_n 2, 1) := by decide +kernel
theorem dL_isShownSo_166 : decode cL_isShownSo 166 = .ok (.invokevirtual 23, 3) := by decide +kernel
theorem dL_isShownSo_169 : decode cL_isShownSo 169 = .ok (.istore 10, 2) := by decide +kernel
theorem dL_isShownSo_171 : decode cL_isShownSo 171 = .ok (.iload 9, 2) := by decide +kernel
theorem dL_isShownSo_173 : decode cL_isShownSo 173 = .ok (.iload 10, 2) := by decide +kernel
theorem dL_isShownSo_175 : decode cL_isShownSo 175 = .ok (.isub, 1) := by decide +kernel
theorem dL_isShownSo_176 : decode cL_isShownSo 176 = .ok (.iconst 1, 1) := by decide +kernel
theorem dL_isShownSo_177 : decode cL_isShownSo 177 = .ok (.if_icmp .eq 12, 3) := by decide +kernel
theorem dL_isShownSo_180 : decode cL_isShownSo 180 = .ok (.iload 10, 2) := by decide +kernel
theorem dL_isShownSo_182 : decode cL_isShownSo 182 = .ok (.iload 9, 2) := by decide +kernel
theorem dL_isShownSo_184 : decode cL_isShownSo 184 = .ok (.isub, 1) := by decide +kernel
theorem dL_isShownSo_185 : decode cL_isShownSo 185 = .ok (.iconst 1, 1) := by decide +kernel
theorem dL_isShownSo_186 : decode cL_isShownSo 186 = .ok (.if_icmp .ne 7, 3) := by decide +kernel
theorem dL_isShownSo_189 : decode cL_isShownSo 189 = .ok (.iconst 1, 1) := by decide +kernel
theorem dL_isShownSo_190 : decode cL_isShownSo 190 = .ok (.goto 4, 3) := by decide +kernel
theorem dL_isShownSo_193 : decode cL_isShownSo 193 = .ok (.iconst 0, 1) := by decide +kernel
theorem dL_isShownSo_194 : decode cL_isShownSo 194 = .ok (.istore 11, 2) := by decide +kernel
theorem dL_isShownSo_196 : decode cL_isShownSo 196 = .ok (.aload_n 0, 1) := by decide +kernel
theorem dL_isShownSo_197 : decode cL_isShownSo 197 = .ok (.iload_n 1, 1) := by decide +kernel
theorem dL_isShownSo_198 : decode cL_isShownSo 198 = .ok (.iload 9, 2) := by decide +kernel
theorem dL_isShownSo_200 : decode cL_isShownSo 200 = .ok (.iload_n 2, 1) := by decide +kernel
theorem dL_isShownSo_201 : decode cL_isShownSo 201 = .ok (.invokevirtual 17, 3) := by decide +kernel
theorem dL_isShownSo_204 : decode cL_isShownSo 204 = .ok (.istore 12, 2) := by decide +kernel
theorem dL_isShownSo_206 : decode cL_isShownSo 206 = .ok (.iload 11, 2) := by decide +kernel
theorem dL_isShownSo_208 : decode cL_isShownSo 208 = .ok (.ifCond .eq 43, 3) := by decide +kernel
theorem dL_isShownSo_211 : decode cL_isShownSo 211 = .ok (.iload 12, 2) := by decide +kernel
theorem dL_isShownSo_213 : decode cL_isShownSo 213 = .ok (.aload_n 0, 1) := by decide +kernel
theorem dL_isShownSo_214 : decode cL_isShownSo 214 = .ok (.iload_n 1, 1) := by decide +kernel
theorem dL_isShownSo_215 : decode cL_isShownSo 215 = .ok (.iload 10, 2) := by decide +kernel
theorem dL_isShownSo_217 : decode cL_isShownSo 217 = .ok (.iload_n 2, 1) := by decide +kernel
theorem dL_isShownSo_218 : decode cL_isShownSo 218 = .ok (.invokevirtual 17, 3) := by decide +kernel
theorem dL_isShownSo_221 : decode cL_isShownSo 221 = .ok (.if_icmp .ne 30, 3) := by decide +kernel
theorem dL_isShownSo_224 : decode cL_isShownSo 224 = .ok (.iload 10, 2) := by decide +kernel
theorem dL_isShownSo_226 : decode cL_isShownSo 226 = .ok (.iload 9, 2) := by decide +kernel
theorem dL_isShownSo_228 : decode cL_isShownSo 228 = .ok (.if_icmp .le 7, 3) := by decide +kernel
theorem dL_isShownSo_231 : decode cL_isShownSo 231 = .ok (.iconst 1, 1) := by decide +kernel
theorem dL_isShownSo_232 : decode cL_isShownSo 232 = .ok (.goto 4, 3) := by decide +kernel
theorem dL_isShownSo_235 : decode cL_isShownSo 235 = .ok (.iconst 0, 1) := by decide +kernel
theorem dL_isShownSo_236 : decode cL_isShownSo 236 = .ok (.iload 12, 2) := by decide +kernel
theorem dL_isShownSo_238 : decode cL_isShownSo 238 = .ok (.iconst 2, 1) := by decide +kernel
theorem dL_isShownSo_239 : decode cL_isShownSo 239 = .ok (.irem, 1) := by decide +kernel
theorem dL_isShownSo_240 : decode cL_isShownSo 240 = .ok (.ifCond .ne 7, 3) := by decide +kernel
theorem dL_isShownSo_243 : decode cL_isShownSo 243 = .ok (.iconst 1, 1) := by decide +kernel
theorem dL_isShownSo_244 : decode cL_isShownSo 244 = .ok (.goto 4, 3) := by decide +kernel
theorem dL_isShownSo_247 : decode cL_isShownSo 247 = .ok (.iconst 0, 1) := by decide +kernel
theorem dL_isShownSo_248 : decode cL_isShownSo 248 = .ok (.if_icmp .ne 7, 3) := by decide +kernel
theorem dL_isShownSo_251 : decode cL_isShownSo 251 = .ok (.iconst 1, 1) := by decide +kernel
theorem dL_isShownSo_252 : decode cL_isShownSo 252 = .ok (.goto 4, 3) := by decide +kernel
theorem dL_isShownSo_255 : decode cL_isShownSo 255 = .ok (.iconst 0, 1) := by decide +kernel
theorem dL_isShownSo_256 : decode cL_isShownSo 256 = .ok (.istore 7, 2) := by decide +kernel
theorem dL_isShownSo_258 : decode cL_isShownSo 258 = .ok (.iinc 8 1, 3) := by decide +kernel
theorem dL_isShownSo_261 : decode cL_isShownSo 261 = .ok (.goto (-130), 3) := by decide +kernel
theorem dL_isShownSo_264 : decode cL_isShownSo 264 = .ok (.iload 7, 2) := by decide +kernel
theorem dL_isShownSo_266 : decode cL_isShownSo 266 = .ok (.ireturn, 1) := by decide +kernel
theorem dL_areBreaksSo_0 : decode cL_areBreaksSo 0 = .ok (.aload_n 0, 1) := by decide +kernel
theorem dL_areBreaksSo_1 : decode cL_areBreaksSo 1 = .ok (.iload_n 1, 1) := by decide +kernel
theorem dL_areBreaksSo_2 : decode cL_areBreaksSo 2 = .ok (.iconst (-1), 1) := by decide +kernel
theorem dL_areBreaksSo_3 : decode cL_areBreaksSo 3 = .ok (.invokevirtual 112, 3) := by decide +kernel
theorem dL_areBreaksSo_6 : decode cL_areBreaksSo 6 = .ok (.istore_n 2, 1) := by decide +kernel
theorem dL_areBreaksSo_7 : decode cL_areBreaksSo 7 = .ok (.aload_n 0, 1) := by decide +kernel
theorem dL_areBreaksSo_8 : decode cL_areBreaksSo 8 = .ok (.iload_n 1, 1) := by decide +kernel
theorem dL_areBreaksSo_9 : decode cL_areBreaksSo 9 = .ok (.iconst 0, 1) := by decide +kernel
theorem dL_areBreaksSo_10 : decode cL_areBreaksSo 10 = .ok (.invokevirtual 177, 3) := by decide +kernel
theorem dL_areBreaksSo_13 : decode cL_areBreaksSo 13 = .ok (.lstore_n 3, 1) := by decide +kernel
theorem dL_areBreaksSo_14 : decode cL_areBreaksSo 14 = .ok (.aload_n 0, 1) := by decide +kernel
theorem dL_areBreaksSo_15 : decode cL_areBreaksSo 15 = .ok (.iload_n 1, 1) := by decide +kernel
theorem dL_areBreaksSo_16 : decode cL_areBreaksSo 16 = .ok (.iconst 1, 1) := by decide +kernel
theorem dL_areBreaksSo_17 : decode cL_areBreaksSo 17 = .ok (.invokevirtual 177, 3) := by decide +kernel
theorem dL_areBreaksSo_20 : decode cL_areBreaksSo 20 = .ok (.lstore 5, 2) := by decide +kernel
theorem dL_areBreaksSo_22 : decode cL_areBreaksSo 22 = .ok (.aload_n 0, 1) := by decide +kernel
theorem dL_areBreaksSo_23 : decode cL_areBreaksSo 23 = .ok (.iload_n 1, 1) := by decide +kernel
theorem dL_areBreaksSo_24 : decode cL_areBreaksSo 24 = .ok (.iconst 2, 1) := by decide +kernel
theorem dL_areBreaksSo_25 : decode cL_areBreaksSo 25 = .ok (.invokevirtual 177, 3) := by decide +kernel
theorem dL_areBreaksSo_28 : decode cL_areBreaksSo 28 = .ok (.lstore 7, 2) := by decide +kernel
theorem dL_areBreaksSo_30 : decode cL_areBreaksSo 30 = .ok (.lload 5, 2) := by decide +kernel
theorem dL_areBreaksSo_32 : decode cL_areBreaksSo 32 = .ok (.lload_n 3, 1) := by decide +kernel
theorem dL_areBreaksSo_33 : decode cL_areBreaksSo 33 = .ok (.ldc2_w 185, 3) := by decide +kernel
theorem dL_areBreaksSo_36 : decode cL_areBreaksSo 36 = .ok (.lxor, 1) := by decide +kernel
theorem dL_areBreaksSo_37 : decode cL_areBreaksSo 37 = .ok (.land, 1) := by decide +kernel
theorem dL_areBreaksSo_38 : decode cL_areBreaksSo 38 = .ok (.lconst 0, 1) := by decide +kernel
theorem dL_areBreaksSo_39 : decode cL_areBreaksSo 39 = .ok (.lcmp, 1) := by decide +kernel
theorem dL_areBreaksSo_40 : decode cL_areBreaksSo 40 = .ok (.ifCond .ne 37, 3) := by decide +kernel
theorem dL_areBreaksSo_43 : decode cL_areBreaksSo 43 = .ok (.lload 7, 2) := by decide +kernel
theorem dL_areBreaksSo_45 : decode cL_areBreaksSo 45 = .ok (.lload 5, 2) := by decide +kernel
theorem dL_areBreaksSo_47 : decode cL_areBreaksSo 47 = .ok (.ldc2_w 185, 3) := by decide +kernel
theorem dL_areBreaksSo_50 : decode cL_areBreaksSo 50 = .ok (.lxor, 1) := by decide +kernel
theorem dL_areBreaksSo_51 : decode cL_areBreaksSo 51 = .ok (.land, 1) := by decide +kernel
theorem dL_areBreaksSo_52 : decode cL_areBreaksSo 52 = .ok (.lconst 0, 1) := by decide +kernel
theorem dL_areBreaksSo_53 : decode cL_areBreaksSo 53 = .ok (.lcmp, 1) := by decide +kernel
theorem dL_areBreaksSo_54 : decode cL_areBreaksSo 54 = .ok (.ifCond .ne 23, 3) := by decide +kernel
theorem dL_areBreaksSo_57 : decode cL_areBreaksSo 57 = .ok (.lload_n 3, 1) := by decide +kernel
theorem dL_areBreaksSo_58 : decode cL_areBreaksSo 58 = .ok (.lconst 1, 1) := by decide +kernel
theorem dL_areBreaksSo_59 : decode cL_areBreaksSo 59 = .ok (.land, 1) := by decide +kernel
theorem dL_areBreaksSo_60 : decode cL_areBreaksSo 60 = .ok (.lconst 0, 1) := by decide +kernel
theorem dL_areBreaksSo_61 : decode cL_areBreaksSo 61 = .ok (.lcmp, 1) := by decide +kernel
theorem dL_areBreaksSo_62 : decode cL_areBreaksSo 62 = .ok (.ifCond .ne 15, 3) := by decide +kernel
theorem dL_areBreaksSo_65 : decode cL_areBreaksSo 65 = .ok (.lload_n 3, 1) := by decide +kernel
theorem dL_areBreaksSo_66 : decode cL_areBreaksSo 66 = .ok (.iload_n 2, 1) := by decide +kernel
theorem dL_areBreaksSo_67 : decode cL_areBreaksSo 67 = .ok (.lshr, 1) := by decide +kernel
theorem dL_areBreaksSo_68 : decode cL_areBreaksSo 68 = .ok (.lconst 0, 1) := by decide +kernel
theorem dL_areBreaksSo_69 : decode cL_areBreaksSo 69 = .ok (.lcmp, 1) := by decide +kernel
theorem dL_areBreaksSo_70 : decode cL_areBreaksSo 70 = .ok (.ifCond .ne 7, 3) := by decide +kernel
theorem dL_areBreaksSo_73 : decode cL_areBreaksSo 73 = .ok (.iconst 1, 1) := by decide +kernel
theorem dL_areBreaksSo_74 : decode cL_areBreaksSo 74 = .ok (.goto 4, 3) := by decide +kernel
theorem dL_areBreaksSo_77 : decode cL_areBreaksSo 77 = .ok (.iconst 0, 1) := by decide +kernel
theorem dL_areBreaksSo_78 : decode cL_areBreaksSo 78 = .ok (.istore 9, 2) := by decide +kernel
theorem dL_areBreaksSo_80 : decode cL_areBreaksSo 80 = .ok (.iconst 0, 1) := by decide +kernel
theorem dL_areBreaksSo_81 : decode cL_areBreaksSo 81 = .ok (.istore 10, 2) := by decide +kernel
theorem dL_areBreaksSo_83 : decode cL_areBreaksSo 83 = .ok (.iconst 0, 1) := by decide +kernel
theorem dL_areBreaksSo_84 : decode cL_areBreaksSo 84 = .ok (.istore 11, 2) := by decide +kernel
theorem dL_areBreaksSo_86 : decode cL_areBreaksSo 86 = .ok (.iload 10, 2) := by decide +kernel
theorem dL_areBreaksSo_88 : decode cL_areBreaksSo 88 = .ok (.iload_n 2, 1) := by decide +kernel
theorem dL_areBreaksSo_89 : decode cL_areBreaksSo 89 = .ok (.if_icmp .ge 72, 3) := by decide +kernel
theorem dL_areBreaksSo_92 : decode cL_areBreaksSo 92 = .ok (.iload 9, 2) := by decide +kernel
theorem dL_areBreaksSo_94 : decode cL_areBreaksSo 94 = .ok (.ifCond .eq 67, 3) := by decide +kernel
theorem dL_areBreaksSo_97 : decode cL_areBreaksSo 97 = .ok (.aload_n 0, 1) := by decide +kernel
theorem dL_areBreaksSo_98 : decode cL_areBreaksSo 98 = .ok (.iload_n 1, 1) := by decide +kernel
theorem dL_areBreaksSo_99 : decode cL_areBreaksSo 99 = .ok (.iload 10, 2) := by decide +kernel
theorem dL_areBreaksSo_101 : decode cL_areBreaksSo 101 = .ok (.iconst 1, 1) := by decide +kernel
theorem dL_areBreaksSo_102 : decode cL_areBreaksSo 102 = .ok (.invokevirtual 30, 3) := by decide +kernel
theorem dL_areBreaksSo_105 : decode cL_areBreaksSo 105 = .ok (.istore 12, 2) := by decide +kernel
theorem dL_areBreaksSo_107 : decode cL_areBreaksSo 107 = .ok (.iload 12, 2) := by decide +kernel
theorem dL_areBreaksSo_109 : decode cL_areBreaksSo 109 = .ok (.iload 10, 2) := by decide +kernel
theorem dL_areBreaksSo_111 : decode cL_areBreaksSo 111 = .ok (.if_icmp .le 37, 3) := by decide +kernel
theorem dL_areBreaksSo_114 : decode cL_areBreaksSo 114 = .ok (.iload 12, 2) := by decide +kernel
theorem dL_areBreaksSo_116 : decode cL_areBreaksSo 116 = .ok (.iload_n 2, 1) := by decide +kernel
theorem dL_areBreaksSo_117 : decode cL_areBreaksSo 117 = .ok (.if_icmp .eq 14, 3) := by decide +kernel
theorem dL_areBreaksSo_120 : decode cL_areBreaksSo 120 = .ok (.lload_n 3, 1) := by decide +kernel
theorem dL_areBreaksSo_121 : decode cL_areBreaksSo 121 = .ok (.iload 12, 2) := by decide +kernel
theorem dL_areBreaksSo_123 : decode cL_areBreaksSo 123 = .ok (.lshr, 1) := by decide +kernel
theorem dL_areBreaksSo_124 : decode cL_areBreaksSo 124 = .ok (.lconst 1, 1) := by decide +kernel
theorem dL_areBreaksSo_125 : decode cL_areBreaksSo 125 = .ok (.land, 1) := by decide +kernel
theorem dL_areBreaksSo_126 : decode cL_areBreaksSo 126 = .ok (.lconst 1, 1) := by decide +kernel
theorem dL_areBreaksSo_127 : decode cL_areBreaksSo 127 = .ok (.lcmp, 1) := by decide +kernel
theorem dL_areBreaksSo_128 : decode cL_areBreaksSo 128 = .ok (.ifCond .ne 20, 3) := by decide +kernel
theorem dL_areBreaksSo_131 : decode cL_areBreaksSo 131 = .ok (.aload_n 0, 1) := by decide +kernel
theorem dL_areBreaksSo_132 : decode cL_areBreaksSo 132 = .ok (.iload_n 1, 1) := by decide +kernel
theorem dL_areBreaksSo_133 : decode cL_areBreaksSo 133 = .ok (.iload 12, 2) := by decide +kernel
theorem dL_areBreaksSo_135 : decode cL_areBreaksSo 135 = .ok (.iconst 0, 1) := by decide +kernel
theorem dL_areBreaksSo_136 : decode cL_areBreaksSo 136 = .ok (.invokevirtual 30, 3) := by decide +kernel
theorem dL_areBreaksSo_139 : decode cL_areBreaksSo 139 = .ok (.iload 10, 2) := by decide +kernel
theorem dL_areBreaksSo_141 : decode cL_areBreaksSo 141 = .ok (.if_icmp .ne 7, 3) := by decide +kernel
theorem dL_areBreaksSo_144 : decode cL_areBreaksSo 144 = .ok (.iconst 1, 1) := by decide +kernel
theorem dL_areBreaksSo_145 : decode cL_areBreaksSo 145 = .ok (.goto 4, 3) := by decide +kernel
theorem dL_areBreaksSo_148 : decode cL_areBreaksSo 148 = .ok (.iconst 0, 1) := by decide +kernel
theorem dL_areBreaksSo_149 : decode cL_areBreaksSo 149 = .ok (.istore 9, 2) := by decide +kernel
theorem dL_areBreaksSo_151 : decode cL_areBreaksSo 151 = .ok (.iload 12, 2) := by decide +kernel
theorem dL_areBreaksSo_153 : decode cL_areBreaksSo 153 = .ok (.istore 10, 2) := by decide +kernel
theorem dL_areBreaksSo_155 : decode cL_areBreaksSo 155 = .ok (.iinc 11 1, 3) := by decide +kernel
theorem dL_areBreaksSo_158 : decode cL_areBreaksSo 158 = .ok (.goto (-72), 3) := by decide +kernel
theorem dL_areBreaksSo_161 : decode cL_areBreaksSo 161 = .ok (.iconst 0, 1) := by decide +kernel
theorem dL_areBreaksSo_162 : decode cL_areBreaksSo 162 = .ok (.istore 12, 2) := by decide +kernel
theorem dL_areBreaksSo_164 : decode cL_areBreaksSo 164 = .ok (.iconst 1, 1) := by decide +kernel
theorem dL_areBreaksSo_165 : decode cL_areBreaksSo 165 = .ok (.istore 13, 2) := by decide +kernel
theorem dL_areBreaksSo_167 : decode cL_areBreaksSo 167 = .ok (.iload 13, 2) := by decide +kernel
theorem dL_areBreaksSo_169 : decode cL_areBreaksSo 169 = .ok (.iload_n 2, 1) := by decide +kernel
theorem dL_areBreaksSo_170 : decode cL_areBreaksSo 170 = .ok (.if_icmp .ge 21, 3) := by decide +kernel
theorem dL_areBreaksSo_173 : decode cL_areBreaksSo 173 = .ok (.iload 12, 2) := by decide +kernel
theorem dL_areBreaksSo_175 : decode cL_areBreaksSo 175 = .ok (.lload_n 3, 1) := by decide +kernel
theorem dL_areBreaksSo_176 : decode cL_areBreaksSo 176 = .ok (.iload 13, 2) := by decide +kernel
theorem dL_areBreaksSo_178 : decode cL_areBreaksSo 178 = .ok (.lshr, 1) := by decide +kernel
theorem dL_areBreaksSo_179 : decode cL_areBreaksSo 179 = .ok (.lconst 1, 1) := by decide +kernel
theorem dL_areBreaksSo_180 : decode cL_areBreaksSo 180 = .ok (.land, 1) := by decide +kernel
theorem dL_areBreaksSo_181 : decode cL_areBreaksSo 181 = .ok (.l2i, 1) := by decide +kernel
theorem dL_areBreaksSo_182 : decode cL_areBreaksSo 182 = .ok (.iadd, 1) := by decide +kernel
theorem dL_areBreaksSo_183 : decode cL_areBreaksSo 183 = .ok (.istore 12, 2) := by decide +kernel
theorem dL_areBreaksSo_185 : decode cL_areBreaksSo 185 = .ok (.iinc 13 1, 3) := by decide +kernel
theorem dL_areBreaksSo_188 : decode cL_areBreaksSo 188 = .ok (.goto (-21), 3) := by decide +kernel
theorem dL_areBreaksSo_191 : decode cL_areBreaksSo 191 = .ok (.iload 9, 2) := by decide +kernel
theorem dL_areBreaksSo_193 : decode cL_areBreaksSo 193 = .ok (.ifCond .eq 20, 3) := by decide +kernel
theorem dL_areBreaksSo_196 : decode cL_areBreaksSo 196 = .ok (.iload_n 2, 1) := by decide +kernel
theorem dL_areBreaksSo_197 : decode cL_areBreaksSo 197 = .ok (.ifCond .eq 12, 3) := by decide +kernel
theorem dL_areBreaksSo_200 : decode cL_areBreaksSo 200 = .ok (.iload 11, 2) := by decide +kernel
theorem dL_areBreaksSo_202 : decode cL_areBreaksSo 202 = .ok (.iload 12, 2) := by decide +kernel
theorem dL_areBreaksSo_204 : decode cL_areBreaksSo 204 = .ok (.iconst 1, 1) := by decide +kernel
theorem dL_areBreaksSo_205 : decode cL_areBreaksSo 205 = .ok (.iadd, 1) := by decide +kernel
theorem dL_areBreaksSo_206 : decode cL_areBreaksSo 206 = .ok (.if_icmp .ne 7, 3) := by decide +kernel
theorem dL_areBreaksSo_209 : decode cL_areBreaksSo 209 = .ok (.iconst 1, 1) := by decide +kernel
theorem dL_areBreaksSo_210 : decode cL_areBreaksSo 210 = .ok (.goto 4, 3) := by decide +kernel
theorem dL_areBreaksSo_213 : decode cL_areBreaksSo 213 = .ok (.iconst 0, 1) := by decide +kernel
theorem dL_areBreaksSo_214 : decode cL_areBreaksSo 214 = .ok (.ireturn, 1) := by decide +kernel
theorem dL_law_0 : decode cL_law 0 = .ok (.new 18, 3) := by decide +kernel
theorem dL_law_3 : decode cL_law 3 = .ok (.dup, 1) := by decide +kernel
theorem dL_law_4 : decode cL_law 4 = .ok (.invokespecial 187, 3) := by decide +kernel
theorem dL_law_7 : decode cL_law 7 = .ok (.astore_n 1, 1) := by decide +kernel
theorem dL_law_8 : decode cL_law 8 = .ok (.new 18, 3) := by decide +kernel
theorem dL_law_11 : decode cL_law 11 = .ok (.dup, 1) := by decide +kernel
theorem dL_law_12 : decode cL_law 12 = .ok (.invokespecial 187, 3) := by decide +kernel
theorem dL_law_15 : decode cL_law 15 = .ok (.astore_n 2, 1) := by decide +kernel
theorem dL_law_16 : decode cL_law 16 = .ok (.iconst 1, 1) := by decide +kernel
theorem dL_law_17 : decode cL_law 17 = .ok (.istore_n 3, 1) := by decide +kernel
theorem dL_law_18 : decode cL_law 18 = .ok (.iconst 0, 1) := by decide +kernel
theorem dL_law_19 : decode cL_law 19 = .ok (.istore 4, 2) := by decide +kernel
theorem dL_law_21 : decode cL_law 21 = .ok (.iload 4, 2) := by decide +kernel
theorem dL_law_23 : decode cL_law 23 = .ok (.sipush 140, 3) := by decide +kernel
theorem dL_law_26 : decode cL_law 26 = .ok (.if_icmp .ge 176, 3) := by decide +kernel
theorem dL_law_29 : decode cL_law 29 = .ok (.iload_n 3, 1) := by decide +kernel
theorem dL_law_30 : decode cL_law 30 = .ok (.ifCond .eq 172, 3) := by decide +kernel
theorem dL_law_33 : decode cL_law 33 = .ok (.aload_n 0, 1) := by decide +kernel
theorem dL_law_34 : decode cL_law 34 = .ok (.iload 4, 2) := by decide +kernel
theorem dL_law_36 : decode cL_law 36 = .ok (.bipush 61, 2) := by decide +kernel
theorem dL_law_38 : decode cL_law 38 = .ok (.irem, 1) := by decide +kernel
theorem dL_law_39 : decode cL_law 39 = .ok (.invokestatic 188, 3) := by decide +kernel
theorem dL_law_42 : decode cL_law 42 = .ok (.sipush 1571, 3) := by decide +kernel
theorem dL_law_45 : decode cL_law 45 = .ok (.iload 4, 2) := by decide +kernel
theorem dL_law_47 : decode cL_law 47 = .ok (.bipush 61, 2) := by decide +kernel
theorem dL_law_49 : decode cL_law 49 = .ok (.idiv, 1) := by decide +kernel
theorem dL_law_50 : decode cL_law 50 = .ok (.imul, 1) := by decide +kernel
theorem dL_law_51 : decode cL_law 51 = .ok (.iadd, 1) := by decide +kernel
theorem dL_law_52 : decode cL_law 52 = .ok (.istore 5, 2) := by decide +kernel
theorem dL_law_54 : decode cL_law 54 = .ok (.iload 5, 2) := by decide +kernel
theorem dL_law_56 : decode cL_law 56 = .ok (.bipush 56, 2) := by decide +kernel
theorem dL_law_58 : decode cL_law 58 = .ok (.invokestatic 137, 3) := by decide +kernel
theorem dL_law_61 : decode cL_law 61 = .ok (.istore 6, 2) := by decide +kernel
theorem dL_law_63 : decode cL_law 63 = .ok (.aload_n 1, 1) := by decide +kernel
theorem dL_law_64 : decode cL_law 64 = .ok (.iload 5, 2) := by decide +kernel
theorem dL_law_66 : decode cL_law 66 = .ok (.invokestatic 192, 3) := by decide +kernel
theorem dL_law_69 : decode cL_law 69 = .ok (.istore 7, 2) := by decide +kernel
theorem dL_law_71 : decode cL_law 71 = .ok (.iload 7, 2) := by decide +kernel
theorem dL_law_73 : decode cL_law 73 = .ok (.ldc 70, 2) := by decide +kernel
theorem dL_law_75 : decode cL_law 75 = .ok (.if_icmp .ne 10, 3) := by decide +kernel
theorem dL_law_78 : decode cL_law 78 = .ok (.iload 6, 2) := by decide +kernel
theorem dL_law_80 : decode cL_law 80 = .ok (.bipush 47, 2) := by decide +kernel
theorem dL_law_82 : decode cL_law 82 = .ok (.if_icmp .lt 14, 3) := by decide +kernel
theorem dL_law_85 : decode cL_law 85 = .ok (.aload_n 2, 1) := by decide +kernel
theorem dL_law_86 : decode cL_law 86 = .ok (.iload 5, 2) := by decide +kernel
theorem dL_law_88 : decode cL_law 88 = .ok (.invokestatic 192, 3) := by decide +kernel
theorem dL_law_91 : decode cL_law 91 = .ok (.iload 7, 2) := by decide +kernel
theorem dL_law_93 : decode cL_law 93 = .ok (.if_icmp .ne 25, 3) := by decide +kernel
theorem dL_law_96 : decode cL_law 96 = .ok (.iload 4, 2) := by decide +kernel
theorem dL_law_98 : decode cL_law 98 = .ok (.bipush 9, 2) := by decide +kernel
theorem dL_law_100 : decode cL_law 100 = .ok (.irem, 1) := by decide +kernel
theorem dL_law_101 : decode cL_law 101 = .ok (.bipush 8, 2) := by decide +kernel
theorem dL_law_103 : decode cL_law 103 = .ok (.if_icmp .ne 11, 3) := by decide +kernel
theorem dL_law_106 : decode cL_law 106 = .ok (.aload_n 1, 1) := by decide +kernel
theorem dL_law_107 : decode cL_law 107 = .ok (.aload_n 2, 1) := by decide +kernel
theorem dL_law_108 : decode cL_law 108 = .ok (.invokestatic 196, 3) := by decide +kernel
theorem dL_law_111 : decode cL_law 111 = .ok (.ifCond .eq 7, 3) := by decide +kernel
theorem dL_law_114 : decode cL_law 114 = .ok (.iconst 1, 1) := by decide +kernel
theorem dL_law_115 : decode cL_law 115 = .ok (.goto 4, 3) := by decide +kernel
theorem dL_law_118 : decode cL_law 118 = .ok (.iconst 0, 1) := by decide +kernel
theorem dL_law_119 : decode cL_law 119 = .ok (.istore_n 3, 1) := by decide +kernel
theorem dL_law_120 : decode cL_law 120 = .ok (.iload 4, 2) := by decide +kernel
theorem dL_law_122 : decode cL_law 122 = .ok (.bipush 7, 2) := by decide +kernel
theorem dL_law_124 : decode cL_law 124 = .ok (.irem, 1) := by decide +kernel
theorem dL_law_125 : decode cL_law 125 = .ok (.iconst 3, 1) := by decide +kernel
theorem dL_law_126 : decode cL_law 126 = .ok (.if_icmp .ne 70, 3) := by decide +kernel
theorem dL_law_129 : decode cL_law 129 = .ok (.iload_n 3, 1) := by decide +kernel
theorem dL_law_130 : decode cL_law 130 = .ok (.ifCond .eq 66, 3) := by decide +kernel
theorem dL_law_133 : decode cL_law 133 = .ok (.iload 5, 2) := by decide +kernel
theorem dL_law_135 : decode cL_law 135 = .ok (.iconst 4, 1) := by decide +kernel
theorem dL_law_136 : decode cL_law 136 = .ok (.ishr, 1) := by decide +kernel
theorem dL_law_137 : decode cL_law 137 = .ok (.iconst 3, 1) := by decide +kernel
theorem dL_law_138 : decode cL_law 138 = .ok (.invokestatic 137, 3) := by decide +kernel
theorem dL_law_141 : decode cL_law 141 = .ok (.istore 8, 2) := by decide +kernel
theorem dL_law_143 : decode cL_law 143 = .ok (.aload_n 1, 1) := by decide +kernel
theorem dL_law_144 : decode cL_law 144 = .ok (.iload 8, 2) := by decide +kernel
theorem dL_law_146 : decode cL_law 146 = .ok (.invokestatic 200, 3) := by decide +kernel
theorem dL_law_149 : decode cL_law 149 = .ok (.ifCond .eq 45, 3) := by decide +kernel
theorem dL_law_152 : decode cL_law 152 = .ok (.aload_n 2, 1) := by decide +kernel
theorem dL_law_153 : decode cL_law 153 = .ok (.iload 8, 2) := by decide +kernel
theorem dL_law_155 : decode cL_law 155 = .ok (.invokestatic 200, 3) := by decide +kernel
theorem dL_law_158 : decode cL_law 158 = .ok (.ifCond .eq 36, 3) := by decide +kernel
theorem dL_law_161 : decode cL_law 161 = .ok (.aload_n 1, 1) := by decide +kernel
theorem dL_law_162 : decode cL_law 162 = .ok (.iload 8, 2) := by decide +kernel
theorem dL_law_164 : decode cL_law 164 = .ok (.iload 5, 2) := by decide +kernel
theorem dL_law_166 : decode cL_law 166 = .ok (.bipush 6, 2) := by decide +kernel
theorem dL_law_168 : decode cL_law 168 = .ok (.ishr, 1) := by decide +kernel
theorem dL_law_169 : decode cL_law 169 = .ok (.iconst 3, 1) := by decide +kernel
theorem dL_law_170 : decode cL_law 170 = .ok (.invokestatic 137, 3) := by decide +kernel
theorem dL_law_173 : decode cL_law 173 = .ok (.iconst 1, 1) := by decide +kernel
theorem dL_law_174 : decode cL_law 174 = .ok (.isub, 1) := by decide +kernel
theorem dL_law_175 : decode cL_law 175 = .ok (.invokestatic 204, 3) := by decide +kernel
theorem dL_law_178 : decode cL_law 178 = .ok (.ifCond .eq 16, 3) := by decide +kernel
theorem dL_law_181 : decode cL_law 181 = .ok (.aload_n 1, 1) := by decide +kernel
theorem dL_law_182 : decode cL_law 182 = .ok (.iload 8, 2) := by decide +kernel
theorem dL_law_184 : decode cL_law 184 = .ok (.invokestatic 207, 3) := by decide +kernel
theorem dL_law_187 : decode cL_law 187 = .ok (.ifCond .eq 7, 3) := by decide +kernel
theorem dL_law_190 : decode cL_law 190 = .ok (.iconst 1, 1) := by decide +kernel
theorem dL_law_191 : decode cL_law 191 = .ok (.goto 4, 3) := by decide +kernel
theorem dL_law_194 : decode cL_law 194 = .ok (.iconst 0, 1) := by decide +kernel
theorem dL_law_195 : decode cL_law 195 = .ok (.istore_n 3, 1) := by decide +kernel
theorem dL_law_196 : decode cL_law 196 = .ok (.iinc 4 1, 3) := by decide +kernel
theorem dL_law_199 : decode cL_law 199 = .ok (.goto (-178), 3) := by decide +kernel
theorem dL_law_202 : decode cL_law 202 = .ok (.iload_n 3, 1) := by decide +kernel
theorem dL_law_203 : decode cL_law 203 = .ok (.ifCond .eq 15, 3) := by decide +kernel
theorem dL_law_206 : decode cL_law 206 = .ok (.aload_n 1, 1) := by decide +kernel
theorem dL_law_207 : decode cL_law 207 = .ok (.aload_n 2, 1) := by decide +kernel
theorem dL_law_208 : decode cL_law 208 = .ok (.invokestatic 196, 3) := by decide +kernel
theorem dL_law_211 : decode cL_law 211 = .ok (.ifCond .eq 7, 3) := by decide +kernel
theorem dL_law_214 : decode cL_law 214 = .ok (.iconst 1, 1) := by decide +kernel
theorem dL_law_215 : decode cL_law 215 = .ok (.goto 4, 3) := by decide +kernel
theorem dL_law_218 : decode cL_law 218 = .ok (.iconst 0, 1) := by decide +kernel
theorem dL_law_219 : decode cL_law 219 = .ok (.ireturn, 1) := by decide +kernel
