theorem dX0_init_0 : decode cX0_init 0 = .ok (.aload_n 0, 1) := by decide +kernel
theorem dX0_init_1 : decode cX0_init 1 = .ok (.invokespecial 3, 3) := by decide +kernel
theorem dX0_init_4 : decode cX0_init 4 = .ok (.aload_n 0, 1) := by decide +kernel
theorem dX0_init_5 : decode cX0_init 5 = .ok (.aload_n 1, 1) := by decide +kernel
theorem dX0_init_6 : decode cX0_init 6 = .ok (.putfield 9, 3) := by decide +kernel
theorem dX0_init_9 : decode cX0_init 9 = .ok (.return_, 1) := by decide +kernel
theorem dX0_isBeginning_0 : decode cX0_isBeginning 0 = .ok (.iload_n 2, 1) := by decide +kernel
theorem dX0_isBeginning_1 : decode cX0_isBeginning 1 = .ok (.ifCond .eq 11, 3) := by decide +kernel
theorem dX0_isBeginning_4 : decode cX0_isBeginning 4 = .ok (.lload_n 0, 1) := by decide +kernel
theorem dX0_isBeginning_5 : decode cX0_isBeginning 5 = .ok (.iload_n 2, 1) := by decide +kernel
theorem dX0_isBeginning_6 : decode cX0_isBeginning 6 = .ok (.invokestatic 15, 3) := by decide +kernel
theorem dX0_isBeginning_9 : decode cX0_isBeginning 9 = .ok (.ifCond .eq 7, 3) := by decide +kernel
theorem dX0_isBeginning_12 : decode cX0_isBeginning 12 = .ok (.iconst 1, 1) := by decide +kernel
theorem dX0_isBeginning_13 : decode cX0_isBeginning 13 = .ok (.goto 4, 3) := by decide +kernel
theorem dX0_isBeginning_16 : decode cX0_isBeginning 16 = .ok (.iconst 0, 1) := by decide +kernel
theorem dX0_isBeginning_17 : decode cX0_isBeginning 17 = .ok (.ireturn, 1) := by decide +kernel
theorem dX0_isMarked_0 : decode cX0_isMarked 0 = .ok (.iload_n 2, 1) := by decide +kernel
theorem dX0_isMarked_1 : decode cX0_isMarked 1 = .ok (.ifCond .le 23, 3) := by decide +kernel
theorem dX0_isMarked_4 : decode cX0_isMarked 4 = .ok (.iload_n 2, 1) := by decide +kernel
theorem dX0_isMarked_5 : decode cX0_isMarked 5 = .ok (.bipush 64, 2) := by decide +kernel
theorem dX0_isMarked_7 : decode cX0_isMarked 7 = .ok (.if_icmp .ge 17, 3) := by decide +kernel
theorem dX0_isMarked_10 : decode cX0_isMarked 10 = .ok (.lload_n 0, 1) := by decide +kernel
theorem dX0_isMarked_11 : decode cX0_isMarked 11 = .ok (.iload_n 2, 1) := by decide +kernel
theorem dX0_isMarked_12 : decode cX0_isMarked 12 = .ok (.lushr, 1) := by decide +kernel
theorem dX0_isMarked_13 : decode cX0_isMarked 13 = .ok (.lconst 1, 1) := by decide +kernel
theorem dX0_isMarked_14 : decode cX0_isMarked 14 = .ok (.land, 1) := by decide +kernel
theorem dX0_isMarked_15 : decode cX0_isMarked 15 = .ok (.lconst 0, 1) := by decide +kernel
theorem dX0_isMarked_16 : decode cX0_isMarked 16 = .ok (.lcmp, 1) := by decide +kernel
theorem dX0_isMarked_17 : decode cX0_isMarked 17 = .ok (.ifCond .eq 7, 3) := by decide +kernel
theorem dX0_isMarked_20 : decode cX0_isMarked 20 = .ok (.iconst 1, 1) := by decide +kernel
theorem dX0_isMarked_21 : decode cX0_isMarked 21 = .ok (.goto 4, 3) := by decide +kernel
theorem dX0_isMarked_24 : decode cX0_isMarked 24 = .ok (.iconst 0, 1) := by decide +kernel
theorem dX0_isMarked_25 : decode cX0_isMarked 25 = .ok (.ireturn, 1) := by decide +kernel
theorem dX0_kindAt_0 : decode cX0_kindAt 0 = .ok (.aload_n 0, 1) := by decide +kernel
theorem dX0_kindAt_1 : decode cX0_kindAt 1 = .ok (.getfield 9, 3) := by decide +kernel
theorem dX0_kindAt_4 : decode cX0_kindAt 4 = .ok (.aload_n 1, 1) := by decide +kernel
theorem dX0_kindAt_5 : decode cX0_kindAt 5 = .ok (.iload_n 2, 1) := by decide +kernel
theorem dX0_kindAt_6 : decode cX0_kindAt 6 = .ok (.invokevirtual 19, 3) := by decide +kernel
theorem dX0_kindAt_9 : decode cX0_kindAt 9 = .ok (.invokevirtual 25, 3) := by decide +kernel
theorem dX0_kindAt_12 : decode cX0_kindAt 12 = .ok (.ireturn, 1) := by decide +kernel
theorem dX0_clusterBreaks_0 : decode cX0_clusterBreaks 0 = .ok (.lconst 0, 1) := by decide +kernel
theorem dX0_clusterBreaks_1 : decode cX0_clusterBreaks 1 = .ok (.lstore_n 2, 1) := by decide +kernel
theorem dX0_clusterBreaks_2 : decode cX0_clusterBreaks 2 = .ok (.iconst 1, 1) := by decide +kernel
theorem dX0_clusterBreaks_3 : decode cX0_clusterBreaks 3 = .ok (.istore 4, 2) := by decide +kernel
theorem dX0_clusterBreaks_5 : decode cX0_clusterBreaks 5 = .ok (.iload 4, 2) := by decide +kernel
theorem dX0_clusterBreaks_7 : decode cX0_clusterBreaks 7 = .ok (.aload_n 1, 1) := by decide +kernel
theorem dX0_clusterBreaks_8 : decode cX0_clusterBreaks 8 = .ok (.invokevirtual 30, 3) := by decide +kernel
theorem dX0_clusterBreaks_11 : decode cX0_clusterBreaks 11 = .ok (.if_icmp .ge 40, 3) := by decide +kernel
theorem dX0_clusterBreaks_14 : decode cX0_clusterBreaks 14 = .ok (.aload_n 0, 1) := by decide +kernel
theorem dX0_clusterBreaks_15 : decode cX0_clusterBreaks 15 = .ok (.aload_n 1, 1) := by decide +kernel
theorem dX0_clusterBreaks_16 : decode cX0_clusterBreaks 16 = .ok (.iload 4, 2) := by decide +kernel
theorem dX0_clusterBreaks_18 : decode cX0_clusterBreaks 18 = .ok (.invokevirtual 34, 3) := by decide +kernel
theorem dX0_clusterBreaks_21 : decode cX0_clusterBreaks 21 = .ok (.iconst 2, 1) := by decide +kernel
theorem dX0_clusterBreaks_22 : decode cX0_clusterBreaks 22 = .ok (.if_icmp .eq 23, 3) := by decide +kernel
theorem dX0_clusterBreaks_25 : decode cX0_clusterBreaks 25 = .ok (.aload_n 0, 1) := by decide +kernel
theorem dX0_clusterBreaks_26 : decode cX0_clusterBreaks 26 = .ok (.aload_n 1, 1) := by decide +kernel
theorem dX0_clusterBreaks_27 : decode cX0_clusterBreaks 27 = .ok (.iload 4, 2) := by decide +kernel
theorem dX0_clusterBreaks_29 : decode cX0_clusterBreaks 29 = .ok (.iconst 1, 1) := by decide +kernel
theorem dX0_clusterBreaks_30 : decode cX0_clusterBreaks 30 = .ok (.isub, 1) := by decide +kernel
theorem dX0_clusterBreaks_31 : decode cX0_clusterBreaks 31 = .ok (.invokevirtual 34, 3) := by decide +kernel
theorem dX0_clusterBreaks_34 : decode cX0_clusterBreaks 34 = .ok (.iconst 5, 1) := by decide +kernel
theorem dX0_clusterBreaks_35 : decode cX0_clusterBreaks 35 = .ok (.if_icmp .eq 10, 3) := by decide +kernel
theorem dX0_clusterBreaks_38 : decode cX0_clusterBreaks 38 = .ok (.lload_n 2, 1) := by decide +kernel
theorem dX0_clusterBreaks_39 : decode cX0_clusterBreaks 39 = .ok (.lconst 1, 1) := by decide +kernel
theorem dX0_clusterBreaks_40 : decode cX0_clusterBreaks 40 = .ok (.iload 4, 2) := by decide +kernel
theorem dX0_clusterBreaks_42 : decode cX0_clusterBreaks 42 = .ok (.lshl, 1) := by decide +kernel
theorem dX0_clusterBreaks_43 : decode cX0_clusterBreaks 43 = .ok (.lor, 1) := by decide +kernel
theorem dX0_clusterBreaks_44 : decode cX0_clusterBreaks 44 = .ok (.lstore_n 2, 1) := by decide +kernel
theorem dX0_clusterBreaks_45 : decode cX0_clusterBreaks 45 = .ok (.iinc 4 1, 3) := by decide +kernel
theorem dX0_clusterBreaks_48 : decode cX0_clusterBreaks 48 = .ok (.goto (-43), 3) := by decide +kernel
theorem dX0_clusterBreaks_51 : decode cX0_clusterBreaks 51 = .ok (.lload_n 2, 1) := by decide +kernel
theorem dX0_clusterBreaks_52 : decode cX0_clusterBreaks 52 = .ok (.lreturn, 1) := by decide +kernel
theorem dX0_wordBreaks_0 : decode cX0_wordBreaks 0 = .ok (.aload_n 0, 1) := by decide +kernel
theorem dX0_wordBreaks_1 : decode cX0_wordBreaks 1 = .ok (.aload_n 1, 1) := by decide +kernel
theorem dX0_wordBreaks_2 : decode cX0_wordBreaks 2 = .ok (.invokevirtual 38, 3) := by decide +kernel
theorem dX0_wordBreaks_5 : decode cX0_wordBreaks 5 = .ok (.lstore_n 3, 1) := by decide +kernel
theorem dX0_wordBreaks_6 : decode cX0_wordBreaks 6 = .ok (.aload_n 0, 1) := by decide +kernel
theorem dX0_wordBreaks_7 : decode cX0_wordBreaks 7 = .ok (.aload_n 1, 1) := by decide +kernel
theorem dX0_wordBreaks_8 : decode cX0_wordBreaks 8 = .ok (.lload_n 3, 1) := by decide +kernel
theorem dX0_wordBreaks_9 : decode cX0_wordBreaks 9 = .ok (.invokevirtual 42, 3) := by decide +kernel
theorem dX0_wordBreaks_12 : decode cX0_wordBreaks 12 = .ok (.lstore 5, 2) := by decide +kernel
theorem dX0_wordBreaks_14 : decode cX0_wordBreaks 14 = .ok (.lconst 0, 1) := by decide +kernel
theorem dX0_wordBreaks_15 : decode cX0_wordBreaks 15 = .ok (.lstore 7, 2) := by decide +kernel
theorem dX0_wordBreaks_17 : decode cX0_wordBreaks 17 = .ok (.iconst 0, 1) := by decide +kernel
theorem dX0_wordBreaks_18 : decode cX0_wordBreaks 18 = .ok (.istore 9, 2) := by decide +kernel
theorem dX0_wordBreaks_20 : decode cX0_wordBreaks 20 = .ok (.iconst 1, 1) := by decide +kernel
theorem dX0_wordBreaks_21 : decode cX0_wordBreaks 21 = .ok (.istore 10, 2) := by decide +kernel
theorem dX0_wordBreaks_23 : decode cX0_wordBreaks 23 = .ok (.iload 10, 2) := by decide +kernel
theorem dX0_wordBreaks_25 : decode cX0_wordBreaks 25 = .ok (.aload_n 1, 1) := by decide +kernel
theorem dX0_wordBreaks_26 : decode cX0_wordBreaks 26 = .ok (.invokevirtual 30, 3) := by decide +kernel
theorem dX0_wordBreaks_29 : decode cX0_wordBreaks 29 = .ok (.if_icmp .ge 87, 3) := by decide +kernel
theorem dX0_wordBreaks_32 : decode cX0_wordBreaks 32 = .ok (.lload_n 3, 1) := by decide +kernel
theorem dX0_wordBreaks_33 : decode cX0_wordBreaks 33 = .ok (.iload 10, 2) := by decide +kernel
theorem dX0_wordBreaks_35 : decode cX0_wordBreaks 35 = .ok (.invokestatic 15, 3) := by decide +kernel
theorem dX0_wordBreaks_38 : decode cX0_wordBreaks 38 = .ok (.ifCond .ne 6, 3) := by decide +kernel
theorem dX0_wordBreaks_41 : decode cX0_wordBreaks 41 = .ok (.goto 69, 3) := by decide +kernel
theorem dX0_wordBreaks_44 : decode cX0_wordBreaks 44 = .ok (.aload_n 0, 1) := by decide +kernel
theorem dX0_wordBreaks_45 : decode cX0_wordBreaks 45 = .ok (.aload_n 1, 1) := by decide +kernel
theorem dX0_wordBreaks_46 : decode cX0_wordBreaks 46 = .ok (.iload 9, 2) := by decide +kernel
theorem dX0_wordBreaks_48 : decode cX0_wordBreaks 48 = .ok (.invokevirtual 34, 3) := by decide +kernel
theorem dX0_wordBreaks_51 : decode cX0_wordBreaks 51 = .ok (.istore 11, 2) := by decide +kernel
theorem dX0_wordBreaks_53 : decode cX0_wordBreaks 53 = .ok (.aload_n 0, 1) := by decide +kernel
theorem dX0_wordBreaks_54 : decode cX0_wordBreaks 54 = .ok (.aload_n 1, 1) := by decide +kernel
theorem dX0_wordBreaks_55 : decode cX0_wordBreaks 55 = .ok (.iload 10, 2) := by decide +kernel
theorem dX0_wordBreaks_57 : decode cX0_wordBreaks 57 = .ok (.invokevirtual 34, 3) := by decide +kernel
theorem dX0_wordBreaks_60 : decode cX0_wordBreaks 60 = .ok (.istore 12, 2) := by decide +kernel
theorem dX0_wordBreaks_62 : decode cX0_wordBreaks 62 = .ok (.iload 11, 2) := by decide +kernel
theorem dX0_wordBreaks_64 : decode cX0_wordBreaks 64 = .ok (.iload 12, 2) := by decide +kernel
theorem dX0_wordBreaks_66 : decode cX0_wordBreaks 66 = .ok (.lload 5, 2) := by decide +kernel
theorem dX0_wordBreaks_68 : decode cX0_wordBreaks 68 = .ok (.iload 10, 2) := by decide +kernel
theorem dX0_wordBreaks_70 : decode cX0_wordBreaks 70 = .ok (.invokestatic 15, 3) := by decide +kernel
theorem dX0_wordBreaks_73 : decode cX0_wordBreaks 73 = .ok (.invokestatic 46, 3) := by decide +kernel
theorem dX0_wordBreaks_76 : decode cX0_wordBreaks 76 = .ok (.istore 13, 2) := by decide +kernel
theorem dX0_wordBreaks_78 : decode cX0_wordBreaks 78 = .ok (.iload 13, 2) := by decide +kernel
theorem dX0_wordBreaks_80 : decode cX0_wordBreaks 80 = .ok (.ifCond .eq 26, 3) := by decide +kernel
theorem dX0_wordBreaks_83 : decode cX0_wordBreaks 83 = .ok (.iload_n 2, 1) := by decide +kernel
theorem dX0_wordBreaks_84 : decode cX0_wordBreaks 84 = .ok (.ifCond .eq 13, 3) := by decide +kernel
theorem dX0_wordBreaks_87 : decode cX0_wordBreaks 87 = .ok (.iload 11, 2) := by decide +kernel
theorem dX0_wordBreaks_89 : decode cX0_wordBreaks 89 = .ok (.iload 12, 2) := by decide +kernel
theorem dX0_wordBreaks_91 : decode cX0_wordBreaks 91 = .ok (.invokestatic 50, 3) := by decide +kernel
theorem dX0_wordBreaks_94 : decode cX0_wordBreaks 94 = .ok (.ifCond .eq 12, 3) := by decide +kernel
theorem dX0_wordBreaks_97 : decode cX0_wordBreaks 97 = .ok (.lload 7, 2) := by decide +kernel
theorem dX0_wordBreaks_99 : decode cX0_wordBreaks 99 = .ok (.lconst 1, 1) := by decide +kernel
theorem dX0_wordBreaks_100 : decode cX0_wordBreaks 100 = .ok (.iload 10, 2) := by decide +kernel
theorem dX0_wordBreaks_102 : decode cX0_wordBreaks 102 = .ok (.lshl, 1) := by decide +kernel
theorem dX0_wordBreaks_103 : decode cX0_wordBreaks 103 = .ok (.lor, 1) := by decide +kernel
theorem dX0_wordBreaks_104 : decode cX0_wordBreaks 104 = .ok (.lstore 7, 2) := by decide +kernel
theorem dX0_wordBreaks_106 : decode cX0_wordBreaks 106 = .ok (.iload 10, 2) := by decide +kernel
theorem dX0_wordBreaks_108 : decode cX0_wordBreaks 108 = .ok (.istore 9, 2) := by decide +kernel
theorem dX0_wordBreaks_110 : decode cX0_wordBreaks 110 = .ok (.iinc 10 1, 3) := by decide +kernel
theorem dX0_wordBreaks_113 : decode cX0_wordBreaks 113 = .ok (.goto (-90), 3) := by decide +kernel
theorem dX0_wordBreaks_116 : decode cX0_wordBreaks 116 = .ok (.lload 7, 2) := by decide +kernel
theorem dX0_wordBreaks_118 : decode cX0_wordBreaks 118 = .ok (.lreturn, 1) := by decide +kernel
theorem dX0_isWordBreak_0 : decode cX0_isWordBreak 0 = .ok (.iload_n 0, 1) := by decide +kernel
theorem dX0_isWordBreak_1 : decode cX0_isWordBreak 1 = .ok (.bipush 6, 2) := by decide +kernel
theorem dX0_isWordBreak_3 : decode cX0_isWordBreak 3 = .ok (.if_icmp .ne 11, 3) := by decide +kernel
theorem dX0_isWordBreak_6 : decode cX0_isWordBreak 6 = .ok (.iload_n 1, 1) := by decide +kernel
theorem dX0_isWordBreak_7 : decode cX0_isWordBreak 7 = .ok (.bipush 6, 2) := by decide +kernel
theorem dX0_isWordBreak_9 : decode cX0_isWordBreak 9 = .ok (.if_icmp .ne 5, 3) := by decide +kernel
theorem dX0_isWordBreak_12 : decode cX0_isWordBreak 12 = .ok (.iload_n 2, 1) := by decide +kernel
theorem dX0_isWordBreak_13 : decode cX0_isWordBreak 13 = .ok (.ireturn, 1) := by decide +kernel
theorem dX0_isWordBreak_14 : decode cX0_isWordBreak 14 = .ok (.iload_n 0, 1) := by decide +kernel
theorem dX0_isWordBreak_15 : decode cX0_isWordBreak 15 = .ok (.iconst 1, 1) := by decide +kernel
theorem dX0_isWordBreak_16 : decode cX0_isWordBreak 16 = .ok (.if_icmp .eq 8, 3) := by decide +kernel
theorem dX0_isWordBreak_19 : decode cX0_isWordBreak 19 = .ok (.iload_n 0, 1) := by decide +kernel
theorem dX0_isWordBreak_20 : decode cX0_isWordBreak 20 = .ok (.iconst 4, 1) := by decide +kernel
theorem dX0_isWordBreak_21 : decode cX0_isWordBreak 21 = .ok (.if_icmp .ne 17, 3) := by decide +kernel
theorem dX0_isWordBreak_24 : decode cX0_isWordBreak 24 = .ok (.iload_n 1, 1) := by decide +kernel
theorem dX0_isWordBreak_25 : decode cX0_isWordBreak 25 = .ok (.iconst 1, 1) := by decide +kernel
theorem dX0_isWordBreak_26 : decode cX0_isWordBreak 26 = .ok (.if_icmp .eq 8, 3) := by decide +kernel
theorem dX0_isWordBreak_29 : decode cX0_isWordBreak 29 = .ok (.iload_n 1, 1) := by decide +kernel
theorem dX0_isWordBreak_30 : decode cX0_isWordBreak 30 = .ok (.iconst 4, 1) := by decide +kernel
theorem dX0_isWordBreak_31 : decode cX0_isWordBreak 31 = .ok (.if_icmp .ne 7, 3) := by decide +kernel
theorem dX0_isWordBreak_34 : decode cX0_isWordBreak 34 = .ok (.iconst 1, 1) := by decide +kernel
theorem dX0_isWordBreak_35 : decode cX0_isWordBreak 35 = .ok (.goto 4, 3) := by decide +kernel
theorem dX0_isWordBreak_38 : decode cX0_isWordBreak 38 = .ok (.iconst 0, 1) := by decide +kernel
theorem dX0_isWordBreak_39 : decode cX0_isWordBreak 39 = .ok (.istore_n 3, 1) := by decide +kernel
theorem dX0_isWordBreak_40 : decode cX0_isWordBreak 40 = .ok (.iload_n 3, 1) := by decide +kernel
theorem dX0_isWordBreak_41 : decode cX0_isWordBreak 41 = .ok (.ifCond .ne 17, 3) := by decide +kernel
theorem dX0_isWordBreak_44 : decode cX0_isWordBreak 44 = .ok (.iload_n 0, 1) := by decide +kernel
theorem dX0_isWordBreak_45 : decode cX0_isWordBreak 45 = .ok (.iconst 3, 1) := by decide +kernel
theorem dX0_isWordBreak_46 : decode cX0_isWordBreak 46 = .ok (.if_icmp .ne 8, 3) := by decide +kernel
theorem dX0_isWordBreak_49 : decode cX0_isWordBreak 49 = .ok (.iload_n 1, 1) := by decide +kernel
theorem dX0_isWordBreak_50 : decode cX0_isWordBreak 50 = .ok (.iconst 3, 1) := by decide +kernel
theorem dX0_isWordBreak_51 : decode cX0_isWordBreak 51 = .ok (.if_icmp .eq 7, 3) := by decide +kernel
theorem dX0_isWordBreak_54 : decode cX0_isWordBreak 54 = .ok (.iconst 1, 1) := by decide +kernel
theorem dX0_isWordBreak_55 : decode cX0_isWordBreak 55 = .ok (.goto 4, 3) := by decide +kernel
theorem dX0_isWordBreak_58 : decode cX0_isWordBreak 58 = .ok (.iconst 0, 1) := by decide +kernel
theorem dX0_isWordBreak_59 : decode cX0_isWordBreak 59 = .ok (.ireturn, 1) := by decide +kernel
theorem dX0_isLineBreak_0 : decode cX0_isLineBreak 0 = .ok (.iload_n 0, 1) := by decide +kernel
theorem dX0_isLineBreak_1 : decode cX0_isLineBreak 1 = .ok (.iconst 3, 1) := by decide +kernel
theorem dX0_isLineBreak_2 : decode cX0_isLineBreak 2 = .ok (.if_icmp .ne 8, 3) := by decide +kernel
theorem dX0_isLineBreak_5 : decode cX0_isLineBreak 5 = .ok (.iload_n 1, 1) := by decide +kernel
theorem dX0_isLineBreak_6 : decode cX0_isLineBreak 6 = .ok (.iconst 3, 1) := by decide +kernel
theorem dX0_isLineBreak_7 : decode cX0_isLineBreak 7 = .ok (.if_icmp .ne 15, 3) := by decide +kernel
theorem dX0_isLineBreak_10 : decode cX0_isLineBreak 10 = .ok (.iload_n 0, 1) := by decide +kernel
theorem dX0_isLineBreak_11 : decode cX0_isLineBreak 11 = .ok (.bipush 6, 2) := by decide +kernel
theorem dX0_isLineBreak_13 : decode cX0_isLineBreak 13 = .ok (.if_icmp .ne 13, 3) := by decide +kernel
theorem dX0_isLineBreak_16 : decode cX0_isLineBreak 16 = .ok (.iload_n 1, 1) := by decide +kernel
theorem dX0_isLineBreak_17 : decode cX0_isLineBreak 17 = .ok (.bipush 6, 2) := by decide +kernel
theorem dX0_isLineBreak_19 : decode cX0_isLineBreak 19 = .ok (.if_icmp .ne 7, 3) := by decide +kernel
theorem dX0_isLineBreak_22 : decode cX0_isLineBreak 22 = .ok (.iconst 1, 1) := by decide +kernel
theorem dX0_isLineBreak_23 : decode cX0_isLineBreak 23 = .ok (.goto 4, 3) := by decide +kernel
theorem dX0_isLineBreak_26 : decode cX0_isLineBreak 26 = .ok (.iconst 0, 1) := by decide +kernel
theorem dX0_isLineBreak_27 : decode cX0_isLineBreak 27 = .ok (.ireturn, 1) := by decide +kernel
theorem dX0_seamlessEnds_0 : decode cX0_seamlessEnds 0 = .ok (.lconst 0, 1) := by decide +kernel
theorem dX0_seamlessEnds_1 : decode cX0_seamlessEnds 1 = .ok (.lstore 4, 2) := by decide +kernel
theorem dX0_seamlessEnds_3 : decode cX0_seamlessEnds 3 = .ok (.iconst 0, 1) := by decide +kernel
theorem dX0_seamlessEnds_4 : decode cX0_seamlessEnds 4 = .ok (.istore 6, 2) := by decide +kernel
theorem dX0_seamlessEnds_6 : decode cX0_seamlessEnds 6 = .ok (.iconst 0, 1) := by decide +kernel
theorem dX0_seamlessEnds_7 : decode cX0_seamlessEnds 7 = .ok (.istore 7, 2) := by decide +kernel
theorem dX0_seamlessEnds_9 : decode cX0_seamlessEnds 9 = .ok (.iload 7, 2) := by decide +kernel
theorem dX0_seamlessEnds_11 : decode cX0_seamlessEnds 11 = .ok (.bipush 40, 2) := by decide +kernel
theorem dX0_seamlessEnds_13 : decode cX0_seamlessEnds 13 = .ok (.if_icmp .ge 65, 3) := by decide +kernel
theorem dX0_seamlessEnds_16 : decode cX0_seamlessEnds 16 = .ok (.iload 6, 2) := by decide +kernel
theorem dX0_seamlessEnds_18 : decode cX0_seamlessEnds 18 = .ok (.aload_n 1, 1) := by decide +kernel
theorem dX0_seamlessEnds_19 : decode cX0_seamlessEnds 19 = .ok (.invokevirtual 30, 3) := by decide +kernel
theorem dX0_seamlessEnds_22 : decode cX0_seamlessEnds 22 = .ok (.if_icmp .ge 56, 3) := by decide +kernel
theorem dX0_seamlessEnds_25 : decode cX0_seamlessEnds 25 = .ok (.aload_n 0, 1) := by decide +kernel
theorem dX0_seamlessEnds_26 : decode cX0_seamlessEnds 26 = .ok (.aload_n 1, 1) := by decide +kernel
theorem dX0_seamlessEnds_27 : decode cX0_seamlessEnds 27 = .ok (.lload_n 2, 1) := by decide +kernel
theorem dX0_seamlessEnds_28 : decode cX0_seamlessEnds 28 = .ok (.iload 6, 2) := by decide +kernel
theorem dX0_seamlessEnds_30 : decode cX0_seamlessEnds 30 = .ok (.invokevirtual 54, 3) := by decide +kernel
theorem dX0_seamlessEnds_33 : decode cX0_seamlessEnds 33 = .ok (.istore 8, 2) := by decide +kernel
theorem dX0_seamlessEnds_35 : decode cX0_seamlessEnds 35 = .ok (.aload_n 0, 1) := by decide +kernel
theorem dX0_seamlessEnds_36 : decode cX0_seamlessEnds 36 = .ok (.aload_n 1, 1) := by decide +kernel
theorem dX0_seamlessEnds_37 : decode cX0_seamlessEnds 37 = .ok (.iload 6, 2) := by decide +kernel
theorem dX0_seamlessEnds_39 : decode cX0_seamlessEnds 39 = .ok (.invokevirtual 34, 3) := by decide +kernel
theorem dX0_seamlessEnds_42 : decode cX0_seamlessEnds 42 = .ok (.bipush 6, 2) := by decide +kernel
theorem dX0_seamlessEnds_44 : decode cX0_seamlessEnds 44 = .ok (.if_icmp .ne 15, 3) := by decide +kernel
theorem dX0_seamlessEnds_47 : decode cX0_seamlessEnds 47 = .ok (.aload_n 0, 1) := by decide +kernel
theorem dX0_seamlessEnds_48 : decode cX0_seamlessEnds 48 = .ok (.aload_n 1, 1) := by decide +kernel
theorem dX0_seamlessEnds_49 : decode cX0_seamlessEnds 49 = .ok (.lload_n 2, 1) := by decide +kernel
theorem dX0_seamlessEnds_50 : decode cX0_seamlessEnds 50 = .ok (.iload 6, 2) := by decide +kernel
theorem dX0_seamlessEnds_52 : decode cX0_seamlessEnds 52 = .ok (.iload 8, 2) := by decide +kernel
theorem dX0_seamlessEnds_54 : decode cX0_seamlessEnds 54 = .ok (.invokevirtual 58, 3) := by decide +kernel
theorem dX0_seamlessEnds_57 : decode cX0_seamlessEnds 57 = .ok (.istore 8, 2) := by decide +kernel
theorem dX0_seamlessEnds_59 : decode cX0_seamlessEnds 59 = .ok (.lload 4, 2) := by decide +kernel
theorem dX0_seamlessEnds_61 : decode cX0_seamlessEnds 61 = .ok (.lconst 1, 1) := by decide +kernel
theorem dX0_seamlessEnds_62 : decode cX0_seamlessEnds 62 = .ok (.iload 8, 2) := by decide +kernel
theorem dX0_seamlessEnds_64 : decode cX0_seamlessEnds 64 = .ok (.lshl, 1) := by decide +kernel
theorem dX0_seamlessEnds_65 : decode cX0_seamlessEnds 65 = .ok (.lor, 1) := by decide +kernel
theorem dX0_seamlessEnds_66 : decode cX0_seamlessEnds 66 = .ok (.lstore 4, 2) := by decide +kernel
theorem dX0_seamlessEnds_68 : decode cX0_seamlessEnds 68 = .ok (.iload 8, 2) := by decide +kernel
theorem dX0_seamlessEnds_70 : decode cX0_seamlessEnds 70 = .ok (.istore 6, 2) := by decide +kernel
theorem dX0_seamlessEnds_72 : decode cX0_seamlessEnds 72 = .ok (.iinc 7 1, 3) := by decide +kernel
theorem dX0_seamlessEnds_75 : decode cX0_seamlessEnds 75 = .ok (.goto (-66), 3) := by decide +kernel
theorem dX0_seamlessEnds_78 : decode cX0_seamlessEnds 78 = .ok (.lload 4, 2) := by decide +kernel
theorem dX0_seamlessEnds_80 : decode cX0_seamlessEnds 80 = .ok (.lreturn, 1) := by decide +kernel
theorem dX0_clusterEnd_0 : decode cX0_clusterEnd 0 = .ok (.iload 4, 2) := by decide +kernel
theorem dX0_clusterEnd_2 : decode cX0_clusterEnd 2 = .ok (.iconst 1, 1) := by decide +kernel
theorem dX0_clusterEnd_3 : decode cX0_clusterEnd 3 = .ok (.iadd, 1) := by decide +kernel
theorem dX0_clusterEnd_4 : decode cX0_clusterEnd 4 = .ok (.istore 5, 2) := by decide +kernel
theorem dX0_clusterEnd_6 : decode cX0_clusterEnd 6 = .ok (.iload 5, 2) := by decide +kernel
theorem dX0_clusterEnd_8 : decode cX0_clusterEnd 8 = .ok (.aload_n 1, 1) := by decide +kernel
theorem dX0_clusterEnd_9 : decode cX0_clusterEnd 9 = .ok (.invokevirtual 30, 3) := by decide +kernel
theorem dX0_clusterEnd_12 : decode cX0_clusterEnd 12 = .ok (.if_icmp .ge 21, 3) := by decide +kernel
theorem dX0_clusterEnd_15 : decode cX0_clusterEnd 15 = .ok (.lload_n 2, 1) := by decide +kernel
theorem dX0_clusterEnd_16 : decode cX0_clusterEnd 16 = .ok (.iload 5, 2) := by decide +kernel
theorem dX0_clusterEnd_18 : decode cX0_clusterEnd 18 = .ok (.invokestatic 15, 3) := by decide +kernel
theorem dX0_clusterEnd_21 : decode cX0_clusterEnd 21 = .ok (.ifCond .eq 6, 3) := by decide +kernel
theorem dX0_clusterEnd_24 : decode cX0_clusterEnd 24 = .ok (.iload 5, 2) := by decide +kernel
theorem dX0_clusterEnd_26 : decode cX0_clusterEnd 26 = .ok (.ireturn, 1) := by decide +kernel
theorem dX0_clusterEnd_27 : decode cX0_clusterEnd 27 = .ok (.iinc 5 1, 3) := by decide +kernel
theorem dX0_clusterEnd_30 : decode cX0_clusterEnd 30 = .ok (.goto (-24), 3) := by decide +kernel
theorem dX0_clusterEnd_33 : decode cX0_clusterEnd 33 = .ok (.aload_n 1, 1) := by decide +kernel
theorem dX0_clusterEnd_34 : decode cX0_clusterEnd 34 = .ok (.invokevirtual 30, 3) := by decide +kernel
theorem dX0_clusterEnd_37 : decode cX0_clusterEnd 37 = .ok (.ireturn, 1) := by decide +kernel
theorem dX0_wordEnd_0 : decode cX0_wordEnd 0 = .ok (.aload_n 0, 1) := by decide +kernel
theorem dX0_wordEnd_1 : decode cX0_wordEnd 1 = .ok (.aload_n 1, 1) := by decide +kernel
theorem dX0_wordEnd_2 : decode cX0_wordEnd 2 = .ok (.lload_n 2, 1) := by decide +kernel
theorem dX0_wordEnd_3 : decode cX0_wordEnd 3 = .ok (.iload 4, 2) := by decide +kernel
theorem dX0_wordEnd_5 : decode cX0_wordEnd 5 = .ok (.invokevirtual 62, 3) := by decide +kernel
theorem dX0_wordEnd_8 : decode cX0_wordEnd 8 = .ok (.istore 6, 2) := by decide +kernel
theorem dX0_wordEnd_10 : decode cX0_wordEnd 10 = .ok (.iconst 0, 1) := by decide +kernel
theorem dX0_wordEnd_11 : decode cX0_wordEnd 11 = .ok (.istore 7, 2) := by decide +kernel
theorem dX0_wordEnd_13 : decode cX0_wordEnd 13 = .ok (.iconst 0, 1) := by decide +kernel
theorem dX0_wordEnd_14 : decode cX0_wordEnd 14 = .ok (.istore 8, 2) := by decide +kernel
theorem dX0_wordEnd_16 : decode cX0_wordEnd 16 = .ok (.iload 8, 2) := by decide +kernel
theorem dX0_wordEnd_18 : decode cX0_wordEnd 18 = .ok (.aload_n 0, 1) := by decide +kernel
theorem dX0_wordEnd_19 : decode cX0_wordEnd 19 = .ok (.getfield 9, 3) := by decide +kernel
theorem dX0_wordEnd_22 : decode cX0_wordEnd 22 = .ok (.invokevirtual 65, 3) := by decide +kernel
theorem dX0_wordEnd_25 : decode cX0_wordEnd 25 = .ok (.if_icmp .ge 89, 3) := by decide +kernel
theorem dX0_wordEnd_28 : decode cX0_wordEnd 28 = .ok (.aload_n 0, 1) := by decide +kernel
theorem dX0_wordEnd_29 : decode cX0_wordEnd 29 = .ok (.getfield 9, 3) := by decide +kernel
theorem dX0_wordEnd_32 : decode cX0_wordEnd 32 = .ok (.iload 8, 2) := by decide +kernel
theorem dX0_wordEnd_34 : decode cX0_wordEnd 34 = .ok (.invokevirtual 68, 3) := by decide +kernel
theorem dX0_wordEnd_37 : decode cX0_wordEnd 37 = .ok (.astore 9, 2) := by decide +kernel
theorem dX0_wordEnd_39 : decode cX0_wordEnd 39 = .ok (.aload 9, 2) := by decide +kernel
theorem dX0_wordEnd_41 : decode cX0_wordEnd 41 = .ok (.ifnull 67, 3) := by decide +kernel
theorem dX0_wordEnd_44 : decode cX0_wordEnd 44 = .ok (.aload 9, 2) := by decide +kernel
theorem dX0_wordEnd_46 : decode cX0_wordEnd 46 = .ok (.invokevirtual 30, 3) := by decide +kernel
theorem dX0_wordEnd_49 : decode cX0_wordEnd 49 = .ok (.iload 7, 2) := by decide +kernel
theorem dX0_wordEnd_51 : decode cX0_wordEnd 51 = .ok (.if_icmp .le 57, 3) := by decide +kernel
theorem dX0_wordEnd_54 : decode cX0_wordEnd 54 = .ok (.aload_n 1, 1) := by decide +kernel
theorem dX0_wordEnd_55 : decode cX0_wordEnd 55 = .ok (.aload 9, 2) := by decide +kernel
theorem dX0_wordEnd_57 : decode cX0_wordEnd 57 = .ok (.iload 4, 2) := by decide +kernel
theorem dX0_wordEnd_59 : decode cX0_wordEnd 59 = .ok (.invokevirtual 72, 3) := by decide +kernel
theorem dX0_wordEnd_62 : decode cX0_wordEnd 62 = .ok (.ifCond .ne 6, 3) := by decide +kernel
theorem dX0_wordEnd_65 : decode cX0_wordEnd 65 = .ok (.goto 43, 3) := by decide +kernel
theorem dX0_wordEnd_68 : decode cX0_wordEnd 68 = .ok (.iload 4, 2) := by decide +kernel
theorem dX0_wordEnd_70 : decode cX0_wordEnd 70 = .ok (.aload 9, 2) := by decide +kernel
theorem dX0_wordEnd_72 : decode cX0_wordEnd 72 = .ok (.invokevirtual 30, 3) := by decide +kernel
theorem dX0_wordEnd_75 : decode cX0_wordEnd 75 = .ok (.iadd, 1) := by decide +kernel
theorem dX0_wordEnd_76 : decode cX0_wordEnd 76 = .ok (.istore 10, 2) := by decide +kernel
theorem dX0_wordEnd_78 : decode cX0_wordEnd 78 = .ok (.iload 10, 2) := by decide +kernel
theorem dX0_wordEnd_80 : decode cX0_wordEnd 80 = .ok (.iload 6, 2) := by decide +kernel
theorem dX0_wordEnd_82 : decode cX0_wordEnd 82 = .ok (.if_icmp .eq 19, 3) := by decide +kernel
theorem dX0_wordEnd_85 : decode cX0_wordEnd 85 = .ok (.iload 10, 2) := by decide +kernel
theorem dX0_wordEnd_87 : decode cX0_wordEnd 87 = .ok (.iload 6, 2) := by decide +kernel
theorem dX0_wordEnd_89 : decode cX0_wordEnd 89 = .ok (.if_icmp .ge 19, 3) := by decide +kernel
theorem dX0_wordEnd_92 : decode cX0_wordEnd 92 = .ok (.lload_n 2, 1) := by decide +kernel
theorem dX0_wordEnd_93 : decode cX0_wordEnd 93 = .ok (.iload 10, 2) := by decide +kernel
theorem dX0_wordEnd_95 : decode cX0_wordEnd 95 = .ok (.invokestatic 15, 3) := by decide +kernel
theorem dX0_wordEnd_98 : decode cX0_wordEnd 98 = .ok (.ifCond .eq 10, 3) := by decide +kernel
theorem dX0_wordEnd_101 : decode cX0_wordEnd 101 = .ok (.aload 9, 2) := by decide +kernel
theorem dX0_wordEnd_103 : decode cX0_wordEnd 103 = .ok (.invokevirtual 30, 3) := by decide +kernel
theorem dX0_wordEnd_106 : decode cX0_wordEnd 106 = .ok (.istore 7, 2) := by decide +kernel
theorem dX0_wordEnd_108 : decode cX0_wordEnd 108 = .ok (.iinc 8 1, 3) := by decide +kernel
theorem dX0_wordEnd_111 : decode cX0_wordEnd 111 = .ok (.goto (-95), 3) := by decide +kernel
theorem dX0_wordEnd_114 : decode cX0_wordEnd 114 = .ok (.iload 7, 2) := by decide +kernel
theorem dX0_wordEnd_116 : decode cX0_wordEnd 116 = .ok (.ifCond .ne 8, 3) := by decide +kernel
theorem dX0_wordEnd_119 : decode cX0_wordEnd 119 = .ok (.iload 5, 2) := by decide +kernel
theorem dX0_wordEnd_121 : decode cX0_wordEnd 121 = .ok (.goto 8, 3) := by decide +kernel
theorem dX0_wordEnd_124 : decode cX0_wordEnd 124 = .ok (.iload 4, 2) := by decide +kernel
theorem dX0_wordEnd_126 : decode cX0_wordEnd 126 = .ok (.iload 7, 2) := by decide +kernel
theorem dX0_wordEnd_128 : decode cX0_wordEnd 128 = .ok (.iadd, 1) := by decide +kernel
theorem dX0_wordEnd_129 : decode cX0_wordEnd 129 = .ok (.ireturn, 1) := by decide +kernel
theorem dX0_seamlessLimit_0 : decode cX0_seamlessLimit 0 = .ok (.iload 4, 2) := by decide +kernel
theorem dX0_seamlessLimit_2 : decode cX0_seamlessLimit 2 = .ok (.iconst 1, 1) := by decide +kernel
theorem dX0_seamlessLimit_3 : decode cX0_seamlessLimit 3 = .ok (.iadd, 1) := by decide +kernel
theorem dX0_seamlessLimit_4 : decode cX0_seamlessLimit 4 = .ok (.istore 5, 2) := by decide +kernel
theorem dX0_seamlessLimit_6 : decode cX0_seamlessLimit 6 = .ok (.iload 5, 2) := by decide +kernel
theorem dX0_seamlessLimit_8 : decode cX0_seamlessLimit 8 = .ok (.aload_n 1, 1) := by decide +kernel
theorem dX0_seamlessLimit_9 : decode cX0_seamlessLimit 9 = .ok (.invokevirtual 30, 3) := by decide +kernel
theorem dX0_seamlessLimit_12 : decode cX0_seamlessLimit 12 = .ok (.if_icmp .ge 33, 3) := by decide +kernel
theorem dX0_seamlessLimit_15 : decode cX0_seamlessLimit 15 = .ok (.lload_n 2, 1) := by decide +kernel
theorem dX0_seamlessLimit_16 : decode cX0_seamlessLimit 16 = .ok (.iload 5, 2) := by decide +kernel
theorem dX0_seamlessLimit_18 : decode cX0_seamlessLimit 18 = .ok (.invokestatic 15, 3) := by decide +kernel
theorem dX0_seamlessLimit_21 : decode cX0_seamlessLimit 21 = .ok (.ifCond .eq 18, 3) := by decide +kernel
theorem dX0_seamlessLimit_24 : decode cX0_seamlessLimit 24 = .ok (.aload_n 0, 1) := by decide +kernel
theorem dX0_seamlessLimit_25 : decode cX0_seamlessLimit 25 = .ok (.aload_n 1, 1) := by decide +kernel
theorem dX0_seamlessLimit_26 : decode cX0_seamlessLimit 26 = .ok (.iload 5, 2) := by decide +kernel
theorem dX0_seamlessLimit_28 : decode cX0_seamlessLimit 28 = .ok (.invokevirtual 34, 3) := by decide +kernel
theorem dX0_seamlessLimit_31 : decode cX0_seamlessLimit 31 = .ok (.bipush 6, 2) := by decide +kernel
theorem dX0_seamlessLimit_33 : decode cX0_seamlessLimit 33 = .ok (.if_icmp .eq 6, 3) := by decide +kernel
theorem dX0_seamlessLimit_36 : decode cX0_seamlessLimit 36 = .ok (.iload 5, 2) := by decide +kernel
theorem dX0_seamlessLimit_38 : decode cX0_seamlessLimit 38 = .ok (.ireturn, 1) := by decide +kernel
theorem dX0_seamlessLimit_39 : decode cX0_seamlessLimit 39 = .ok (.iinc 5 1, 3) := by decide +kernel
theorem dX0_seamlessLimit_42 : decode cX0_seamlessLimit 42 = .ok (.goto (-36), 3) := by decide +kernel
theorem dX0_seamlessLimit_45 : decode cX0_seamlessLimit 45 = .ok (.aload_n 1, 1) := by decide +kernel
theorem dX0_seamlessLimit_46 : decode cX0_seamlessLimit 46 = .ok (.invokevirtual 30, 3) := by decide +kernel
theorem dX0_seamlessLimit_49 : decode cX0_seamlessLimit 49 = .ok (.ireturn, 1) := by decide +kernel
theorem dX1_init_0 : decode cX1_init 0 = .ok (.aload_n 0, 1) := by decide +kernel
theorem dX1_init_1 : decode cX1_init 1 = .ok (.invokespecial 3, 3) := by decide +kernel
theorem dX1_init_4 : decode cX1_init 4 = .ok (.aload_n 0, 1) := by decide +kernel
theorem dX1_init_5 : decode cX1_init 5 = .ok (.aload_n 1, 1) := by decide +kernel
theorem dX1_init_6 : decode cX1_init 6 = .ok (.putfield 9, 3) := by decide +kernel
theorem dX1_init_9 : decode cX1_init 9 = .ok (.aload_n 0, 1) := by decide +kernel
theorem dX1_init_10 : decode cX1_init 10 = .ok (.new 15, 3) := by decide +kernel
theorem dX1_init_13 : decode cX1_init 13 = .ok (.dup, 1) := by decide +kernel
theorem dX1_init_14 : decode cX1_init 14 = .ok (.bipush 81, 2) := by decide +kernel
theorem dX1_init_16 : decode cX1_init 16 = .ok (.invokespecial 17, 3) := by decide +kernel
theorem dX1_init_19 : decode cX1_init 19 = .ok (.putfield 20, 3) := by decide +kernel
theorem dX1_init_22 : decode cX1_init 22 = .ok (.aload_n 0, 1) := by decide +kernel
theorem dX1_init_23 : decode cX1_init 23 = .ok (.new 15, 3) := by decide +kernel
theorem dX1_init_26 : decode cX1_init 26 = .ok (.dup, 1) := by decide +kernel
theorem dX1_init_27 : decode cX1_init 27 = .ok (.iconst 2, 1) := by decide +kernel
theorem dX1_init_28 : decode cX1_init 28 = .ok (.invokespecial 17, 3) := by decide +kernel
theorem dX1_init_31 : decode cX1_init 31 = .ok (.putfield 24, 3) := by decide +kernel
theorem dX1_init_34 : decode cX1_init 34 = .ok (.aload_n 0, 1) := by decide +kernel
theorem dX1_init_35 : decode cX1_init 35 = .ok (.new 15, 3) := by decide +kernel
theorem dX1_init_38 : decode cX1_init 38 = .ok (.dup, 1) := by decide +kernel
theorem dX1_init_39 : decode cX1_init 39 = .ok (.bipush 80, 2) := by decide +kernel
theorem dX1_init_41 : decode cX1_init 41 = .ok (.invokespecial 17, 3) := by decide +kernel
theorem dX1_init_44 : decode cX1_init 44 = .ok (.putfield 27, 3) := by decide +kernel
theorem dX1_init_47 : decode cX1_init 47 = .ok (.aload_n 0, 1) := by decide +kernel
theorem dX1_init_48 : decode cX1_init 48 = .ok (.new 15, 3) := by decide +kernel
theorem dX1_init_51 : decode cX1_init 51 = .ok (.dup, 1) := by decide +kernel
theorem dX1_init_52 : decode cX1_init 52 = .ok (.bipush 80, 2) := by decide +kernel
theorem dX1_init_54 : decode cX1_init 54 = .ok (.invokespecial 17, 3) := by decide +kernel
theorem dX1_init_57 : decode cX1_init 57 = .ok (.putfield 30, 3) := by decide +kernel
theorem dX1_init_60 : decode cX1_init 60 = .ok (.aload_n 0, 1) := by decide +kernel
theorem dX1_init_61 : decode cX1_init 61 = .ok (.new 15, 3) := by decide +kernel
theorem dX1_init_64 : decode cX1_init 64 = .ok (.dup, 1) := by decide +kernel
theorem dX1_init_65 : decode cX1_init 65 = .ok (.bipush 40, 2) := by decide +kernel
theorem dX1_init_67 : decode cX1_init 67 = .ok (.invokespecial 17, 3) := by decide +kernel
theorem dX1_init_70 : decode cX1_init 70 = .ok (.putfield 33, 3) := by decide +kernel
theorem dX1_init_73 : decode cX1_init 73 = .ok (.return_, 1) := by decide +kernel
theorem dX1_formInto_0 : decode cX1_formInto 0 = .ok (.iload_n 2, 1) := by decide +kernel
theorem dX1_formInto_1 : decode cX1_formInto 1 = .ok (.tableswitch 48 0 2 #[27, 34, 41], 27) := by decide +kernel
theorem dX1_formInto_28 : decode cX1_formInto 28 = .ok (.aload_n 0, 1) := by decide +kernel
theorem dX1_formInto_29 : decode cX1_formInto 29 = .ok (.aload_n 1, 1) := by decide +kernel
theorem dX1_formInto_30 : decode cX1_formInto 30 = .ok (.aload_n 3, 1) := by decide +kernel
theorem dX1_formInto_31 : decode cX1_formInto 31 = .ok (.invokevirtual 36, 3) := by decide +kernel
theorem dX1_formInto_34 : decode cX1_formInto 34 = .ok (.ireturn, 1) := by decide +kernel
theorem dX1_formInto_35 : decode cX1_formInto 35 = .ok (.aload_n 0, 1) := by decide +kernel
theorem dX1_formInto_36 : decode cX1_formInto 36 = .ok (.aload_n 1, 1) := by decide +kernel
theorem dX1_formInto_37 : decode cX1_formInto 37 = .ok (.aload_n 3, 1) := by decide +kernel
theorem dX1_formInto_38 : decode cX1_formInto 38 = .ok (.invokevirtual 40, 3) := by decide +kernel
theorem dX1_formInto_41 : decode cX1_formInto 41 = .ok (.ireturn, 1) := by decide +kernel
theorem dX1_formInto_42 : decode cX1_formInto 42 = .ok (.aload_n 0, 1) := by decide +kernel
theorem dX1_formInto_43 : decode cX1_formInto 43 = .ok (.aload_n 1, 1) := by decide +kernel
theorem dX1_formInto_44 : decode cX1_formInto 44 = .ok (.aload_n 3, 1) := by decide +kernel
theorem dX1_formInto_45 : decode cX1_formInto 45 = .ok (.invokevirtual 43, 3) := by decide +kernel
theorem dX1_formInto_48 : decode cX1_formInto 48 = .ok (.ireturn, 1) := by decide +kernel
theorem dX1_formInto_49 : decode cX1_formInto 49 = .ok (.aload_n 0, 1) := by decide +kernel
theorem dX1_formInto_50 : decode cX1_formInto 50 = .ok (.aload_n 1, 1) := by decide +kernel
theorem dX1_formInto_51 : decode cX1_formInto 51 = .ok (.aload_n 3, 1) := by decide +kernel
theorem dX1_formInto_52 : decode cX1_formInto 52 = .ok (.invokevirtual 46, 3) := by decide +kernel
theorem dX1_formInto_55 : decode cX1_formInto 55 = .ok (.ireturn, 1) := by decide +kernel
theorem dX1_splitInto_0 : decode cX1_splitInto 0 = .ok (.aload_n 2, 1) := by decide +kernel
theorem dX1_splitInto_1 : decode cX1_splitInto 1 = .ok (.iconst 0, 1) := by decide +kernel
theorem dX1_splitInto_2 : decode cX1_splitInto 2 = .ok (.invokevirtual 49, 3) := by decide +kernel
theorem dX1_splitInto_5 : decode cX1_splitInto 5 = .ok (.aload_n 1, 1) := by decide +kernel
theorem dX1_splitInto_6 : decode cX1_splitInto 6 = .ok (.invokevirtual 52, 3) := by decide +kernel
theorem dX1_splitInto_9 : decode cX1_splitInto 9 = .ok (.istore_n 3, 1) := by decide +kernel
theorem dX1_splitInto_10 : decode cX1_splitInto 10 = .ok (.iconst 0, 1) := by decide +kernel
theorem dX1_splitInto_11 : decode cX1_splitInto 11 = .ok (.istore 4, 2) := by decide +kernel
theorem dX1_splitInto_13 : decode cX1_splitInto 13 = .ok (.iload 4, 2) := by decide +kernel
theorem dX1_splitInto_15 : decode cX1_splitInto 15 = .ok (.aload_n 1, 1) := by decide +kernel
theorem dX1_splitInto_16 : decode cX1_splitInto 16 = .ok (.invokevirtual 52, 3) := by decide +kernel
theorem dX1_splitInto_19 : decode cX1_splitInto 19 = .ok (.if_icmp .ge 30, 3) := by decide +kernel
theorem dX1_splitInto_22 : decode cX1_splitInto 22 = .ok (.aload_n 0, 1) := by decide +kernel
theorem dX1_splitInto_23 : decode cX1_splitInto 23 = .ok (.aload_n 1, 1) := by decide +kernel
theorem dX1_splitInto_24 : decode cX1_splitInto 24 = .ok (.iload 4, 2) := by decide +kernel
theorem dX1_splitInto_26 : decode cX1_splitInto 26 = .ok (.invokevirtual 56, 3) := by decide +kernel
theorem dX1_splitInto_29 : decode cX1_splitInto 29 = .ok (.iload_n 3, 1) := by decide +kernel
theorem dX1_splitInto_30 : decode cX1_splitInto 30 = .ok (.aload_n 2, 1) := by decide +kernel
theorem dX1_splitInto_31 : decode cX1_splitInto 31 = .ok (.invokevirtual 60, 3) := by decide +kernel
theorem dX1_splitInto_34 : decode cX1_splitInto 34 = .ok (.istore_n 3, 1) := by decide +kernel
theorem dX1_splitInto_35 : decode cX1_splitInto 35 = .ok (.iload_n 3, 1) := by decide +kernel
theorem dX1_splitInto_36 : decode cX1_splitInto 36 = .ok (.bipush 80, 2) := by decide +kernel
theorem dX1_splitInto_38 : decode cX1_splitInto 38 = .ok (.if_icmp .le 5, 3) := by decide +kernel
theorem dX1_splitInto_41 : decode cX1_splitInto 41 = .ok (.iconst 0, 1) := by decide +kernel
theorem dX1_splitInto_42 : decode cX1_splitInto 42 = .ok (.ireturn, 1) := by decide +kernel
theorem dX1_splitInto_43 : decode cX1_splitInto 43 = .ok (.iinc 4 1, 3) := by decide +kernel
theorem dX1_splitInto_46 : decode cX1_splitInto 46 = .ok (.goto (-33), 3) := by decide +kernel
theorem dX1_splitInto_49 : decode cX1_splitInto 49 = .ok (.aload_n 0, 1) := by decide +kernel
theorem dX1_splitInto_50 : decode cX1_splitInto 50 = .ok (.aload_n 2, 1) := by decide +kernel
theorem dX1_splitInto_51 : decode cX1_splitInto 51 = .ok (.invokevirtual 64, 3) := by decide +kernel
theorem dX1_splitInto_54 : decode cX1_splitInto 54 = .ok (.iconst 1, 1) := by decide +kernel
theorem dX1_splitInto_55 : decode cX1_splitInto 55 = .ok (.ireturn, 1) := by decide +kernel
theorem dX1_splitLetter_0 : decode cX1_splitLetter 0 = .ok (.iload_n 2, 1) := by decide +kernel
theorem dX1_splitLetter_1 : decode cX1_splitLetter 1 = .ok (.istore 4, 2) := by decide +kernel
theorem dX1_splitLetter_3 : decode cX1_splitLetter 3 = .ok (.aload_n 0, 1) := by decide +kernel
theorem dX1_splitLetter_4 : decode cX1_splitLetter 4 = .ok (.getfield 20, 3) := by decide +kernel
theorem dX1_splitLetter_7 : decode cX1_splitLetter 7 = .ok (.iconst 0, 1) := by decide +kernel
theorem dX1_splitLetter_8 : decode cX1_splitLetter 8 = .ok (.invokevirtual 49, 3) := by decide +kernel
theorem dX1_splitLetter_11 : decode cX1_splitLetter 11 = .ok (.aload_n 0, 1) := by decide +kernel
theorem dX1_splitLetter_12 : decode cX1_splitLetter 12 = .ok (.getfield 20, 3) := by decide +kernel
theorem dX1_splitLetter_15 : decode cX1_splitLetter 15 = .ok (.iload_n 1, 1) := by decide +kernel
theorem dX1_splitLetter_16 : decode cX1_splitLetter 16 = .ok (.invokevirtual 68, 3) := by decide +kernel
theorem dX1_splitLetter_19 : decode cX1_splitLetter 19 = .ok (.pop, 1) := by decide +kernel
theorem dX1_splitLetter_20 : decode cX1_splitLetter 20 = .ok (.iconst 0, 1) := by decide +kernel
theorem dX1_splitLetter_21 : decode cX1_splitLetter 21 = .ok (.istore 5, 2) := by decide +kernel
theorem dX1_splitLetter_23 : decode cX1_splitLetter 23 = .ok (.iload 5, 2) := by decide +kernel
theorem dX1_splitLetter_25 : decode cX1_splitLetter 25 = .ok (.sipush 320, 3) := by decide +kernel
theorem dX1_splitLetter_28 : decode cX1_splitLetter 28 = .ok (.if_icmp .ge 92, 3) := by decide +kernel
theorem dX1_splitLetter_31 : decode cX1_splitLetter 31 = .ok (.aload_n 0, 1) := by decide +kernel
theorem dX1_splitLetter_32 : decode cX1_splitLetter 32 = .ok (.getfield 20, 3) := by decide +kernel
theorem dX1_splitLetter_35 : decode cX1_splitLetter 35 = .ok (.invokevirtual 52, 3) := by decide +kernel
theorem dX1_splitLetter_38 : decode cX1_splitLetter 38 = .ok (.ifCond .le 82, 3) := by decide +kernel
theorem dX1_splitLetter_41 : decode cX1_splitLetter 41 = .ok (.iload 4, 2) := by decide +kernel
theorem dX1_splitLetter_43 : decode cX1_splitLetter 43 = .ok (.bipush 80, 2) := by decide +kernel
theorem dX1_splitLetter_45 : decode cX1_splitLetter 45 = .ok (.if_icmp .gt 75, 3) := by decide +kernel
theorem dX1_splitLetter_48 : decode cX1_splitLetter 48 = .ok (.aload_n 0, 1) := by decide +kernel
theorem dX1_splitLetter_49 : decode cX1_splitLetter 49 = .ok (.getfield 20, 3) := by decide +kernel
theorem dX1_splitLetter_52 : decode cX1_splitLetter 52 = .ok (.invokevirtual 72, 3) := by decide +kernel
theorem dX1_splitLetter_55 : decode cX1_splitLetter 55 = .ok (.istore 6, 2) := by decide +kernel
theorem dX1_splitLetter_57 : decode cX1_splitLetter 57 = .ok (.aload_n 0, 1) := by decide +kernel
theorem dX1_splitLetter_58 : decode cX1_splitLetter 58 = .ok (.getfield 9, 3) := by decide +kernel
theorem dX1_splitLetter_61 : decode cX1_splitLetter 61 = .ok (.iload 6, 2) := by decide +kernel
theorem dX1_splitLetter_63 : decode cX1_splitLetter 63 = .ok (.invokevirtual 75, 3) := by decide +kernel
theorem dX1_splitLetter_66 : decode cX1_splitLetter 66 = .ok (.istore 7, 2) := by decide +kernel
theorem dX1_splitLetter_68 : decode cX1_splitLetter 68 = .ok (.iload 7, 2) := by decide +kernel
theorem dX1_splitLetter_70 : decode cX1_splitLetter 70 = .ok (.iconst (-1), 1) := by decide +kernel
theorem dX1_splitLetter_71 : decode cX1_splitLetter 71 = .ok (.if_icmp .ne 13, 3) := by decide +kernel
theorem dX1_splitLetter_74 : decode cX1_splitLetter 74 = .ok (.aload_n 3, 1) := by decide +kernel
theorem dX1_splitLetter_75 : decode cX1_splitLetter 75 = .ok (.iload 6, 2) := by decide +kernel
theorem dX1_splitLetter_77 : decode cX1_splitLetter 77 = .ok (.invokevirtual 68, 3) := by decide +kernel
theorem dX1_splitLetter_80 : decode cX1_splitLetter 80 = .ok (.pop, 1) := by decide +kernel
theorem dX1_splitLetter_81 : decode cX1_splitLetter 81 = .ok (.goto 33, 3) := by decide +kernel
theorem dX1_splitLetter_84 : decode cX1_splitLetter 84 = .ok (.iinc 4 1, 3) := by decide +kernel
theorem dX1_splitLetter_87 : decode cX1_splitLetter 87 = .ok (.aload_n 0, 1) := by decide +kernel
theorem dX1_splitLetter_88 : decode cX1_splitLetter 88 = .ok (.getfield 20, 3) := by decide +kernel
theorem dX1_splitLetter_91 : decode cX1_splitLetter 91 = .ok (.aload_n 0, 1) := by decide +kernel
theorem dX1_splitLetter_92 : decode cX1_splitLetter 92 = .ok (.getfield 9, 3) := by decide +kernel
theorem dX1_splitLetter_95 : decode cX1_splitLetter 95 = .ok (.iload 6, 2) := by decide +kernel
theorem dX1_splitLetter_97 : decode cX1_splitLetter 97 = .ok (.invokevirtual 80, 3) := by decide +kernel
theorem dX1_splitLetter_100 : decode cX1_splitLetter 100 = .ok (.invokevirtual 68, 3) := by decide +kernel
theorem dX1_splitLetter_103 : decode cX1_splitLetter 103 = .ok (.pop, 1) := by decide +kernel
theorem dX1_splitLetter_104 : decode cX1_splitLetter 104 = .ok (.aload_n 0, 1) := by decide +kernel
theorem dX1_splitLetter_105 : decode cX1_splitLetter 105 = .ok (.getfield 20, 3) := by decide +kernel
theorem dX1_splitLetter_108 : decode cX1_splitLetter 108 = .ok (.iload 7, 2) := by decide +kernel
theorem dX1_splitLetter_110 : decode cX1_splitLetter 110 = .ok (.invokevirtual 68, 3) := by decide +kernel
theorem dX1_splitLetter_113 : decode cX1_splitLetter 113 = .ok (.pop, 1) := by decide +kernel
theorem dX1_splitLetter_114 : decode cX1_splitLetter 114 = .ok (.iinc 5 1, 3) := by decide +kernel
theorem dX1_splitLetter_117 : decode cX1_splitLetter 117 = .ok (.goto (-94), 3) := by decide +kernel
theorem dX1_splitLetter_120 : decode cX1_splitLetter 120 = .ok (.iload 4, 2) := by decide +kernel
theorem dX1_splitLetter_122 : decode cX1_splitLetter 122 = .ok (.ireturn, 1) := by decide +kernel
theorem dX1_sortMarks_0 : decode cX1_sortMarks 0 = .ok (.iconst 1, 1) := by decide +kernel
theorem dX1_sortMarks_1 : decode cX1_sortMarks 1 = .ok (.istore_n 2, 1) := by decide +kernel
theorem dX1_sortMarks_2 : decode cX1_sortMarks 2 = .ok (.iload_n 2, 1) := by decide +kernel
theorem dX1_sortMarks_3 : decode cX1_sortMarks 3 = .ok (.aload_n 1, 1) := by decide +kernel
theorem dX1_sortMarks_4 : decode cX1_sortMarks 4 = .ok (.invokevirtual 52, 3) := by decide +kernel
theorem dX1_sortMarks_7 : decode cX1_sortMarks 7 = .ok (.if_icmp .ge 85, 3) := by decide +kernel
theorem dX1_sortMarks_10 : decode cX1_sortMarks 10 = .ok (.aload_n 1, 1) := by decide +kernel
theorem dX1_sortMarks_11 : decode cX1_sortMarks 11 = .ok (.iload_n 2, 1) := by decide +kernel
theorem dX1_sortMarks_12 : decode cX1_sortMarks 12 = .ok (.invokevirtual 56, 3) := by decide +kernel
theorem dX1_sortMarks_15 : decode cX1_sortMarks 15 = .ok (.istore_n 3, 1) := by decide +kernel
theorem dX1_sortMarks_16 : decode cX1_sortMarks 16 = .ok (.aload_n 0, 1) := by decide +kernel
theorem dX1_sortMarks_17 : decode cX1_sortMarks 17 = .ok (.getfield 9, 3) := by decide +kernel
theorem dX1_sortMarks_20 : decode cX1_sortMarks 20 = .ok (.iload_n 3, 1) := by decide +kernel
theorem dX1_sortMarks_21 : decode cX1_sortMarks 21 = .ok (.invokevirtual 83, 3) := by decide +kernel
theorem dX1_sortMarks_24 : decode cX1_sortMarks 24 = .ok (.istore 4, 2) := by decide +kernel
theorem dX1_sortMarks_26 : decode cX1_sortMarks 26 = .ok (.iload_n 2, 1) := by decide +kernel
theorem dX1_sortMarks_27 : decode cX1_sortMarks 27 = .ok (.istore 5, 2) := by decide +kernel
theorem dX1_sortMarks_29 : decode cX1_sortMarks 29 = .ok (.iload 4, 2) := by decide +kernel
theorem dX1_sortMarks_31 : decode cX1_sortMarks 31 = .ok (.ifCond .le 48, 3) := by decide +kernel
theorem dX1_sortMarks_34 : decode cX1_sortMarks 34 = .ok (.iload 5, 2) := by decide +kernel
theorem dX1_sortMarks_36 : decode cX1_sortMarks 36 = .ok (.ifCond .le 43, 3) := by decide +kernel
theorem dX1_sortMarks_39 : decode cX1_sortMarks 39 = .ok (.aload_n 0, 1) := by decide +kernel
theorem dX1_sortMarks_40 : decode cX1_sortMarks 40 = .ok (.getfield 9, 3) := by decide +kernel
theorem dX1_sortMarks_43 : decode cX1_sortMarks 43 = .ok (.aload_n 1, 1) := by decide +kernel
theorem dX1_sortMarks_44 : decode cX1_sortMarks 44 = .ok (.iload 5, 2) := by decide +kernel
theorem dX1_sortMarks_46 : decode cX1_sortMarks 46 = .ok (.iconst 1, 1) := by decide +kernel
theorem dX1_sortMarks_47 : decode cX1_sortMarks 47 = .ok (.isub, 1) := by decide +kernel
theorem dX1_sortMarks_48 : decode cX1_sortMarks 48 = .ok (.invokevirtual 56, 3) := by decide +kernel
theorem dX1_sortMarks_51 : decode cX1_sortMarks 51 = .ok (.invokevirtual 83, 3) := by decide +kernel
theorem dX1_sortMarks_54 : decode cX1_sortMarks 54 = .ok (.iload 4, 2) := by decide +kernel
theorem dX1_sortMarks_56 : decode cX1_sortMarks 56 = .ok (.if_icmp .le 23, 3) := by decide +kernel
theorem dX1_sortMarks_59 : decode cX1_sortMarks 59 = .ok (.aload_n 1, 1) := by decide +kernel
theorem dX1_sortMarks_60 : decode cX1_sortMarks 60 = .ok (.iload 5, 2) := by decide +kernel
theorem dX1_sortMarks_62 : decode cX1_sortMarks 62 = .ok (.aload_n 1, 1) := by decide +kernel
theorem dX1_sortMarks_63 : decode cX1_sortMarks 63 = .ok (.iload 5, 2) := by decide +kernel
theorem dX1_sortMarks_65 : decode cX1_sortMarks 65 = .ok (.iconst 1, 1) := by decide +kernel
theorem dX1_sortMarks_66 : decode cX1_sortMarks 66 = .ok (.isub, 1) := by decide +kernel
theorem dX1_sortMarks_67 : decode cX1_sortMarks 67 = .ok (.invokevirtual 56, 3) := by decide +kernel
theorem dX1_sortMarks_70 : decode cX1_sortMarks 70 = .ok (.invokevirtual 86, 3) := by decide +kernel
theorem dX1_sortMarks_73 : decode cX1_sortMarks 73 = .ok (.iinc 5 (-1), 3) := by decide +kernel
theorem dX1_sortMarks_76 : decode cX1_sortMarks 76 = .ok (.goto (-47), 3) := by decide +kernel
theorem dX1_sortMarks_79 : decode cX1_sortMarks 79 = .ok (.aload_n 1, 1) := by decide +kernel
theorem dX1_sortMarks_80 : decode cX1_sortMarks 80 = .ok (.iload 5, 2) := by decide +kernel
theorem dX1_sortMarks_82 : decode cX1_sortMarks 82 = .ok (.iload_n 3, 1) := by decide +kernel
theorem dX1_sortMarks_83 : decode cX1_sortMarks 83 = .ok (.invokevirtual 86, 3) := by decide +kernel
theorem dX1_sortMarks_86 : decode cX1_sortMarks 86 = .ok (.iinc 2 1, 3) := by decide +kernel
theorem dX1_sortMarks_89 : decode cX1_sortMarks 89 = .ok (.goto (-87), 3) := by decide +kernel
theorem dX1_sortMarks_92 : decode cX1_sortMarks 92 = .ok (.return_, 1) := by decide +kernel
theorem dX1_joinInto_0 : decode cX1_joinInto 0 = .ok (.aload_n 0, 1) := by decide +kernel
theorem dX1_joinInto_1 : decode cX1_joinInto 1 = .ok (.aload_n 1, 1) := by decide +kernel
theorem dX1_joinInto_2 : decode cX1_joinInto 2 = .ok (.aload_n 2, 1) := by decide +kernel
theorem dX1_joinInto_3 : decode cX1_joinInto 3 = .ok (.invokevirtual 36, 3) := by decide +kernel
theorem dX1_joinInto_6 : decode cX1_joinInto 6 = .ok (.ifCond .ne 5, 3) := by decide +kernel
theorem dX1_joinInto_9 : decode cX1_joinInto 9 = .ok (.iconst 0, 1) := by decide +kernel
theorem dX1_joinInto_10 : decode cX1_joinInto 10 = .ok (.ireturn, 1) := by decide +kernel
theorem dX1_joinInto_11 : decode cX1_joinInto 11 = .ok (.aload_n 2, 1) := by decide +kernel
theorem dX1_joinInto_12 : decode cX1_joinInto 12 = .ok (.invokevirtual 52, 3) := by decide +kernel
theorem dX1_joinInto_15 : decode cX1_joinInto 15 = .ok (.iconst 1, 1) := by decide +kernel
theorem dX1_joinInto_16 : decode cX1_joinInto 16 = .ok (.if_icmp .ge 7, 3) := by decide +kernel
theorem dX1_joinInto_19 : decode cX1_joinInto 19 = .ok (.iconst 0, 1) := by decide +kernel
theorem dX1_joinInto_20 : decode cX1_joinInto 20 = .ok (.goto 4, 3) := by decide +kernel
theorem dX1_joinInto_23 : decode cX1_joinInto 23 = .ok (.iconst 1, 1) := by decide +kernel
theorem dX1_joinInto_24 : decode cX1_joinInto 24 = .ok (.istore_n 3, 1) := by decide +kernel
theorem dX1_joinInto_25 : decode cX1_joinInto 25 = .ok (.iconst 1, 1) := by decide +kernel
theorem dX1_joinInto_26 : decode cX1_joinInto 26 = .ok (.istore 4, 2) := by decide +kernel
theorem dX1_joinInto_28 : decode cX1_joinInto 28 = .ok (.iload 4, 2) := by decide +kernel
theorem dX1_joinInto_30 : decode cX1_joinInto 30 = .ok (.aload_n 2, 1) := by decide +kernel
theorem dX1_joinInto_31 : decode cX1_joinInto 31 = .ok (.invokevirtual 52, 3) := by decide +kernel
theorem dX1_joinInto_34 : decode cX1_joinInto 34 = .ok (.if_icmp .ge 88, 3) := by decide +kernel
theorem dX1_joinInto_37 : decode cX1_joinInto 37 = .ok (.aload_n 2, 1) := by decide +kernel
theorem dX1_joinInto_38 : decode cX1_joinInto 38 = .ok (.iload 4, 2) := by decide +kernel
theorem dX1_joinInto_40 : decode cX1_joinInto 40 = .ok (.invokevirtual 56, 3) := by decide +kernel
theorem dX1_joinInto_43 : decode cX1_joinInto 43 = .ok (.istore 5, 2) := by decide +kernel
theorem dX1_joinInto_45 : decode cX1_joinInto 45 = .ok (.aload_n 0, 1) := by decide +kernel
theorem dX1_joinInto_46 : decode cX1_joinInto 46 = .ok (.aload_n 2, 1) := by decide +kernel
theorem dX1_joinInto_47 : decode cX1_joinInto 47 = .ok (.iload_n 3, 1) := by decide +kernel
theorem dX1_joinInto_48 : decode cX1_joinInto 48 = .ok (.aload_n 0, 1) := by decide +kernel
theorem dX1_joinInto_49 : decode cX1_joinInto 49 = .ok (.getfield 9, 3) := by decide +kernel
theorem dX1_joinInto_52 : decode cX1_joinInto 52 = .ok (.iload 5, 2) := by decide +kernel
theorem dX1_joinInto_54 : decode cX1_joinInto 54 = .ok (.invokevirtual 83, 3) := by decide +kernel
theorem dX1_joinInto_57 : decode cX1_joinInto 57 = .ok (.invokevirtual 90, 3) := by decide +kernel
theorem dX1_joinInto_60 : decode cX1_joinInto 60 = .ok (.istore 6, 2) := by decide +kernel
theorem dX1_joinInto_62 : decode cX1_joinInto 62 = .ok (.iload 6, 2) := by decide +kernel
theorem dX1_joinInto_64 : decode cX1_joinInto 64 = .ok (.iconst (-1), 1) := by decide +kernel
theorem dX1_joinInto_65 : decode cX1_joinInto 65 = .ok (.if_icmp .ne 7, 3) := by decide +kernel
theorem dX1_joinInto_68 : decode cX1_joinInto 68 = .ok (.iconst (-1), 1) := by decide +kernel
theorem dX1_joinInto_69 : decode cX1_joinInto 69 = .ok (.goto 18, 3) := by decide +kernel
theorem dX1_joinInto_72 : decode cX1_joinInto 72 = .ok (.aload_n 0, 1) := by decide +kernel
theorem dX1_joinInto_73 : decode cX1_joinInto 73 = .ok (.getfield 9, 3) := by decide +kernel
theorem dX1_joinInto_76 : decode cX1_joinInto 76 = .ok (.aload_n 2, 1) := by decide +kernel
theorem dX1_joinInto_77 : decode cX1_joinInto 77 = .ok (.iload 6, 2) := by decide +kernel
theorem dX1_joinInto_79 : decode cX1_joinInto 79 = .ok (.invokevirtual 56, 3) := by decide +kernel
theorem dX1_joinInto_82 : decode cX1_joinInto 82 = .ok (.iload 5, 2) := by decide +kernel
theorem dX1_joinInto_84 : decode cX1_joinInto 84 = .ok (.invokevirtual 94, 3) := by decide +kernel
theorem dX1_joinInto_87 : decode cX1_joinInto 87 = .ok (.istore 7, 2) := by decide +kernel
theorem dX1_joinInto_89 : decode cX1_joinInto 89 = .ok (.iload 7, 2) := by decide +kernel
theorem dX1_joinInto_91 : decode cX1_joinInto 91 = .ok (.iconst (-1), 1) := by decide +kernel
theorem dX1_joinInto_92 : decode cX1_joinInto 92 = .ok (.if_icmp .ne 16, 3) := by decide +kernel
theorem dX1_joinInto_95 : decode cX1_joinInto 95 = .ok (.aload_n 2, 1) := by decide +kernel
theorem dX1_joinInto_96 : decode cX1_joinInto 96 = .ok (.iload_n 3, 1) := by decide +kernel
theorem dX1_joinInto_97 : decode cX1_joinInto 97 = .ok (.iload 5, 2) := by decide +kernel
theorem dX1_joinInto_99 : decode cX1_joinInto 99 = .ok (.invokevirtual 86, 3) := by decide +kernel
theorem dX1_joinInto_102 : decode cX1_joinInto 102 = .ok (.iinc 3 1, 3) := by decide +kernel
theorem dX1_joinInto_105 : decode cX1_joinInto 105 = .ok (.goto 11, 3) := by decide +kernel
theorem dX1_joinInto_108 : decode cX1_joinInto 108 = .ok (.aload_n 2, 1) := by decide +kernel
theorem dX1_joinInto_109 : decode cX1_joinInto 109 = .ok (.iload 6, 2) := by decide +kernel
theorem dX1_joinInto_111 : decode cX1_joinInto 111 = .ok (.iload 7, 2) := by decide +kernel
theorem dX1_joinInto_113 : decode cX1_joinInto 113 = .ok (.invokevirtual 86, 3) := by decide +kernel
theorem dX1_joinInto_116 : decode cX1_joinInto 116 = .ok (.iinc 4 1, 3) := by decide +kernel
theorem dX1_joinInto_119 : decode cX1_joinInto 119 = .ok (.goto (-91), 3) := by decide +kernel
theorem dX1_joinInto_122 : decode cX1_joinInto 122 = .ok (.aload_n 2, 1) := by decide +kernel
theorem dX1_joinInto_123 : decode cX1_joinInto 123 = .ok (.iload_n 3, 1) := by decide +kernel
theorem dX1_joinInto_124 : decode cX1_joinInto 124 = .ok (.invokevirtual 49, 3) := by decide +kernel
theorem dX1_joinInto_127 : decode cX1_joinInto 127 = .ok (.iconst 1, 1) := by decide +kernel
theorem dX1_joinInto_128 : decode cX1_joinInto 128 = .ok (.ireturn, 1) := by decide +kernel
theorem dX1_startFor_0 : decode cX1_startFor 0 = .ok (.iload_n 2, 1) := by decide +kernel
theorem dX1_startFor_1 : decode cX1_startFor 1 = .ok (.iconst 1, 1) := by decide +kernel
theorem dX1_startFor_2 : decode cX1_startFor 2 = .ok (.isub, 1) := by decide +kernel
theorem dX1_startFor_3 : decode cX1_startFor 3 = .ok (.istore 4, 2) := by decide +kernel
theorem dX1_startFor_5 : decode cX1_startFor 5 = .ok (.iload 4, 2) := by decide +kernel
theorem dX1_startFor_7 : decode cX1_startFor 7 = .ok (.ifCond .lt 40, 3) := by decide +kernel
theorem dX1_startFor_10 : decode cX1_startFor 10 = .ok (.aload_n 0, 1) := by decide +kernel
theorem dX1_startFor_11 : decode cX1_startFor 11 = .ok (.getfield 9, 3) := by decide +kernel
theorem dX1_startFor_14 : decode cX1_startFor 14 = .ok (.aload_n 1, 1) := by decide +kernel
theorem dX1_startFor_15 : decode cX1_startFor 15 = .ok (.iload 4, 2) := by decide +kernel
theorem dX1_startFor_17 : decode cX1_startFor 17 = .ok (.invokevirtual 56, 3) := by decide +kernel
theorem dX1_startFor_20 : decode cX1_startFor 20 = .ok (.invokevirtual 83, 3) := by decide +kernel
theorem dX1_startFor_23 : decode cX1_startFor 23 = .ok (.istore 5, 2) := by decide +kernel
theorem dX1_startFor_25 : decode cX1_startFor 25 = .ok (.iload 5, 2) := by decide +kernel
theorem dX1_startFor_27 : decode cX1_startFor 27 = .ok (.ifCond .ne 6, 3) := by decide +kernel
theorem dX1_startFor_30 : decode cX1_startFor 30 = .ok (.iload 4, 2) := by decide +kernel
theorem dX1_startFor_32 : decode cX1_startFor 32 = .ok (.ireturn, 1) := by decide +kernel
theorem dX1_startFor_33 : decode cX1_startFor 33 = .ok (.iload 5, 2) := by decide +kernel
theorem dX1_startFor_35 : decode cX1_startFor 35 = .ok (.iload_n 3, 1) := by decide +kernel
theorem dX1_startFor_36 : decode cX1_startFor 36 = .ok (.if_icmp .lt 5, 3) := by decide +kernel
theorem dX1_startFor_39 : decode cX1_startFor 39 = .ok (.iconst (-1), 1) := by decide +kernel
theorem dX1_startFor_40 : decode cX1_startFor 40 = .ok (.ireturn, 1) := by decide +kernel
theorem dX1_startFor_41 : decode cX1_startFor 41 = .ok (.iinc 4 (-1), 3) := by decide +kernel
theorem dX1_startFor_44 : decode cX1_startFor 44 = .ok (.goto (-39), 3) := by decide +kernel
theorem dX1_startFor_47 : decode cX1_startFor 47 = .ok (.iconst (-1), 1) := by decide +kernel
theorem dX1_startFor_48 : decode cX1_startFor 48 = .ok (.ireturn, 1) := by decide +kernel
theorem dX1_foldInto_0 : decode cX1_foldInto 0 = .ok (.aload_n 2, 1) := by decide +kernel
theorem dX1_foldInto_1 : decode cX1_foldInto 1 = .ok (.iconst 0, 1) := by decide +kernel
theorem dX1_foldInto_2 : decode cX1_foldInto 2 = .ok (.invokevirtual 49, 3) := by decide +kernel
theorem dX1_foldInto_5 : decode cX1_foldInto 5 = .ok (.aload_n 0, 1) := by decide +kernel
theorem dX1_foldInto_6 : decode cX1_foldInto 6 = .ok (.getfield 33, 3) := by decide +kernel
theorem dX1_foldInto_9 : decode cX1_foldInto 9 = .ok (.iconst 0, 1) := by decide +kernel
theorem dX1_foldInto_10 : decode cX1_foldInto 10 = .ok (.invokevirtual 49, 3) := by decide +kernel
theorem dX1_foldInto_13 : decode cX1_foldInto 13 = .ok (.iconst 0, 1) := by decide +kernel
theorem dX1_foldInto_14 : decode cX1_foldInto 14 = .ok (.istore_n 3, 1) := by decide +kernel
theorem dX1_foldInto_15 : decode cX1_foldInto 15 = .ok (.iconst 0, 1) := by decide +kernel
theorem dX1_foldInto_16 : decode cX1_foldInto 16 = .ok (.istore 4, 2) := by decide +kernel
theorem dX1_foldInto_18 : decode cX1_foldInto 18 = .ok (.iload 4, 2) := by decide +kernel
theorem dX1_foldInto_20 : decode cX1_foldInto 20 = .ok (.aload_n 1, 1) := by decide +kernel
theorem dX1_foldInto_21 : decode cX1_foldInto 21 = .ok (.invokevirtual 52, 3) := by decide +kernel
theorem dX1_foldInto_24 : decode cX1_foldInto 24 = .ok (.if_icmp .ge 79, 3) := by decide +kernel
theorem dX1_foldInto_27 : decode cX1_foldInto 27 = .ok (.aload_n 0, 1) := by decide +kernel
theorem dX1_foldInto_28 : decode cX1_foldInto 28 = .ok (.aload_n 1, 1) := by decide +kernel
theorem dX1_foldInto_29 : decode cX1_foldInto 29 = .ok (.iload 4, 2) := by decide +kernel
theorem dX1_foldInto_31 : decode cX1_foldInto 31 = .ok (.invokevirtual 56, 3) := by decide +kernel
theorem dX1_foldInto_34 : decode cX1_foldInto 34 = .ok (.aload_n 0, 1) := by decide +kernel
theorem dX1_foldInto_35 : decode cX1_foldInto 35 = .ok (.getfield 24, 3) := by decide +kernel
theorem dX1_foldInto_38 : decode cX1_foldInto 38 = .ok (.invokevirtual 98, 3) := by decide +kernel
theorem dX1_foldInto_41 : decode cX1_foldInto 41 = .ok (.aload_n 0, 1) := by decide +kernel
theorem dX1_foldInto_42 : decode cX1_foldInto 42 = .ok (.aload_n 0, 1) := by decide +kernel
theorem dX1_foldInto_43 : decode cX1_foldInto 43 = .ok (.getfield 24, 3) := by decide +kernel
theorem dX1_foldInto_46 : decode cX1_foldInto 46 = .ok (.aload_n 0, 1) := by decide +kernel
theorem dX1_foldInto_47 : decode cX1_foldInto 47 = .ok (.getfield 27, 3) := by decide +kernel
theorem dX1_foldInto_50 : decode cX1_foldInto 50 = .ok (.invokevirtual 36, 3) := by decide +kernel
theorem dX1_foldInto_53 : decode cX1_foldInto 53 = .ok (.ifCond .ne 5, 3) := by decide +kernel
theorem dX1_foldInto_56 : decode cX1_foldInto 56 = .ok (.iconst 0, 1) := by decide +kernel
theorem dX1_foldInto_57 : decode cX1_foldInto 57 = .ok (.ireturn, 1) := by decide +kernel
theorem dX1_foldInto_58 : decode cX1_foldInto 58 = .ok (.iload_n 3, 1) := by decide +kernel
theorem dX1_foldInto_59 : decode cX1_foldInto 59 = .ok (.aload_n 0, 1) := by decide +kernel
theorem dX1_foldInto_60 : decode cX1_foldInto 60 = .ok (.getfield 27, 3) := by decide +kernel
theorem dX1_foldInto_63 : decode cX1_foldInto 63 = .ok (.invokevirtual 52, 3) := by decide +kernel
theorem dX1_foldInto_66 : decode cX1_foldInto 66 = .ok (.iadd, 1) := by decide +kernel
theorem dX1_foldInto_67 : decode cX1_foldInto 67 = .ok (.istore_n 3, 1) := by decide +kernel
theorem dX1_foldInto_68 : decode cX1_foldInto 68 = .ok (.iload_n 3, 1) := by decide +kernel
theorem dX1_foldInto_69 : decode cX1_foldInto 69 = .ok (.bipush 80, 2) := by decide +kernel
theorem dX1_foldInto_71 : decode cX1_foldInto 71 = .ok (.if_icmp .le 5, 3) := by decide +kernel
theorem dX1_foldInto_74 : decode cX1_foldInto 74 = .ok (.iconst 0, 1) := by decide +kernel
theorem dX1_foldInto_75 : decode cX1_foldInto 75 = .ok (.ireturn, 1) := by decide +kernel
theorem dX1_foldInto_76 : decode cX1_foldInto 76 = .ok (.aload_n 0, 1) := by decide +kernel
theorem dX1_foldInto_77 : decode cX1_foldInto 77 = .ok (.aload_n 0, 1) := by decide +kernel
theorem dX1_foldInto_78 : decode cX1_foldInto 78 = .ok (.getfield 27, 3) := by decide +kernel
theorem dX1_foldInto_81 : decode cX1_foldInto 81 = .ok (.aload_n 2, 1) := by decide +kernel
theorem dX1_foldInto_82 : decode cX1_foldInto 82 = .ok (.invokevirtual 102, 3) := by decide +kernel
theorem dX1_foldInto_85 : decode cX1_foldInto 85 = .ok (.aload_n 0, 1) := by decide +kernel
theorem dX1_foldInto_86 : decode cX1_foldInto 86 = .ok (.getfield 33, 3) := by decide +kernel
theorem dX1_foldInto_89 : decode cX1_foldInto 89 = .ok (.aload_n 2, 1) := by decide +kernel
theorem dX1_foldInto_90 : decode cX1_foldInto 90 = .ok (.invokevirtual 52, 3) := by decide +kernel
theorem dX1_foldInto_93 : decode cX1_foldInto 93 = .ok (.invokevirtual 68, 3) := by decide +kernel
theorem dX1_foldInto_96 : decode cX1_foldInto 96 = .ok (.pop, 1) := by decide +kernel
theorem dX1_foldInto_97 : decode cX1_foldInto 97 = .ok (.iinc 4 1, 3) := by decide +kernel
theorem dX1_foldInto_100 : decode cX1_foldInto 100 = .ok (.goto (-82), 3) := by decide +kernel
theorem dX1_foldInto_103 : decode cX1_foldInto 103 = .ok (.iconst 1, 1) := by decide +kernel
theorem dX1_foldInto_104 : decode cX1_foldInto 104 = .ok (.ireturn, 1) := by decide +kernel
theorem dX1_capitalInto_0 : decode cX1_capitalInto 0 = .ok (.aload_n 2, 1) := by decide +kernel
theorem dX1_capitalInto_1 : decode cX1_capitalInto 1 = .ok (.iconst 0, 1) := by decide +kernel
theorem dX1_capitalInto_2 : decode cX1_capitalInto 2 = .ok (.invokevirtual 49, 3) := by decide +kernel
theorem dX1_capitalInto_5 : decode cX1_capitalInto 5 = .ok (.aload_n 0, 1) := by decide +kernel
theorem dX1_capitalInto_6 : decode cX1_capitalInto 6 = .ok (.getfield 9, 3) := by decide +kernel
theorem dX1_capitalInto_9 : decode cX1_capitalInto 9 = .ok (.iload_n 1, 1) := by decide +kernel
theorem dX1_capitalInto_10 : decode cX1_capitalInto 10 = .ok (.invokevirtual 106, 3) := by decide +kernel
theorem dX1_capitalInto_13 : decode cX1_capitalInto 13 = .ok (.istore_n 3, 1) := by decide +kernel
theorem dX1_capitalInto_14 : decode cX1_capitalInto 14 = .ok (.aload_n 0, 1) := by decide +kernel
theorem dX1_capitalInto_15 : decode cX1_capitalInto 15 = .ok (.getfield 9, 3) := by decide +kernel
theorem dX1_capitalInto_18 : decode cX1_capitalInto 18 = .ok (.iload_n 1, 1) := by decide +kernel
theorem dX1_capitalInto_19 : decode cX1_capitalInto 19 = .ok (.invokevirtual 109, 3) := by decide +kernel
theorem dX1_capitalInto_22 : decode cX1_capitalInto 22 = .ok (.istore 4, 2) := by decide +kernel
theorem dX1_capitalInto_24 : decode cX1_capitalInto 24 = .ok (.aload_n 2, 1) := by decide +kernel
theorem dX1_capitalInto_25 : decode cX1_capitalInto 25 = .ok (.iload_n 3, 1) := by decide +kernel
theorem dX1_capitalInto_26 : decode cX1_capitalInto 26 = .ok (.iconst (-1), 1) := by decide +kernel
theorem dX1_capitalInto_27 : decode cX1_capitalInto 27 = .ok (.if_icmp .ne 7, 3) := by decide +kernel
theorem dX1_capitalInto_30 : decode cX1_capitalInto 30 = .ok (.iload_n 1, 1) := by decide +kernel
theorem dX1_capitalInto_31 : decode cX1_capitalInto 31 = .ok (.goto 4, 3) := by decide +kernel
theorem dX1_capitalInto_34 : decode cX1_capitalInto 34 = .ok (.iload_n 3, 1) := by decide +kernel
theorem dX1_capitalInto_35 : decode cX1_capitalInto 35 = .ok (.invokevirtual 68, 3) := by decide +kernel
theorem dX1_capitalInto_38 : decode cX1_capitalInto 38 = .ok (.pop, 1) := by decide +kernel
theorem dX1_capitalInto_39 : decode cX1_capitalInto 39 = .ok (.iload_n 3, 1) := by decide +kernel
theorem dX1_capitalInto_40 : decode cX1_capitalInto 40 = .ok (.iconst (-1), 1) := by decide +kernel
theorem dX1_capitalInto_41 : decode cX1_capitalInto 41 = .ok (.if_icmp .eq 16, 3) := by decide +kernel
theorem dX1_capitalInto_44 : decode cX1_capitalInto 44 = .ok (.iload 4, 2) := by decide +kernel
theorem dX1_capitalInto_46 : decode cX1_capitalInto 46 = .ok (.iconst (-1), 1) := by decide +kernel
theorem dX1_capitalInto_47 : decode cX1_capitalInto 47 = .ok (.if_icmp .eq 10, 3) := by decide +kernel
theorem dX1_capitalInto_50 : decode cX1_capitalInto 50 = .ok (.aload_n 2, 1) := by decide +kernel
theorem dX1_capitalInto_51 : decode cX1_capitalInto 51 = .ok (.iload 4, 2) := by decide +kernel
theorem dX1_capitalInto_53 : decode cX1_capitalInto 53 = .ok (.invokevirtual 68, 3) := by decide +kernel
theorem dX1_capitalInto_56 : decode cX1_capitalInto 56 = .ok (.pop, 1) := by decide +kernel
theorem dX1_capitalInto_57 : decode cX1_capitalInto 57 = .ok (.return_, 1) := by decide +kernel
theorem dX1_addUnmarked_0 : decode cX1_addUnmarked 0 = .ok (.iconst 0, 1) := by decide +kernel
theorem dX1_addUnmarked_1 : decode cX1_addUnmarked 1 = .ok (.istore_n 3, 1) := by decide +kernel
theorem dX1_addUnmarked_2 : decode cX1_addUnmarked 2 = .ok (.iload_n 3, 1) := by decide +kernel
theorem dX1_addUnmarked_3 : decode cX1_addUnmarked 3 = .ok (.aload_n 1, 1) := by decide +kernel
theorem dX1_addUnmarked_4 : decode cX1_addUnmarked 4 = .ok (.invokevirtual 52, 3) := by decide +kernel
theorem dX1_addUnmarked_7 : decode cX1_addUnmarked 7 = .ok (.if_icmp .ge 34, 3) := by decide +kernel
theorem dX1_addUnmarked_10 : decode cX1_addUnmarked 10 = .ok (.aload_n 0, 1) := by decide +kernel
theorem dX1_addUnmarked_11 : decode cX1_addUnmarked 11 = .ok (.getfield 9, 3) := by decide +kernel
theorem dX1_addUnmarked_14 : decode cX1_addUnmarked 14 = .ok (.aload_n 1, 1) := by decide +kernel
theorem dX1_addUnmarked_15 : decode cX1_addUnmarked 15 = .ok (.iload_n 3, 1) := by decide +kernel
theorem dX1_addUnmarked_16 : decode cX1_addUnmarked 16 = .ok (.invokevirtual 56, 3) := by decide +kernel
theorem dX1_addUnmarked_19 : decode cX1_addUnmarked 19 = .ok (.invokevirtual 83, 3) := by decide +kernel
theorem dX1_addUnmarked_22 : decode cX1_addUnmarked 22 = .ok (.ifCond .ne 13, 3) := by decide +kernel
theorem dX1_addUnmarked_25 : decode cX1_addUnmarked 25 = .ok (.aload_n 2, 1) := by decide +kernel
theorem dX1_addUnmarked_26 : decode cX1_addUnmarked 26 = .ok (.aload_n 1, 1) := by decide +kernel
theorem dX1_addUnmarked_27 : decode cX1_addUnmarked 27 = .ok (.iload_n 3, 1) := by decide +kernel
theorem dX1_addUnmarked_28 : decode cX1_addUnmarked 28 = .ok (.invokevirtual 56, 3) := by decide +kernel
theorem dX1_addUnmarked_31 : decode cX1_addUnmarked 31 = .ok (.invokevirtual 68, 3) := by decide +kernel
theorem dX1_addUnmarked_34 : decode cX1_addUnmarked 34 = .ok (.pop, 1) := by decide +kernel
theorem dX1_addUnmarked_35 : decode cX1_addUnmarked 35 = .ok (.iinc 3 1, 3) := by decide +kernel
theorem dX1_addUnmarked_38 : decode cX1_addUnmarked 38 = .ok (.goto (-36), 3) := by decide +kernel
theorem dX1_addUnmarked_41 : decode cX1_addUnmarked 41 = .ok (.return_, 1) := by decide +kernel
theorem dX1_foldedEnd_0 : decode cX1_foldedEnd 0 = .ok (.iload_n 1, 1) := by decide +kernel
theorem dX1_foldedEnd_1 : decode cX1_foldedEnd 1 = .ok (.iconst 1, 1) := by decide +kernel
theorem dX1_foldedEnd_2 : decode cX1_foldedEnd 2 = .ok (.if_icmp .ge 7, 3) := by decide +kernel
theorem dX1_foldedEnd_5 : decode cX1_foldedEnd 5 = .ok (.iconst 0, 1) := by decide +kernel
theorem dX1_foldedEnd_6 : decode cX1_foldedEnd 6 = .ok (.goto 13, 3) := by decide +kernel
theorem dX1_foldedEnd_9 : decode cX1_foldedEnd 9 = .ok (.aload_n 0, 1) := by decide +kernel
theorem dX1_foldedEnd_10 : decode cX1_foldedEnd 10 = .ok (.getfield 33, 3) := by decide +kernel
theorem dX1_foldedEnd_13 : decode cX1_foldedEnd 13 = .ok (.iload_n 1, 1) := by decide +kernel
theorem dX1_foldedEnd_14 : decode cX1_foldedEnd 14 = .ok (.iconst 1, 1) := by decide +kernel
theorem dX1_foldedEnd_15 : decode cX1_foldedEnd 15 = .ok (.isub, 1) := by decide +kernel
theorem dX1_foldedEnd_16 : decode cX1_foldedEnd 16 = .ok (.invokevirtual 56, 3) := by decide +kernel
theorem dX1_foldedEnd_19 : decode cX1_foldedEnd 19 = .ok (.ireturn, 1) := by decide +kernel
theorem dX1_skeletonInto_0 : decode cX1_skeletonInto 0 = .ok (.aload_n 0, 1) := by decide +kernel
theorem dX1_skeletonInto_1 : decode cX1_skeletonInto 1 = .ok (.aload_n 1, 1) := by decide +kernel
theorem dX1_skeletonInto_2 : decode cX1_skeletonInto 2 = .ok (.aload_n 0, 1) := by decide +kernel
theorem dX1_skeletonInto_3 : decode cX1_skeletonInto 3 = .ok (.getfield 30, 3) := by decide +kernel
theorem dX1_skeletonInto_6 : decode cX1_skeletonInto 6 = .ok (.invokevirtual 36, 3) := by decide +kernel
theorem dX1_skeletonInto_9 : decode cX1_skeletonInto 9 = .ok (.ifCond .ne 5, 3) := by decide +kernel
theorem dX1_skeletonInto_12 : decode cX1_skeletonInto 12 = .ok (.iconst 0, 1) := by decide +kernel
theorem dX1_skeletonInto_13 : decode cX1_skeletonInto 13 = .ok (.ireturn, 1) := by decide +kernel
theorem dX1_skeletonInto_14 : decode cX1_skeletonInto 14 = .ok (.iconst 0, 1) := by decide +kernel
theorem dX1_skeletonInto_15 : decode cX1_skeletonInto 15 = .ok (.istore_n 3, 1) := by decide +kernel
theorem dX1_skeletonInto_16 : decode cX1_skeletonInto 16 = .ok (.iload_n 3, 1) := by decide +kernel
theorem dX1_skeletonInto_17 : decode cX1_skeletonInto 17 = .ok (.aload_n 0, 1) := by decide +kernel
theorem dX1_skeletonInto_18 : decode cX1_skeletonInto 18 = .ok (.getfield 30, 3) := by decide +kernel
theorem dX1_skeletonInto_21 : decode cX1_skeletonInto 21 = .ok (.invokevirtual 52, 3) := by decide +kernel
theorem dX1_skeletonInto_24 : decode cX1_skeletonInto 24 = .ok (.if_icmp .ge 32, 3) := by decide +kernel
theorem dX1_skeletonInto_27 : decode cX1_skeletonInto 27 = .ok (.aload_n 0, 1) := by decide +kernel
theorem dX1_skeletonInto_28 : decode cX1_skeletonInto 28 = .ok (.getfield 30, 3) := by decide +kernel
theorem dX1_skeletonInto_31 : decode cX1_skeletonInto 31 = .ok (.iload_n 3, 1) := by decide +kernel
theorem dX1_skeletonInto_32 : decode cX1_skeletonInto 32 = .ok (.aload_n 0, 1) := by decide +kernel
theorem dX1_skeletonInto_33 : decode cX1_skeletonInto 33 = .ok (.getfield 9, 3) := by decide +kernel
theorem dX1_skeletonInto_36 : decode cX1_skeletonInto 36 = .ok (.aload_n 0, 1) := by decide +kernel
theorem dX1_skeletonInto_37 : decode cX1_skeletonInto 37 = .ok (.getfield 30, 3) := by decide +kernel
theorem dX1_skeletonInto_40 : decode cX1_skeletonInto 40 = .ok (.iload_n 3, 1) := by decide +kernel
theorem dX1_skeletonInto_41 : decode cX1_skeletonInto 41 = .ok (.invokevirtual 56, 3) := by decide +kernel
theorem dX1_skeletonInto_44 : decode cX1_skeletonInto 44 = .ok (.invokevirtual 112, 3) := by decide +kernel
theorem dX1_skeletonInto_47 : decode cX1_skeletonInto 47 = .ok (.invokevirtual 86, 3) := by decide +kernel
theorem dX1_skeletonInto_50 : decode cX1_skeletonInto 50 = .ok (.iinc 3 1, 3) := by decide +kernel
theorem dX1_skeletonInto_53 : decode cX1_skeletonInto 53 = .ok (.goto (-37), 3) := by decide +kernel
theorem dX1_skeletonInto_56 : decode cX1_skeletonInto 56 = .ok (.aload_n 0, 1) := by decide +kernel
theorem dX1_skeletonInto_57 : decode cX1_skeletonInto 57 = .ok (.aload_n 0, 1) := by decide +kernel
theorem dX1_skeletonInto_58 : decode cX1_skeletonInto 58 = .ok (.getfield 30, 3) := by decide +kernel
theorem dX1_skeletonInto_61 : decode cX1_skeletonInto 61 = .ok (.aload_n 2, 1) := by decide +kernel
theorem dX1_skeletonInto_62 : decode cX1_skeletonInto 62 = .ok (.invokevirtual 36, 3) := by decide +kernel
theorem dX1_skeletonInto_65 : decode cX1_skeletonInto 65 = .ok (.ireturn, 1) := by decide +kernel
theorem dX2_init_0 : decode cX2_init 0 = .ok (.aload_n 0, 1) := by decide +kernel
theorem dX2_init_1 : decode cX2_init 1 = .ok (.invokespecial 3, 3) := by decide +kernel
theorem dX2_init_4 : decode cX2_init 4 = .ok (.aload_n 0, 1) := by decide +kernel
theorem dX2_init_5 : decode cX2_init 5 = .ok (.bipush 102, 2) := by decide +kernel
theorem dX2_init_7 : decode cX2_init 7 = .ok (.newarray .int, 2) := by decide +kernel
theorem dX2_init_9 : decode cX2_init 9 = .ok (.putfield 9, 3) := by decide +kernel
theorem dX2_init_12 : decode cX2_init 12 = .ok (.aload_n 0, 1) := by decide +kernel
theorem dX2_init_13 : decode cX2_init 13 = .ok (.bipush 102, 2) := by decide +kernel
theorem dX2_init_15 : decode cX2_init 15 = .ok (.newarray .int, 2) := by decide +kernel
theorem dX2_init_17 : decode cX2_init 17 = .ok (.putfield 15, 3) := by decide +kernel
theorem dX2_init_20 : decode cX2_init 20 = .ok (.aload_n 0, 1) := by decide +kernel
theorem dX2_init_21 : decode cX2_init 21 = .ok (.bipush 102, 2) := by decide +kernel
theorem dX2_init_23 : decode cX2_init 23 = .ok (.newarray .int, 2) := by decide +kernel
theorem dX2_init_25 : decode cX2_init 25 = .ok (.putfield 18, 3) := by decide +kernel
theorem dX2_init_28 : decode cX2_init 28 = .ok (.aload_n 0, 1) := by decide +kernel
theorem dX2_init_29 : decode cX2_init 29 = .ok (.new 21, 3) := by decide +kernel
theorem dX2_init_32 : decode cX2_init 32 = .ok (.dup, 1) := by decide +kernel
theorem dX2_init_33 : decode cX2_init 33 = .ok (.bipush 6, 2) := by decide +kernel
theorem dX2_init_35 : decode cX2_init 35 = .ok (.invokespecial 23, 3) := by decide +kernel
theorem dX2_init_38 : decode cX2_init 38 = .ok (.putfield 26, 3) := by decide +kernel
theorem dX2_init_41 : decode cX2_init 41 = .ok (.aload_n 0, 1) := by decide +kernel
theorem dX2_init_42 : decode cX2_init 42 = .ok (.new 21, 3) := by decide +kernel
theorem dX2_init_45 : decode cX2_init 45 = .ok (.dup, 1) := by decide +kernel
theorem dX2_init_46 : decode cX2_init 46 = .ok (.bipush 6, 2) := by decide +kernel
theorem dX2_init_48 : decode cX2_init 48 = .ok (.invokespecial 23, 3) := by decide +kernel
theorem dX2_init_51 : decode cX2_init 51 = .ok (.putfield 30, 3) := by decide +kernel
theorem dX2_init_54 : decode cX2_init 54 = .ok (.aload_n 0, 1) := by decide +kernel
theorem dX2_init_55 : decode cX2_init 55 = .ok (.iconst 4, 1) := by decide +kernel
theorem dX2_init_56 : decode cX2_init 56 = .ok (.anewarray 33, 3) := by decide +kernel
theorem dX2_init_59 : decode cX2_init 59 = .ok (.putfield 35, 3) := by decide +kernel
theorem dX2_init_62 : decode cX2_init 62 = .ok (.iconst 0, 1) := by decide +kernel
theorem dX2_init_63 : decode cX2_init 63 = .ok (.istore_n 1, 1) := by decide +kernel
theorem dX2_init_64 : decode cX2_init 64 = .ok (.iload_n 1, 1) := by decide +kernel
theorem dX2_init_65 : decode cX2_init 65 = .ok (.aload_n 0, 1) := by decide +kernel
theorem dX2_init_66 : decode cX2_init 66 = .ok (.getfield 35, 3) := by decide +kernel
theorem dX2_init_69 : decode cX2_init 69 = .ok (.arraylength, 1) := by decide +kernel
theorem dX2_init_70 : decode cX2_init 70 = .ok (.if_icmp .ge 22, 3) := by decide +kernel
theorem dX2_init_73 : decode cX2_init 73 = .ok (.aload_n 0, 1) := by decide +kernel
theorem dX2_init_74 : decode cX2_init 74 = .ok (.getfield 35, 3) := by decide +kernel
theorem dX2_init_77 : decode cX2_init 77 = .ok (.iload_n 1, 1) := by decide +kernel
theorem dX2_init_78 : decode cX2_init 78 = .ok (.new 33, 3) := by decide +kernel
theorem dX2_init_81 : decode cX2_init 81 = .ok (.dup, 1) := by decide +kernel
theorem dX2_init_82 : decode cX2_init 82 = .ok (.invokespecial 39, 3) := by decide +kernel
theorem dX2_init_85 : decode cX2_init 85 = .ok (.aastore, 1) := by decide +kernel
theorem dX2_init_86 : decode cX2_init 86 = .ok (.iinc 1 1, 3) := by decide +kernel
theorem dX2_init_89 : decode cX2_init 89 = .ok (.goto (-25), 3) := by decide +kernel
theorem dX2_init_92 : decode cX2_init 92 = .ok (.return_, 1) := by decide +kernel
theorem dX2_copyFrom_0 : decode cX2_copyFrom 0 = .ok (.aload_n 1, 1) := by decide +kernel
theorem dX2_copyFrom_1 : decode cX2_copyFrom 1 = .ok (.getfield 9, 3) := by decide +kernel
theorem dX2_copyFrom_4 : decode cX2_copyFrom 4 = .ok (.aload_n 0, 1) := by decide +kernel
theorem dX2_copyFrom_5 : decode cX2_copyFrom 5 = .ok (.getfield 9, 3) := by decide +kernel
theorem dX2_copyFrom_8 : decode cX2_copyFrom 8 = .ok (.invokestatic 40, 3) := by decide +kernel
theorem dX2_copyFrom_11 : decode cX2_copyFrom 11 = .ok (.aload_n 1, 1) := by decide +kernel
theorem dX2_copyFrom_12 : decode cX2_copyFrom 12 = .ok (.getfield 15, 3) := by decide +kernel
theorem dX2_copyFrom_15 : decode cX2_copyFrom 15 = .ok (.aload_n 0, 1) := by decide +kernel
theorem dX2_copyFrom_16 : decode cX2_copyFrom 16 = .ok (.getfield 15, 3) := by decide +kernel
theorem dX2_copyFrom_19 : decode cX2_copyFrom 19 = .ok (.invokestatic 40, 3) := by decide +kernel
theorem dX2_copyFrom_22 : decode cX2_copyFrom 22 = .ok (.aload_n 1, 1) := by decide +kernel
theorem dX2_copyFrom_23 : decode cX2_copyFrom 23 = .ok (.getfield 18, 3) := by decide +kernel
theorem dX2_copyFrom_26 : decode cX2_copyFrom 26 = .ok (.aload_n 0, 1) := by decide +kernel
theorem dX2_copyFrom_27 : decode cX2_copyFrom 27 = .ok (.getfield 18, 3) := by decide +kernel
theorem dX2_copyFrom_30 : decode cX2_copyFrom 30 = .ok (.invokestatic 40, 3) := by decide +kernel
theorem dX2_copyFrom_33 : decode cX2_copyFrom 33 = .ok (.aload_n 0, 1) := by decide +kernel
theorem dX2_copyFrom_34 : decode cX2_copyFrom 34 = .ok (.getfield 26, 3) := by decide +kernel
theorem dX2_copyFrom_37 : decode cX2_copyFrom 37 = .ok (.aload_n 1, 1) := by decide +kernel
theorem dX2_copyFrom_38 : decode cX2_copyFrom 38 = .ok (.getfield 26, 3) := by decide +kernel
theorem dX2_copyFrom_41 : decode cX2_copyFrom 41 = .ok (.invokevirtual 44, 3) := by decide +kernel
theorem dX2_copyFrom_44 : decode cX2_copyFrom 44 = .ok (.aload_n 0, 1) := by decide +kernel
theorem dX2_copyFrom_45 : decode cX2_copyFrom 45 = .ok (.getfield 30, 3) := by decide +kernel
theorem dX2_copyFrom_48 : decode cX2_copyFrom 48 = .ok (.aload_n 1, 1) := by decide +kernel
theorem dX2_copyFrom_49 : decode cX2_copyFrom 49 = .ok (.getfield 30, 3) := by decide +kernel
theorem dX2_copyFrom_52 : decode cX2_copyFrom 52 = .ok (.invokevirtual 44, 3) := by decide +kernel
theorem dX2_copyFrom_55 : decode cX2_copyFrom 55 = .ok (.iconst 0, 1) := by decide +kernel
theorem dX2_copyFrom_56 : decode cX2_copyFrom 56 = .ok (.istore_n 2, 1) := by decide +kernel
theorem dX2_copyFrom_57 : decode cX2_copyFrom 57 = .ok (.iload_n 2, 1) := by decide +kernel
theorem dX2_copyFrom_58 : decode cX2_copyFrom 58 = .ok (.aload_n 0, 1) := by decide +kernel
theorem dX2_copyFrom_59 : decode cX2_copyFrom 59 = .ok (.getfield 35, 3) := by decide +kernel
theorem dX2_copyFrom_62 : decode cX2_copyFrom 62 = .ok (.arraylength, 1) := by decide +kernel
theorem dX2_copyFrom_63 : decode cX2_copyFrom 63 = .ok (.if_icmp .ge 33, 3) := by decide +kernel
theorem dX2_copyFrom_66 : decode cX2_copyFrom 66 = .ok (.iload_n 2, 1) := by decide +kernel
theorem dX2_copyFrom_67 : decode cX2_copyFrom 67 = .ok (.aload_n 1, 1) := by decide +kernel
theorem dX2_copyFrom_68 : decode cX2_copyFrom 68 = .ok (.getfield 35, 3) := by decide +kernel
theorem dX2_copyFrom_71 : decode cX2_copyFrom 71 = .ok (.arraylength, 1) := by decide +kernel
theorem dX2_copyFrom_72 : decode cX2_copyFrom 72 = .ok (.if_icmp .ge 24, 3) := by decide +kernel
theorem dX2_copyFrom_75 : decode cX2_copyFrom 75 = .ok (.aload_n 0, 1) := by decide +kernel
theorem dX2_copyFrom_76 : decode cX2_copyFrom 76 = .ok (.getfield 35, 3) := by decide +kernel
theorem dX2_copyFrom_79 : decode cX2_copyFrom 79 = .ok (.iload_n 2, 1) := by decide +kernel
theorem dX2_copyFrom_80 : decode cX2_copyFrom 80 = .ok (.aaload, 1) := by decide +kernel
theorem dX2_copyFrom_81 : decode cX2_copyFrom 81 = .ok (.aload_n 1, 1) := by decide +kernel
theorem dX2_copyFrom_82 : decode cX2_copyFrom 82 = .ok (.getfield 35, 3) := by decide +kernel
theorem dX2_copyFrom_85 : decode cX2_copyFrom 85 = .ok (.iload_n 2, 1) := by decide +kernel
theorem dX2_copyFrom_86 : decode cX2_copyFrom 86 = .ok (.aaload, 1) := by decide +kernel
theorem dX2_copyFrom_87 : decode cX2_copyFrom 87 = .ok (.invokevirtual 48, 3) := by decide +kernel
theorem dX2_copyFrom_90 : decode cX2_copyFrom 90 = .ok (.iinc 2 1, 3) := by decide +kernel
theorem dX2_copyFrom_93 : decode cX2_copyFrom 93 = .ok (.goto (-36), 3) := by decide +kernel
theorem dX2_copyFrom_96 : decode cX2_copyFrom 96 = .ok (.aload_n 0, 1) := by decide +kernel
theorem dX2_copyFrom_97 : decode cX2_copyFrom 97 = .ok (.aload_n 1, 1) := by decide +kernel
theorem dX2_copyFrom_98 : decode cX2_copyFrom 98 = .ok (.getfield 52, 3) := by decide +kernel
theorem dX2_copyFrom_101 : decode cX2_copyFrom 101 = .ok (.putfield 52, 3) := by decide +kernel
theorem dX2_copyFrom_104 : decode cX2_copyFrom 104 = .ok (.return_, 1) := by decide +kernel
theorem dX2_weighUnit_0 : decode cX2_weighUnit 0 = .ok (.aload_n 0, 1) := by decide +kernel
theorem dX2_weighUnit_1 : decode cX2_weighUnit 1 = .ok (.getfield 9, 3) := by decide +kernel
theorem dX2_weighUnit_4 : decode cX2_weighUnit 4 = .ok (.iload_n 1, 1) := by decide +kernel
theorem dX2_weighUnit_5 : decode cX2_weighUnit 5 = .ok (.iload_n 2, 1) := by decide +kernel
theorem dX2_weighUnit_6 : decode cX2_weighUnit 6 = .ok (.invokestatic 56, 3) := by decide +kernel
theorem dX2_weighUnit_9 : decode cX2_weighUnit 9 = .ok (.aload_n 0, 1) := by decide +kernel
theorem dX2_weighUnit_10 : decode cX2_weighUnit 10 = .ok (.getfield 15, 3) := by decide +kernel
theorem dX2_weighUnit_13 : decode cX2_weighUnit 13 = .ok (.iload_n 1, 1) := by decide +kernel
theorem dX2_weighUnit_14 : decode cX2_weighUnit 14 = .ok (.iload_n 3, 1) := by decide +kernel
theorem dX2_weighUnit_15 : decode cX2_weighUnit 15 = .ok (.invokestatic 56, 3) := by decide +kernel
theorem dX2_weighUnit_18 : decode cX2_weighUnit 18 = .ok (.aload_n 0, 1) := by decide +kernel
theorem dX2_weighUnit_19 : decode cX2_weighUnit 19 = .ok (.getfield 18, 3) := by decide +kernel
theorem dX2_weighUnit_22 : decode cX2_weighUnit 22 = .ok (.iload_n 1, 1) := by decide +kernel
theorem dX2_weighUnit_23 : decode cX2_weighUnit 23 = .ok (.iload 4, 2) := by decide +kernel
theorem dX2_weighUnit_25 : decode cX2_weighUnit 25 = .ok (.invokestatic 56, 3) := by decide +kernel
theorem dX2_weighUnit_28 : decode cX2_weighUnit 28 = .ok (.return_, 1) := by decide +kernel
theorem dX2_contractionCount_0 : decode cX2_contractionCount 0 = .ok (.aload_n 0, 1) := by decide +kernel
theorem dX2_contractionCount_1 : decode cX2_contractionCount 1 = .ok (.getfield 26, 3) := by decide +kernel
theorem dX2_contractionCount_4 : decode cX2_contractionCount 4 = .ok (.invokevirtual 60, 3) := by decide +kernel
theorem dX2_contractionCount_7 : decode cX2_contractionCount 7 = .ok (.ireturn, 1) := by decide +kernel
theorem dX2_contractionOf_0 : decode cX2_contractionOf 0 = .ok (.iconst 0, 1) := by decide +kernel
theorem dX2_contractionOf_1 : decode cX2_contractionOf 1 = .ok (.istore_n 3, 1) := by decide +kernel
theorem dX2_contractionOf_2 : decode cX2_contractionOf 2 = .ok (.iload_n 3, 1) := by decide +kernel
theorem dX2_contractionOf_3 : decode cX2_contractionOf 3 = .ok (.aload_n 0, 1) := by decide +kernel
theorem dX2_contractionOf_4 : decode cX2_contractionOf 4 = .ok (.getfield 26, 3) := by decide +kernel
theorem dX2_contractionOf_7 : decode cX2_contractionOf 7 = .ok (.invokevirtual 60, 3) := by decide +kernel
theorem dX2_contractionOf_10 : decode cX2_contractionOf 10 = .ok (.if_icmp .ge 38, 3) := by decide +kernel
theorem dX2_contractionOf_13 : decode cX2_contractionOf 13 = .ok (.aload_n 0, 1) := by decide +kernel
theorem dX2_contractionOf_14 : decode cX2_contractionOf 14 = .ok (.getfield 26, 3) := by decide +kernel
theorem dX2_contractionOf_17 : decode cX2_contractionOf 17 = .ok (.iload_n 3, 1) := by decide +kernel
theorem dX2_contractionOf_18 : decode cX2_contractionOf 18 = .ok (.invokevirtual 64, 3) := by decide +kernel
theorem dX2_contractionOf_21 : decode cX2_contractionOf 21 = .ok (.iload_n 1, 1) := by decide +kernel
theorem dX2_contractionOf_22 : decode cX2_contractionOf 22 = .ok (.if_icmp .ne 20, 3) := by decide +kernel
theorem dX2_contractionOf_25 : decode cX2_contractionOf 25 = .ok (.aload_n 0, 1) := by decide +kernel
theorem dX2_contractionOf_26 : decode cX2_contractionOf 26 = .ok (.getfield 30, 3) := by decide +kernel
theorem dX2_contractionOf_29 : decode cX2_contractionOf 29 = .ok (.iload_n 3, 1) := by decide +kernel
theorem dX2_contractionOf_30 : decode cX2_contractionOf 30 = .ok (.invokevirtual 64, 3) := by decide +kernel
theorem dX2_contractionOf_33 : decode cX2_contractionOf 33 = .ok (.iload_n 2, 1) := by decide +kernel
theorem dX2_contractionOf_34 : decode cX2_contractionOf 34 = .ok (.if_icmp .ne 8, 3) := by decide +kernel
theorem dX2_contractionOf_37 : decode cX2_contractionOf 37 = .ok (.bipush 96, 2) := by decide +kernel
theorem dX2_contractionOf_39 : decode cX2_contractionOf 39 = .ok (.iload_n 3, 1) := by decide +kernel
theorem dX2_contractionOf_40 : decode cX2_contractionOf 40 = .ok (.iadd, 1) := by decide +kernel
theorem dX2_contractionOf_41 : decode cX2_contractionOf 41 = .ok (.ireturn, 1) := by decide +kernel
theorem dX2_contractionOf_42 : decode cX2_contractionOf 42 = .ok (.iinc 3 1, 3) := by decide +kernel
theorem dX2_contractionOf_45 : decode cX2_contractionOf 45 = .ok (.goto (-43), 3) := by decide +kernel
theorem dX2_contractionOf_48 : decode cX2_contractionOf 48 = .ok (.iconst (-1), 1) := by decide +kernel
theorem dX2_contractionOf_49 : decode cX2_contractionOf 49 = .ok (.ireturn, 1) := by decide +kernel
theorem dX2_addContraction_0 : decode cX2_addContraction 0 = .ok (.aload_n 0, 1) := by decide +kernel
theorem dX2_addContraction_1 : decode cX2_addContraction 1 = .ok (.getfield 26, 3) := by decide +kernel
theorem dX2_addContraction_4 : decode cX2_addContraction 4 = .ok (.iload_n 1, 1) := by decide +kernel
theorem dX2_addContraction_5 : decode cX2_addContraction 5 = .ok (.invokevirtual 68, 3) := by decide +kernel
theorem dX2_addContraction_8 : decode cX2_addContraction 8 = .ok (.ifCond .eq 14, 3) := by decide +kernel
theorem dX2_addContraction_11 : decode cX2_addContraction 11 = .ok (.aload_n 0, 1) := by decide +kernel
theorem dX2_addContraction_12 : decode cX2_addContraction 12 = .ok (.getfield 30, 3) := by decide +kernel
theorem dX2_addContraction_15 : decode cX2_addContraction 15 = .ok (.iload_n 2, 1) := by decide +kernel
theorem dX2_addContraction_16 : decode cX2_addContraction 16 = .ok (.invokevirtual 68, 3) := by decide +kernel
theorem dX2_addContraction_19 : decode cX2_addContraction 19 = .ok (.ifCond .ne 5, 3) := by decide +kernel
theorem dX2_addContraction_22 : decode cX2_addContraction 22 = .ok (.iconst (-1), 1) := by decide +kernel
theorem dX2_addContraction_23 : decode cX2_addContraction 23 = .ok (.ireturn, 1) := by decide +kernel
theorem dX2_addContraction_24 : decode cX2_addContraction 24 = .ok (.bipush 96, 2) := by decide +kernel
theorem dX2_addContraction_26 : decode cX2_addContraction 26 = .ok (.aload_n 0, 1) := by decide +kernel
theorem dX2_addContraction_27 : decode cX2_addContraction 27 = .ok (.getfield 26, 3) := by decide +kernel
theorem dX2_addContraction_30 : decode cX2_addContraction 30 = .ok (.invokevirtual 60, 3) := by decide +kernel
theorem dX2_addContraction_33 : decode cX2_addContraction 33 = .ok (.iadd, 1) := by decide +kernel
theorem dX2_addContraction_34 : decode cX2_addContraction 34 = .ok (.iconst 1, 1) := by decide +kernel
theorem dX2_addContraction_35 : decode cX2_addContraction 35 = .ok (.isub, 1) := by decide +kernel
theorem dX2_addContraction_36 : decode cX2_addContraction 36 = .ok (.ireturn, 1) := by decide +kernel
theorem dX2_unitsInto_0 : decode cX2_unitsInto 0 = .ok (.aload_n 2, 1) := by decide +kernel
theorem dX2_unitsInto_1 : decode cX2_unitsInto 1 = .ok (.iconst 0, 1) := by decide +kernel
theorem dX2_unitsInto_2 : decode cX2_unitsInto 2 = .ok (.invokevirtual 72, 3) := by decide +kernel
theorem dX2_unitsInto_5 : decode cX2_unitsInto 5 = .ok (.iconst 0, 1) := by decide +kernel
theorem dX2_unitsInto_6 : decode cX2_unitsInto 6 = .ok (.istore_n 3, 1) := by decide +kernel
theorem dX2_unitsInto_7 : decode cX2_unitsInto 7 = .ok (.iload_n 3, 1) := by decide +kernel
theorem dX2_unitsInto_8 : decode cX2_unitsInto 8 = .ok (.aload_n 1, 1) := by decide +kernel
theorem dX2_unitsInto_9 : decode cX2_unitsInto 9 = .ok (.invokevirtual 60, 3) := by decide +kernel
theorem dX2_unitsInto_12 : decode cX2_unitsInto 12 = .ok (.if_icmp .ge 56, 3) := by decide +kernel
theorem dX2_unitsInto_15 : decode cX2_unitsInto 15 = .ok (.aload_n 0, 1) := by decide +kernel
theorem dX2_unitsInto_16 : decode cX2_unitsInto 16 = .ok (.aload_n 1, 1) := by decide +kernel
theorem dX2_unitsInto_17 : decode cX2_unitsInto 17 = .ok (.iload_n 3, 1) := by decide +kernel
theorem dX2_unitsInto_18 : decode cX2_unitsInto 18 = .ok (.invokevirtual 64, 3) := by decide +kernel
theorem dX2_unitsInto_21 : decode cX2_unitsInto 21 = .ok (.aload_n 1, 1) := by decide +kernel
theorem dX2_unitsInto_22 : decode cX2_unitsInto 22 = .ok (.iload_n 3, 1) := by decide +kernel
theorem dX2_unitsInto_23 : decode cX2_unitsInto 23 = .ok (.iconst 1, 1) := by decide +kernel
theorem dX2_unitsInto_24 : decode cX2_unitsInto 24 = .ok (.iadd, 1) := by decide +kernel
theorem dX2_unitsInto_25 : decode cX2_unitsInto 25 = .ok (.invokevirtual 64, 3) := by decide +kernel
theorem dX2_unitsInto_28 : decode cX2_unitsInto 28 = .ok (.invokevirtual 75, 3) := by decide +kernel
theorem dX2_unitsInto_31 : decode cX2_unitsInto 31 = .ok (.istore 4, 2) := by decide +kernel
theorem dX2_unitsInto_33 : decode cX2_unitsInto 33 = .ok (.iload 4, 2) := by decide +kernel
theorem dX2_unitsInto_35 : decode cX2_unitsInto 35 = .ok (.iconst (-1), 1) := by decide +kernel
theorem dX2_unitsInto_36 : decode cX2_unitsInto 36 = .ok (.if_icmp .ne 16, 3) := by decide +kernel
theorem dX2_unitsInto_39 : decode cX2_unitsInto 39 = .ok (.aload_n 2, 1) := by decide +kernel
theorem dX2_unitsInto_40 : decode cX2_unitsInto 40 = .ok (.aload_n 1, 1) := by decide +kernel
theorem dX2_unitsInto_41 : decode cX2_unitsInto 41 = .ok (.iload_n 3, 1) := by decide +kernel
theorem dX2_unitsInto_42 : decode cX2_unitsInto 42 = .ok (.invokevirtual 64, 3) := by decide +kernel
theorem dX2_unitsInto_45 : decode cX2_unitsInto 45 = .ok (.invokevirtual 68, 3) := by decide +kernel
theorem dX2_unitsInto_48 : decode cX2_unitsInto 48 = .ok (.pop, 1) := by decide +kernel
theorem dX2_unitsInto_49 : decode cX2_unitsInto 49 = .ok (.goto 13, 3) := by decide +kernel
theorem dX2_unitsInto_52 : decode cX2_unitsInto 52 = .ok (.aload_n 2, 1) := by decide +kernel
theorem dX2_unitsInto_53 : decode cX2_unitsInto 53 = .ok (.iload 4, 2) := by decide +kernel
theorem dX2_unitsInto_55 : decode cX2_unitsInto 55 = .ok (.invokevirtual 68, 3) := by decide +kernel
theorem dX2_unitsInto_58 : decode cX2_unitsInto 58 = .ok (.pop, 1) := by decide +kernel
theorem dX2_unitsInto_59 : decode cX2_unitsInto 59 = .ok (.iinc 3 1, 3) := by decide +kernel
theorem dX2_unitsInto_62 : decode cX2_unitsInto 62 = .ok (.iinc 3 1, 3) := by decide +kernel
theorem dX2_unitsInto_65 : decode cX2_unitsInto 65 = .ok (.goto (-58), 3) := by decide +kernel
theorem dX2_unitsInto_68 : decode cX2_unitsInto 68 = .ok (.return_, 1) := by decide +kernel
theorem dX2_keyInto_0 : decode cX2_keyInto 0 = .ok (.aload_n 2, 1) := by decide +kernel
theorem dX2_keyInto_1 : decode cX2_keyInto 1 = .ok (.iconst 0, 1) := by decide +kernel
theorem dX2_keyInto_2 : decode cX2_keyInto 2 = .ok (.invokevirtual 72, 3) := by decide +kernel
theorem dX2_keyInto_5 : decode cX2_keyInto 5 = .ok (.iconst 0, 1) := by decide +kernel
theorem dX2_keyInto_6 : decode cX2_keyInto 6 = .ok (.istore_n 3, 1) := by decide +kernel
theorem dX2_keyInto_7 : decode cX2_keyInto 7 = .ok (.iload_n 3, 1) := by decide +kernel
theorem dX2_keyInto_8 : decode cX2_keyInto 8 = .ok (.iconst 3, 1) := by decide +kernel
theorem dX2_keyInto_9 : decode cX2_keyInto 9 = .ok (.if_icmp .ge 62, 3) := by decide +kernel
theorem dX2_keyInto_12 : decode cX2_keyInto 12 = .ok (.iload_n 3, 1) := by decide +kernel
theorem dX2_keyInto_13 : decode cX2_keyInto 13 = .ok (.ifCond .le 9, 3) := by decide +kernel
theorem dX2_keyInto_16 : decode cX2_keyInto 16 = .ok (.aload_n 2, 1) := by decide +kernel
theorem dX2_keyInto_17 : decode cX2_keyInto 17 = .ok (.iconst 0, 1) := by decide +kernel
theorem dX2_keyInto_18 : decode cX2_keyInto 18 = .ok (.invokevirtual 68, 3) := by decide +kernel
theorem dX2_keyInto_21 : decode cX2_keyInto 21 = .ok (.pop, 1) := by decide +kernel
theorem dX2_keyInto_22 : decode cX2_keyInto 22 = .ok (.iconst 0, 1) := by decide +kernel
theorem dX2_keyInto_23 : decode cX2_keyInto 23 = .ok (.istore 4, 2) := by decide +kernel
theorem dX2_keyInto_25 : decode cX2_keyInto 25 = .ok (.iload 4, 2) := by decide +kernel
theorem dX2_keyInto_27 : decode cX2_keyInto 27 = .ok (.aload_n 1, 1) := by decide +kernel
theorem dX2_keyInto_28 : decode cX2_keyInto 28 = .ok (.invokevirtual 60, 3) := by decide +kernel
theorem dX2_keyInto_31 : decode cX2_keyInto 31 = .ok (.if_icmp .ge 34, 3) := by decide +kernel
theorem dX2_keyInto_34 : decode cX2_keyInto 34 = .ok (.aload_n 0, 1) := by decide +kernel
theorem dX2_keyInto_35 : decode cX2_keyInto 35 = .ok (.aload_n 1, 1) := by decide +kernel
theorem dX2_keyInto_36 : decode cX2_keyInto 36 = .ok (.iload 4, 2) := by decide +kernel
theorem dX2_keyInto_38 : decode cX2_keyInto 38 = .ok (.invokevirtual 64, 3) := by decide +kernel
theorem dX2_keyInto_41 : decode cX2_keyInto 41 = .ok (.iload_n 3, 1) := by decide +kernel
theorem dX2_keyInto_42 : decode cX2_keyInto 42 = .ok (.invokevirtual 79, 3) := by decide +kernel
theorem dX2_keyInto_45 : decode cX2_keyInto 45 = .ok (.istore 5, 2) := by decide +kernel
theorem dX2_keyInto_47 : decode cX2_keyInto 47 = .ok (.iload 5, 2) := by decide +kernel
theorem dX2_keyInto_49 : decode cX2_keyInto 49 = .ok (.ifCond .le 10, 3) := by decide +kernel
theorem dX2_keyInto_52 : decode cX2_keyInto 52 = .ok (.aload_n 2, 1) := by decide +kernel
theorem dX2_keyInto_53 : decode cX2_keyInto 53 = .ok (.iload 5, 2) := by decide +kernel
theorem dX2_keyInto_55 : decode cX2_keyInto 55 = .ok (.invokevirtual 68, 3) := by decide +kernel
theorem dX2_keyInto_58 : decode cX2_keyInto 58 = .ok (.pop, 1) := by decide +kernel
theorem dX2_keyInto_59 : decode cX2_keyInto 59 = .ok (.iinc 4 1, 3) := by decide +kernel
theorem dX2_keyInto_62 : decode cX2_keyInto 62 = .ok (.goto (-37), 3) := by decide +kernel
theorem dX2_keyInto_65 : decode cX2_keyInto 65 = .ok (.iinc 3 1, 3) := by decide +kernel
theorem dX2_keyInto_68 : decode cX2_keyInto 68 = .ok (.goto (-61), 3) := by decide +kernel
theorem dX2_keyInto_71 : decode cX2_keyInto 71 = .ok (.return_, 1) := by decide +kernel
theorem dX2_orderOf_0 : decode cX2_orderOf 0 = .ok (.aload_n 0, 1) := by decide +kernel
theorem dX2_orderOf_1 : decode cX2_orderOf 1 = .ok (.aload_n 1, 1) := by decide +kernel
theorem dX2_orderOf_2 : decode cX2_orderOf 2 = .ok (.iconst 0, 1) := by decide +kernel
theorem dX2_orderOf_3 : decode cX2_orderOf 3 = .ok (.iload_n 3, 1) := by decide +kernel
theorem dX2_orderOf_4 : decode cX2_orderOf 4 = .ok (.invokevirtual 82, 3) := by decide +kernel
theorem dX2_orderOf_7 : decode cX2_orderOf 7 = .ok (.istore 4, 2) := by decide +kernel
theorem dX2_orderOf_9 : decode cX2_orderOf 9 = .ok (.aload_n 0, 1) := by decide +kernel
theorem dX2_orderOf_10 : decode cX2_orderOf 10 = .ok (.aload_n 2, 1) := by decide +kernel
theorem dX2_orderOf_11 : decode cX2_orderOf 11 = .ok (.iconst 0, 1) := by decide +kernel
theorem dX2_orderOf_12 : decode cX2_orderOf 12 = .ok (.iload_n 3, 1) := by decide +kernel
theorem dX2_orderOf_13 : decode cX2_orderOf 13 = .ok (.invokevirtual 82, 3) := by decide +kernel
theorem dX2_orderOf_16 : decode cX2_orderOf 16 = .ok (.istore 5, 2) := by decide +kernel
theorem dX2_orderOf_18 : decode cX2_orderOf 18 = .ok (.iconst 0, 1) := by decide +kernel
theorem dX2_orderOf_19 : decode cX2_orderOf 19 = .ok (.istore 6, 2) := by decide +kernel
theorem dX2_orderOf_21 : decode cX2_orderOf 21 = .ok (.iload 6, 2) := by decide +kernel
theorem dX2_orderOf_23 : decode cX2_orderOf 23 = .ok (.bipush 80, 2) := by decide +kernel
theorem dX2_orderOf_25 : decode cX2_orderOf 25 = .ok (.if_icmp .ge 97, 3) := by decide +kernel
theorem dX2_orderOf_28 : decode cX2_orderOf 28 = .ok (.iload 4, 2) := by decide +kernel
theorem dX2_orderOf_30 : decode cX2_orderOf 30 = .ok (.aload_n 1, 1) := by decide +kernel
theorem dX2_orderOf_31 : decode cX2_orderOf 31 = .ok (.invokevirtual 60, 3) := by decide +kernel
theorem dX2_orderOf_34 : decode cX2_orderOf 34 = .ok (.if_icmp .ge 88, 3) := by decide +kernel
theorem dX2_orderOf_37 : decode cX2_orderOf 37 = .ok (.iload 5, 2) := by decide +kernel
theorem dX2_orderOf_39 : decode cX2_orderOf 39 = .ok (.aload_n 2, 1) := by decide +kernel
theorem dX2_orderOf_40 : decode cX2_orderOf 40 = .ok (.invokevirtual 60, 3) := by decide +kernel
theorem dX2_orderOf_43 : decode cX2_orderOf 43 = .ok (.if_icmp .ge 79, 3) := by decide +kernel
theorem dX2_orderOf_46 : decode cX2_orderOf 46 = .ok (.aload_n 0, 1) := by decide +kernel
theorem dX2_orderOf_47 : decode cX2_orderOf 47 = .ok (.aload_n 1, 1) := by decide +kernel
theorem dX2_orderOf_48 : decode cX2_orderOf 48 = .ok (.iload 4, 2) := by decide +kernel
theorem dX2_orderOf_50 : decode cX2_orderOf 50 = .ok (.invokevirtual 64, 3) := by decide +kernel
theorem dX2_orderOf_53 : decode cX2_orderOf 53 = .ok (.iload_n 3, 1) := by decide +kernel
theorem dX2_orderOf_54 : decode cX2_orderOf 54 = .ok (.invokevirtual 79, 3) := by decide +kernel
theorem dX2_orderOf_57 : decode cX2_orderOf 57 = .ok (.istore 7, 2) := by decide +kernel
theorem dX2_orderOf_59 : decode cX2_orderOf 59 = .ok (.aload_n 0, 1) := by decide +kernel
theorem dX2_orderOf_60 : decode cX2_orderOf 60 = .ok (.aload_n 2, 1) := by decide +kernel
theorem dX2_orderOf_61 : decode cX2_orderOf 61 = .ok (.iload 5, 2) := by decide +kernel
theorem dX2_orderOf_63 : decode cX2_orderOf 63 = .ok (.invokevirtual 64, 3) := by decide +kernel
theorem dX2_orderOf_66 : decode cX2_orderOf 66 = .ok (.iload_n 3, 1) := by decide +kernel
theorem dX2_orderOf_67 : decode cX2_orderOf 67 = .ok (.invokevirtual 79, 3) := by decide +kernel
theorem dX2_orderOf_70 : decode cX2_orderOf 70 = .ok (.istore 8, 2) := by decide +kernel
theorem dX2_orderOf_72 : decode cX2_orderOf 72 = .ok (.iload 7, 2) := by decide +kernel
theorem dX2_orderOf_74 : decode cX2_orderOf 74 = .ok (.iload 8, 2) := by decide +kernel
theorem dX2_orderOf_76 : decode cX2_orderOf 76 = .ok (.if_icmp .eq 16, 3) := by decide +kernel
theorem dX2_orderOf_79 : decode cX2_orderOf 79 = .ok (.iload 7, 2) := by decide +kernel
theorem dX2_orderOf_81 : decode cX2_orderOf 81 = .ok (.iload 8, 2) := by decide +kernel
theorem dX2_orderOf_83 : decode cX2_orderOf 83 = .ok (.if_icmp .ge 7, 3) := by decide +kernel
theorem dX2_orderOf_86 : decode cX2_orderOf 86 = .ok (.iconst (-1), 1) := by decide +kernel
theorem dX2_orderOf_87 : decode cX2_orderOf 87 = .ok (.goto 4, 3) := by decide +kernel
theorem dX2_orderOf_90 : decode cX2_orderOf 90 = .ok (.iconst 1, 1) := by decide +kernel
theorem dX2_orderOf_91 : decode cX2_orderOf 91 = .ok (.ireturn, 1) := by decide +kernel
theorem dX2_orderOf_92 : decode cX2_orderOf 92 = .ok (.aload_n 0, 1) := by decide +kernel
theorem dX2_orderOf_93 : decode cX2_orderOf 93 = .ok (.aload_n 1, 1) := by decide +kernel
theorem dX2_orderOf_94 : decode cX2_orderOf 94 = .ok (.iload 4, 2) := by decide +kernel
theorem dX2_orderOf_96 : decode cX2_orderOf 96 = .ok (.iconst 1, 1) := by decide +kernel
theorem dX2_orderOf_97 : decode cX2_orderOf 97 = .ok (.iadd, 1) := by decide +kernel
theorem dX2_orderOf_98 : decode cX2_orderOf 98 = .ok (.iload_n 3, 1) := by decide +kernel
theorem dX2_orderOf_99 : decode cX2_orderOf 99 = .ok (.invokevirtual 82, 3) := by decide +kernel
theorem dX2_orderOf_102 : decode cX2_orderOf 102 = .ok (.istore 4, 2) := by decide +kernel
theorem dX2_orderOf_104 : decode cX2_orderOf 104 = .ok (.aload_n 0, 1) := by decide +kernel
theorem dX2_orderOf_105 : decode cX2_orderOf 105 = .ok (.aload_n 2, 1) := by decide +kernel
theorem dX2_orderOf_106 : decode cX2_orderOf 106 = .ok (.iload 5, 2) := by decide +kernel
theorem dX2_orderOf_108 : decode cX2_orderOf 108 = .ok (.iconst 1, 1) := by decide +kernel
theorem dX2_orderOf_109 : decode cX2_orderOf 109 = .ok (.iadd, 1) := by decide +kernel
theorem dX2_orderOf_110 : decode cX2_orderOf 110 = .ok (.iload_n 3, 1) := by decide +kernel
theorem dX2_orderOf_111 : decode cX2_orderOf 111 = .ok (.invokevirtual 82, 3) := by decide +kernel
theorem dX2_orderOf_114 : decode cX2_orderOf 114 = .ok (.istore 5, 2) := by decide +kernel
theorem dX2_orderOf_116 : decode cX2_orderOf 116 = .ok (.iinc 6 1, 3) := by decide +kernel
theorem dX2_orderOf_119 : decode cX2_orderOf 119 = .ok (.goto (-98), 3) := by decide +kernel
theorem dX2_orderOf_122 : decode cX2_orderOf 122 = .ok (.iload 4, 2) := by decide +kernel
theorem dX2_orderOf_124 : decode cX2_orderOf 124 = .ok (.aload_n 1, 1) := by decide +kernel
theorem dX2_orderOf_125 : decode cX2_orderOf 125 = .ok (.invokevirtual 60, 3) := by decide +kernel
theorem dX2_orderOf_128 : decode cX2_orderOf 128 = .ok (.if_icmp .ge 7, 3) := by decide +kernel
theorem dX2_orderOf_131 : decode cX2_orderOf 131 = .ok (.iconst 1, 1) := by decide +kernel
theorem dX2_orderOf_132 : decode cX2_orderOf 132 = .ok (.goto 4, 3) := by decide +kernel
theorem dX2_orderOf_135 : decode cX2_orderOf 135 = .ok (.iconst 0, 1) := by decide +kernel
theorem dX2_orderOf_136 : decode cX2_orderOf 136 = .ok (.istore 6, 2) := by decide +kernel
theorem dX2_orderOf_138 : decode cX2_orderOf 138 = .ok (.iload 5, 2) := by decide +kernel
theorem dX2_orderOf_140 : decode cX2_orderOf 140 = .ok (.aload_n 2, 1) := by decide +kernel
theorem dX2_orderOf_141 : decode cX2_orderOf 141 = .ok (.invokevirtual 60, 3) := by decide +kernel
theorem dX2_orderOf_144 : decode cX2_orderOf 144 = .ok (.if_icmp .ge 7, 3) := by decide +kernel
theorem dX2_orderOf_147 : decode cX2_orderOf 147 = .ok (.iconst 1, 1) := by decide +kernel
theorem dX2_orderOf_148 : decode cX2_orderOf 148 = .ok (.goto 4, 3) := by decide +kernel
theorem dX2_orderOf_151 : decode cX2_orderOf 151 = .ok (.iconst 0, 1) := by decide +kernel
theorem dX2_orderOf_152 : decode cX2_orderOf 152 = .ok (.istore 7, 2) := by decide +kernel
theorem dX2_orderOf_154 : decode cX2_orderOf 154 = .ok (.iload 6, 2) := by decide +kernel
theorem dX2_orderOf_156 : decode cX2_orderOf 156 = .ok (.iload 7, 2) := by decide +kernel
theorem dX2_orderOf_158 : decode cX2_orderOf 158 = .ok (.if_icmp .ne 7, 3) := by decide +kernel
theorem dX2_orderOf_161 : decode cX2_orderOf 161 = .ok (.iconst 0, 1) := by decide +kernel
theorem dX2_orderOf_162 : decode cX2_orderOf 162 = .ok (.goto 13, 3) := by decide +kernel
theorem dX2_orderOf_165 : decode cX2_orderOf 165 = .ok (.iload 7, 2) := by decide +kernel
theorem dX2_orderOf_167 : decode cX2_orderOf 167 = .ok (.ifCond .eq 7, 3) := by decide +kernel
theorem dX2_orderOf_170 : decode cX2_orderOf 170 = .ok (.iconst (-1), 1) := by decide +kernel
theorem dX2_orderOf_171 : decode cX2_orderOf 171 = .ok (.goto 4, 3) := by decide +kernel
theorem dX2_orderOf_174 : decode cX2_orderOf 174 = .ok (.iconst 1, 1) := by decide +kernel
theorem dX2_orderOf_175 : decode cX2_orderOf 175 = .ok (.ireturn, 1) := by decide +kernel
theorem dX2_nextWeighing_0 : decode cX2_nextWeighing 0 = .ok (.iload_n 2, 1) := by decide +kernel
theorem dX2_nextWeighing_1 : decode cX2_nextWeighing 1 = .ok (.istore 4, 2) := by decide +kernel
theorem dX2_nextWeighing_3 : decode cX2_nextWeighing 3 = .ok (.iload 4, 2) := by decide +kernel
theorem dX2_nextWeighing_5 : decode cX2_nextWeighing 5 = .ok (.aload_n 1, 1) := by decide +kernel
theorem dX2_nextWeighing_6 : decode cX2_nextWeighing 6 = .ok (.invokevirtual 60, 3) := by decide +kernel
theorem dX2_nextWeighing_9 : decode cX2_nextWeighing 9 = .ok (.if_icmp .ge 26, 3) := by decide +kernel
theorem dX2_nextWeighing_12 : decode cX2_nextWeighing 12 = .ok (.aload_n 0, 1) := by decide +kernel
theorem dX2_nextWeighing_13 : decode cX2_nextWeighing 13 = .ok (.aload_n 1, 1) := by decide +kernel
theorem dX2_nextWeighing_14 : decode cX2_nextWeighing 14 = .ok (.iload 4, 2) := by decide +kernel
theorem dX2_nextWeighing_16 : decode cX2_nextWeighing 16 = .ok (.invokevirtual 64, 3) := by decide +kernel
theorem dX2_nextWeighing_19 : decode cX2_nextWeighing 19 = .ok (.iload_n 3, 1) := by decide +kernel
theorem dX2_nextWeighing_20 : decode cX2_nextWeighing 20 = .ok (.invokevirtual 79, 3) := by decide +kernel
theorem dX2_nextWeighing_23 : decode cX2_nextWeighing 23 = .ok (.ifCond .le 6, 3) := by decide +kernel
theorem dX2_nextWeighing_26 : decode cX2_nextWeighing 26 = .ok (.iload 4, 2) := by decide +kernel
theorem dX2_nextWeighing_28 : decode cX2_nextWeighing 28 = .ok (.ireturn, 1) := by decide +kernel
theorem dX2_nextWeighing_29 : decode cX2_nextWeighing 29 = .ok (.iinc 4 1, 3) := by decide +kernel
theorem dX2_nextWeighing_32 : decode cX2_nextWeighing 32 = .ok (.goto (-29), 3) := by decide +kernel
theorem dX2_nextWeighing_35 : decode cX2_nextWeighing 35 = .ok (.aload_n 1, 1) := by decide +kernel
theorem dX2_nextWeighing_36 : decode cX2_nextWeighing 36 = .ok (.invokevirtual 60, 3) := by decide +kernel
theorem dX2_nextWeighing_39 : decode cX2_nextWeighing 39 = .ok (.ireturn, 1) := by decide +kernel
theorem dX2_weightOf_0 : decode cX2_weightOf 0 = .ok (.iload_n 2, 1) := by decide +kernel
theorem dX2_weightOf_1 : decode cX2_weightOf 1 = .ok (.ifCond .ne 10, 3) := by decide +kernel
theorem dX2_weightOf_4 : decode cX2_weightOf 4 = .ok (.aload_n 0, 1) := by decide +kernel
theorem dX2_weightOf_5 : decode cX2_weightOf 5 = .ok (.getfield 9, 3) := by decide +kernel
theorem dX2_weightOf_8 : decode cX2_weightOf 8 = .ok (.goto 19, 3) := by decide +kernel
theorem dX2_weightOf_11 : decode cX2_weightOf 11 = .ok (.iload_n 2, 1) := by decide +kernel
theorem dX2_weightOf_12 : decode cX2_weightOf 12 = .ok (.iconst 1, 1) := by decide +kernel
theorem dX2_weightOf_13 : decode cX2_weightOf 13 = .ok (.if_icmp .ne 10, 3) := by decide +kernel
theorem dX2_weightOf_16 : decode cX2_weightOf 16 = .ok (.aload_n 0, 1) := by decide +kernel
theorem dX2_weightOf_17 : decode cX2_weightOf 17 = .ok (.getfield 15, 3) := by decide +kernel
theorem dX2_weightOf_20 : decode cX2_weightOf 20 = .ok (.goto 7, 3) := by decide +kernel
theorem dX2_weightOf_23 : decode cX2_weightOf 23 = .ok (.aload_n 0, 1) := by decide +kernel
theorem dX2_weightOf_24 : decode cX2_weightOf 24 = .ok (.getfield 18, 3) := by decide +kernel
theorem dX2_weightOf_27 : decode cX2_weightOf 27 = .ok (.iload_n 1, 1) := by decide +kernel
theorem dX2_weightOf_28 : decode cX2_weightOf 28 = .ok (.iconst 0, 1) := by decide +kernel
theorem dX2_weightOf_29 : decode cX2_weightOf 29 = .ok (.invokestatic 86, 3) := by decide +kernel
theorem dX2_weightOf_32 : decode cX2_weightOf 32 = .ok (.ireturn, 1) := by decide +kernel
theorem dX2_nextPlural_0 : decode cX2_nextPlural 0 = .ok (.aload_n 0, 1) := by decide +kernel
theorem dX2_nextPlural_1 : decode cX2_nextPlural 1 = .ok (.getfield 52, 3) := by decide +kernel
theorem dX2_nextPlural_4 : decode cX2_nextPlural 4 = .ok (.ifCond .lt 15, 3) := by decide +kernel
theorem dX2_nextPlural_7 : decode cX2_nextPlural 7 = .ok (.aload_n 0, 1) := by decide +kernel
theorem dX2_nextPlural_8 : decode cX2_nextPlural 8 = .ok (.getfield 52, 3) := by decide +kernel
theorem dX2_nextPlural_11 : decode cX2_nextPlural 11 = .ok (.aload_n 0, 1) := by decide +kernel
theorem dX2_nextPlural_12 : decode cX2_nextPlural 12 = .ok (.getfield 35, 3) := by decide +kernel
theorem dX2_nextPlural_15 : decode cX2_nextPlural 15 = .ok (.arraylength, 1) := by decide +kernel
theorem dX2_nextPlural_16 : decode cX2_nextPlural 16 = .ok (.if_icmp .lt 7, 3) := by decide +kernel
theorem dX2_nextPlural_19 : decode cX2_nextPlural 19 = .ok (.aconst_null, 1) := by decide +kernel
theorem dX2_nextPlural_20 : decode cX2_nextPlural 20 = .ok (.goto 12, 3) := by decide +kernel
theorem dX2_nextPlural_23 : decode cX2_nextPlural 23 = .ok (.aload_n 0, 1) := by decide +kernel
theorem dX2_nextPlural_24 : decode cX2_nextPlural 24 = .ok (.getfield 35, 3) := by decide +kernel
theorem dX2_nextPlural_27 : decode cX2_nextPlural 27 = .ok (.aload_n 0, 1) := by decide +kernel
theorem dX2_nextPlural_28 : decode cX2_nextPlural 28 = .ok (.getfield 52, 3) := by decide +kernel
theorem dX2_nextPlural_31 : decode cX2_nextPlural 31 = .ok (.aaload, 1) := by decide +kernel
theorem dX2_nextPlural_32 : decode cX2_nextPlural 32 = .ok (.areturn, 1) := by decide +kernel
theorem dX2_countPlural_0 : decode cX2_countPlural 0 = .ok (.aload_n 0, 1) := by decide +kernel
theorem dX2_countPlural_1 : decode cX2_countPlural 1 = .ok (.dup, 1) := by decide +kernel
theorem dX2_countPlural_2 : decode cX2_countPlural 2 = .ok (.getfield 52, 3) := by decide +kernel
theorem dX2_countPlural_5 : decode cX2_countPlural 5 = .ok (.iconst 1, 1) := by decide +kernel
theorem dX2_countPlural_6 : decode cX2_countPlural 6 = .ok (.iadd, 1) := by decide +kernel
theorem dX2_countPlural_7 : decode cX2_countPlural 7 = .ok (.putfield 52, 3) := by decide +kernel
theorem dX2_countPlural_10 : decode cX2_countPlural 10 = .ok (.aload_n 0, 1) := by decide +kernel
theorem dX2_countPlural_11 : decode cX2_countPlural 11 = .ok (.getfield 52, 3) := by decide +kernel
theorem dX2_countPlural_14 : decode cX2_countPlural 14 = .ok (.ireturn, 1) := by decide +kernel
theorem dX2_classFor_0 : decode cX2_classFor 0 = .ok (.iconst 0, 1) := by decide +kernel
theorem dX2_classFor_1 : decode cX2_classFor 1 = .ok (.istore_n 2, 1) := by decide +kernel
theorem dX2_classFor_2 : decode cX2_classFor 2 = .ok (.iload_n 2, 1) := by decide +kernel
theorem dX2_classFor_3 : decode cX2_classFor 3 = .ok (.aload_n 0, 1) := by decide +kernel
theorem dX2_classFor_4 : decode cX2_classFor 4 = .ok (.getfield 52, 3) := by decide +kernel
theorem dX2_classFor_7 : decode cX2_classFor 7 = .ok (.if_icmp .ge 41, 3) := by decide +kernel
theorem dX2_classFor_10 : decode cX2_classFor 10 = .ok (.iload_n 2, 1) := by decide +kernel
theorem dX2_classFor_11 : decode cX2_classFor 11 = .ok (.aload_n 0, 1) := by decide +kernel
theorem dX2_classFor_12 : decode cX2_classFor 12 = .ok (.getfield 35, 3) := by decide +kernel
theorem dX2_classFor_15 : decode cX2_classFor 15 = .ok (.arraylength, 1) := by decide +kernel
theorem dX2_classFor_16 : decode cX2_classFor 16 = .ok (.if_icmp .ge 32, 3) := by decide +kernel
theorem dX2_classFor_19 : decode cX2_classFor 19 = .ok (.aload_n 0, 1) := by decide +kernel
theorem dX2_classFor_20 : decode cX2_classFor 20 = .ok (.getfield 35, 3) := by decide +kernel
theorem dX2_classFor_23 : decode cX2_classFor 23 = .ok (.iload_n 2, 1) := by decide +kernel
theorem dX2_classFor_24 : decode cX2_classFor 24 = .ok (.aaload, 1) := by decide +kernel
theorem dX2_classFor_25 : decode cX2_classFor 25 = .ok (.iload_n 1, 1) := by decide +kernel
theorem dX2_classFor_26 : decode cX2_classFor 26 = .ok (.invokevirtual 90, 3) := by decide +kernel
theorem dX2_classFor_29 : decode cX2_classFor 29 = .ok (.ifCond .eq 13, 3) := by decide +kernel
theorem dX2_classFor_32 : decode cX2_classFor 32 = .ok (.aload_n 0, 1) := by decide +kernel
theorem dX2_classFor_33 : decode cX2_classFor 33 = .ok (.getfield 35, 3) := by decide +kernel
theorem dX2_classFor_36 : decode cX2_classFor 36 = .ok (.iload_n 2, 1) := by decide +kernel
theorem dX2_classFor_37 : decode cX2_classFor 37 = .ok (.aaload, 1) := by decide +kernel
theorem dX2_classFor_38 : decode cX2_classFor 38 = .ok (.invokevirtual 93, 3) := by decide +kernel
theorem dX2_classFor_41 : decode cX2_classFor 41 = .ok (.ireturn, 1) := by decide +kernel
theorem dX2_classFor_42 : decode cX2_classFor 42 = .ok (.iinc 2 1, 3) := by decide +kernel
theorem dX2_classFor_45 : decode cX2_classFor 45 = .ok (.goto (-43), 3) := by decide +kernel
theorem dX2_classFor_48 : decode cX2_classFor 48 = .ok (.iconst (-1), 1) := by decide +kernel
theorem dX2_classFor_49 : decode cX2_classFor 49 = .ok (.ireturn, 1) := by decide +kernel
theorem dX3_init_0 : decode cX3_init 0 = .ok (.aload_n 0, 1) := by decide +kernel
theorem dX3_init_1 : decode cX3_init 1 = .ok (.invokespecial 3, 3) := by decide +kernel
theorem dX3_init_4 : decode cX3_init 4 = .ok (.aload_n 0, 1) := by decide +kernel
theorem dX3_init_5 : decode cX3_init 5 = .ok (.aload_n 1, 1) := by decide +kernel
theorem dX3_init_6 : decode cX3_init 6 = .ok (.putfield 9, 3) := by decide +kernel
theorem dX3_init_9 : decode cX3_init 9 = .ok (.aload_n 0, 1) := by decide +kernel
theorem dX3_init_10 : decode cX3_init 10 = .ok (.new 15, 3) := by decide +kernel
theorem dX3_init_13 : decode cX3_init 13 = .ok (.dup, 1) := by decide +kernel
theorem dX3_init_14 : decode cX3_init 14 = .ok (.bipush 40, 2) := by decide +kernel
theorem dX3_init_16 : decode cX3_init 16 = .ok (.invokespecial 17, 3) := by decide +kernel
theorem dX3_init_19 : decode cX3_init 19 = .ok (.putfield 20, 3) := by decide +kernel
theorem dX3_init_22 : decode cX3_init 22 = .ok (.aload_n 0, 1) := by decide +kernel
theorem dX3_init_23 : decode cX3_init 23 = .ok (.new 15, 3) := by decide +kernel
theorem dX3_init_26 : decode cX3_init 26 = .ok (.dup, 1) := by decide +kernel
theorem dX3_init_27 : decode cX3_init 27 = .ok (.bipush 41, 2) := by decide +kernel
theorem dX3_init_29 : decode cX3_init 29 = .ok (.invokespecial 17, 3) := by decide +kernel
theorem dX3_init_32 : decode cX3_init 32 = .ok (.putfield 24, 3) := by decide +kernel
theorem dX3_init_35 : decode cX3_init 35 = .ok (.aload_n 0, 1) := by decide +kernel
theorem dX3_init_36 : decode cX3_init 36 = .ok (.new 15, 3) := by decide +kernel
theorem dX3_init_39 : decode cX3_init 39 = .ok (.dup, 1) := by decide +kernel
theorem dX3_init_40 : decode cX3_init 40 = .ok (.bipush 41, 2) := by decide +kernel
theorem dX3_init_42 : decode cX3_init 42 = .ok (.invokespecial 17, 3) := by decide +kernel
theorem dX3_init_45 : decode cX3_init 45 = .ok (.putfield 27, 3) := by decide +kernel
theorem dX3_init_48 : decode cX3_init 48 = .ok (.aload_n 0, 1) := by decide +kernel
theorem dX3_init_49 : decode cX3_init 49 = .ok (.new 15, 3) := by decide +kernel
theorem dX3_init_52 : decode cX3_init 52 = .ok (.dup, 1) := by decide +kernel
theorem dX3_init_53 : decode cX3_init 53 = .ok (.bipush 41, 2) := by decide +kernel
theorem dX3_init_55 : decode cX3_init 55 = .ok (.invokespecial 17, 3) := by decide +kernel
theorem dX3_init_58 : decode cX3_init 58 = .ok (.putfield 30, 3) := by decide +kernel
theorem dX3_init_61 : decode cX3_init 61 = .ok (.aload_n 0, 1) := by decide +kernel
theorem dX3_init_62 : decode cX3_init 62 = .ok (.new 15, 3) := by decide +kernel
theorem dX3_init_65 : decode cX3_init 65 = .ok (.dup, 1) := by decide +kernel
theorem dX3_init_66 : decode cX3_init 66 = .ok (.bipush 40, 2) := by decide +kernel
theorem dX3_init_68 : decode cX3_init 68 = .ok (.invokespecial 17, 3) := by decide +kernel
theorem dX3_init_71 : decode cX3_init 71 = .ok (.putfield 33, 3) := by decide +kernel
theorem dX3_init_74 : decode cX3_init 74 = .ok (.aload_n 0, 1) := by decide +kernel
theorem dX3_init_75 : decode cX3_init 75 = .ok (.new 15, 3) := by decide +kernel
theorem dX3_init_78 : decode cX3_init 78 = .ok (.dup, 1) := by decide +kernel
theorem dX3_init_79 : decode cX3_init 79 = .ok (.bipush 40, 2) := by decide +kernel
theorem dX3_init_81 : decode cX3_init 81 = .ok (.invokespecial 17, 3) := by decide +kernel
theorem dX3_init_84 : decode cX3_init 84 = .ok (.putfield 36, 3) := by decide +kernel
theorem dX3_init_87 : decode cX3_init 87 = .ok (.aload_n 0, 1) := by decide +kernel
theorem dX3_init_88 : decode cX3_init 88 = .ok (.new 15, 3) := by decide +kernel
theorem dX3_init_91 : decode cX3_init 91 = .ok (.dup, 1) := by decide +kernel
theorem dX3_init_92 : decode cX3_init 92 = .ok (.bipush 40, 2) := by decide +kernel
theorem dX3_init_94 : decode cX3_init 94 = .ok (.invokespecial 17, 3) := by decide +kernel
theorem dX3_init_97 : decode cX3_init 97 = .ok (.putfield 39, 3) := by decide +kernel
theorem dX3_init_100 : decode cX3_init 100 = .ok (.aload_n 0, 1) := by decide +kernel
theorem dX3_init_101 : decode cX3_init 101 = .ok (.new 15, 3) := by decide +kernel
theorem dX3_init_104 : decode cX3_init 104 = .ok (.dup, 1) := by decide +kernel
theorem dX3_init_105 : decode cX3_init 105 = .ok (.bipush 40, 2) := by decide +kernel
theorem dX3_init_107 : decode cX3_init 107 = .ok (.invokespecial 17, 3) := by decide +kernel
theorem dX3_init_110 : decode cX3_init 110 = .ok (.putfield 42, 3) := by decide +kernel
theorem dX3_init_113 : decode cX3_init 113 = .ok (.aload_n 0, 1) := by decide +kernel
theorem dX3_init_114 : decode cX3_init 114 = .ok (.new 15, 3) := by decide +kernel
theorem dX3_init_117 : decode cX3_init 117 = .ok (.dup, 1) := by decide +kernel
theorem dX3_init_118 : decode cX3_init 118 = .ok (.bipush 40, 2) := by decide +kernel
theorem dX3_init_120 : decode cX3_init 120 = .ok (.invokespecial 17, 3) := by decide +kernel
theorem dX3_init_123 : decode cX3_init 123 = .ok (.putfield 45, 3) := by decide +kernel
theorem dX3_init_126 : decode cX3_init 126 = .ok (.aload_n 0, 1) := by decide +kernel
theorem dX3_init_127 : decode cX3_init 127 = .ok (.new 15, 3) := by decide +kernel
theorem dX3_init_130 : decode cX3_init 130 = .ok (.dup, 1) := by decide +kernel
theorem dX3_init_131 : decode cX3_init 131 = .ok (.bipush 40, 2) := by decide +kernel
theorem dX3_init_133 : decode cX3_init 133 = .ok (.invokespecial 17, 3) := by decide +kernel
theorem dX3_init_136 : decode cX3_init 136 = .ok (.putfield 48, 3) := by decide +kernel
theorem dX3_init_139 : decode cX3_init 139 = .ok (.aload_n 0, 1) := by decide +kernel
theorem dX3_init_140 : decode cX3_init 140 = .ok (.new 15, 3) := by decide +kernel
theorem dX3_init_143 : decode cX3_init 143 = .ok (.dup, 1) := by decide +kernel
theorem dX3_init_144 : decode cX3_init 144 = .ok (.bipush 40, 2) := by decide +kernel
theorem dX3_init_146 : decode cX3_init 146 = .ok (.invokespecial 17, 3) := by decide +kernel
theorem dX3_init_149 : decode cX3_init 149 = .ok (.putfield 51, 3) := by decide +kernel
theorem dX3_init_152 : decode cX3_init 152 = .ok (.return_, 1) := by decide +kernel
theorem dX3_isIsolate_0 : decode cX3_isIsolate 0 = .ok (.iload_n 0, 1) := by decide +kernel
theorem dX3_isIsolate_1 : decode cX3_isIsolate 1 = .ok (.bipush 7, 2) := by decide +kernel
theorem dX3_isIsolate_3 : decode cX3_isIsolate 3 = .ok (.if_icmp .eq 15, 3) := by decide +kernel
theorem dX3_isIsolate_6 : decode cX3_isIsolate 6 = .ok (.iload_n 0, 1) := by decide +kernel
theorem dX3_isIsolate_7 : decode cX3_isIsolate 7 = .ok (.bipush 8, 2) := by decide +kernel
theorem dX3_isIsolate_9 : decode cX3_isIsolate 9 = .ok (.if_icmp .eq 9, 3) := by decide +kernel
theorem dX3_isIsolate_12 : decode cX3_isIsolate 12 = .ok (.iload_n 0, 1) := by decide +kernel
theorem dX3_isIsolate_13 : decode cX3_isIsolate 13 = .ok (.bipush 9, 2) := by decide +kernel
theorem dX3_isIsolate_15 : decode cX3_isIsolate 15 = .ok (.if_icmp .ne 7, 3) := by decide +kernel
theorem dX3_isIsolate_18 : decode cX3_isIsolate 18 = .ok (.iconst 1, 1) := by decide +kernel
theorem dX3_isIsolate_19 : decode cX3_isIsolate 19 = .ok (.goto 4, 3) := by decide +kernel
theorem dX3_isIsolate_22 : decode cX3_isIsolate 22 = .ok (.iconst 0, 1) := by decide +kernel
theorem dX3_isIsolate_23 : decode cX3_isIsolate 23 = .ok (.ireturn, 1) := by decide +kernel
theorem dX3_isEmbed_0 : decode cX3_isEmbed 0 = .ok (.iload_n 0, 1) := by decide +kernel
theorem dX3_isEmbed_1 : decode cX3_isEmbed 1 = .ok (.iconst 4, 1) := by decide +kernel
theorem dX3_isEmbed_2 : decode cX3_isEmbed 2 = .ok (.if_icmp .eq 8, 3) := by decide +kernel
theorem dX3_isEmbed_5 : decode cX3_isEmbed 5 = .ok (.iload_n 0, 1) := by decide +kernel
theorem dX3_isEmbed_6 : decode cX3_isEmbed 6 = .ok (.iconst 5, 1) := by decide +kernel
theorem dX3_isEmbed_7 : decode cX3_isEmbed 7 = .ok (.if_icmp .ne 7, 3) := by decide +kernel
theorem dX3_isEmbed_10 : decode cX3_isEmbed 10 = .ok (.iconst 1, 1) := by decide +kernel
theorem dX3_isEmbed_11 : decode cX3_isEmbed 11 = .ok (.goto 4, 3) := by decide +kernel
theorem dX3_isEmbed_14 : decode cX3_isEmbed 14 = .ok (.iconst 0, 1) := by decide +kernel
theorem dX3_isEmbed_15 : decode cX3_isEmbed 15 = .ok (.ireturn, 1) := by decide +kernel
theorem dX3_wayOf_0 : decode cX3_wayOf 0 = .ok (.iload_n 0, 1) := by decide +kernel
theorem dX3_wayOf_1 : decode cX3_wayOf 1 = .ok (.iconst 1, 1) := by decide +kernel
theorem dX3_wayOf_2 : decode cX3_wayOf 2 = .ok (.iand, 1) := by decide +kernel
theorem dX3_wayOf_3 : decode cX3_wayOf 3 = .ok (.ifCond .ne 7, 3) := by decide +kernel
theorem dX3_wayOf_6 : decode cX3_wayOf 6 = .ok (.iconst 0, 1) := by decide +kernel
theorem dX3_wayOf_7 : decode cX3_wayOf 7 = .ok (.goto 4, 3) := by decide +kernel
theorem dX3_wayOf_10 : decode cX3_wayOf 10 = .ok (.iconst 1, 1) := by decide +kernel
theorem dX3_wayOf_11 : decode cX3_wayOf 11 = .ok (.ireturn, 1) := by decide +kernel
theorem dX3_baseFrom_0 : decode cX3_baseFrom 0 = .ok (.iconst 0, 1) := by decide +kernel
theorem dX3_baseFrom_1 : decode cX3_baseFrom 1 = .ok (.istore 4, 2) := by decide +kernel
theorem dX3_baseFrom_3 : decode cX3_baseFrom 3 = .ok (.iload_n 2, 1) := by decide +kernel
theorem dX3_baseFrom_4 : decode cX3_baseFrom 4 = .ok (.istore 5, 2) := by decide +kernel
theorem dX3_baseFrom_6 : decode cX3_baseFrom 6 = .ok (.iload 5, 2) := by decide +kernel
theorem dX3_baseFrom_8 : decode cX3_baseFrom 8 = .ok (.aload_n 1, 1) := by decide +kernel
theorem dX3_baseFrom_9 : decode cX3_baseFrom 9 = .ok (.invokevirtual 54, 3) := by decide +kernel
theorem dX3_baseFrom_12 : decode cX3_baseFrom 12 = .ok (.if_icmp .ge 102, 3) := by decide +kernel
theorem dX3_baseFrom_15 : decode cX3_baseFrom 15 = .ok (.aload_n 0, 1) := by decide +kernel
theorem dX3_baseFrom_16 : decode cX3_baseFrom 16 = .ok (.getfield 9, 3) := by decide +kernel
theorem dX3_baseFrom_19 : decode cX3_baseFrom 19 = .ok (.aload_n 1, 1) := by decide +kernel
theorem dX3_baseFrom_20 : decode cX3_baseFrom 20 = .ok (.iload 5, 2) := by decide +kernel
theorem dX3_baseFrom_22 : decode cX3_baseFrom 22 = .ok (.invokevirtual 58, 3) := by decide +kernel
theorem dX3_baseFrom_25 : decode cX3_baseFrom 25 = .ok (.invokevirtual 62, 3) := by decide +kernel
theorem dX3_baseFrom_28 : decode cX3_baseFrom 28 = .ok (.istore 6, 2) := by decide +kernel
theorem dX3_baseFrom_30 : decode cX3_baseFrom 30 = .ok (.iload 6, 2) := by decide +kernel
theorem dX3_baseFrom_32 : decode cX3_baseFrom 32 = .ok (.invokestatic 67, 3) := by decide +kernel
theorem dX3_baseFrom_35 : decode cX3_baseFrom 35 = .ok (.ifCond .eq 9, 3) := by decide +kernel
theorem dX3_baseFrom_38 : decode cX3_baseFrom 38 = .ok (.iinc 4 1, 3) := by decide +kernel
theorem dX3_baseFrom_41 : decode cX3_baseFrom 41 = .ok (.goto 67, 3) := by decide +kernel
theorem dX3_baseFrom_44 : decode cX3_baseFrom 44 = .ok (.iload 6, 2) := by decide +kernel
theorem dX3_baseFrom_46 : decode cX3_baseFrom 46 = .ok (.bipush 10, 2) := by decide +kernel
theorem dX3_baseFrom_48 : decode cX3_baseFrom 48 = .ok (.if_icmp .ne 32, 3) := by decide +kernel
theorem dX3_baseFrom_51 : decode cX3_baseFrom 51 = .ok (.iload 4, 2) := by decide +kernel
theorem dX3_baseFrom_53 : decode cX3_baseFrom 53 = .ok (.ifCond .ne 9, 3) := by decide +kernel
theorem dX3_baseFrom_56 : decode cX3_baseFrom 56 = .ok (.iload_n 3, 1) := by decide +kernel
theorem dX3_baseFrom_57 : decode cX3_baseFrom 57 = .ok (.ifCond .eq 5, 3) := by decide +kernel
theorem dX3_baseFrom_60 : decode cX3_baseFrom 60 = .ok (.iconst 0, 1) := by decide +kernel
theorem dX3_baseFrom_61 : decode cX3_baseFrom 61 = .ok (.ireturn, 1) := by decide +kernel
theorem dX3_baseFrom_62 : decode cX3_baseFrom 62 = .ok (.iload 4, 2) := by decide +kernel
theorem dX3_baseFrom_64 : decode cX3_baseFrom 64 = .ok (.ifCond .le 10, 3) := by decide +kernel
theorem dX3_baseFrom_67 : decode cX3_baseFrom 67 = .ok (.iload 4, 2) := by decide +kernel
theorem dX3_baseFrom_69 : decode cX3_baseFrom 69 = .ok (.iconst 1, 1) := by decide +kernel
theorem dX3_baseFrom_70 : decode cX3_baseFrom 70 = .ok (.isub, 1) := by decide +kernel
theorem dX3_baseFrom_71 : decode cX3_baseFrom 71 = .ok (.goto 4, 3) := by decide +kernel
theorem dX3_baseFrom_74 : decode cX3_baseFrom 74 = .ok (.iconst 0, 1) := by decide +kernel
theorem dX3_baseFrom_75 : decode cX3_baseFrom 75 = .ok (.istore 4, 2) := by decide +kernel
theorem dX3_baseFrom_77 : decode cX3_baseFrom 77 = .ok (.goto 31, 3) := by decide +kernel
theorem dX3_baseFrom_80 : decode cX3_baseFrom 80 = .ok (.iload 4, 2) := by decide +kernel
theorem dX3_baseFrom_82 : decode cX3_baseFrom 82 = .ok (.ifCond .ne 26, 3) := by decide +kernel
theorem dX3_baseFrom_85 : decode cX3_baseFrom 85 = .ok (.iload 6, 2) := by decide +kernel
theorem dX3_baseFrom_87 : decode cX3_baseFrom 87 = .ok (.ifCond .eq 9, 3) := by decide +kernel
theorem dX3_baseFrom_90 : decode cX3_baseFrom 90 = .ok (.iload 6, 2) := by decide +kernel
theorem dX3_baseFrom_92 : decode cX3_baseFrom 92 = .ok (.iconst 1, 1) := by decide +kernel
theorem dX3_baseFrom_93 : decode cX3_baseFrom 93 = .ok (.if_icmp .ne 15, 3) := by decide +kernel
theorem dX3_baseFrom_96 : decode cX3_baseFrom 96 = .ok (.iload 6, 2) := by decide +kernel
theorem dX3_baseFrom_98 : decode cX3_baseFrom 98 = .ok (.iconst 1, 1) := by decide +kernel
theorem dX3_baseFrom_99 : decode cX3_baseFrom 99 = .ok (.if_icmp .ne 7, 3) := by decide +kernel
theorem dX3_baseFrom_102 : decode cX3_baseFrom 102 = .ok (.iconst 1, 1) := by decide +kernel
theorem dX3_baseFrom_103 : decode cX3_baseFrom 103 = .ok (.goto 4, 3) := by decide +kernel
theorem dX3_baseFrom_106 : decode cX3_baseFrom 106 = .ok (.iconst 0, 1) := by decide +kernel
theorem dX3_baseFrom_107 : decode cX3_baseFrom 107 = .ok (.ireturn, 1) := by decide +kernel
theorem dX3_baseFrom_108 : decode cX3_baseFrom 108 = .ok (.iinc 5 1, 3) := by decide +kernel
theorem dX3_baseFrom_111 : decode cX3_baseFrom 111 = .ok (.goto (-105), 3) := by decide +kernel
theorem dX3_baseFrom_114 : decode cX3_baseFrom 114 = .ok (.iconst 0, 1) := by decide +kernel
theorem dX3_baseFrom_115 : decode cX3_baseFrom 115 = .ok (.ireturn, 1) := by decide +kernel
theorem dX3_lookAt_0 : decode cX3_lookAt 0 = .ok (.aload_n 0, 1) := by decide +kernel
theorem dX3_lookAt_1 : decode cX3_lookAt 1 = .ok (.aload_n 1, 1) := by decide +kernel
theorem dX3_lookAt_2 : decode cX3_lookAt 2 = .ok (.iload_n 2, 1) := by decide +kernel
theorem dX3_lookAt_3 : decode cX3_lookAt 3 = .ok (.iconst (-1), 1) := by decide +kernel
theorem dX3_lookAt_4 : decode cX3_lookAt 4 = .ok (.if_icmp .ne 13, 3) := by decide +kernel
theorem dX3_lookAt_7 : decode cX3_lookAt 7 = .ok (.aload_n 0, 1) := by decide +kernel
theorem dX3_lookAt_8 : decode cX3_lookAt 8 = .ok (.aload_n 1, 1) := by decide +kernel
theorem dX3_lookAt_9 : decode cX3_lookAt 9 = .ok (.iconst 0, 1) := by decide +kernel
theorem dX3_lookAt_10 : decode cX3_lookAt 10 = .ok (.iconst 0, 1) := by decide +kernel
theorem dX3_lookAt_11 : decode cX3_lookAt 11 = .ok (.invokevirtual 71, 3) := by decide +kernel
theorem dX3_lookAt_14 : decode cX3_lookAt 14 = .ok (.goto 4, 3) := by decide +kernel
theorem dX3_lookAt_17 : decode cX3_lookAt 17 = .ok (.iload_n 2, 1) := by decide +kernel
theorem dX3_lookAt_18 : decode cX3_lookAt 18 = .ok (.invokevirtual 75, 3) := by decide +kernel
theorem dX3_lookAt_21 : decode cX3_lookAt 21 = .ok (.aload_n 0, 1) := by decide +kernel
theorem dX3_lookAt_22 : decode cX3_lookAt 22 = .ok (.getfield 48, 3) := by decide +kernel
theorem dX3_lookAt_25 : decode cX3_lookAt 25 = .ok (.iconst 0, 1) := by decide +kernel
theorem dX3_lookAt_26 : decode cX3_lookAt 26 = .ok (.aload_n 1, 1) := by decide +kernel
theorem dX3_lookAt_27 : decode cX3_lookAt 27 = .ok (.invokevirtual 54, 3) := by decide +kernel
theorem dX3_lookAt_30 : decode cX3_lookAt 30 = .ok (.invokevirtual 79, 3) := by decide +kernel
theorem dX3_lookAt_33 : decode cX3_lookAt 33 = .ok (.iconst 0, 1) := by decide +kernel
theorem dX3_lookAt_34 : decode cX3_lookAt 34 = .ok (.istore_n 3, 1) := by decide +kernel
theorem dX3_lookAt_35 : decode cX3_lookAt 35 = .ok (.iload_n 3, 1) := by decide +kernel
theorem dX3_lookAt_36 : decode cX3_lookAt 36 = .ok (.aload_n 0, 1) := by decide +kernel
theorem dX3_lookAt_37 : decode cX3_lookAt 37 = .ok (.getfield 24, 3) := by decide +kernel
theorem dX3_lookAt_40 : decode cX3_lookAt 40 = .ok (.invokevirtual 54, 3) := by decide +kernel
theorem dX3_lookAt_43 : decode cX3_lookAt 43 = .ok (.if_icmp .ge 58, 3) := by decide +kernel
theorem dX3_lookAt_46 : decode cX3_lookAt 46 = .ok (.aload_n 0, 1) := by decide +kernel
theorem dX3_lookAt_47 : decode cX3_lookAt 47 = .ok (.getfield 24, 3) := by decide +kernel
theorem dX3_lookAt_50 : decode cX3_lookAt 50 = .ok (.iload_n 3, 1) := by decide +kernel
theorem dX3_lookAt_51 : decode cX3_lookAt 51 = .ok (.invokevirtual 58, 3) := by decide +kernel
theorem dX3_lookAt_54 : decode cX3_lookAt 54 = .ok (.istore 4, 2) := by decide +kernel
theorem dX3_lookAt_56 : decode cX3_lookAt 56 = .ok (.aload_n 0, 1) := by decide +kernel
theorem dX3_lookAt_57 : decode cX3_lookAt 57 = .ok (.aload_n 1, 1) := by decide +kernel
theorem dX3_lookAt_58 : decode cX3_lookAt 58 = .ok (.iload_n 3, 1) := by decide +kernel
theorem dX3_lookAt_59 : decode cX3_lookAt 59 = .ok (.invokevirtual 83, 3) := by decide +kernel
theorem dX3_lookAt_62 : decode cX3_lookAt 62 = .ok (.aload_n 0, 1) := by decide +kernel
theorem dX3_lookAt_63 : decode cX3_lookAt 63 = .ok (.iload 4, 2) := by decide +kernel
theorem dX3_lookAt_65 : decode cX3_lookAt 65 = .ok (.invokestatic 86, 3) := by decide +kernel
theorem dX3_lookAt_68 : decode cX3_lookAt 68 = .ok (.invokevirtual 89, 3) := by decide +kernel
theorem dX3_lookAt_71 : decode cX3_lookAt 71 = .ok (.aload_n 0, 1) := by decide +kernel
theorem dX3_lookAt_72 : decode cX3_lookAt 72 = .ok (.iload 4, 2) := by decide +kernel
theorem dX3_lookAt_74 : decode cX3_lookAt 74 = .ok (.invokestatic 86, 3) := by decide +kernel
theorem dX3_lookAt_77 : decode cX3_lookAt 77 = .ok (.invokevirtual 92, 3) := by decide +kernel
theorem dX3_lookAt_80 : decode cX3_lookAt 80 = .ok (.aload_n 0, 1) := by decide +kernel
theorem dX3_lookAt_81 : decode cX3_lookAt 81 = .ok (.iload 4, 2) := by decide +kernel
theorem dX3_lookAt_83 : decode cX3_lookAt 83 = .ok (.invokestatic 86, 3) := by decide +kernel
theorem dX3_lookAt_86 : decode cX3_lookAt 86 = .ok (.invokevirtual 95, 3) := by decide +kernel
theorem dX3_lookAt_89 : decode cX3_lookAt 89 = .ok (.aload_n 0, 1) := by decide +kernel
theorem dX3_lookAt_90 : decode cX3_lookAt 90 = .ok (.iload 4, 2) := by decide +kernel
theorem dX3_lookAt_92 : decode cX3_lookAt 92 = .ok (.invokevirtual 98, 3) := by decide +kernel
theorem dX3_lookAt_95 : decode cX3_lookAt 95 = .ok (.iinc 3 1, 3) := by decide +kernel
theorem dX3_lookAt_98 : decode cX3_lookAt 98 = .ok (.goto (-63), 3) := by decide +kernel
theorem dX3_lookAt_101 : decode cX3_lookAt 101 = .ok (.return_, 1) := by decide +kernel
theorem dX3_levelAt_0 : decode cX3_levelAt 0 = .ok (.aload_n 0, 1) := by decide +kernel
theorem dX3_levelAt_1 : decode cX3_levelAt 1 = .ok (.getfield 48, 3) := by decide +kernel
theorem dX3_levelAt_4 : decode cX3_levelAt 4 = .ok (.iload_n 1, 1) := by decide +kernel
theorem dX3_levelAt_5 : decode cX3_levelAt 5 = .ok (.invokevirtual 58, 3) := by decide +kernel
theorem dX3_levelAt_8 : decode cX3_levelAt 8 = .ok (.ireturn, 1) := by decide +kernel
theorem dX3_layFrames_0 : decode cX3_layFrames 0 = .ok (.aload_n 0, 1) := by decide +kernel
theorem dX3_layFrames_1 : decode cX3_layFrames 1 = .ok (.getfield 20, 3) := by decide +kernel
theorem dX3_layFrames_4 : decode cX3_layFrames 4 = .ok (.iconst 0, 1) := by decide +kernel
theorem dX3_layFrames_5 : decode cX3_layFrames 5 = .ok (.invokevirtual 101, 3) := by decide +kernel
theorem dX3_layFrames_8 : decode cX3_layFrames 8 = .ok (.aload_n 0, 1) := by decide +kernel
theorem dX3_layFrames_9 : decode cX3_layFrames 9 = .ok (.getfield 24, 3) := by decide +kernel
theorem dX3_layFrames_12 : decode cX3_layFrames 12 = .ok (.iconst 0, 1) := by decide +kernel
theorem dX3_layFrames_13 : decode cX3_layFrames 13 = .ok (.invokevirtual 101, 3) := by decide +kernel
theorem dX3_layFrames_16 : decode cX3_layFrames 16 = .ok (.aload_n 0, 1) := by decide +kernel
theorem dX3_layFrames_17 : decode cX3_layFrames 17 = .ok (.getfield 27, 3) := by decide +kernel
theorem dX3_layFrames_20 : decode cX3_layFrames 20 = .ok (.iconst 0, 1) := by decide +kernel
theorem dX3_layFrames_21 : decode cX3_layFrames 21 = .ok (.invokevirtual 101, 3) := by decide +kernel
theorem dX3_layFrames_24 : decode cX3_layFrames 24 = .ok (.aload_n 0, 1) := by decide +kernel
theorem dX3_layFrames_25 : decode cX3_layFrames 25 = .ok (.getfield 30, 3) := by decide +kernel
theorem dX3_layFrames_28 : decode cX3_layFrames 28 = .ok (.iconst 0, 1) := by decide +kernel
theorem dX3_layFrames_29 : decode cX3_layFrames 29 = .ok (.invokevirtual 101, 3) := by decide +kernel
theorem dX3_layFrames_32 : decode cX3_layFrames 32 = .ok (.aload_n 0, 1) := by decide +kernel
theorem dX3_layFrames_33 : decode cX3_layFrames 33 = .ok (.iload_n 2, 1) := by decide +kernel
theorem dX3_layFrames_34 : decode cX3_layFrames 34 = .ok (.iconst (-1), 1) := by decide +kernel
theorem dX3_layFrames_35 : decode cX3_layFrames 35 = .ok (.iconst (-1), 1) := by decide +kernel
theorem dX3_layFrames_36 : decode cX3_layFrames 36 = .ok (.invokevirtual 104, 3) := by decide +kernel
theorem dX3_layFrames_39 : decode cX3_layFrames 39 = .ok (.istore_n 3, 1) := by decide +kernel
theorem dX3_layFrames_40 : decode cX3_layFrames 40 = .ok (.iconst 0, 1) := by decide +kernel
theorem dX3_layFrames_41 : decode cX3_layFrames 41 = .ok (.istore 4, 2) := by decide +kernel
theorem dX3_layFrames_43 : decode cX3_layFrames 43 = .ok (.iload 4, 2) := by decide +kernel
theorem dX3_layFrames_45 : decode cX3_layFrames 45 = .ok (.aload_n 1, 1) := by decide +kernel
theorem dX3_layFrames_46 : decode cX3_layFrames 46 = .ok (.invokevirtual 54, 3) := by decide +kernel
theorem dX3_layFrames_49 : decode cX3_layFrames 49 = .ok (.if_icmp .ge 113, 3) := by decide +kernel
theorem dX3_layFrames_52 : decode cX3_layFrames 52 = .ok (.aload_n 0, 1) := by decide +kernel
theorem dX3_layFrames_53 : decode cX3_layFrames 53 = .ok (.getfield 9, 3) := by decide +kernel
theorem dX3_layFrames_56 : decode cX3_layFrames 56 = .ok (.aload_n 1, 1) := by decide +kernel
theorem dX3_layFrames_57 : decode cX3_layFrames 57 = .ok (.iload 4, 2) := by decide +kernel
theorem dX3_layFrames_59 : decode cX3_layFrames 59 = .ok (.invokevirtual 58, 3) := by decide +kernel
theorem dX3_layFrames_62 : decode cX3_layFrames 62 = .ok (.invokevirtual 62, 3) := by decide +kernel
theorem dX3_layFrames_65 : decode cX3_layFrames 65 = .ok (.istore 5, 2) := by decide +kernel
theorem dX3_layFrames_67 : decode cX3_layFrames 67 = .ok (.iload 5, 2) := by decide +kernel
theorem dX3_layFrames_69 : decode cX3_layFrames 69 = .ok (.bipush 10, 2) := by decide +kernel
theorem dX3_layFrames_71 : decode cX3_layFrames 71 = .ok (.if_icmp .ne 9, 3) := by decide +kernel
theorem dX3_layFrames_74 : decode cX3_layFrames 74 = .ok (.aload_n 0, 1) := by decide +kernel
theorem dX3_layFrames_75 : decode cX3_layFrames 75 = .ok (.iload_n 3, 1) := by decide +kernel
theorem dX3_layFrames_76 : decode cX3_layFrames 76 = .ok (.invokevirtual 108, 3) := by decide +kernel
theorem dX3_layFrames_79 : decode cX3_layFrames 79 = .ok (.istore_n 3, 1) := by decide +kernel
theorem dX3_layFrames_80 : decode cX3_layFrames 80 = .ok (.aload_n 0, 1) := by decide +kernel
theorem dX3_layFrames_81 : decode cX3_layFrames 81 = .ok (.getfield 20, 3) := by decide +kernel
theorem dX3_layFrames_84 : decode cX3_layFrames 84 = .ok (.iload_n 3, 1) := by decide +kernel
theorem dX3_layFrames_85 : decode cX3_layFrames 85 = .ok (.invokevirtual 111, 3) := by decide +kernel
theorem dX3_layFrames_88 : decode cX3_layFrames 88 = .ok (.pop, 1) := by decide +kernel
theorem dX3_layFrames_89 : decode cX3_layFrames 89 = .ok (.iload 5, 2) := by decide +kernel
theorem dX3_layFrames_91 : decode cX3_layFrames 91 = .ok (.invokestatic 114, 3) := by decide +kernel
theorem dX3_layFrames_94 : decode cX3_layFrames 94 = .ok (.ifCond .ne 11, 3) := by decide +kernel
theorem dX3_layFrames_97 : decode cX3_layFrames 97 = .ok (.iload 5, 2) := by decide +kernel
theorem dX3_layFrames_99 : decode cX3_layFrames 99 = .ok (.invokestatic 67, 3) := by decide +kernel
theorem dX3_layFrames_102 : decode cX3_layFrames 102 = .ok (.ifCond .eq 24, 3) := by decide +kernel
theorem dX3_layFrames_105 : decode cX3_layFrames 105 = .ok (.aload_n 0, 1) := by decide +kernel
theorem dX3_layFrames_106 : decode cX3_layFrames 106 = .ok (.aload_n 0, 1) := by decide +kernel
theorem dX3_layFrames_107 : decode cX3_layFrames 107 = .ok (.aload_n 1, 1) := by decide +kernel
theorem dX3_layFrames_108 : decode cX3_layFrames 108 = .ok (.iload 4, 2) := by decide +kernel
theorem dX3_layFrames_110 : decode cX3_layFrames 110 = .ok (.iload 5, 2) := by decide +kernel
theorem dX3_layFrames_112 : decode cX3_layFrames 112 = .ok (.iload_n 3, 1) := by decide +kernel
theorem dX3_layFrames_113 : decode cX3_layFrames 113 = .ok (.invokevirtual 117, 3) := by decide +kernel
theorem dX3_layFrames_116 : decode cX3_layFrames 116 = .ok (.iload_n 3, 1) := by decide +kernel
theorem dX3_layFrames_117 : decode cX3_layFrames 117 = .ok (.iload 5, 2) := by decide +kernel
theorem dX3_layFrames_119 : decode cX3_layFrames 119 = .ok (.invokevirtual 104, 3) := by decide +kernel
theorem dX3_layFrames_122 : decode cX3_layFrames 122 = .ok (.istore_n 3, 1) := by decide +kernel
theorem dX3_layFrames_123 : decode cX3_layFrames 123 = .ok (.goto 33, 3) := by decide +kernel
theorem dX3_layFrames_126 : decode cX3_layFrames 126 = .ok (.iload 5, 2) := by decide +kernel
theorem dX3_layFrames_128 : decode cX3_layFrames 128 = .ok (.bipush 6, 2) := by decide +kernel
theorem dX3_layFrames_130 : decode cX3_layFrames 130 = .ok (.if_icmp .ne 26, 3) := by decide +kernel
theorem dX3_layFrames_133 : decode cX3_layFrames 133 = .ok (.aload_n 0, 1) := by decide +kernel
theorem dX3_layFrames_134 : decode cX3_layFrames 134 = .ok (.getfield 30, 3) := by decide +kernel
theorem dX3_layFrames_137 : decode cX3_layFrames 137 = .ok (.iload_n 3, 1) := by decide +kernel
theorem dX3_layFrames_138 : decode cX3_layFrames 138 = .ok (.invokevirtual 58, 3) := by decide +kernel
theorem dX3_layFrames_141 : decode cX3_layFrames 141 = .ok (.invokestatic 114, 3) := by decide +kernel
theorem dX3_layFrames_144 : decode cX3_layFrames 144 = .ok (.ifCond .eq 12, 3) := by decide +kernel
theorem dX3_layFrames_147 : decode cX3_layFrames 147 = .ok (.aload_n 0, 1) := by decide +kernel
theorem dX3_layFrames_148 : decode cX3_layFrames 148 = .ok (.getfield 27, 3) := by decide +kernel
theorem dX3_layFrames_151 : decode cX3_layFrames 151 = .ok (.iload_n 3, 1) := by decide +kernel
theorem dX3_layFrames_152 : decode cX3_layFrames 152 = .ok (.invokevirtual 58, 3) := by decide +kernel
theorem dX3_layFrames_155 : decode cX3_layFrames 155 = .ok (.istore_n 3, 1) := by decide +kernel
theorem dX3_layFrames_156 : decode cX3_layFrames 156 = .ok (.iinc 4 1, 3) := by decide +kernel
theorem dX3_layFrames_159 : decode cX3_layFrames 159 = .ok (.goto (-116), 3) := by decide +kernel
theorem dX3_layFrames_162 : decode cX3_layFrames 162 = .ok (.return_, 1) := by decide +kernel
theorem dX3_addFrame_0 : decode cX3_addFrame 0 = .ok (.aload_n 0, 1) := by decide +kernel
theorem dX3_addFrame_1 : decode cX3_addFrame 1 = .ok (.getfield 24, 3) := by decide +kernel
theorem dX3_addFrame_4 : decode cX3_addFrame 4 = .ok (.iload_n 1, 1) := by decide +kernel
theorem dX3_addFrame_5 : decode cX3_addFrame 5 = .ok (.invokevirtual 111, 3) := by decide +kernel
theorem dX3_addFrame_8 : decode cX3_addFrame 8 = .ok (.pop, 1) := by decide +kernel
theorem dX3_addFrame_9 : decode cX3_addFrame 9 = .ok (.aload_n 0, 1) := by decide +kernel
theorem dX3_addFrame_10 : decode cX3_addFrame 10 = .ok (.getfield 27, 3) := by decide +kernel
theorem dX3_addFrame_13 : decode cX3_addFrame 13 = .ok (.iload_n 2, 1) := by decide +kernel
theorem dX3_addFrame_14 : decode cX3_addFrame 14 = .ok (.invokevirtual 111, 3) := by decide +kernel
theorem dX3_addFrame_17 : decode cX3_addFrame 17 = .ok (.pop, 1) := by decide +kernel
theorem dX3_addFrame_18 : decode cX3_addFrame 18 = .ok (.aload_n 0, 1) := by decide +kernel
theorem dX3_addFrame_19 : decode cX3_addFrame 19 = .ok (.getfield 30, 3) := by decide +kernel
theorem dX3_addFrame_22 : decode cX3_addFrame 22 = .ok (.iload_n 3, 1) := by decide +kernel
theorem dX3_addFrame_23 : decode cX3_addFrame 23 = .ok (.invokevirtual 111, 3) := by decide +kernel
theorem dX3_addFrame_26 : decode cX3_addFrame 26 = .ok (.pop, 1) := by decide +kernel
theorem dX3_addFrame_27 : decode cX3_addFrame 27 = .ok (.aload_n 0, 1) := by decide +kernel
theorem dX3_addFrame_28 : decode cX3_addFrame 28 = .ok (.getfield 24, 3) := by decide +kernel
theorem dX3_addFrame_31 : decode cX3_addFrame 31 = .ok (.invokevirtual 54, 3) := by decide +kernel
theorem dX3_addFrame_34 : decode cX3_addFrame 34 = .ok (.iconst 1, 1) := by decide +kernel
theorem dX3_addFrame_35 : decode cX3_addFrame 35 = .ok (.isub, 1) := by decide +kernel
theorem dX3_addFrame_36 : decode cX3_addFrame 36 = .ok (.ireturn, 1) := by decide +kernel
theorem dX3_levelWithin_0 : decode cX3_levelWithin 0 = .ok (.aload_n 0, 1) := by decide +kernel
theorem dX3_levelWithin_1 : decode cX3_levelWithin 1 = .ok (.getfield 24, 3) := by decide +kernel
theorem dX3_levelWithin_4 : decode cX3_levelWithin 4 = .ok (.iload 4, 2) := by decide +kernel
theorem dX3_levelWithin_6 : decode cX3_levelWithin 6 = .ok (.invokevirtual 58, 3) := by decide +kernel
theorem dX3_levelWithin_9 : decode cX3_levelWithin 9 = .ok (.istore 5, 2) := by decide +kernel
theorem dX3_levelWithin_11 : decode cX3_levelWithin 11 = .ok (.iload_n 3, 1) := by decide +kernel
theorem dX3_levelWithin_12 : decode cX3_levelWithin 12 = .ok (.iconst 5, 1) := by decide +kernel
theorem dX3_levelWithin_13 : decode cX3_levelWithin 13 = .ok (.if_icmp .eq 28, 3) := by decide +kernel
theorem dX3_levelWithin_16 : decode cX3_levelWithin 16 = .ok (.iload_n 3, 1) := by decide +kernel
theorem dX3_levelWithin_17 : decode cX3_levelWithin 17 = .ok (.bipush 8, 2) := by decide +kernel
theorem dX3_levelWithin_19 : decode cX3_levelWithin 19 = .ok (.if_icmp .eq 22, 3) := by decide +kernel
theorem dX3_levelWithin_22 : decode cX3_levelWithin 22 = .ok (.iload_n 3, 1) := by decide +kernel
theorem dX3_levelWithin_23 : decode cX3_levelWithin 23 = .ok (.bipush 9, 2) := by decide +kernel
theorem dX3_levelWithin_25 : decode cX3_levelWithin 25 = .ok (.if_icmp .ne 20, 3) := by decide +kernel
theorem dX3_levelWithin_28 : decode cX3_levelWithin 28 = .ok (.aload_n 0, 1) := by decide +kernel
theorem dX3_levelWithin_29 : decode cX3_levelWithin 29 = .ok (.aload_n 1, 1) := by decide +kernel
theorem dX3_levelWithin_30 : decode cX3_levelWithin 30 = .ok (.iload_n 2, 1) := by decide +kernel
theorem dX3_levelWithin_31 : decode cX3_levelWithin 31 = .ok (.iconst 1, 1) := by decide +kernel
theorem dX3_levelWithin_32 : decode cX3_levelWithin 32 = .ok (.iadd, 1) := by decide +kernel
theorem dX3_levelWithin_33 : decode cX3_levelWithin 33 = .ok (.iconst 1, 1) := by decide +kernel
theorem dX3_levelWithin_34 : decode cX3_levelWithin 34 = .ok (.invokevirtual 71, 3) := by decide +kernel
theorem dX3_levelWithin_37 : decode cX3_levelWithin 37 = .ok (.iconst 1, 1) := by decide +kernel
theorem dX3_levelWithin_38 : decode cX3_levelWithin 38 = .ok (.if_icmp .ne 7, 3) := by decide +kernel
theorem dX3_levelWithin_41 : decode cX3_levelWithin 41 = .ok (.iconst 1, 1) := by decide +kernel
theorem dX3_levelWithin_42 : decode cX3_levelWithin 42 = .ok (.goto 4, 3) := by decide +kernel
theorem dX3_levelWithin_45 : decode cX3_levelWithin 45 = .ok (.iconst 0, 1) := by decide +kernel
theorem dX3_levelWithin_46 : decode cX3_levelWithin 46 = .ok (.istore 6, 2) := by decide +kernel
theorem dX3_levelWithin_48 : decode cX3_levelWithin 48 = .ok (.iload 5, 2) := by decide +kernel
theorem dX3_levelWithin_50 : decode cX3_levelWithin 50 = .ok (.iconst 1, 1) := by decide +kernel
theorem dX3_levelWithin_51 : decode cX3_levelWithin 51 = .ok (.iadd, 1) := by decide +kernel
theorem dX3_levelWithin_52 : decode cX3_levelWithin 52 = .ok (.istore 7, 2) := by decide +kernel
theorem dX3_levelWithin_54 : decode cX3_levelWithin 54 = .ok (.iload 7, 2) := by decide +kernel
theorem dX3_levelWithin_56 : decode cX3_levelWithin 56 = .ok (.invokestatic 86, 3) := by decide +kernel
theorem dX3_levelWithin_59 : decode cX3_levelWithin 59 = .ok (.iload 6, 2) := by decide +kernel
theorem dX3_levelWithin_61 : decode cX3_levelWithin 61 = .ok (.ifCond .eq 7, 3) := by decide +kernel
theorem dX3_levelWithin_64 : decode cX3_levelWithin 64 = .ok (.iconst 1, 1) := by decide +kernel
theorem dX3_levelWithin_65 : decode cX3_levelWithin 65 = .ok (.goto 4, 3) := by decide +kernel
theorem dX3_levelWithin_68 : decode cX3_levelWithin 68 = .ok (.iconst 0, 1) := by decide +kernel
theorem dX3_levelWithin_69 : decode cX3_levelWithin 69 = .ok (.if_icmp .eq 6, 3) := by decide +kernel
theorem dX3_levelWithin_72 : decode cX3_levelWithin 72 = .ok (.iinc 7 1, 3) := by decide +kernel
theorem dX3_levelWithin_75 : decode cX3_levelWithin 75 = .ok (.iload 7, 2) := by decide +kernel
theorem dX3_levelWithin_77 : decode cX3_levelWithin 77 = .ok (.bipush 9, 2) := by decide +kernel
theorem dX3_levelWithin_79 : decode cX3_levelWithin 79 = .ok (.if_icmp .le 8, 3) := by decide +kernel
theorem dX3_levelWithin_82 : decode cX3_levelWithin 82 = .ok (.iload 5, 2) := by decide +kernel
theorem dX3_levelWithin_84 : decode cX3_levelWithin 84 = .ok (.goto 5, 3) := by decide +kernel
theorem dX3_levelWithin_87 : decode cX3_levelWithin 87 = .ok (.iload 7, 2) := by decide +kernel
theorem dX3_levelWithin_89 : decode cX3_levelWithin 89 = .ok (.ireturn, 1) := by decide +kernel
theorem dX3_aroundIsolate_0 : decode cX3_aroundIsolate 0 = .ok (.iload_n 1, 1) := by decide +kernel
theorem dX3_aroundIsolate_1 : decode cX3_aroundIsolate 1 = .ok (.istore_n 2, 1) := by decide +kernel
theorem dX3_aroundIsolate_2 : decode cX3_aroundIsolate 2 = .ok (.iconst 0, 1) := by decide +kernel
theorem dX3_aroundIsolate_3 : decode cX3_aroundIsolate 3 = .ok (.istore_n 3, 1) := by decide +kernel
theorem dX3_aroundIsolate_4 : decode cX3_aroundIsolate 4 = .ok (.iload_n 3, 1) := by decide +kernel
theorem dX3_aroundIsolate_5 : decode cX3_aroundIsolate 5 = .ok (.bipush 40, 2) := by decide +kernel
theorem dX3_aroundIsolate_7 : decode cX3_aroundIsolate 7 = .ok (.if_icmp .gt 45, 3) := by decide +kernel
theorem dX3_aroundIsolate_10 : decode cX3_aroundIsolate 10 = .ok (.iload_n 2, 1) := by decide +kernel
theorem dX3_aroundIsolate_11 : decode cX3_aroundIsolate 11 = .ok (.ifCond .le 41, 3) := by decide +kernel
theorem dX3_aroundIsolate_14 : decode cX3_aroundIsolate 14 = .ok (.aload_n 0, 1) := by decide +kernel
theorem dX3_aroundIsolate_15 : decode cX3_aroundIsolate 15 = .ok (.getfield 30, 3) := by decide +kernel
theorem dX3_aroundIsolate_18 : decode cX3_aroundIsolate 18 = .ok (.iload_n 2, 1) := by decide +kernel
theorem dX3_aroundIsolate_19 : decode cX3_aroundIsolate 19 = .ok (.invokevirtual 58, 3) := by decide +kernel
theorem dX3_aroundIsolate_22 : decode cX3_aroundIsolate 22 = .ok (.invokestatic 67, 3) := by decide +kernel
theorem dX3_aroundIsolate_25 : decode cX3_aroundIsolate 25 = .ok (.ifCond .eq 12, 3) := by decide +kernel
theorem dX3_aroundIsolate_28 : decode cX3_aroundIsolate 28 = .ok (.aload_n 0, 1) := by decide +kernel
theorem dX3_aroundIsolate_29 : decode cX3_aroundIsolate 29 = .ok (.getfield 27, 3) := by decide +kernel
theorem dX3_aroundIsolate_32 : decode cX3_aroundIsolate 32 = .ok (.iload_n 2, 1) := by decide +kernel
theorem dX3_aroundIsolate_33 : decode cX3_aroundIsolate 33 = .ok (.invokevirtual 58, 3) := by decide +kernel
theorem dX3_aroundIsolate_36 : decode cX3_aroundIsolate 36 = .ok (.ireturn, 1) := by decide +kernel
theorem dX3_aroundIsolate_37 : decode cX3_aroundIsolate 37 = .ok (.aload_n 0, 1) := by decide +kernel
theorem dX3_aroundIsolate_38 : decode cX3_aroundIsolate 38 = .ok (.getfield 27, 3) := by decide +kernel
theorem dX3_aroundIsolate_41 : decode cX3_aroundIsolate 41 = .ok (.iload_n 2, 1) := by decide +kernel
theorem dX3_aroundIsolate_42 : decode cX3_aroundIsolate 42 = .ok (.invokevirtual 58, 3) := by decide +kernel
theorem dX3_aroundIsolate_45 : decode cX3_aroundIsolate 45 = .ok (.istore_n 2, 1) := by decide +kernel
theorem dX3_aroundIsolate_46 : decode cX3_aroundIsolate 46 = .ok (.iinc 3 1, 3) := by decide +kernel
theorem dX3_aroundIsolate_49 : decode cX3_aroundIsolate 49 = .ok (.goto (-45), 3) := by decide +kernel
theorem dX3_aroundIsolate_52 : decode cX3_aroundIsolate 52 = .ok (.iload_n 1, 1) := by decide +kernel
theorem dX3_aroundIsolate_53 : decode cX3_aroundIsolate 53 = .ok (.ireturn, 1) := by decide +kernel
theorem dX3_gather_0 : decode cX3_gather 0 = .ok (.aload_n 0, 1) := by decide +kernel
theorem dX3_gather_1 : decode cX3_gather 1 = .ok (.getfield 33, 3) := by decide +kernel
theorem dX3_gather_4 : decode cX3_gather 4 = .ok (.iconst 0, 1) := by decide +kernel
theorem dX3_gather_5 : decode cX3_gather 5 = .ok (.invokevirtual 101, 3) := by decide +kernel
theorem dX3_gather_8 : decode cX3_gather 8 = .ok (.aload_n 0, 1) := by decide +kernel
theorem dX3_gather_9 : decode cX3_gather 9 = .ok (.getfield 36, 3) := by decide +kernel
theorem dX3_gather_12 : decode cX3_gather 12 = .ok (.iconst 0, 1) := by decide +kernel
theorem dX3_gather_13 : decode cX3_gather 13 = .ok (.invokevirtual 101, 3) := by decide +kernel
theorem dX3_gather_16 : decode cX3_gather 16 = .ok (.aload_n 0, 1) := by decide +kernel
theorem dX3_gather_17 : decode cX3_gather 17 = .ok (.getfield 39, 3) := by decide +kernel
theorem dX3_gather_20 : decode cX3_gather 20 = .ok (.iconst 0, 1) := by decide +kernel
theorem dX3_gather_21 : decode cX3_gather 21 = .ok (.invokevirtual 101, 3) := by decide +kernel
theorem dX3_gather_24 : decode cX3_gather 24 = .ok (.iconst 0, 1) := by decide +kernel
theorem dX3_gather_25 : decode cX3_gather 25 = .ok (.istore_n 3, 1) := by decide +kernel
theorem dX3_gather_26 : decode cX3_gather 26 = .ok (.iload_n 3, 1) := by decide +kernel
theorem dX3_gather_27 : decode cX3_gather 27 = .ok (.aload_n 1, 1) := by decide +kernel
theorem dX3_gather_28 : decode cX3_gather 28 = .ok (.invokevirtual 54, 3) := by decide +kernel
theorem dX3_gather_31 : decode cX3_gather 31 = .ok (.if_icmp .ge 77, 3) := by decide +kernel
theorem dX3_gather_34 : decode cX3_gather 34 = .ok (.aload_n 0, 1) := by decide +kernel
theorem dX3_gather_35 : decode cX3_gather 35 = .ok (.getfield 20, 3) := by decide +kernel
theorem dX3_gather_38 : decode cX3_gather 38 = .ok (.iload_n 3, 1) := by decide +kernel
theorem dX3_gather_39 : decode cX3_gather 39 = .ok (.invokevirtual 58, 3) := by decide +kernel
theorem dX3_gather_42 : decode cX3_gather 42 = .ok (.iload_n 2, 1) := by decide +kernel
theorem dX3_gather_43 : decode cX3_gather 43 = .ok (.if_icmp .ne 59, 3) := by decide +kernel
theorem dX3_gather_46 : decode cX3_gather 46 = .ok (.aload_n 0, 1) := by decide +kernel
theorem dX3_gather_47 : decode cX3_gather 47 = .ok (.getfield 9, 3) := by decide +kernel
theorem dX3_gather_50 : decode cX3_gather 50 = .ok (.aload_n 1, 1) := by decide +kernel
theorem dX3_gather_51 : decode cX3_gather 51 = .ok (.iload_n 3, 1) := by decide +kernel
theorem dX3_gather_52 : decode cX3_gather 52 = .ok (.invokevirtual 58, 3) := by decide +kernel
theorem dX3_gather_55 : decode cX3_gather 55 = .ok (.invokevirtual 62, 3) := by decide +kernel
theorem dX3_gather_58 : decode cX3_gather 58 = .ok (.istore 4, 2) := by decide +kernel
theorem dX3_gather_60 : decode cX3_gather 60 = .ok (.aload_n 0, 1) := by decide +kernel
theorem dX3_gather_61 : decode cX3_gather 61 = .ok (.getfield 33, 3) := by decide +kernel
theorem dX3_gather_64 : decode cX3_gather 64 = .ok (.iload_n 3, 1) := by decide +kernel
theorem dX3_gather_65 : decode cX3_gather 65 = .ok (.invokevirtual 111, 3) := by decide +kernel
theorem dX3_gather_68 : decode cX3_gather 68 = .ok (.pop, 1) := by decide +kernel
theorem dX3_gather_69 : decode cX3_gather 69 = .ok (.aload_n 0, 1) := by decide +kernel
theorem dX3_gather_70 : decode cX3_gather 70 = .ok (.getfield 36, 3) := by decide +kernel
theorem dX3_gather_73 : decode cX3_gather 73 = .ok (.aload_n 1, 1) := by decide +kernel
theorem dX3_gather_74 : decode cX3_gather 74 = .ok (.iload_n 3, 1) := by decide +kernel
theorem dX3_gather_75 : decode cX3_gather 75 = .ok (.invokevirtual 58, 3) := by decide +kernel
theorem dX3_gather_78 : decode cX3_gather 78 = .ok (.invokevirtual 111, 3) := by decide +kernel
theorem dX3_gather_81 : decode cX3_gather 81 = .ok (.pop, 1) := by decide +kernel
theorem dX3_gather_82 : decode cX3_gather 82 = .ok (.aload_n 0, 1) := by decide +kernel
theorem dX3_gather_83 : decode cX3_gather 83 = .ok (.getfield 39, 3) := by decide +kernel
theorem dX3_gather_86 : decode cX3_gather 86 = .ok (.iload 4, 2) := by decide +kernel
theorem dX3_gather_88 : decode cX3_gather 88 = .ok (.iconst 2, 1) := by decide +kernel
theorem dX3_gather_89 : decode cX3_gather 89 = .ok (.if_icmp .gt 8, 3) := by decide +kernel
theorem dX3_gather_92 : decode cX3_gather 92 = .ok (.iload 4, 2) := by decide +kernel
theorem dX3_gather_94 : decode cX3_gather 94 = .ok (.goto 4, 3) := by decide +kernel
theorem dX3_gather_97 : decode cX3_gather 97 = .ok (.iconst 3, 1) := by decide +kernel
theorem dX3_gather_98 : decode cX3_gather 98 = .ok (.invokevirtual 111, 3) := by decide +kernel
theorem dX3_gather_101 : decode cX3_gather 101 = .ok (.pop, 1) := by decide +kernel
theorem dX3_gather_102 : decode cX3_gather 102 = .ok (.iinc 3 1, 3) := by decide +kernel
theorem dX3_gather_105 : decode cX3_gather 105 = .ok (.goto (-79), 3) := by decide +kernel
theorem dX3_gather_108 : decode cX3_gather 108 = .ok (.return_, 1) := by decide +kernel
theorem dX3_settleNumbers_0 : decode cX3_settleNumbers 0 = .ok (.iload_n 1, 1) := by decide +kernel
theorem dX3_settleNumbers_1 : decode cX3_settleNumbers 1 = .ok (.istore_n 2, 1) := by decide +kernel
theorem dX3_settleNumbers_2 : decode cX3_settleNumbers 2 = .ok (.iconst 0, 1) := by decide +kernel
theorem dX3_settleNumbers_3 : decode cX3_settleNumbers 3 = .ok (.istore_n 3, 1) := by decide +kernel
theorem dX3_settleNumbers_4 : decode cX3_settleNumbers 4 = .ok (.iload_n 3, 1) := by decide +kernel
theorem dX3_settleNumbers_5 : decode cX3_settleNumbers 5 = .ok (.aload_n 0, 1) := by decide +kernel
theorem dX3_settleNumbers_6 : decode cX3_settleNumbers 6 = .ok (.getfield 39, 3) := by decide +kernel
theorem dX3_settleNumbers_9 : decode cX3_settleNumbers 9 = .ok (.invokevirtual 54, 3) := by decide +kernel
theorem dX3_settleNumbers_12 : decode cX3_settleNumbers 12 = .ok (.if_icmp .ge 55, 3) := by decide +kernel
theorem dX3_settleNumbers_15 : decode cX3_settleNumbers 15 = .ok (.aload_n 0, 1) := by decide +kernel
theorem dX3_settleNumbers_16 : decode cX3_settleNumbers 16 = .ok (.getfield 39, 3) := by decide +kernel
theorem dX3_settleNumbers_19 : decode cX3_settleNumbers 19 = .ok (.iload_n 3, 1) := by decide +kernel
theorem dX3_settleNumbers_20 : decode cX3_settleNumbers 20 = .ok (.invokevirtual 58, 3) := by decide +kernel
theorem dX3_settleNumbers_23 : decode cX3_settleNumbers 23 = .ok (.istore 4, 2) := by decide +kernel
theorem dX3_settleNumbers_25 : decode cX3_settleNumbers 25 = .ok (.iload 4, 2) := by decide +kernel
theorem dX3_settleNumbers_27 : decode cX3_settleNumbers 27 = .ok (.ifCond .eq 9, 3) := by decide +kernel
theorem dX3_settleNumbers_30 : decode cX3_settleNumbers 30 = .ok (.iload 4, 2) := by decide +kernel
theorem dX3_settleNumbers_32 : decode cX3_settleNumbers 32 = .ok (.iconst 1, 1) := by decide +kernel
theorem dX3_settleNumbers_33 : decode cX3_settleNumbers 33 = .ok (.if_icmp .ne 9, 3) := by decide +kernel
theorem dX3_settleNumbers_36 : decode cX3_settleNumbers 36 = .ok (.iload 4, 2) := by decide +kernel
theorem dX3_settleNumbers_38 : decode cX3_settleNumbers 38 = .ok (.istore_n 2, 1) := by decide +kernel
theorem dX3_settleNumbers_39 : decode cX3_settleNumbers 39 = .ok (.goto 22, 3) := by decide +kernel
theorem dX3_settleNumbers_42 : decode cX3_settleNumbers 42 = .ok (.iload 4, 2) := by decide +kernel
theorem dX3_settleNumbers_44 : decode cX3_settleNumbers 44 = .ok (.iconst 2, 1) := by decide +kernel
theorem dX3_settleNumbers_45 : decode cX3_settleNumbers 45 = .ok (.if_icmp .ne 16, 3) := by decide +kernel
theorem dX3_settleNumbers_48 : decode cX3_settleNumbers 48 = .ok (.iload_n 2, 1) := by decide +kernel
theorem dX3_settleNumbers_49 : decode cX3_settleNumbers 49 = .ok (.ifCond .ne 12, 3) := by decide +kernel
theorem dX3_settleNumbers_52 : decode cX3_settleNumbers 52 = .ok (.aload_n 0, 1) := by decide +kernel
theorem dX3_settleNumbers_53 : decode cX3_settleNumbers 53 = .ok (.getfield 39, 3) := by decide +kernel
theorem dX3_settleNumbers_56 : decode cX3_settleNumbers 56 = .ok (.iload_n 3, 1) := by decide +kernel
theorem dX3_settleNumbers_57 : decode cX3_settleNumbers 57 = .ok (.iconst 0, 1) := by decide +kernel
theorem dX3_settleNumbers_58 : decode cX3_settleNumbers 58 = .ok (.invokevirtual 121, 3) := by decide +kernel
theorem dX3_settleNumbers_61 : decode cX3_settleNumbers 61 = .ok (.iinc 3 1, 3) := by decide +kernel
theorem dX3_settleNumbers_64 : decode cX3_settleNumbers 64 = .ok (.goto (-60), 3) := by decide +kernel
theorem dX3_settleNumbers_67 : decode cX3_settleNumbers 67 = .ok (.return_, 1) := by decide +kernel
theorem dX3_settlePartners_0 : decode cX3_settlePartners 0 = .ok (.aload_n 0, 1) := by decide +kernel
theorem dX3_settlePartners_1 : decode cX3_settlePartners 1 = .ok (.invokevirtual 124, 3) := by decide +kernel
theorem dX3_settlePartners_4 : decode cX3_settlePartners 4 = .ok (.iconst 0, 1) := by decide +kernel
theorem dX3_settlePartners_5 : decode cX3_settlePartners 5 = .ok (.istore_n 2, 1) := by decide +kernel
theorem dX3_settlePartners_6 : decode cX3_settlePartners 6 = .ok (.iload_n 2, 1) := by decide +kernel
theorem dX3_settlePartners_7 : decode cX3_settlePartners 7 = .ok (.aload_n 0, 1) := by decide +kernel
theorem dX3_settlePartners_8 : decode cX3_settlePartners 8 = .ok (.getfield 36, 3) := by decide +kernel
theorem dX3_settlePartners_11 : decode cX3_settlePartners 11 = .ok (.invokevirtual 54, 3) := by decide +kernel
theorem dX3_settlePartners_14 : decode cX3_settlePartners 14 = .ok (.if_icmp .ge 62, 3) := by decide +kernel
theorem dX3_settlePartners_17 : decode cX3_settlePartners 17 = .ok (.aload_n 0, 1) := by decide +kernel
theorem dX3_settlePartners_18 : decode cX3_settlePartners 18 = .ok (.getfield 45, 3) := by decide +kernel
theorem dX3_settlePartners_21 : decode cX3_settlePartners 21 = .ok (.iload_n 2, 1) := by decide +kernel
theorem dX3_settlePartners_22 : decode cX3_settlePartners 22 = .ok (.invokevirtual 58, 3) := by decide +kernel
theorem dX3_settlePartners_25 : decode cX3_settlePartners 25 = .ok (.istore_n 3, 1) := by decide +kernel
theorem dX3_settlePartners_26 : decode cX3_settlePartners 26 = .ok (.iload_n 3, 1) := by decide +kernel
theorem dX3_settlePartners_27 : decode cX3_settlePartners 27 = .ok (.iconst (-1), 1) := by decide +kernel
theorem dX3_settlePartners_28 : decode cX3_settlePartners 28 = .ok (.if_icmp .ne 7, 3) := by decide +kernel
theorem dX3_settlePartners_31 : decode cX3_settlePartners 31 = .ok (.iconst 3, 1) := by decide +kernel
theorem dX3_settlePartners_32 : decode cX3_settlePartners 32 = .ok (.goto 10, 3) := by decide +kernel
theorem dX3_settlePartners_35 : decode cX3_settlePartners 35 = .ok (.aload_n 0, 1) := by decide +kernel
theorem dX3_settlePartners_36 : decode cX3_settlePartners 36 = .ok (.iload_n 2, 1) := by decide +kernel
theorem dX3_settlePartners_37 : decode cX3_settlePartners 37 = .ok (.iload_n 3, 1) := by decide +kernel
theorem dX3_settlePartners_38 : decode cX3_settlePartners 38 = .ok (.iload_n 1, 1) := by decide +kernel
theorem dX3_settlePartners_39 : decode cX3_settlePartners 39 = .ok (.invokevirtual 127, 3) := by decide +kernel
theorem dX3_settlePartners_42 : decode cX3_settlePartners 42 = .ok (.istore 4, 2) := by decide +kernel
theorem dX3_settlePartners_44 : decode cX3_settlePartners 44 = .ok (.iload 4, 2) := by decide +kernel
theorem dX3_settlePartners_46 : decode cX3_settlePartners 46 = .ok (.iconst 3, 1) := by decide +kernel
theorem dX3_settlePartners_47 : decode cX3_settlePartners 47 = .ok (.if_icmp .eq 23, 3) := by decide +kernel
theorem dX3_settlePartners_50 : decode cX3_settlePartners 50 = .ok (.aload_n 0, 1) := by decide +kernel
theorem dX3_settlePartners_51 : decode cX3_settlePartners 51 = .ok (.getfield 39, 3) := by decide +kernel
theorem dX3_settlePartners_54 : decode cX3_settlePartners 54 = .ok (.iload_n 2, 1) := by decide +kernel
theorem dX3_settlePartners_55 : decode cX3_settlePartners 55 = .ok (.iload 4, 2) := by decide +kernel
theorem dX3_settlePartners_57 : decode cX3_settlePartners 57 = .ok (.invokevirtual 121, 3) := by decide +kernel
theorem dX3_settlePartners_60 : decode cX3_settlePartners 60 = .ok (.aload_n 0, 1) := by decide +kernel
theorem dX3_settlePartners_61 : decode cX3_settlePartners 61 = .ok (.getfield 39, 3) := by decide +kernel
theorem dX3_settlePartners_64 : decode cX3_settlePartners 64 = .ok (.iload_n 3, 1) := by decide +kernel
theorem dX3_settlePartners_65 : decode cX3_settlePartners 65 = .ok (.iload 4, 2) := by decide +kernel
theorem dX3_settlePartners_67 : decode cX3_settlePartners 67 = .ok (.invokevirtual 121, 3) := by decide +kernel
theorem dX3_settlePartners_70 : decode cX3_settlePartners 70 = .ok (.iinc 2 1, 3) := by decide +kernel
theorem dX3_settlePartners_73 : decode cX3_settlePartners 73 = .ok (.goto (-67), 3) := by decide +kernel
theorem dX3_settlePartners_76 : decode cX3_settlePartners 76 = .ok (.return_, 1) := by decide +kernel
theorem dX3_matchPartners_0 : decode cX3_matchPartners 0 = .ok (.aload_n 0, 1) := by decide +kernel
theorem dX3_matchPartners_1 : decode cX3_matchPartners 1 = .ok (.getfield 45, 3) := by decide +kernel
theorem dX3_matchPartners_4 : decode cX3_matchPartners 4 = .ok (.iconst (-1), 1) := by decide +kernel
theorem dX3_matchPartners_5 : decode cX3_matchPartners 5 = .ok (.aload_n 0, 1) := by decide +kernel
theorem dX3_matchPartners_6 : decode cX3_matchPartners 6 = .ok (.getfield 36, 3) := by decide +kernel
theorem dX3_matchPartners_9 : decode cX3_matchPartners 9 = .ok (.invokevirtual 54, 3) := by decide +kernel
theorem dX3_matchPartners_12 : decode cX3_matchPartners 12 = .ok (.invokevirtual 79, 3) := by decide +kernel
theorem dX3_matchPartners_15 : decode cX3_matchPartners 15 = .ok (.aload_n 0, 1) := by decide +kernel
theorem dX3_matchPartners_16 : decode cX3_matchPartners 16 = .ok (.getfield 42, 3) := by decide +kernel
theorem dX3_matchPartners_19 : decode cX3_matchPartners 19 = .ok (.iconst 0, 1) := by decide +kernel
theorem dX3_matchPartners_20 : decode cX3_matchPartners 20 = .ok (.invokevirtual 101, 3) := by decide +kernel
theorem dX3_matchPartners_23 : decode cX3_matchPartners 23 = .ok (.iconst 0, 1) := by decide +kernel
theorem dX3_matchPartners_24 : decode cX3_matchPartners 24 = .ok (.istore_n 1, 1) := by decide +kernel
theorem dX3_matchPartners_25 : decode cX3_matchPartners 25 = .ok (.iload_n 1, 1) := by decide +kernel
theorem dX3_matchPartners_26 : decode cX3_matchPartners 26 = .ok (.aload_n 0, 1) := by decide +kernel
theorem dX3_matchPartners_27 : decode cX3_matchPartners 27 = .ok (.getfield 36, 3) := by decide +kernel
theorem dX3_matchPartners_30 : decode cX3_matchPartners 30 = .ok (.invokevirtual 54, 3) := by decide +kernel
theorem dX3_matchPartners_33 : decode cX3_matchPartners 33 = .ok (.if_icmp .ge 80, 3) := by decide +kernel
theorem dX3_matchPartners_36 : decode cX3_matchPartners 36 = .ok (.aload_n 0, 1) := by decide +kernel
theorem dX3_matchPartners_37 : decode cX3_matchPartners 37 = .ok (.getfield 36, 3) := by decide +kernel
theorem dX3_matchPartners_40 : decode cX3_matchPartners 40 = .ok (.iload_n 1, 1) := by decide +kernel
theorem dX3_matchPartners_41 : decode cX3_matchPartners 41 = .ok (.invokevirtual 58, 3) := by decide +kernel
theorem dX3_matchPartners_44 : decode cX3_matchPartners 44 = .ok (.istore_n 2, 1) := by decide +kernel
theorem dX3_matchPartners_45 : decode cX3_matchPartners 45 = .ok (.aload_n 0, 1) := by decide +kernel
theorem dX3_matchPartners_46 : decode cX3_matchPartners 46 = .ok (.getfield 9, 3) := by decide +kernel
theorem dX3_matchPartners_49 : decode cX3_matchPartners 49 = .ok (.iload_n 2, 1) := by decide +kernel
theorem dX3_matchPartners_50 : decode cX3_matchPartners 50 = .ok (.invokevirtual 62, 3) := by decide +kernel
theorem dX3_matchPartners_53 : decode cX3_matchPartners 53 = .ok (.iconst 3, 1) := by decide +kernel
theorem dX3_matchPartners_54 : decode cX3_matchPartners 54 = .ok (.if_icmp .eq 6, 3) := by decide +kernel
theorem dX3_matchPartners_57 : decode cX3_matchPartners 57 = .ok (.goto 50, 3) := by decide +kernel
theorem dX3_matchPartners_60 : decode cX3_matchPartners 60 = .ok (.aload_n 0, 1) := by decide +kernel
theorem dX3_matchPartners_61 : decode cX3_matchPartners 61 = .ok (.getfield 9, 3) := by decide +kernel
theorem dX3_matchPartners_64 : decode cX3_matchPartners 64 = .ok (.iload_n 2, 1) := by decide +kernel
theorem dX3_matchPartners_65 : decode cX3_matchPartners 65 = .ok (.invokevirtual 130, 3) := by decide +kernel
theorem dX3_matchPartners_68 : decode cX3_matchPartners 68 = .ok (.ifCond .eq 15, 3) := by decide +kernel
theorem dX3_matchPartners_71 : decode cX3_matchPartners 71 = .ok (.aload_n 0, 1) := by decide +kernel
theorem dX3_matchPartners_72 : decode cX3_matchPartners 72 = .ok (.getfield 42, 3) := by decide +kernel
theorem dX3_matchPartners_75 : decode cX3_matchPartners 75 = .ok (.iload_n 1, 1) := by decide +kernel
theorem dX3_matchPartners_76 : decode cX3_matchPartners 76 = .ok (.invokevirtual 111, 3) := by decide +kernel
theorem dX3_matchPartners_79 : decode cX3_matchPartners 79 = .ok (.pop, 1) := by decide +kernel
theorem dX3_matchPartners_80 : decode cX3_matchPartners 80 = .ok (.goto 27, 3) := by decide +kernel
theorem dX3_matchPartners_83 : decode cX3_matchPartners 83 = .ok (.aload_n 0, 1) := by decide +kernel
theorem dX3_matchPartners_84 : decode cX3_matchPartners 84 = .ok (.getfield 9, 3) := by decide +kernel
theorem dX3_matchPartners_87 : decode cX3_matchPartners 87 = .ok (.iload_n 2, 1) := by decide +kernel
theorem dX3_matchPartners_88 : decode cX3_matchPartners 88 = .ok (.invokevirtual 133, 3) := by decide +kernel
theorem dX3_matchPartners_91 : decode cX3_matchPartners 91 = .ok (.ifCond .eq 16, 3) := by decide +kernel
theorem dX3_matchPartners_94 : decode cX3_matchPartners 94 = .ok (.aload_n 0, 1) := by decide +kernel
theorem dX3_matchPartners_95 : decode cX3_matchPartners 95 = .ok (.iload_n 1, 1) := by decide +kernel
theorem dX3_matchPartners_96 : decode cX3_matchPartners 96 = .ok (.aload_n 0, 1) := by decide +kernel
theorem dX3_matchPartners_97 : decode cX3_matchPartners 97 = .ok (.getfield 9, 3) := by decide +kernel
theorem dX3_matchPartners_100 : decode cX3_matchPartners 100 = .ok (.iload_n 2, 1) := by decide +kernel
theorem dX3_matchPartners_101 : decode cX3_matchPartners 101 = .ok (.invokevirtual 136, 3) := by decide +kernel
theorem dX3_matchPartners_104 : decode cX3_matchPartners 104 = .ok (.invokevirtual 139, 3) := by decide +kernel
theorem dX3_matchPartners_107 : decode cX3_matchPartners 107 = .ok (.iinc 1 1, 3) := by decide +kernel
theorem dX3_matchPartners_110 : decode cX3_matchPartners 110 = .ok (.goto (-85), 3) := by decide +kernel
theorem dX3_matchPartners_113 : decode cX3_matchPartners 113 = .ok (.return_, 1) := by decide +kernel
theorem dX3_closeLast_0 : decode cX3_closeLast 0 = .ok (.aload_n 0, 1) := by decide +kernel
theorem dX3_closeLast_1 : decode cX3_closeLast 1 = .ok (.getfield 42, 3) := by decide +kernel
theorem dX3_closeLast_4 : decode cX3_closeLast 4 = .ok (.invokevirtual 54, 3) := by decide +kernel
theorem dX3_closeLast_7 : decode cX3_closeLast 7 = .ok (.iconst 1, 1) := by decide +kernel
theorem dX3_closeLast_8 : decode cX3_closeLast 8 = .ok (.isub, 1) := by decide +kernel
theorem dX3_closeLast_9 : decode cX3_closeLast 9 = .ok (.istore_n 3, 1) := by decide +kernel
theorem dX3_closeLast_10 : decode cX3_closeLast 10 = .ok (.iload_n 3, 1) := by decide +kernel
theorem dX3_closeLast_11 : decode cX3_closeLast 11 = .ok (.ifCond .lt 53, 3) := by decide +kernel
theorem dX3_closeLast_14 : decode cX3_closeLast 14 = .ok (.aload_n 0, 1) := by decide +kernel
theorem dX3_closeLast_15 : decode cX3_closeLast 15 = .ok (.getfield 36, 3) := by decide +kernel
theorem dX3_closeLast_18 : decode cX3_closeLast 18 = .ok (.aload_n 0, 1) := by decide +kernel
theorem dX3_closeLast_19 : decode cX3_closeLast 19 = .ok (.getfield 42, 3) := by decide +kernel
theorem dX3_closeLast_22 : decode cX3_closeLast 22 = .ok (.iload_n 3, 1) := by decide +kernel
theorem dX3_closeLast_23 : decode cX3_closeLast 23 = .ok (.invokevirtual 58, 3) := by decide +kernel
theorem dX3_closeLast_26 : decode cX3_closeLast 26 = .ok (.invokevirtual 58, 3) := by decide +kernel
theorem dX3_closeLast_29 : decode cX3_closeLast 29 = .ok (.iload_n 2, 1) := by decide +kernel
theorem dX3_closeLast_30 : decode cX3_closeLast 30 = .ok (.if_icmp .ne 28, 3) := by decide +kernel
theorem dX3_closeLast_33 : decode cX3_closeLast 33 = .ok (.aload_n 0, 1) := by decide +kernel
theorem dX3_closeLast_34 : decode cX3_closeLast 34 = .ok (.getfield 45, 3) := by decide +kernel
theorem dX3_closeLast_37 : decode cX3_closeLast 37 = .ok (.aload_n 0, 1) := by decide +kernel
theorem dX3_closeLast_38 : decode cX3_closeLast 38 = .ok (.getfield 42, 3) := by decide +kernel
theorem dX3_closeLast_41 : decode cX3_closeLast 41 = .ok (.iload_n 3, 1) := by decide +kernel
theorem dX3_closeLast_42 : decode cX3_closeLast 42 = .ok (.invokevirtual 58, 3) := by decide +kernel
theorem dX3_closeLast_45 : decode cX3_closeLast 45 = .ok (.iload_n 1, 1) := by decide +kernel
theorem dX3_closeLast_46 : decode cX3_closeLast 46 = .ok (.invokevirtual 121, 3) := by decide +kernel
theorem dX3_closeLast_49 : decode cX3_closeLast 49 = .ok (.aload_n 0, 1) := by decide +kernel
theorem dX3_closeLast_50 : decode cX3_closeLast 50 = .ok (.getfield 42, 3) := by decide +kernel
theorem dX3_closeLast_53 : decode cX3_closeLast 53 = .ok (.iload_n 3, 1) := by decide +kernel
theorem dX3_closeLast_54 : decode cX3_closeLast 54 = .ok (.invokevirtual 101, 3) := by decide +kernel
theorem dX3_closeLast_57 : decode cX3_closeLast 57 = .ok (.return_, 1) := by decide +kernel
theorem dX3_closeLast_58 : decode cX3_closeLast 58 = .ok (.iinc 3 (-1), 3) := by decide +kernel
theorem dX3_closeLast_61 : decode cX3_closeLast 61 = .ok (.goto (-51), 3) := by decide +kernel
theorem dX3_closeLast_64 : decode cX3_closeLast 64 = .ok (.return_, 1) := by decide +kernel
theorem dX3_pairWay_0 : decode cX3_pairWay 0 = .ok (.iload_n 3, 1) := by decide +kernel
theorem dX3_pairWay_1 : decode cX3_pairWay 1 = .ok (.ifCond .ne 7, 3) := by decide +kernel
theorem dX3_pairWay_4 : decode cX3_pairWay 4 = .ok (.iconst 1, 1) := by decide +kernel
theorem dX3_pairWay_5 : decode cX3_pairWay 5 = .ok (.goto 4, 3) := by decide +kernel
theorem dX3_pairWay_8 : decode cX3_pairWay 8 = .ok (.iconst 0, 1) := by decide +kernel
theorem dX3_pairWay_9 : decode cX3_pairWay 9 = .ok (.istore 4, 2) := by decide +kernel
theorem dX3_pairWay_11 : decode cX3_pairWay 11 = .ok (.iconst 0, 1) := by decide +kernel
theorem dX3_pairWay_12 : decode cX3_pairWay 12 = .ok (.istore 5, 2) := by decide +kernel
theorem dX3_pairWay_14 : decode cX3_pairWay 14 = .ok (.iload_n 1, 1) := by decide +kernel
theorem dX3_pairWay_15 : decode cX3_pairWay 15 = .ok (.iconst 1, 1) := by decide +kernel
theorem dX3_pairWay_16 : decode cX3_pairWay 16 = .ok (.iadd, 1) := by decide +kernel
theorem dX3_pairWay_17 : decode cX3_pairWay 17 = .ok (.istore 6, 2) := by decide +kernel
theorem dX3_pairWay_19 : decode cX3_pairWay 19 = .ok (.iload 6, 2) := by decide +kernel
theorem dX3_pairWay_21 : decode cX3_pairWay 21 = .ok (.iload_n 2, 1) := by decide +kernel
theorem dX3_pairWay_22 : decode cX3_pairWay 22 = .ok (.if_icmp .ge 44, 3) := by decide +kernel
theorem dX3_pairWay_25 : decode cX3_pairWay 25 = .ok (.aload_n 0, 1) := by decide +kernel
theorem dX3_pairWay_26 : decode cX3_pairWay 26 = .ok (.iload 6, 2) := by decide +kernel
theorem dX3_pairWay_28 : decode cX3_pairWay 28 = .ok (.invokevirtual 142, 3) := by decide +kernel
theorem dX3_pairWay_31 : decode cX3_pairWay 31 = .ok (.istore 7, 2) := by decide +kernel
theorem dX3_pairWay_33 : decode cX3_pairWay 33 = .ok (.iload 7, 2) := by decide +kernel
theorem dX3_pairWay_35 : decode cX3_pairWay 35 = .ok (.iload_n 3, 1) := by decide +kernel
theorem dX3_pairWay_36 : decode cX3_pairWay 36 = .ok (.if_icmp .ne 5, 3) := by decide +kernel
theorem dX3_pairWay_39 : decode cX3_pairWay 39 = .ok (.iload_n 3, 1) := by decide +kernel
theorem dX3_pairWay_40 : decode cX3_pairWay 40 = .ok (.ireturn, 1) := by decide +kernel
theorem dX3_pairWay_41 : decode cX3_pairWay 41 = .ok (.iload 5, 2) := by decide +kernel
theorem dX3_pairWay_43 : decode cX3_pairWay 43 = .ok (.ifCond .ne 10, 3) := by decide +kernel
theorem dX3_pairWay_46 : decode cX3_pairWay 46 = .ok (.iload 7, 2) := by decide +kernel
theorem dX3_pairWay_48 : decode cX3_pairWay 48 = .ok (.iload 4, 2) := by decide +kernel
theorem dX3_pairWay_50 : decode cX3_pairWay 50 = .ok (.if_icmp .ne 7, 3) := by decide +kernel
theorem dX3_pairWay_53 : decode cX3_pairWay 53 = .ok (.iconst 1, 1) := by decide +kernel
theorem dX3_pairWay_54 : decode cX3_pairWay 54 = .ok (.goto 4, 3) := by decide +kernel
theorem dX3_pairWay_57 : decode cX3_pairWay 57 = .ok (.iconst 0, 1) := by decide +kernel
theorem dX3_pairWay_58 : decode cX3_pairWay 58 = .ok (.istore 5, 2) := by decide +kernel
theorem dX3_pairWay_60 : decode cX3_pairWay 60 = .ok (.iinc 6 1, 3) := by decide +kernel
theorem dX3_pairWay_63 : decode cX3_pairWay 63 = .ok (.goto (-44), 3) := by decide +kernel
theorem dX3_pairWay_66 : decode cX3_pairWay 66 = .ok (.iload 5, 2) := by decide +kernel
theorem dX3_pairWay_68 : decode cX3_pairWay 68 = .ok (.ifCond .ne 5, 3) := by decide +kernel
theorem dX3_pairWay_71 : decode cX3_pairWay 71 = .ok (.iconst 3, 1) := by decide +kernel
theorem dX3_pairWay_72 : decode cX3_pairWay 72 = .ok (.ireturn, 1) := by decide +kernel
theorem dX3_pairWay_73 : decode cX3_pairWay 73 = .ok (.aload_n 0, 1) := by decide +kernel
theorem dX3_pairWay_74 : decode cX3_pairWay 74 = .ok (.iload_n 1, 1) := by decide +kernel
theorem dX3_pairWay_75 : decode cX3_pairWay 75 = .ok (.iload_n 3, 1) := by decide +kernel
theorem dX3_pairWay_76 : decode cX3_pairWay 76 = .ok (.invokevirtual 145, 3) := by decide +kernel
theorem dX3_pairWay_79 : decode cX3_pairWay 79 = .ok (.iload 4, 2) := by decide +kernel
theorem dX3_pairWay_81 : decode cX3_pairWay 81 = .ok (.if_icmp .ne 8, 3) := by decide +kernel
theorem dX3_pairWay_84 : decode cX3_pairWay 84 = .ok (.iload 4, 2) := by decide +kernel
theorem dX3_pairWay_86 : decode cX3_pairWay 86 = .ok (.goto 4, 3) := by decide +kernel
theorem dX3_pairWay_89 : decode cX3_pairWay 89 = .ok (.iload_n 3, 1) := by decide +kernel
theorem dX3_pairWay_90 : decode cX3_pairWay 90 = .ok (.ireturn, 1) := by decide +kernel
theorem dX3_plainWay_0 : decode cX3_plainWay 0 = .ok (.aload_n 0, 1) := by decide +kernel
theorem dX3_plainWay_1 : decode cX3_plainWay 1 = .ok (.getfield 39, 3) := by decide +kernel
theorem dX3_plainWay_4 : decode cX3_plainWay 4 = .ok (.iload_n 1, 1) := by decide +kernel
theorem dX3_plainWay_5 : decode cX3_plainWay 5 = .ok (.invokevirtual 58, 3) := by decide +kernel
theorem dX3_plainWay_8 : decode cX3_plainWay 8 = .ok (.istore_n 2, 1) := by decide +kernel
theorem dX3_plainWay_9 : decode cX3_plainWay 9 = .ok (.iload_n 2, 1) := by decide +kernel
theorem dX3_plainWay_10 : decode cX3_plainWay 10 = .ok (.iconst 2, 1) := by decide +kernel
theorem dX3_plainWay_11 : decode cX3_plainWay 11 = .ok (.if_icmp .ne 7, 3) := by decide +kernel
theorem dX3_plainWay_14 : decode cX3_plainWay 14 = .ok (.iconst 1, 1) := by decide +kernel
theorem dX3_plainWay_15 : decode cX3_plainWay 15 = .ok (.goto 4, 3) := by decide +kernel
theorem dX3_plainWay_18 : decode cX3_plainWay 18 = .ok (.iload_n 2, 1) := by decide +kernel
theorem dX3_plainWay_19 : decode cX3_plainWay 19 = .ok (.ireturn, 1) := by decide +kernel
theorem dX3_wayAhead_0 : decode cX3_wayAhead 0 = .ok (.iload_n 1, 1) := by decide +kernel
theorem dX3_wayAhead_1 : decode cX3_wayAhead 1 = .ok (.iconst 1, 1) := by decide +kernel
theorem dX3_wayAhead_2 : decode cX3_wayAhead 2 = .ok (.isub, 1) := by decide +kernel
theorem dX3_wayAhead_3 : decode cX3_wayAhead 3 = .ok (.istore_n 3, 1) := by decide +kernel
theorem dX3_wayAhead_4 : decode cX3_wayAhead 4 = .ok (.iload_n 3, 1) := by decide +kernel
theorem dX3_wayAhead_5 : decode cX3_wayAhead 5 = .ok (.ifCond .lt 24, 3) := by decide +kernel
theorem dX3_wayAhead_8 : decode cX3_wayAhead 8 = .ok (.aload_n 0, 1) := by decide +kernel
theorem dX3_wayAhead_9 : decode cX3_wayAhead 9 = .ok (.iload_n 3, 1) := by decide +kernel
theorem dX3_wayAhead_10 : decode cX3_wayAhead 10 = .ok (.invokevirtual 142, 3) := by decide +kernel
theorem dX3_wayAhead_13 : decode cX3_wayAhead 13 = .ok (.iconst 3, 1) := by decide +kernel
theorem dX3_wayAhead_14 : decode cX3_wayAhead 14 = .ok (.if_icmp .eq 9, 3) := by decide +kernel
theorem dX3_wayAhead_17 : decode cX3_wayAhead 17 = .ok (.aload_n 0, 1) := by decide +kernel
theorem dX3_wayAhead_18 : decode cX3_wayAhead 18 = .ok (.iload_n 3, 1) := by decide +kernel
theorem dX3_wayAhead_19 : decode cX3_wayAhead 19 = .ok (.invokevirtual 142, 3) := by decide +kernel
theorem dX3_wayAhead_22 : decode cX3_wayAhead 22 = .ok (.ireturn, 1) := by decide +kernel
theorem dX3_wayAhead_23 : decode cX3_wayAhead 23 = .ok (.iinc 3 (-1), 3) := by decide +kernel
theorem dX3_wayAhead_26 : decode cX3_wayAhead 26 = .ok (.goto (-22), 3) := by decide +kernel
theorem dX3_wayAhead_29 : decode cX3_wayAhead 29 = .ok (.iload_n 2, 1) := by decide +kernel
theorem dX3_wayAhead_30 : decode cX3_wayAhead 30 = .ok (.ireturn, 1) := by decide +kernel
theorem dX3_wayBehind_0 : decode cX3_wayBehind 0 = .ok (.iload_n 1, 1) := by decide +kernel
theorem dX3_wayBehind_1 : decode cX3_wayBehind 1 = .ok (.iconst 1, 1) := by decide +kernel
theorem dX3_wayBehind_2 : decode cX3_wayBehind 2 = .ok (.iadd, 1) := by decide +kernel
theorem dX3_wayBehind_3 : decode cX3_wayBehind 3 = .ok (.istore_n 3, 1) := by decide +kernel
theorem dX3_wayBehind_4 : decode cX3_wayBehind 4 = .ok (.iload_n 3, 1) := by decide +kernel
theorem dX3_wayBehind_5 : decode cX3_wayBehind 5 = .ok (.aload_n 0, 1) := by decide +kernel
theorem dX3_wayBehind_6 : decode cX3_wayBehind 6 = .ok (.getfield 39, 3) := by decide +kernel
theorem dX3_wayBehind_9 : decode cX3_wayBehind 9 = .ok (.invokevirtual 54, 3) := by decide +kernel
theorem dX3_wayBehind_12 : decode cX3_wayBehind 12 = .ok (.if_icmp .ge 24, 3) := by decide +kernel
theorem dX3_wayBehind_15 : decode cX3_wayBehind 15 = .ok (.aload_n 0, 1) := by decide +kernel
theorem dX3_wayBehind_16 : decode cX3_wayBehind 16 = .ok (.iload_n 3, 1) := by decide +kernel
theorem dX3_wayBehind_17 : decode cX3_wayBehind 17 = .ok (.invokevirtual 142, 3) := by decide +kernel
theorem dX3_wayBehind_20 : decode cX3_wayBehind 20 = .ok (.iconst 3, 1) := by decide +kernel
theorem dX3_wayBehind_21 : decode cX3_wayBehind 21 = .ok (.if_icmp .eq 9, 3) := by decide +kernel
theorem dX3_wayBehind_24 : decode cX3_wayBehind 24 = .ok (.aload_n 0, 1) := by decide +kernel
theorem dX3_wayBehind_25 : decode cX3_wayBehind 25 = .ok (.iload_n 3, 1) := by decide +kernel
theorem dX3_wayBehind_26 : decode cX3_wayBehind 26 = .ok (.invokevirtual 142, 3) := by decide +kernel
theorem dX3_wayBehind_29 : decode cX3_wayBehind 29 = .ok (.ireturn, 1) := by decide +kernel
theorem dX3_wayBehind_30 : decode cX3_wayBehind 30 = .ok (.iinc 3 1, 3) := by decide +kernel
theorem dX3_wayBehind_33 : decode cX3_wayBehind 33 = .ok (.goto (-29), 3) := by decide +kernel
theorem dX3_wayBehind_36 : decode cX3_wayBehind 36 = .ok (.iload_n 2, 1) := by decide +kernel
theorem dX3_wayBehind_37 : decode cX3_wayBehind 37 = .ok (.ireturn, 1) := by decide +kernel
theorem dX3_settleRest_0 : decode cX3_settleRest 0 = .ok (.iconst 0, 1) := by decide +kernel
theorem dX3_settleRest_1 : decode cX3_settleRest 1 = .ok (.istore_n 2, 1) := by decide +kernel
theorem dX3_settleRest_2 : decode cX3_settleRest 2 = .ok (.iload_n 2, 1) := by decide +kernel
theorem dX3_settleRest_3 : decode cX3_settleRest 3 = .ok (.aload_n 0, 1) := by decide +kernel
theorem dX3_settleRest_4 : decode cX3_settleRest 4 = .ok (.getfield 39, 3) := by decide +kernel
theorem dX3_settleRest_7 : decode cX3_settleRest 7 = .ok (.invokevirtual 54, 3) := by decide +kernel
theorem dX3_settleRest_10 : decode cX3_settleRest 10 = .ok (.if_icmp .ge 51, 3) := by decide +kernel
theorem dX3_settleRest_13 : decode cX3_settleRest 13 = .ok (.aload_n 0, 1) := by decide +kernel
theorem dX3_settleRest_14 : decode cX3_settleRest 14 = .ok (.getfield 39, 3) := by decide +kernel
theorem dX3_settleRest_17 : decode cX3_settleRest 17 = .ok (.iload_n 2, 1) := by decide +kernel
theorem dX3_settleRest_18 : decode cX3_settleRest 18 = .ok (.invokevirtual 58, 3) := by decide +kernel
theorem dX3_settleRest_21 : decode cX3_settleRest 21 = .ok (.iconst 3, 1) := by decide +kernel
theorem dX3_settleRest_22 : decode cX3_settleRest 22 = .ok (.if_icmp .ne 33, 3) := by decide +kernel
theorem dX3_settleRest_25 : decode cX3_settleRest 25 = .ok (.aload_n 0, 1) := by decide +kernel
theorem dX3_settleRest_26 : decode cX3_settleRest 26 = .ok (.iload_n 2, 1) := by decide +kernel
theorem dX3_settleRest_27 : decode cX3_settleRest 27 = .ok (.iload_n 1, 1) := by decide +kernel
theorem dX3_settleRest_28 : decode cX3_settleRest 28 = .ok (.invokevirtual 145, 3) := by decide +kernel
theorem dX3_settleRest_31 : decode cX3_settleRest 31 = .ok (.istore_n 3, 1) := by decide +kernel
theorem dX3_settleRest_32 : decode cX3_settleRest 32 = .ok (.aload_n 0, 1) := by decide +kernel
theorem dX3_settleRest_33 : decode cX3_settleRest 33 = .ok (.getfield 39, 3) := by decide +kernel
theorem dX3_settleRest_36 : decode cX3_settleRest 36 = .ok (.iload_n 2, 1) := by decide +kernel
theorem dX3_settleRest_37 : decode cX3_settleRest 37 = .ok (.iload_n 3, 1) := by decide +kernel
theorem dX3_settleRest_38 : decode cX3_settleRest 38 = .ok (.aload_n 0, 1) := by decide +kernel
theorem dX3_settleRest_39 : decode cX3_settleRest 39 = .ok (.iload_n 2, 1) := by decide +kernel
theorem dX3_settleRest_40 : decode cX3_settleRest 40 = .ok (.iload_n 1, 1) := by decide +kernel
theorem dX3_settleRest_41 : decode cX3_settleRest 41 = .ok (.invokevirtual 149, 3) := by decide +kernel
theorem dX3_settleRest_44 : decode cX3_settleRest 44 = .ok (.if_icmp .ne 7, 3) := by decide +kernel
theorem dX3_settleRest_47 : decode cX3_settleRest 47 = .ok (.iload_n 3, 1) := by decide +kernel
theorem dX3_settleRest_48 : decode cX3_settleRest 48 = .ok (.goto 4, 3) := by decide +kernel
theorem dX3_settleRest_51 : decode cX3_settleRest 51 = .ok (.iload_n 1, 1) := by decide +kernel
theorem dX3_settleRest_52 : decode cX3_settleRest 52 = .ok (.invokevirtual 121, 3) := by decide +kernel
theorem dX3_settleRest_55 : decode cX3_settleRest 55 = .ok (.iinc 2 1, 3) := by decide +kernel
theorem dX3_settleRest_58 : decode cX3_settleRest 58 = .ok (.goto (-56), 3) := by decide +kernel
theorem dX3_settleRest_61 : decode cX3_settleRest 61 = .ok (.return_, 1) := by decide +kernel
theorem dX3_tellLevels_0 : decode cX3_tellLevels 0 = .ok (.iload_n 1, 1) := by decide +kernel
theorem dX3_tellLevels_1 : decode cX3_tellLevels 1 = .ok (.invokestatic 86, 3) := by decide +kernel
theorem dX3_tellLevels_4 : decode cX3_tellLevels 4 = .ok (.ifCond .ne 7, 3) := by decide +kernel
theorem dX3_tellLevels_7 : decode cX3_tellLevels 7 = .ok (.iconst 1, 1) := by decide +kernel
theorem dX3_tellLevels_8 : decode cX3_tellLevels 8 = .ok (.goto 4, 3) := by decide +kernel
theorem dX3_tellLevels_11 : decode cX3_tellLevels 11 = .ok (.iconst 0, 1) := by decide +kernel
theorem dX3_tellLevels_12 : decode cX3_tellLevels 12 = .ok (.istore_n 2, 1) := by decide +kernel
theorem dX3_tellLevels_13 : decode cX3_tellLevels 13 = .ok (.iconst 0, 1) := by decide +kernel
theorem dX3_tellLevels_14 : decode cX3_tellLevels 14 = .ok (.istore_n 3, 1) := by decide +kernel
theorem dX3_tellLevels_15 : decode cX3_tellLevels 15 = .ok (.iload_n 3, 1) := by decide +kernel
theorem dX3_tellLevels_16 : decode cX3_tellLevels 16 = .ok (.aload_n 0, 1) := by decide +kernel
theorem dX3_tellLevels_17 : decode cX3_tellLevels 17 = .ok (.getfield 39, 3) := by decide +kernel
theorem dX3_tellLevels_20 : decode cX3_tellLevels 20 = .ok (.invokevirtual 54, 3) := by decide +kernel
theorem dX3_tellLevels_23 : decode cX3_tellLevels 23 = .ok (.if_icmp .ge 72, 3) := by decide +kernel
theorem dX3_tellLevels_26 : decode cX3_tellLevels 26 = .ok (.aload_n 0, 1) := by decide +kernel
theorem dX3_tellLevels_27 : decode cX3_tellLevels 27 = .ok (.getfield 39, 3) := by decide +kernel
theorem dX3_tellLevels_30 : decode cX3_tellLevels 30 = .ok (.iload_n 3, 1) := by decide +kernel
theorem dX3_tellLevels_31 : decode cX3_tellLevels 31 = .ok (.invokevirtual 58, 3) := by decide +kernel
theorem dX3_tellLevels_34 : decode cX3_tellLevels 34 = .ok (.istore 4, 2) := by decide +kernel
theorem dX3_tellLevels_36 : decode cX3_tellLevels 36 = .ok (.iload 4, 2) := by decide +kernel
theorem dX3_tellLevels_38 : decode cX3_tellLevels 38 = .ok (.iconst 2, 1) := by decide +kernel
theorem dX3_tellLevels_39 : decode cX3_tellLevels 39 = .ok (.if_icmp .ne 15, 3) := by decide +kernel
theorem dX3_tellLevels_42 : decode cX3_tellLevels 42 = .ok (.iload_n 2, 1) := by decide +kernel
theorem dX3_tellLevels_43 : decode cX3_tellLevels 43 = .ok (.ifCond .eq 7, 3) := by decide +kernel
theorem dX3_tellLevels_46 : decode cX3_tellLevels 46 = .ok (.iconst 2, 1) := by decide +kernel
theorem dX3_tellLevels_47 : decode cX3_tellLevels 47 = .ok (.goto 21, 3) := by decide +kernel
theorem dX3_tellLevels_50 : decode cX3_tellLevels 50 = .ok (.iconst 1, 1) := by decide +kernel
theorem dX3_tellLevels_51 : decode cX3_tellLevels 51 = .ok (.goto 17, 3) := by decide +kernel
theorem dX3_tellLevels_54 : decode cX3_tellLevels 54 = .ok (.iload 4, 2) := by decide +kernel
theorem dX3_tellLevels_56 : decode cX3_tellLevels 56 = .ok (.iload_n 1, 1) := by decide +kernel
theorem dX3_tellLevels_57 : decode cX3_tellLevels 57 = .ok (.invokestatic 86, 3) := by decide +kernel
theorem dX3_tellLevels_60 : decode cX3_tellLevels 60 = .ok (.if_icmp .ne 7, 3) := by decide +kernel
theorem dX3_tellLevels_63 : decode cX3_tellLevels 63 = .ok (.iconst 0, 1) := by decide +kernel
theorem dX3_tellLevels_64 : decode cX3_tellLevels 64 = .ok (.goto 4, 3) := by decide +kernel
theorem dX3_tellLevels_67 : decode cX3_tellLevels 67 = .ok (.iconst 1, 1) := by decide +kernel
theorem dX3_tellLevels_68 : decode cX3_tellLevels 68 = .ok (.istore 5, 2) := by decide +kernel
theorem dX3_tellLevels_70 : decode cX3_tellLevels 70 = .ok (.aload_n 0, 1) := by decide +kernel
theorem dX3_tellLevels_71 : decode cX3_tellLevels 71 = .ok (.getfield 48, 3) := by decide +kernel
theorem dX3_tellLevels_74 : decode cX3_tellLevels 74 = .ok (.aload_n 0, 1) := by decide +kernel
theorem dX3_tellLevels_75 : decode cX3_tellLevels 75 = .ok (.getfield 33, 3) := by decide +kernel
theorem dX3_tellLevels_78 : decode cX3_tellLevels 78 = .ok (.iload_n 3, 1) := by decide +kernel
theorem dX3_tellLevels_79 : decode cX3_tellLevels 79 = .ok (.invokevirtual 58, 3) := by decide +kernel
theorem dX3_tellLevels_82 : decode cX3_tellLevels 82 = .ok (.iload_n 1, 1) := by decide +kernel
theorem dX3_tellLevels_83 : decode cX3_tellLevels 83 = .ok (.iload 5, 2) := by decide +kernel
theorem dX3_tellLevels_85 : decode cX3_tellLevels 85 = .ok (.iadd, 1) := by decide +kernel
theorem dX3_tellLevels_86 : decode cX3_tellLevels 86 = .ok (.invokevirtual 121, 3) := by decide +kernel
theorem dX3_tellLevels_89 : decode cX3_tellLevels 89 = .ok (.iinc 3 1, 3) := by decide +kernel
theorem dX3_tellLevels_92 : decode cX3_tellLevels 92 = .ok (.goto (-77), 3) := by decide +kernel
theorem dX3_tellLevels_95 : decode cX3_tellLevels 95 = .ok (.return_, 1) := by decide +kernel
theorem dX3_screen_0 : decode cX3_screen 0 = .ok (.aload_n 0, 1) := by decide +kernel
theorem dX3_screen_1 : decode cX3_screen 1 = .ok (.getfield 51, 3) := by decide +kernel
theorem dX3_screen_4 : decode cX3_screen 4 = .ok (.iconst 0, 1) := by decide +kernel
theorem dX3_screen_5 : decode cX3_screen 5 = .ok (.invokevirtual 101, 3) := by decide +kernel
theorem dX3_screen_8 : decode cX3_screen 8 = .ok (.iconst 0, 1) := by decide +kernel
theorem dX3_screen_9 : decode cX3_screen 9 = .ok (.istore_n 1, 1) := by decide +kernel
theorem dX3_screen_10 : decode cX3_screen 10 = .ok (.iconst 0, 1) := by decide +kernel
theorem dX3_screen_11 : decode cX3_screen 11 = .ok (.istore_n 2, 1) := by decide +kernel
theorem dX3_screen_12 : decode cX3_screen 12 = .ok (.iload_n 2, 1) := by decide +kernel
theorem dX3_screen_13 : decode cX3_screen 13 = .ok (.aload_n 0, 1) := by decide +kernel
theorem dX3_screen_14 : decode cX3_screen 14 = .ok (.getfield 48, 3) := by decide +kernel
theorem dX3_screen_17 : decode cX3_screen 17 = .ok (.invokevirtual 54, 3) := by decide +kernel
theorem dX3_screen_20 : decode cX3_screen 20 = .ok (.if_icmp .ge 43, 3) := by decide +kernel
theorem dX3_screen_23 : decode cX3_screen 23 = .ok (.aload_n 0, 1) := by decide +kernel
theorem dX3_screen_24 : decode cX3_screen 24 = .ok (.getfield 51, 3) := by decide +kernel
theorem dX3_screen_27 : decode cX3_screen 27 = .ok (.iload_n 2, 1) := by decide +kernel
theorem dX3_screen_28 : decode cX3_screen 28 = .ok (.invokevirtual 111, 3) := by decide +kernel
theorem dX3_screen_31 : decode cX3_screen 31 = .ok (.pop, 1) := by decide +kernel
theorem dX3_screen_32 : decode cX3_screen 32 = .ok (.aload_n 0, 1) := by decide +kernel
theorem dX3_screen_33 : decode cX3_screen 33 = .ok (.getfield 48, 3) := by decide +kernel
theorem dX3_screen_36 : decode cX3_screen 36 = .ok (.iload_n 2, 1) := by decide +kernel
theorem dX3_screen_37 : decode cX3_screen 37 = .ok (.invokevirtual 58, 3) := by decide +kernel
theorem dX3_screen_40 : decode cX3_screen 40 = .ok (.iload_n 1, 1) := by decide +kernel
theorem dX3_screen_41 : decode cX3_screen 41 = .ok (.if_icmp .le 14, 3) := by decide +kernel
theorem dX3_screen_44 : decode cX3_screen 44 = .ok (.aload_n 0, 1) := by decide +kernel
theorem dX3_screen_45 : decode cX3_screen 45 = .ok (.getfield 48, 3) := by decide +kernel
theorem dX3_screen_48 : decode cX3_screen 48 = .ok (.iload_n 2, 1) := by decide +kernel
theorem dX3_screen_49 : decode cX3_screen 49 = .ok (.invokevirtual 58, 3) := by decide +kernel
theorem dX3_screen_52 : decode cX3_screen 52 = .ok (.goto 4, 3) := by decide +kernel
theorem dX3_screen_55 : decode cX3_screen 55 = .ok (.iload_n 1, 1) := by decide +kernel
theorem dX3_screen_56 : decode cX3_screen 56 = .ok (.istore_n 1, 1) := by decide +kernel
theorem dX3_screen_57 : decode cX3_screen 57 = .ok (.iinc 2 1, 3) := by decide +kernel
theorem dX3_screen_60 : decode cX3_screen 60 = .ok (.goto (-48), 3) := by decide +kernel
theorem dX3_screen_63 : decode cX3_screen 63 = .ok (.iload_n 1, 1) := by decide +kernel
theorem dX3_screen_64 : decode cX3_screen 64 = .ok (.istore_n 2, 1) := by decide +kernel
theorem dX3_screen_65 : decode cX3_screen 65 = .ok (.iload_n 2, 1) := by decide +kernel
theorem dX3_screen_66 : decode cX3_screen 66 = .ok (.iconst 1, 1) := by decide +kernel
theorem dX3_screen_67 : decode cX3_screen 67 = .ok (.if_icmp .lt 14, 3) := by decide +kernel
theorem dX3_screen_70 : decode cX3_screen 70 = .ok (.aload_n 0, 1) := by decide +kernel
theorem dX3_screen_71 : decode cX3_screen 71 = .ok (.iload_n 2, 1) := by decide +kernel
theorem dX3_screen_72 : decode cX3_screen 72 = .ok (.invokevirtual 152, 3) := by decide +kernel
theorem dX3_screen_75 : decode cX3_screen 75 = .ok (.iinc 2 (-1), 3) := by decide +kernel
theorem dX3_screen_78 : decode cX3_screen 78 = .ok (.goto (-13), 3) := by decide +kernel
theorem dX3_screen_81 : decode cX3_screen 81 = .ok (.aload_n 0, 1) := by decide +kernel
theorem dX3_screen_82 : decode cX3_screen 82 = .ok (.getfield 51, 3) := by decide +kernel
theorem dX3_screen_85 : decode cX3_screen 85 = .ok (.areturn, 1) := by decide +kernel
theorem dX3_turnRows_0 : decode cX3_turnRows 0 = .ok (.iconst (-1), 1) := by decide +kernel
theorem dX3_turnRows_1 : decode cX3_turnRows 1 = .ok (.istore_n 2, 1) := by decide +kernel
theorem dX3_turnRows_2 : decode cX3_turnRows 2 = .ok (.iconst 0, 1) := by decide +kernel
theorem dX3_turnRows_3 : decode cX3_turnRows 3 = .ok (.istore_n 3, 1) := by decide +kernel
theorem dX3_turnRows_4 : decode cX3_turnRows 4 = .ok (.iload_n 3, 1) := by decide +kernel
theorem dX3_turnRows_5 : decode cX3_turnRows 5 = .ok (.aload_n 0, 1) := by decide +kernel
theorem dX3_turnRows_6 : decode cX3_turnRows 6 = .ok (.getfield 51, 3) := by decide +kernel
theorem dX3_turnRows_9 : decode cX3_turnRows 9 = .ok (.invokevirtual 54, 3) := by decide +kernel
theorem dX3_turnRows_12 : decode cX3_turnRows 12 = .ok (.if_icmp .gt 84, 3) := by decide +kernel
theorem dX3_turnRows_15 : decode cX3_turnRows 15 = .ok (.iload_n 3, 1) := by decide +kernel
theorem dX3_turnRows_16 : decode cX3_turnRows 16 = .ok (.aload_n 0, 1) := by decide +kernel
theorem dX3_turnRows_17 : decode cX3_turnRows 17 = .ok (.getfield 51, 3) := by decide +kernel
theorem dX3_turnRows_20 : decode cX3_turnRows 20 = .ok (.invokevirtual 54, 3) := by decide +kernel
theorem dX3_turnRows_23 : decode cX3_turnRows 23 = .ok (.if_icmp .ge 26, 3) := by decide +kernel
theorem dX3_turnRows_26 : decode cX3_turnRows 26 = .ok (.aload_n 0, 1) := by decide +kernel
theorem dX3_turnRows_27 : decode cX3_turnRows 27 = .ok (.getfield 48, 3) := by decide +kernel
theorem dX3_turnRows_30 : decode cX3_turnRows 30 = .ok (.aload_n 0, 1) := by decide +kernel
theorem dX3_turnRows_31 : decode cX3_turnRows 31 = .ok (.getfield 51, 3) := by decide +kernel
theorem dX3_turnRows_34 : decode cX3_turnRows 34 = .ok (.iload_n 3, 1) := by decide +kernel
theorem dX3_turnRows_35 : decode cX3_turnRows 35 = .ok (.invokevirtual 58, 3) := by decide +kernel
theorem dX3_turnRows_38 : decode cX3_turnRows 38 = .ok (.invokevirtual 58, 3) := by decide +kernel
theorem dX3_turnRows_41 : decode cX3_turnRows 41 = .ok (.iload_n 1, 1) := by decide +kernel
theorem dX3_turnRows_42 : decode cX3_turnRows 42 = .ok (.if_icmp .lt 7, 3) := by decide +kernel
theorem dX3_turnRows_45 : decode cX3_turnRows 45 = .ok (.iconst 1, 1) := by decide +kernel
theorem dX3_turnRows_46 : decode cX3_turnRows 46 = .ok (.goto 4, 3) := by decide +kernel
theorem dX3_turnRows_49 : decode cX3_turnRows 49 = .ok (.iconst 0, 1) := by decide +kernel
theorem dX3_turnRows_50 : decode cX3_turnRows 50 = .ok (.istore 4, 2) := by decide +kernel
theorem dX3_turnRows_52 : decode cX3_turnRows 52 = .ok (.iload 4, 2) := by decide +kernel
theorem dX3_turnRows_54 : decode cX3_turnRows 54 = .ok (.ifCond .eq 13, 3) := by decide +kernel
theorem dX3_turnRows_57 : decode cX3_turnRows 57 = .ok (.iload_n 2, 1) := by decide +kernel
theorem dX3_turnRows_58 : decode cX3_turnRows 58 = .ok (.iconst (-1), 1) := by decide +kernel
theorem dX3_turnRows_59 : decode cX3_turnRows 59 = .ok (.if_icmp .ne 8, 3) := by decide +kernel
theorem dX3_turnRows_62 : decode cX3_turnRows 62 = .ok (.iload_n 3, 1) := by decide +kernel
theorem dX3_turnRows_63 : decode cX3_turnRows 63 = .ok (.istore_n 2, 1) := by decide +kernel
theorem dX3_turnRows_64 : decode cX3_turnRows 64 = .ok (.goto 26, 3) := by decide +kernel
theorem dX3_turnRows_67 : decode cX3_turnRows 67 = .ok (.iload 4, 2) := by decide +kernel
theorem dX3_turnRows_69 : decode cX3_turnRows 69 = .ok (.ifCond .ne 21, 3) := by decide +kernel
theorem dX3_turnRows_72 : decode cX3_turnRows 72 = .ok (.iload_n 2, 1) := by decide +kernel
theorem dX3_turnRows_73 : decode cX3_turnRows 73 = .ok (.iconst (-1), 1) := by decide +kernel
theorem dX3_turnRows_74 : decode cX3_turnRows 74 = .ok (.if_icmp .eq 16, 3) := by decide +kernel
theorem dX3_turnRows_77 : decode cX3_turnRows 77 = .ok (.aload_n 0, 1) := by decide +kernel
theorem dX3_turnRows_78 : decode cX3_turnRows 78 = .ok (.getfield 51, 3) := by decide +kernel
theorem dX3_turnRows_81 : decode cX3_turnRows 81 = .ok (.iload_n 2, 1) := by decide +kernel
theorem dX3_turnRows_82 : decode cX3_turnRows 82 = .ok (.iload_n 3, 1) := by decide +kernel
theorem dX3_turnRows_83 : decode cX3_turnRows 83 = .ok (.iconst 1, 1) := by decide +kernel
theorem dX3_turnRows_84 : decode cX3_turnRows 84 = .ok (.isub, 1) := by decide +kernel
theorem dX3_turnRows_85 : decode cX3_turnRows 85 = .ok (.invokevirtual 155, 3) := by decide +kernel
theorem dX3_turnRows_88 : decode cX3_turnRows 88 = .ok (.iconst (-1), 1) := by decide +kernel
theorem dX3_turnRows_89 : decode cX3_turnRows 89 = .ok (.istore_n 2, 1) := by decide +kernel
theorem dX3_turnRows_90 : decode cX3_turnRows 90 = .ok (.iinc 3 1, 3) := by decide +kernel
theorem dX3_turnRows_93 : decode cX3_turnRows 93 = .ok (.goto (-89), 3) := by decide +kernel
theorem dX3_turnRows_96 : decode cX3_turnRows 96 = .ok (.return_, 1) := by decide +kernel
theorem dX4_init_0 : decode cX4_init 0 = .ok (.aload_n 0, 1) := by decide +kernel
theorem dX4_init_1 : decode cX4_init 1 = .ok (.invokespecial 3, 3) := by decide +kernel
theorem dX4_init_4 : decode cX4_init 4 = .ok (.aload_n 0, 1) := by decide +kernel
theorem dX4_init_5 : decode cX4_init 5 = .ok (.aload_n 1, 1) := by decide +kernel
theorem dX4_init_6 : decode cX4_init 6 = .ok (.putfield 9, 3) := by decide +kernel
theorem dX4_init_9 : decode cX4_init 9 = .ok (.aload_n 0, 1) := by decide +kernel
theorem dX4_init_10 : decode cX4_init 10 = .ok (.new 15, 3) := by decide +kernel
theorem dX4_init_13 : decode cX4_init 13 = .ok (.dup, 1) := by decide +kernel
theorem dX4_init_14 : decode cX4_init 14 = .ok (.iconst 4, 1) := by decide +kernel
theorem dX4_init_15 : decode cX4_init 15 = .ok (.invokespecial 17, 3) := by decide +kernel
theorem dX4_init_18 : decode cX4_init 18 = .ok (.putfield 20, 3) := by decide +kernel
theorem dX4_init_21 : decode cX4_init 21 = .ok (.aload_n 0, 1) := by decide +kernel
theorem dX4_init_22 : decode cX4_init 22 = .ok (.new 15, 3) := by decide +kernel
theorem dX4_init_25 : decode cX4_init 25 = .ok (.dup, 1) := by decide +kernel
theorem dX4_init_26 : decode cX4_init 26 = .ok (.iconst 4, 1) := by decide +kernel
theorem dX4_init_27 : decode cX4_init 27 = .ok (.invokespecial 17, 3) := by decide +kernel
theorem dX4_init_30 : decode cX4_init 30 = .ok (.putfield 23, 3) := by decide +kernel
theorem dX4_init_33 : decode cX4_init 33 = .ok (.aload_n 0, 1) := by decide +kernel
theorem dX4_init_34 : decode cX4_init 34 = .ok (.new 15, 3) := by decide +kernel
theorem dX4_init_37 : decode cX4_init 37 = .ok (.dup, 1) := by decide +kernel
theorem dX4_init_38 : decode cX4_init 38 = .ok (.sipush 200, 3) := by decide +kernel
theorem dX4_init_41 : decode cX4_init 41 = .ok (.invokespecial 17, 3) := by decide +kernel
theorem dX4_init_44 : decode cX4_init 44 = .ok (.putfield 26, 3) := by decide +kernel
theorem dX4_init_47 : decode cX4_init 47 = .ok (.return_, 1) := by decide +kernel
theorem dX4_begin_0 : decode cX4_begin 0 = .ok (.aload_n 0, 1) := by decide +kernel
theorem dX4_begin_1 : decode cX4_begin 1 = .ok (.getfield 20, 3) := by decide +kernel
theorem dX4_begin_4 : decode cX4_begin 4 = .ok (.iconst 0, 1) := by decide +kernel
theorem dX4_begin_5 : decode cX4_begin 5 = .ok (.invokevirtual 29, 3) := by decide +kernel
theorem dX4_begin_8 : decode cX4_begin 8 = .ok (.aload_n 0, 1) := by decide +kernel
theorem dX4_begin_9 : decode cX4_begin 9 = .ok (.getfield 23, 3) := by decide +kernel
theorem dX4_begin_12 : decode cX4_begin 12 = .ok (.iconst 0, 1) := by decide +kernel
theorem dX4_begin_13 : decode cX4_begin 13 = .ok (.invokevirtual 29, 3) := by decide +kernel
theorem dX4_begin_16 : decode cX4_begin 16 = .ok (.aload_n 0, 1) := by decide +kernel
theorem dX4_begin_17 : decode cX4_begin 17 = .ok (.getfield 26, 3) := by decide +kernel
theorem dX4_begin_20 : decode cX4_begin 20 = .ok (.iconst 0, 1) := by decide +kernel
theorem dX4_begin_21 : decode cX4_begin 21 = .ok (.invokevirtual 29, 3) := by decide +kernel
theorem dX4_begin_24 : decode cX4_begin 24 = .ok (.return_, 1) := by decide +kernel
theorem dX4_tellNumber_0 : decode cX4_tellNumber 0 = .ok (.aload_n 0, 1) := by decide +kernel
theorem dX4_tellNumber_1 : decode cX4_tellNumber 1 = .ok (.getfield 20, 3) := by decide +kernel
theorem dX4_tellNumber_4 : decode cX4_tellNumber 4 = .ok (.iload_n 1, 1) := by decide +kernel
theorem dX4_tellNumber_5 : decode cX4_tellNumber 5 = .ok (.invokevirtual 32, 3) := by decide +kernel
theorem dX4_tellNumber_8 : decode cX4_tellNumber 8 = .ok (.pop, 1) := by decide +kernel
theorem dX4_tellNumber_9 : decode cX4_tellNumber 9 = .ok (.aload_n 0, 1) := by decide +kernel
theorem dX4_tellNumber_10 : decode cX4_tellNumber 10 = .ok (.getfield 23, 3) := by decide +kernel
theorem dX4_tellNumber_13 : decode cX4_tellNumber 13 = .ok (.iload_n 2, 1) := by decide +kernel
theorem dX4_tellNumber_14 : decode cX4_tellNumber 14 = .ok (.invokevirtual 32, 3) := by decide +kernel
theorem dX4_tellNumber_17 : decode cX4_tellNumber 17 = .ok (.pop, 1) := by decide +kernel
theorem dX4_tellNumber_18 : decode cX4_tellNumber 18 = .ok (.return_, 1) := by decide +kernel
theorem dX4_result_0 : decode cX4_result 0 = .ok (.aload_n 0, 1) := by decide +kernel
theorem dX4_result_1 : decode cX4_result 1 = .ok (.getfield 26, 3) := by decide +kernel
theorem dX4_result_4 : decode cX4_result 4 = .ok (.areturn, 1) := by decide +kernel
theorem dX4_readAll_0 : decode cX4_readAll 0 = .ok (.aload_n 0, 1) := by decide +kernel
theorem dX4_readAll_1 : decode cX4_readAll 1 = .ok (.iconst 0, 1) := by decide +kernel
theorem dX4_readAll_2 : decode cX4_readAll 2 = .ok (.iconst 1, 1) := by decide +kernel
theorem dX4_readAll_3 : decode cX4_readAll 3 = .ok (.iconst 0, 1) := by decide +kernel
theorem dX4_readAll_4 : decode cX4_readAll 4 = .ok (.invokevirtual 36, 3) := by decide +kernel
theorem dX4_readAll_7 : decode cX4_readAll 7 = .ok (.aload_n 0, 1) := by decide +kernel
theorem dX4_readAll_8 : decode cX4_readAll 8 = .ok (.getfield 9, 3) := by decide +kernel
theorem dX4_readAll_11 : decode cX4_readAll 11 = .ok (.invokevirtual 40, 3) := by decide +kernel
theorem dX4_readAll_14 : decode cX4_readAll 14 = .ok (.if_icmp .ne 7, 3) := by decide +kernel
theorem dX4_readAll_17 : decode cX4_readAll 17 = .ok (.iconst 1, 1) := by decide +kernel
theorem dX4_readAll_18 : decode cX4_readAll 18 = .ok (.goto 4, 3) := by decide +kernel
theorem dX4_readAll_21 : decode cX4_readAll 21 = .ok (.iconst 0, 1) := by decide +kernel
theorem dX4_readAll_22 : decode cX4_readAll 22 = .ok (.ireturn, 1) := by decide +kernel
theorem dX4_readPieces_0 : decode cX4_readPieces 0 = .ok (.iload_n 1, 1) := by decide +kernel
theorem dX4_readPieces_1 : decode cX4_readPieces 1 = .ok (.istore 4, 2) := by decide +kernel
theorem dX4_readPieces_3 : decode cX4_readPieces 3 = .ok (.iconst 0, 1) := by decide +kernel
theorem dX4_readPieces_4 : decode cX4_readPieces 4 = .ok (.istore 5, 2) := by decide +kernel
theorem dX4_readPieces_6 : decode cX4_readPieces 6 = .ok (.iload 5, 2) := by decide +kernel
theorem dX4_readPieces_8 : decode cX4_readPieces 8 = .ok (.sipush 160, 3) := by decide +kernel
theorem dX4_readPieces_11 : decode cX4_readPieces 11 = .ok (.if_icmp .gt 97, 3) := by decide +kernel
theorem dX4_readPieces_14 : decode cX4_readPieces 14 = .ok (.aload_n 0, 1) := by decide +kernel
theorem dX4_readPieces_15 : decode cX4_readPieces 15 = .ok (.getfield 9, 3) := by decide +kernel
theorem dX4_readPieces_18 : decode cX4_readPieces 18 = .ok (.iload 4, 2) := by decide +kernel
theorem dX4_readPieces_20 : decode cX4_readPieces 20 = .ok (.invokevirtual 44, 3) := by decide +kernel
theorem dX4_readPieces_23 : decode cX4_readPieces 23 = .ok (.istore 6, 2) := by decide +kernel
theorem dX4_readPieces_25 : decode cX4_readPieces 25 = .ok (.iload 6, 2) := by decide +kernel
theorem dX4_readPieces_27 : decode cX4_readPieces 27 = .ok (.iconst (-1), 1) := by decide +kernel
theorem dX4_readPieces_28 : decode cX4_readPieces 28 = .ok (.if_icmp .eq 17, 3) := by decide +kernel
theorem dX4_readPieces_31 : decode cX4_readPieces 31 = .ok (.iload 6, 2) := by decide +kernel
theorem dX4_readPieces_33 : decode cX4_readPieces 33 = .ok (.bipush 124, 2) := by decide +kernel
theorem dX4_readPieces_35 : decode cX4_readPieces 35 = .ok (.if_icmp .eq 10, 3) := by decide +kernel
theorem dX4_readPieces_38 : decode cX4_readPieces 38 = .ok (.iload 6, 2) := by decide +kernel
theorem dX4_readPieces_40 : decode cX4_readPieces 40 = .ok (.bipush 125, 2) := by decide +kernel
theorem dX4_readPieces_42 : decode cX4_readPieces 42 = .ok (.if_icmp .ne 6, 3) := by decide +kernel
theorem dX4_readPieces_45 : decode cX4_readPieces 45 = .ok (.iload 4, 2) := by decide +kernel
theorem dX4_readPieces_47 : decode cX4_readPieces 47 = .ok (.ireturn, 1) := by decide +kernel
theorem dX4_readPieces_48 : decode cX4_readPieces 48 = .ok (.iload 6, 2) := by decide +kernel
theorem dX4_readPieces_50 : decode cX4_readPieces 50 = .ok (.bipush 123, 2) := by decide +kernel
theorem dX4_readPieces_52 : decode cX4_readPieces 52 = .ok (.if_icmp .ne 23, 3) := by decide +kernel
theorem dX4_readPieces_55 : decode cX4_readPieces 55 = .ok (.aload_n 0, 1) := by decide +kernel
theorem dX4_readPieces_56 : decode cX4_readPieces 56 = .ok (.iload 4, 2) := by decide +kernel
theorem dX4_readPieces_58 : decode cX4_readPieces 58 = .ok (.iconst 1, 1) := by decide +kernel
theorem dX4_readPieces_59 : decode cX4_readPieces 59 = .ok (.iadd, 1) := by decide +kernel
theorem dX4_readPieces_60 : decode cX4_readPieces 60 = .ok (.iload_n 2, 1) := by decide +kernel
theorem dX4_readPieces_61 : decode cX4_readPieces 61 = .ok (.iload_n 3, 1) := by decide +kernel
theorem dX4_readPieces_62 : decode cX4_readPieces 62 = .ok (.invokevirtual 48, 3) := by decide +kernel
theorem dX4_readPieces_65 : decode cX4_readPieces 65 = .ok (.istore 4, 2) := by decide +kernel
theorem dX4_readPieces_67 : decode cX4_readPieces 67 = .ok (.iload 4, 2) := by decide +kernel
theorem dX4_readPieces_69 : decode cX4_readPieces 69 = .ok (.iconst (-1), 1) := by decide +kernel
theorem dX4_readPieces_70 : decode cX4_readPieces 70 = .ok (.if_icmp .ne 32, 3) := by decide +kernel
theorem dX4_readPieces_73 : decode cX4_readPieces 73 = .ok (.iconst (-1), 1) := by decide +kernel
theorem dX4_readPieces_74 : decode cX4_readPieces 74 = .ok (.ireturn, 1) := by decide +kernel
theorem dX4_readPieces_75 : decode cX4_readPieces 75 = .ok (.iload 6, 2) := by decide +kernel
theorem dX4_readPieces_77 : decode cX4_readPieces 77 = .ok (.bipush 32, 2) := by decide +kernel
theorem dX4_readPieces_79 : decode cX4_readPieces 79 = .ok (.bipush 126, 2) := by decide +kernel
theorem dX4_readPieces_81 : decode cX4_readPieces 81 = .ok (.invokestatic 51, 3) := by decide +kernel
theorem dX4_readPieces_84 : decode cX4_readPieces 84 = .ok (.ifCond .eq 16, 3) := by decide +kernel
theorem dX4_readPieces_87 : decode cX4_readPieces 87 = .ok (.aload_n 0, 1) := by decide +kernel
theorem dX4_readPieces_88 : decode cX4_readPieces 88 = .ok (.iload 6, 2) := by decide +kernel
theorem dX4_readPieces_90 : decode cX4_readPieces 90 = .ok (.iload_n 2, 1) := by decide +kernel
theorem dX4_readPieces_91 : decode cX4_readPieces 91 = .ok (.invokevirtual 55, 3) := by decide +kernel
theorem dX4_readPieces_94 : decode cX4_readPieces 94 = .ok (.iinc 4 1, 3) := by decide +kernel
theorem dX4_readPieces_97 : decode cX4_readPieces 97 = .ok (.goto 5, 3) := by decide +kernel
theorem dX4_readPieces_100 : decode cX4_readPieces 100 = .ok (.iconst (-1), 1) := by decide +kernel
theorem dX4_readPieces_101 : decode cX4_readPieces 101 = .ok (.ireturn, 1) := by decide +kernel
theorem dX4_readPieces_102 : decode cX4_readPieces 102 = .ok (.iinc 5 1, 3) := by decide +kernel
theorem dX4_readPieces_105 : decode cX4_readPieces 105 = .ok (.goto (-99), 3) := by decide +kernel
theorem dX4_readPieces_108 : decode cX4_readPieces 108 = .ok (.iconst (-1), 1) := by decide +kernel
theorem dX4_readPieces_109 : decode cX4_readPieces 109 = .ok (.ireturn, 1) := by decide +kernel
theorem dX4_readBraces_0 : decode cX4_readBraces 0 = .ok (.aload_n 0, 1) := by decide +kernel
theorem dX4_readBraces_1 : decode cX4_readBraces 1 = .ok (.iload_n 1, 1) := by decide +kernel
theorem dX4_readBraces_2 : decode cX4_readBraces 2 = .ok (.invokevirtual 59, 3) := by decide +kernel
theorem dX4_readBraces_5 : decode cX4_readBraces 5 = .ok (.istore 4, 2) := by decide +kernel
theorem dX4_readBraces_7 : decode cX4_readBraces 7 = .ok (.aload_n 0, 1) := by decide +kernel
theorem dX4_readBraces_8 : decode cX4_readBraces 8 = .ok (.getfield 9, 3) := by decide +kernel
theorem dX4_readBraces_11 : decode cX4_readBraces 11 = .ok (.iload_n 1, 1) := by decide +kernel
theorem dX4_readBraces_12 : decode cX4_readBraces 12 = .ok (.iconst 1, 1) := by decide +kernel
theorem dX4_readBraces_13 : decode cX4_readBraces 13 = .ok (.iadd, 1) := by decide +kernel
theorem dX4_readBraces_14 : decode cX4_readBraces 14 = .ok (.invokevirtual 44, 3) := by decide +kernel
theorem dX4_readBraces_17 : decode cX4_readBraces 17 = .ok (.istore 5, 2) := by decide +kernel
theorem dX4_readBraces_19 : decode cX4_readBraces 19 = .ok (.iload 4, 2) := by decide +kernel
theorem dX4_readBraces_21 : decode cX4_readBraces 21 = .ok (.iconst (-1), 1) := by decide +kernel
theorem dX4_readBraces_22 : decode cX4_readBraces 22 = .ok (.if_icmp .ne 5, 3) := by decide +kernel
theorem dX4_readBraces_25 : decode cX4_readBraces 25 = .ok (.iconst (-1), 1) := by decide +kernel
theorem dX4_readBraces_26 : decode cX4_readBraces 26 = .ok (.ireturn, 1) := by decide +kernel
theorem dX4_readBraces_27 : decode cX4_readBraces 27 = .ok (.iload 5, 2) := by decide +kernel
theorem dX4_readBraces_29 : decode cX4_readBraces 29 = .ok (.bipush 125, 2) := by decide +kernel
theorem dX4_readBraces_31 : decode cX4_readBraces 31 = .ok (.if_icmp .ne 21, 3) := by decide +kernel
theorem dX4_readBraces_34 : decode cX4_readBraces 34 = .ok (.aload_n 0, 1) := by decide +kernel
theorem dX4_readBraces_35 : decode cX4_readBraces 35 = .ok (.aload_n 0, 1) := by decide +kernel
theorem dX4_readBraces_36 : decode cX4_readBraces 36 = .ok (.getfield 20, 3) := by decide +kernel
theorem dX4_readBraces_39 : decode cX4_readBraces 39 = .ok (.iload 4, 2) := by decide +kernel
theorem dX4_readBraces_41 : decode cX4_readBraces 41 = .ok (.invokevirtual 44, 3) := by decide +kernel
theorem dX4_readBraces_44 : decode cX4_readBraces 44 = .ok (.iload_n 2, 1) := by decide +kernel
theorem dX4_readBraces_45 : decode cX4_readBraces 45 = .ok (.invokevirtual 62, 3) := by decide +kernel
theorem dX4_readBraces_48 : decode cX4_readBraces 48 = .ok (.iload_n 1, 1) := by decide +kernel
theorem dX4_readBraces_49 : decode cX4_readBraces 49 = .ok (.iconst 2, 1) := by decide +kernel
theorem dX4_readBraces_50 : decode cX4_readBraces 50 = .ok (.iadd, 1) := by decide +kernel
theorem dX4_readBraces_51 : decode cX4_readBraces 51 = .ok (.ireturn, 1) := by decide +kernel
theorem dX4_readBraces_52 : decode cX4_readBraces 52 = .ok (.iload 5, 2) := by decide +kernel
theorem dX4_readBraces_54 : decode cX4_readBraces 54 = .ok (.bipush 58, 2) := by decide +kernel
theorem dX4_readBraces_56 : decode cX4_readBraces 56 = .ok (.if_icmp .ne 9, 3) := by decide +kernel
theorem dX4_readBraces_59 : decode cX4_readBraces 59 = .ok (.iload_n 3, 1) := by decide +kernel
theorem dX4_readBraces_60 : decode cX4_readBraces 60 = .ok (.bipush 6, 2) := by decide +kernel
theorem dX4_readBraces_62 : decode cX4_readBraces 62 = .ok (.if_icmp .lt 5, 3) := by decide +kernel
theorem dX4_readBraces_65 : decode cX4_readBraces 65 = .ok (.iconst (-1), 1) := by decide +kernel
theorem dX4_readBraces_66 : decode cX4_readBraces 66 = .ok (.ireturn, 1) := by decide +kernel
theorem dX4_readBraces_67 : decode cX4_readBraces 67 = .ok (.aload_n 0, 1) := by decide +kernel
theorem dX4_readBraces_68 : decode cX4_readBraces 68 = .ok (.iload_n 1, 1) := by decide +kernel
theorem dX4_readBraces_69 : decode cX4_readBraces 69 = .ok (.iconst 2, 1) := by decide +kernel
theorem dX4_readBraces_70 : decode cX4_readBraces 70 = .ok (.iadd, 1) := by decide +kernel
theorem dX4_readBraces_71 : decode cX4_readBraces 71 = .ok (.iload 4, 2) := by decide +kernel
theorem dX4_readBraces_73 : decode cX4_readBraces 73 = .ok (.iload_n 2, 1) := by decide +kernel
theorem dX4_readBraces_74 : decode cX4_readBraces 74 = .ok (.iload_n 3, 1) := by decide +kernel
theorem dX4_readBraces_75 : decode cX4_readBraces 75 = .ok (.iconst 1, 1) := by decide +kernel
theorem dX4_readBraces_76 : decode cX4_readBraces 76 = .ok (.iadd, 1) := by decide +kernel
theorem dX4_readBraces_77 : decode cX4_readBraces 77 = .ok (.invokevirtual 65, 3) := by decide +kernel
theorem dX4_readBraces_80 : decode cX4_readBraces 80 = .ok (.ireturn, 1) := by decide +kernel
theorem dX4_readCases_0 : decode cX4_readCases 0 = .ok (.iload_n 1, 1) := by decide +kernel
theorem dX4_readCases_1 : decode cX4_readCases 1 = .ok (.istore 5, 2) := by decide +kernel
theorem dX4_readCases_3 : decode cX4_readCases 3 = .ok (.iload_n 3, 1) := by decide +kernel
theorem dX4_readCases_4 : decode cX4_readCases 4 = .ok (.istore 6, 2) := by decide +kernel
theorem dX4_readCases_6 : decode cX4_readCases 6 = .ok (.iconst 0, 1) := by decide +kernel
theorem dX4_readCases_7 : decode cX4_readCases 7 = .ok (.istore 7, 2) := by decide +kernel
theorem dX4_readCases_9 : decode cX4_readCases 9 = .ok (.iload 7, 2) := by decide +kernel
theorem dX4_readCases_11 : decode cX4_readCases 11 = .ok (.sipush 160, 3) := by decide +kernel
theorem dX4_readCases_14 : decode cX4_readCases 14 = .ok (.if_icmp .gt 135, 3) := by decide +kernel
theorem dX4_readCases_17 : decode cX4_readCases 17 = .ok (.aload_n 0, 1) := by decide +kernel
theorem dX4_readCases_18 : decode cX4_readCases 18 = .ok (.iload 5, 2) := by decide +kernel
theorem dX4_readCases_20 : decode cX4_readCases 20 = .ok (.invokevirtual 69, 3) := by decide +kernel
theorem dX4_readCases_23 : decode cX4_readCases 23 = .ok (.istore 8, 2) := by decide +kernel
theorem dX4_readCases_25 : decode cX4_readCases 25 = .ok (.iload 8, 2) := by decide +kernel
theorem dX4_readCases_27 : decode cX4_readCases 27 = .ok (.iconst (-1), 1) := by decide +kernel
theorem dX4_readCases_28 : decode cX4_readCases 28 = .ok (.if_icmp .eq 17, 3) := by decide +kernel
theorem dX4_readCases_31 : decode cX4_readCases 31 = .ok (.aload_n 0, 1) := by decide +kernel
theorem dX4_readCases_32 : decode cX4_readCases 32 = .ok (.getfield 9, 3) := by decide +kernel
theorem dX4_readCases_35 : decode cX4_readCases 35 = .ok (.iload 8, 2) := by decide +kernel
theorem dX4_readCases_37 : decode cX4_readCases 37 = .ok (.invokevirtual 44, 3) := by decide +kernel
theorem dX4_readCases_40 : decode cX4_readCases 40 = .ok (.bipush 61, 2) := by decide +kernel
theorem dX4_readCases_42 : decode cX4_readCases 42 = .ok (.if_icmp .eq 5, 3) := by decide +kernel
theorem dX4_readCases_45 : decode cX4_readCases 45 = .ok (.iconst (-1), 1) := by decide +kernel
theorem dX4_readCases_46 : decode cX4_readCases 46 = .ok (.ireturn, 1) := by decide +kernel
theorem dX4_readCases_47 : decode cX4_readCases 47 = .ok (.iload 6, 2) := by decide +kernel
theorem dX4_readCases_49 : decode cX4_readCases 49 = .ok (.ifCond .eq 17, 3) := by decide +kernel
theorem dX4_readCases_52 : decode cX4_readCases 52 = .ok (.aload_n 0, 1) := by decide +kernel
theorem dX4_readCases_53 : decode cX4_readCases 53 = .ok (.iload 5, 2) := by decide +kernel
theorem dX4_readCases_55 : decode cX4_readCases 55 = .ok (.iload_n 2, 1) := by decide +kernel
theorem dX4_readCases_56 : decode cX4_readCases 56 = .ok (.invokevirtual 72, 3) := by decide +kernel
theorem dX4_readCases_59 : decode cX4_readCases 59 = .ok (.ifCond .eq 7, 3) := by decide +kernel
theorem dX4_readCases_62 : decode cX4_readCases 62 = .ok (.iconst 1, 1) := by decide +kernel
theorem dX4_readCases_63 : decode cX4_readCases 63 = .ok (.goto 4, 3) := by decide +kernel
theorem dX4_readCases_66 : decode cX4_readCases 66 = .ok (.iconst 0, 1) := by decide +kernel
theorem dX4_readCases_67 : decode cX4_readCases 67 = .ok (.istore 9, 2) := by decide +kernel
theorem dX4_readCases_69 : decode cX4_readCases 69 = .ok (.aload_n 0, 1) := by decide +kernel
theorem dX4_readCases_70 : decode cX4_readCases 70 = .ok (.iload 8, 2) := by decide +kernel
theorem dX4_readCases_72 : decode cX4_readCases 72 = .ok (.iconst 1, 1) := by decide +kernel
theorem dX4_readCases_73 : decode cX4_readCases 73 = .ok (.iadd, 1) := by decide +kernel
theorem dX4_readCases_74 : decode cX4_readCases 74 = .ok (.iload 9, 2) := by decide +kernel
theorem dX4_readCases_76 : decode cX4_readCases 76 = .ok (.iload 4, 2) := by decide +kernel
theorem dX4_readCases_78 : decode cX4_readCases 78 = .ok (.invokevirtual 36, 3) := by decide +kernel
theorem dX4_readCases_81 : decode cX4_readCases 81 = .ok (.istore 5, 2) := by decide +kernel
theorem dX4_readCases_83 : decode cX4_readCases 83 = .ok (.iload 5, 2) := by decide +kernel
theorem dX4_readCases_85 : decode cX4_readCases 85 = .ok (.iconst (-1), 1) := by decide +kernel
theorem dX4_readCases_86 : decode cX4_readCases 86 = .ok (.if_icmp .ne 5, 3) := by decide +kernel
theorem dX4_readCases_89 : decode cX4_readCases 89 = .ok (.iconst (-1), 1) := by decide +kernel
theorem dX4_readCases_90 : decode cX4_readCases 90 = .ok (.ireturn, 1) := by decide +kernel
theorem dX4_readCases_91 : decode cX4_readCases 91 = .ok (.iload 6, 2) := by decide +kernel
theorem dX4_readCases_93 : decode cX4_readCases 93 = .ok (.ifCond .eq 12, 3) := by decide +kernel
theorem dX4_readCases_96 : decode cX4_readCases 96 = .ok (.iload 9, 2) := by decide +kernel
theorem dX4_readCases_98 : decode cX4_readCases 98 = .ok (.ifCond .ne 7, 3) := by decide +kernel
theorem dX4_readCases_101 : decode cX4_readCases 101 = .ok (.iconst 1, 1) := by decide +kernel
theorem dX4_readCases_102 : decode cX4_readCases 102 = .ok (.goto 4, 3) := by decide +kernel
theorem dX4_readCases_105 : decode cX4_readCases 105 = .ok (.iconst 0, 1) := by decide +kernel
theorem dX4_readCases_106 : decode cX4_readCases 106 = .ok (.istore 6, 2) := by decide +kernel
theorem dX4_readCases_108 : decode cX4_readCases 108 = .ok (.aload_n 0, 1) := by decide +kernel
theorem dX4_readCases_109 : decode cX4_readCases 109 = .ok (.getfield 9, 3) := by decide +kernel
theorem dX4_readCases_112 : decode cX4_readCases 112 = .ok (.iload 5, 2) := by decide +kernel
theorem dX4_readCases_114 : decode cX4_readCases 114 = .ok (.invokevirtual 44, 3) := by decide +kernel
theorem dX4_readCases_117 : decode cX4_readCases 117 = .ok (.istore 10, 2) := by decide +kernel
theorem dX4_readCases_119 : decode cX4_readCases 119 = .ok (.iinc 5 1, 3) := by decide +kernel
theorem dX4_readCases_122 : decode cX4_readCases 122 = .ok (.iload 10, 2) := by decide +kernel
theorem dX4_readCases_124 : decode cX4_readCases 124 = .ok (.bipush 124, 2) := by decide +kernel
theorem dX4_readCases_126 : decode cX4_readCases 126 = .ok (.if_icmp .eq 17, 3) := by decide +kernel
theorem dX4_readCases_129 : decode cX4_readCases 129 = .ok (.iload 10, 2) := by decide +kernel
theorem dX4_readCases_131 : decode cX4_readCases 131 = .ok (.bipush 125, 2) := by decide +kernel
theorem dX4_readCases_133 : decode cX4_readCases 133 = .ok (.if_icmp .ne 8, 3) := by decide +kernel
theorem dX4_readCases_136 : decode cX4_readCases 136 = .ok (.iload 5, 2) := by decide +kernel
theorem dX4_readCases_138 : decode cX4_readCases 138 = .ok (.goto 4, 3) := by decide +kernel
theorem dX4_readCases_141 : decode cX4_readCases 141 = .ok (.iconst (-1), 1) := by decide +kernel
theorem dX4_readCases_142 : decode cX4_readCases 142 = .ok (.ireturn, 1) := by decide +kernel
theorem dX4_readCases_143 : decode cX4_readCases 143 = .ok (.iinc 7 1, 3) := by decide +kernel
theorem dX4_readCases_146 : decode cX4_readCases 146 = .ok (.goto (-137), 3) := by decide +kernel
theorem dX4_readCases_149 : decode cX4_readCases 149 = .ok (.iconst (-1), 1) := by decide +kernel
theorem dX4_readCases_150 : decode cX4_readCases 150 = .ok (.ireturn, 1) := by decide +kernel
theorem dX4_keyEnd_0 : decode cX4_keyEnd 0 = .ok (.aload_n 0, 1) := by decide +kernel
theorem dX4_keyEnd_1 : decode cX4_keyEnd 1 = .ok (.getfield 9, 3) := by decide +kernel
theorem dX4_keyEnd_4 : decode cX4_keyEnd 4 = .ok (.iload_n 1, 1) := by decide +kernel
theorem dX4_keyEnd_5 : decode cX4_keyEnd 5 = .ok (.invokevirtual 44, 3) := by decide +kernel
theorem dX4_keyEnd_8 : decode cX4_keyEnd 8 = .ok (.lookupswitch 75 #[(35, 56), (102, 52), (109, 52), (111, 52), (120, 52)], 52) := by decide +kernel
theorem dX4_keyEnd_60 : decode cX4_keyEnd 60 = .ok (.iload_n 1, 1) := by decide +kernel
theorem dX4_keyEnd_61 : decode cX4_keyEnd 61 = .ok (.iconst 1, 1) := by decide +kernel
theorem dX4_keyEnd_62 : decode cX4_keyEnd 62 = .ok (.iadd, 1) := by decide +kernel
theorem dX4_keyEnd_63 : decode cX4_keyEnd 63 = .ok (.ireturn, 1) := by decide +kernel
theorem dX4_keyEnd_64 : decode cX4_keyEnd 64 = .ok (.aload_n 0, 1) := by decide +kernel
theorem dX4_keyEnd_65 : decode cX4_keyEnd 65 = .ok (.iload_n 1, 1) := by decide +kernel
theorem dX4_keyEnd_66 : decode cX4_keyEnd 66 = .ok (.iconst 1, 1) := by decide +kernel
theorem dX4_keyEnd_67 : decode cX4_keyEnd 67 = .ok (.iadd, 1) := by decide +kernel
theorem dX4_keyEnd_68 : decode cX4_keyEnd 68 = .ok (.invokevirtual 59, 3) := by decide +kernel
theorem dX4_keyEnd_71 : decode cX4_keyEnd 71 = .ok (.iconst (-1), 1) := by decide +kernel
theorem dX4_keyEnd_72 : decode cX4_keyEnd 72 = .ok (.if_icmp .ne 7, 3) := by decide +kernel
theorem dX4_keyEnd_75 : decode cX4_keyEnd 75 = .ok (.iconst (-1), 1) := by decide +kernel
theorem dX4_keyEnd_76 : decode cX4_keyEnd 76 = .ok (.goto 6, 3) := by decide +kernel
theorem dX4_keyEnd_79 : decode cX4_keyEnd 79 = .ok (.iload_n 1, 1) := by decide +kernel
theorem dX4_keyEnd_80 : decode cX4_keyEnd 80 = .ok (.iconst 2, 1) := by decide +kernel
theorem dX4_keyEnd_81 : decode cX4_keyEnd 81 = .ok (.iadd, 1) := by decide +kernel
theorem dX4_keyEnd_82 : decode cX4_keyEnd 82 = .ok (.ireturn, 1) := by decide +kernel
theorem dX4_keyEnd_83 : decode cX4_keyEnd 83 = .ok (.iconst (-1), 1) := by decide +kernel
theorem dX4_keyEnd_84 : decode cX4_keyEnd 84 = .ok (.ireturn, 1) := by decide +kernel
theorem dX4_isFitting_0 : decode cX4_isFitting 0 = .ok (.aload_n 0, 1) := by decide +kernel
theorem dX4_isFitting_1 : decode cX4_isFitting 1 = .ok (.getfield 9, 3) := by decide +kernel
theorem dX4_isFitting_4 : decode cX4_isFitting 4 = .ok (.iload_n 1, 1) := by decide +kernel
theorem dX4_isFitting_5 : decode cX4_isFitting 5 = .ok (.invokevirtual 44, 3) := by decide +kernel
theorem dX4_isFitting_8 : decode cX4_isFitting 8 = .ok (.lookupswitch 121 #[(35, 97), (102, 61), (109, 79), (111, 44)], 44) := by decide +kernel
theorem dX4_isFitting_52 : decode cX4_isFitting 52 = .ok (.aload_n 0, 1) := by decide +kernel
theorem dX4_isFitting_53 : decode cX4_isFitting 53 = .ok (.getfield 23, 3) := by decide +kernel
theorem dX4_isFitting_56 : decode cX4_isFitting 56 = .ok (.iload_n 2, 1) := by decide +kernel
theorem dX4_isFitting_57 : decode cX4_isFitting 57 = .ok (.invokevirtual 44, 3) := by decide +kernel
theorem dX4_isFitting_60 : decode cX4_isFitting 60 = .ok (.ifCond .ne 7, 3) := by decide +kernel
theorem dX4_isFitting_63 : decode cX4_isFitting 63 = .ok (.iconst 1, 1) := by decide +kernel
theorem dX4_isFitting_64 : decode cX4_isFitting 64 = .ok (.goto 4, 3) := by decide +kernel
theorem dX4_isFitting_67 : decode cX4_isFitting 67 = .ok (.iconst 0, 1) := by decide +kernel
theorem dX4_isFitting_68 : decode cX4_isFitting 68 = .ok (.ireturn, 1) := by decide +kernel
theorem dX4_isFitting_69 : decode cX4_isFitting 69 = .ok (.aload_n 0, 1) := by decide +kernel
theorem dX4_isFitting_70 : decode cX4_isFitting 70 = .ok (.getfield 23, 3) := by decide +kernel
theorem dX4_isFitting_73 : decode cX4_isFitting 73 = .ok (.iload_n 2, 1) := by decide +kernel
theorem dX4_isFitting_74 : decode cX4_isFitting 74 = .ok (.invokevirtual 44, 3) := by decide +kernel
theorem dX4_isFitting_77 : decode cX4_isFitting 77 = .ok (.iconst 1, 1) := by decide +kernel
theorem dX4_isFitting_78 : decode cX4_isFitting 78 = .ok (.if_icmp .ne 7, 3) := by decide +kernel
theorem dX4_isFitting_81 : decode cX4_isFitting 81 = .ok (.iconst 1, 1) := by decide +kernel
theorem dX4_isFitting_82 : decode cX4_isFitting 82 = .ok (.goto 4, 3) := by decide +kernel
theorem dX4_isFitting_85 : decode cX4_isFitting 85 = .ok (.iconst 0, 1) := by decide +kernel
theorem dX4_isFitting_86 : decode cX4_isFitting 86 = .ok (.ireturn, 1) := by decide +kernel
theorem dX4_isFitting_87 : decode cX4_isFitting 87 = .ok (.aload_n 0, 1) := by decide +kernel
theorem dX4_isFitting_88 : decode cX4_isFitting 88 = .ok (.getfield 23, 3) := by decide +kernel
theorem dX4_isFitting_91 : decode cX4_isFitting 91 = .ok (.iload_n 2, 1) := by decide +kernel
theorem dX4_isFitting_92 : decode cX4_isFitting 92 = .ok (.invokevirtual 44, 3) := by decide +kernel
theorem dX4_isFitting_95 : decode cX4_isFitting 95 = .ok (.iconst 2, 1) := by decide +kernel
theorem dX4_isFitting_96 : decode cX4_isFitting 96 = .ok (.if_icmp .ne 7, 3) := by decide +kernel
theorem dX4_isFitting_99 : decode cX4_isFitting 99 = .ok (.iconst 1, 1) := by decide +kernel
theorem dX4_isFitting_100 : decode cX4_isFitting 100 = .ok (.goto 4, 3) := by decide +kernel
theorem dX4_isFitting_103 : decode cX4_isFitting 103 = .ok (.iconst 0, 1) := by decide +kernel
theorem dX4_isFitting_104 : decode cX4_isFitting 104 = .ok (.ireturn, 1) := by decide +kernel
theorem dX4_isFitting_105 : decode cX4_isFitting 105 = .ok (.aload_n 0, 1) := by decide +kernel
theorem dX4_isFitting_106 : decode cX4_isFitting 106 = .ok (.getfield 20, 3) := by decide +kernel
theorem dX4_isFitting_109 : decode cX4_isFitting 109 = .ok (.iload_n 2, 1) := by decide +kernel
theorem dX4_isFitting_110 : decode cX4_isFitting 110 = .ok (.invokevirtual 44, 3) := by decide +kernel
theorem dX4_isFitting_113 : decode cX4_isFitting 113 = .ok (.aload_n 0, 1) := by decide +kernel
theorem dX4_isFitting_114 : decode cX4_isFitting 114 = .ok (.iload_n 1, 1) := by decide +kernel
theorem dX4_isFitting_115 : decode cX4_isFitting 115 = .ok (.iconst 1, 1) := by decide +kernel
theorem dX4_isFitting_116 : decode cX4_isFitting 116 = .ok (.iadd, 1) := by decide +kernel
theorem dX4_isFitting_117 : decode cX4_isFitting 117 = .ok (.invokevirtual 59, 3) := by decide +kernel
theorem dX4_isFitting_120 : decode cX4_isFitting 120 = .ok (.if_icmp .ne 7, 3) := by decide +kernel
theorem dX4_isFitting_123 : decode cX4_isFitting 123 = .ok (.iconst 1, 1) := by decide +kernel
theorem dX4_isFitting_124 : decode cX4_isFitting 124 = .ok (.goto 4, 3) := by decide +kernel
theorem dX4_isFitting_127 : decode cX4_isFitting 127 = .ok (.iconst 0, 1) := by decide +kernel
theorem dX4_isFitting_128 : decode cX4_isFitting 128 = .ok (.ireturn, 1) := by decide +kernel
theorem dX4_isFitting_129 : decode cX4_isFitting 129 = .ok (.iconst 1, 1) := by decide +kernel
theorem dX4_isFitting_130 : decode cX4_isFitting 130 = .ok (.ireturn, 1) := by decide +kernel
theorem dX4_digitAt_0 : decode cX4_digitAt 0 = .ok (.aload_n 0, 1) := by decide +kernel
theorem dX4_digitAt_1 : decode cX4_digitAt 1 = .ok (.getfield 9, 3) := by decide +kernel
theorem dX4_digitAt_4 : decode cX4_digitAt 4 = .ok (.iload_n 1, 1) := by decide +kernel
theorem dX4_digitAt_5 : decode cX4_digitAt 5 = .ok (.invokevirtual 44, 3) := by decide +kernel
theorem dX4_digitAt_8 : decode cX4_digitAt 8 = .ok (.bipush 48, 2) := by decide +kernel
theorem dX4_digitAt_10 : decode cX4_digitAt 10 = .ok (.isub, 1) := by decide +kernel
theorem dX4_digitAt_11 : decode cX4_digitAt 11 = .ok (.istore_n 2, 1) := by decide +kernel
theorem dX4_digitAt_12 : decode cX4_digitAt 12 = .ok (.iload_n 2, 1) := by decide +kernel
theorem dX4_digitAt_13 : decode cX4_digitAt 13 = .ok (.iconst 0, 1) := by decide +kernel
theorem dX4_digitAt_14 : decode cX4_digitAt 14 = .ok (.iconst 3, 1) := by decide +kernel
theorem dX4_digitAt_15 : decode cX4_digitAt 15 = .ok (.invokestatic 51, 3) := by decide +kernel
theorem dX4_digitAt_18 : decode cX4_digitAt 18 = .ok (.ifCond .eq 7, 3) := by decide +kernel
theorem dX4_digitAt_21 : decode cX4_digitAt 21 = .ok (.iload_n 2, 1) := by decide +kernel
theorem dX4_digitAt_22 : decode cX4_digitAt 22 = .ok (.goto 4, 3) := by decide +kernel
theorem dX4_digitAt_25 : decode cX4_digitAt 25 = .ok (.iconst (-1), 1) := by decide +kernel
theorem dX4_digitAt_26 : decode cX4_digitAt 26 = .ok (.ireturn, 1) := by decide +kernel
theorem dX4_putByte_0 : decode cX4_putByte 0 = .ok (.iload_n 2, 1) := by decide +kernel
theorem dX4_putByte_1 : decode cX4_putByte 1 = .ok (.ifCond .eq 12, 3) := by decide +kernel
theorem dX4_putByte_4 : decode cX4_putByte 4 = .ok (.aload_n 0, 1) := by decide +kernel
theorem dX4_putByte_5 : decode cX4_putByte 5 = .ok (.getfield 26, 3) := by decide +kernel
theorem dX4_putByte_8 : decode cX4_putByte 8 = .ok (.iload_n 1, 1) := by decide +kernel
theorem dX4_putByte_9 : decode cX4_putByte 9 = .ok (.invokevirtual 32, 3) := by decide +kernel
theorem dX4_putByte_12 : decode cX4_putByte 12 = .ok (.pop, 1) := by decide +kernel
theorem dX4_putByte_13 : decode cX4_putByte 13 = .ok (.return_, 1) := by decide +kernel
theorem dX4_putNumber_0 : decode cX4_putNumber 0 = .ok (.iconst 0, 1) := by decide +kernel
theorem dX4_putNumber_1 : decode cX4_putNumber 1 = .ok (.istore_n 3, 1) := by decide +kernel
theorem dX4_putNumber_2 : decode cX4_putNumber 2 = .ok (.ldc 76, 2) := by decide +kernel
theorem dX4_putNumber_4 : decode cX4_putNumber 4 = .ok (.istore 4, 2) := by decide +kernel
theorem dX4_putNumber_6 : decode cX4_putNumber 6 = .ok (.iload 4, 2) := by decide +kernel
theorem dX4_putNumber_8 : decode cX4_putNumber 8 = .ok (.iconst 1, 1) := by decide +kernel
theorem dX4_putNumber_9 : decode cX4_putNumber 9 = .ok (.if_icmp .lt 65, 3) := by decide +kernel
theorem dX4_putNumber_12 : decode cX4_putNumber 12 = .ok (.iload_n 1, 1) := by decide +kernel
theorem dX4_putNumber_13 : decode cX4_putNumber 13 = .ok (.iload 4, 2) := by decide +kernel
theorem dX4_putNumber_15 : decode cX4_putNumber 15 = .ok (.idiv, 1) := by decide +kernel
theorem dX4_putNumber_16 : decode cX4_putNumber 16 = .ok (.bipush 10, 2) := by decide +kernel
theorem dX4_putNumber_18 : decode cX4_putNumber 18 = .ok (.irem, 1) := by decide +kernel
theorem dX4_putNumber_19 : decode cX4_putNumber 19 = .ok (.istore 5, 2) := by decide +kernel
theorem dX4_putNumber_21 : decode cX4_putNumber 21 = .ok (.iload_n 3, 1) := by decide +kernel
theorem dX4_putNumber_22 : decode cX4_putNumber 22 = .ok (.ifCond .ne 14, 3) := by decide +kernel
theorem dX4_putNumber_25 : decode cX4_putNumber 25 = .ok (.iload 5, 2) := by decide +kernel
theorem dX4_putNumber_27 : decode cX4_putNumber 27 = .ok (.ifCond .gt 9, 3) := by decide +kernel
theorem dX4_putNumber_30 : decode cX4_putNumber 30 = .ok (.iload 4, 2) := by decide +kernel
theorem dX4_putNumber_32 : decode cX4_putNumber 32 = .ok (.iconst 1, 1) := by decide +kernel
theorem dX4_putNumber_33 : decode cX4_putNumber 33 = .ok (.if_icmp .ne 7, 3) := by decide +kernel
theorem dX4_putNumber_36 : decode cX4_putNumber 36 = .ok (.iconst 1, 1) := by decide +kernel
theorem dX4_putNumber_37 : decode cX4_putNumber 37 = .ok (.goto 4, 3) := by decide +kernel
theorem dX4_putNumber_40 : decode cX4_putNumber 40 = .ok (.iconst 0, 1) := by decide +kernel
theorem dX4_putNumber_41 : decode cX4_putNumber 41 = .ok (.istore_n 3, 1) := by decide +kernel
theorem dX4_putNumber_42 : decode cX4_putNumber 42 = .ok (.aload_n 0, 1) := by decide +kernel
theorem dX4_putNumber_43 : decode cX4_putNumber 43 = .ok (.bipush 48, 2) := by decide +kernel
theorem dX4_putNumber_45 : decode cX4_putNumber 45 = .ok (.iload 5, 2) := by decide +kernel
theorem dX4_putNumber_47 : decode cX4_putNumber 47 = .ok (.iadd, 1) := by decide +kernel
theorem dX4_putNumber_48 : decode cX4_putNumber 48 = .ok (.iload_n 2, 1) := by decide +kernel
theorem dX4_putNumber_49 : decode cX4_putNumber 49 = .ok (.ifCond .eq 11, 3) := by decide +kernel
theorem dX4_putNumber_52 : decode cX4_putNumber 52 = .ok (.iload_n 3, 1) := by decide +kernel
theorem dX4_putNumber_53 : decode cX4_putNumber 53 = .ok (.ifCond .eq 7, 3) := by decide +kernel
theorem dX4_putNumber_56 : decode cX4_putNumber 56 = .ok (.iconst 1, 1) := by decide +kernel
theorem dX4_putNumber_57 : decode cX4_putNumber 57 = .ok (.goto 4, 3) := by decide +kernel
theorem dX4_putNumber_60 : decode cX4_putNumber 60 = .ok (.iconst 0, 1) := by decide +kernel
theorem dX4_putNumber_61 : decode cX4_putNumber 61 = .ok (.invokevirtual 55, 3) := by decide +kernel
theorem dX4_putNumber_64 : decode cX4_putNumber 64 = .ok (.iload 4, 2) := by decide +kernel
theorem dX4_putNumber_66 : decode cX4_putNumber 66 = .ok (.bipush 10, 2) := by decide +kernel
theorem dX4_putNumber_68 : decode cX4_putNumber 68 = .ok (.idiv, 1) := by decide +kernel
theorem dX4_putNumber_69 : decode cX4_putNumber 69 = .ok (.istore 4, 2) := by decide +kernel
theorem dX4_putNumber_71 : decode cX4_putNumber 71 = .ok (.goto (-65), 3) := by decide +kernel
theorem dX4_putNumber_74 : decode cX4_putNumber 74 = .ok (.return_, 1) := by decide +kernel
theorem dX5_init_0 : decode cX5_init 0 = .ok (.aload_n 0, 1) := by decide +kernel
theorem dX5_init_1 : decode cX5_init 1 = .ok (.invokespecial 3, 3) := by decide +kernel
theorem dX5_init_4 : decode cX5_init 4 = .ok (.aload_n 0, 1) := by decide +kernel
theorem dX5_init_5 : decode cX5_init 5 = .ok (.new 9, 3) := by decide +kernel
theorem dX5_init_8 : decode cX5_init 8 = .ok (.dup, 1) := by decide +kernel
theorem dX5_init_9 : decode cX5_init 9 = .ok (.bipush 8, 2) := by decide +kernel
theorem dX5_init_11 : decode cX5_init 11 = .ok (.invokespecial 11, 3) := by decide +kernel
theorem dX5_init_14 : decode cX5_init 14 = .ok (.putfield 14, 3) := by decide +kernel
theorem dX5_init_17 : decode cX5_init 17 = .ok (.aload_n 0, 1) := by decide +kernel
theorem dX5_init_18 : decode cX5_init 18 = .ok (.new 9, 3) := by decide +kernel
theorem dX5_init_21 : decode cX5_init 21 = .ok (.dup, 1) := by decide +kernel
theorem dX5_init_22 : decode cX5_init 22 = .ok (.bipush 8, 2) := by decide +kernel
theorem dX5_init_24 : decode cX5_init 24 = .ok (.invokespecial 11, 3) := by decide +kernel
theorem dX5_init_27 : decode cX5_init 27 = .ok (.putfield 20, 3) := by decide +kernel
theorem dX5_init_30 : decode cX5_init 30 = .ok (.aload_n 0, 1) := by decide +kernel
theorem dX5_init_31 : decode cX5_init 31 = .ok (.new 9, 3) := by decide +kernel
theorem dX5_init_34 : decode cX5_init 34 = .ok (.dup, 1) := by decide +kernel
theorem dX5_init_35 : decode cX5_init 35 = .ok (.bipush 8, 2) := by decide +kernel
theorem dX5_init_37 : decode cX5_init 37 = .ok (.invokespecial 11, 3) := by decide +kernel
theorem dX5_init_40 : decode cX5_init 40 = .ok (.putfield 23, 3) := by decide +kernel
theorem dX5_init_43 : decode cX5_init 43 = .ok (.aload_n 0, 1) := by decide +kernel
theorem dX5_init_44 : decode cX5_init 44 = .ok (.new 9, 3) := by decide +kernel
theorem dX5_init_47 : decode cX5_init 47 = .ok (.dup, 1) := by decide +kernel
theorem dX5_init_48 : decode cX5_init 48 = .ok (.bipush 96, 2) := by decide +kernel
theorem dX5_init_50 : decode cX5_init 50 = .ok (.invokespecial 11, 3) := by decide +kernel
theorem dX5_init_53 : decode cX5_init 53 = .ok (.putfield 26, 3) := by decide +kernel
theorem dX5_init_56 : decode cX5_init 56 = .ok (.return_, 1) := by decide +kernel
theorem dX5_size_0 : decode cX5_size 0 = .ok (.aload_n 0, 1) := by decide +kernel
theorem dX5_size_1 : decode cX5_size 1 = .ok (.getfield 20, 3) := by decide +kernel
theorem dX5_size_4 : decode cX5_size 4 = .ok (.invokevirtual 29, 3) := by decide +kernel
theorem dX5_size_7 : decode cX5_size 7 = .ok (.ireturn, 1) := by decide +kernel
theorem dX5_read_0 : decode cX5_read 0 = .ok (.aload_n 0, 1) := by decide +kernel
theorem dX5_read_1 : decode cX5_read 1 = .ok (.getfield 14, 3) := by decide +kernel
theorem dX5_read_4 : decode cX5_read 4 = .ok (.iconst 0, 1) := by decide +kernel
theorem dX5_read_5 : decode cX5_read 5 = .ok (.invokevirtual 33, 3) := by decide +kernel
theorem dX5_read_8 : decode cX5_read 8 = .ok (.aload_n 0, 1) := by decide +kernel
theorem dX5_read_9 : decode cX5_read 9 = .ok (.getfield 20, 3) := by decide +kernel
theorem dX5_read_12 : decode cX5_read 12 = .ok (.iconst 0, 1) := by decide +kernel
theorem dX5_read_13 : decode cX5_read 13 = .ok (.invokevirtual 33, 3) := by decide +kernel
theorem dX5_read_16 : decode cX5_read 16 = .ok (.aload_n 0, 1) := by decide +kernel
theorem dX5_read_17 : decode cX5_read 17 = .ok (.getfield 23, 3) := by decide +kernel
theorem dX5_read_20 : decode cX5_read 20 = .ok (.iconst 0, 1) := by decide +kernel
theorem dX5_read_21 : decode cX5_read 21 = .ok (.invokevirtual 33, 3) := by decide +kernel
theorem dX5_read_24 : decode cX5_read 24 = .ok (.aload_n 0, 1) := by decide +kernel
theorem dX5_read_25 : decode cX5_read 25 = .ok (.iconst 0, 1) := by decide +kernel
theorem dX5_read_26 : decode cX5_read 26 = .ok (.putfield 36, 3) := by decide +kernel
theorem dX5_read_29 : decode cX5_read 29 = .ok (.iconst 0, 1) := by decide +kernel
theorem dX5_read_30 : decode cX5_read 30 = .ok (.istore_n 2, 1) := by decide +kernel
theorem dX5_read_31 : decode cX5_read 31 = .ok (.iload_n 2, 1) := by decide +kernel
theorem dX5_read_32 : decode cX5_read 32 = .ok (.sipush 160, 3) := by decide +kernel
theorem dX5_read_35 : decode cX5_read 35 = .ok (.if_icmp .ge 30, 3) := by decide +kernel
theorem dX5_read_38 : decode cX5_read 38 = .ok (.aload_n 0, 1) := by decide +kernel
theorem dX5_read_39 : decode cX5_read 39 = .ok (.getfield 36, 3) := by decide +kernel
theorem dX5_read_42 : decode cX5_read 42 = .ok (.aload_n 1, 1) := by decide +kernel
theorem dX5_read_43 : decode cX5_read 43 = .ok (.invokevirtual 29, 3) := by decide +kernel
theorem dX5_read_46 : decode cX5_read 46 = .ok (.if_icmp .ge 19, 3) := by decide +kernel
theorem dX5_read_49 : decode cX5_read 49 = .ok (.aload_n 0, 1) := by decide +kernel
theorem dX5_read_50 : decode cX5_read 50 = .ok (.aload_n 1, 1) := by decide +kernel
theorem dX5_read_51 : decode cX5_read 51 = .ok (.invokevirtual 40, 3) := by decide +kernel
theorem dX5_read_54 : decode cX5_read 54 = .ok (.ifCond .ne 5, 3) := by decide +kernel
theorem dX5_read_57 : decode cX5_read 57 = .ok (.iconst 0, 1) := by decide +kernel
theorem dX5_read_58 : decode cX5_read 58 = .ok (.ireturn, 1) := by decide +kernel
theorem dX5_read_59 : decode cX5_read 59 = .ok (.iinc 2 1, 3) := by decide +kernel
theorem dX5_read_62 : decode cX5_read 62 = .ok (.goto (-31), 3) := by decide +kernel
theorem dX5_read_65 : decode cX5_read 65 = .ok (.iconst 1, 1) := by decide +kernel
theorem dX5_read_66 : decode cX5_read 66 = .ok (.ireturn, 1) := by decide +kernel
theorem dX5_readPiece_0 : decode cX5_readPiece 0 = .ok (.iconst (-1), 1) := by decide +kernel
theorem dX5_readPiece_1 : decode cX5_readPiece 1 = .ok (.istore_n 2, 1) := by decide +kernel
theorem dX5_readPiece_2 : decode cX5_readPiece 2 = .ok (.aload_n 1, 1) := by decide +kernel
theorem dX5_readPiece_3 : decode cX5_readPiece 3 = .ok (.aload_n 0, 1) := by decide +kernel
theorem dX5_readPiece_4 : decode cX5_readPiece 4 = .ok (.getfield 36, 3) := by decide +kernel
theorem dX5_readPiece_7 : decode cX5_readPiece 7 = .ok (.invokevirtual 44, 3) := by decide +kernel
theorem dX5_readPiece_10 : decode cX5_readPiece 10 = .ok (.bipush 60, 2) := by decide +kernel
theorem dX5_readPiece_12 : decode cX5_readPiece 12 = .ok (.if_icmp .ne 26, 3) := by decide +kernel
theorem dX5_readPiece_15 : decode cX5_readPiece 15 = .ok (.aload_n 0, 1) := by decide +kernel
theorem dX5_readPiece_16 : decode cX5_readPiece 16 = .ok (.dup, 1) := by decide +kernel
theorem dX5_readPiece_17 : decode cX5_readPiece 17 = .ok (.getfield 36, 3) := by decide +kernel
theorem dX5_readPiece_20 : decode cX5_readPiece 20 = .ok (.iconst 1, 1) := by decide +kernel
theorem dX5_readPiece_21 : decode cX5_readPiece 21 = .ok (.iadd, 1) := by decide +kernel
theorem dX5_readPiece_22 : decode cX5_readPiece 22 = .ok (.putfield 36, 3) := by decide +kernel
theorem dX5_readPiece_25 : decode cX5_readPiece 25 = .ok (.aload_n 0, 1) := by decide +kernel
theorem dX5_readPiece_26 : decode cX5_readPiece 26 = .ok (.aload_n 1, 1) := by decide +kernel
theorem dX5_readPiece_27 : decode cX5_readPiece 27 = .ok (.invokevirtual 48, 3) := by decide +kernel
theorem dX5_readPiece_30 : decode cX5_readPiece 30 = .ok (.istore_n 2, 1) := by decide +kernel
theorem dX5_readPiece_31 : decode cX5_readPiece 31 = .ok (.iload_n 2, 1) := by decide +kernel
theorem dX5_readPiece_32 : decode cX5_readPiece 32 = .ok (.iconst (-1), 1) := by decide +kernel
theorem dX5_readPiece_33 : decode cX5_readPiece 33 = .ok (.if_icmp .ne 5, 3) := by decide +kernel
theorem dX5_readPiece_36 : decode cX5_readPiece 36 = .ok (.iconst 0, 1) := by decide +kernel
theorem dX5_readPiece_37 : decode cX5_readPiece 37 = .ok (.ireturn, 1) := by decide +kernel
theorem dX5_readPiece_38 : decode cX5_readPiece 38 = .ok (.aload_n 0, 1) := by decide +kernel
theorem dX5_readPiece_39 : decode cX5_readPiece 39 = .ok (.aload_n 1, 1) := by decide +kernel
theorem dX5_readPiece_40 : decode cX5_readPiece 40 = .ok (.invokevirtual 48, 3) := by decide +kernel
theorem dX5_readPiece_43 : decode cX5_readPiece 43 = .ok (.istore_n 3, 1) := by decide +kernel
theorem dX5_readPiece_44 : decode cX5_readPiece 44 = .ok (.iload_n 3, 1) := by decide +kernel
theorem dX5_readPiece_45 : decode cX5_readPiece 45 = .ok (.iconst (-1), 1) := by decide +kernel
theorem dX5_readPiece_46 : decode cX5_readPiece 46 = .ok (.if_icmp .ne 5, 3) := by decide +kernel
theorem dX5_readPiece_49 : decode cX5_readPiece 49 = .ok (.iconst 0, 1) := by decide +kernel
theorem dX5_readPiece_50 : decode cX5_readPiece 50 = .ok (.ireturn, 1) := by decide +kernel
theorem dX5_readPiece_51 : decode cX5_readPiece 51 = .ok (.aload_n 1, 1) := by decide +kernel
theorem dX5_readPiece_52 : decode cX5_readPiece 52 = .ok (.aload_n 0, 1) := by decide +kernel
theorem dX5_readPiece_53 : decode cX5_readPiece 53 = .ok (.getfield 36, 3) := by decide +kernel
theorem dX5_readPiece_56 : decode cX5_readPiece 56 = .ok (.invokevirtual 44, 3) := by decide +kernel
theorem dX5_readPiece_59 : decode cX5_readPiece 59 = .ok (.istore 4, 2) := by decide +kernel
theorem dX5_readPiece_61 : decode cX5_readPiece 61 = .ok (.iload 4, 2) := by decide +kernel
theorem dX5_readPiece_63 : decode cX5_readPiece 63 = .ok (.bipush 42, 2) := by decide +kernel
theorem dX5_readPiece_65 : decode cX5_readPiece 65 = .ok (.if_icmp .eq 10, 3) := by decide +kernel
theorem dX5_readPiece_68 : decode cX5_readPiece 68 = .ok (.iload 4, 2) := by decide +kernel
theorem dX5_readPiece_70 : decode cX5_readPiece 70 = .ok (.bipush 63, 2) := by decide +kernel
theorem dX5_readPiece_72 : decode cX5_readPiece 72 = .ok (.if_icmp .ne 7, 3) := by decide +kernel
theorem dX5_readPiece_75 : decode cX5_readPiece 75 = .ok (.iconst 1, 1) := by decide +kernel
theorem dX5_readPiece_76 : decode cX5_readPiece 76 = .ok (.goto 4, 3) := by decide +kernel
theorem dX5_readPiece_79 : decode cX5_readPiece 79 = .ok (.iconst 0, 1) := by decide +kernel
theorem dX5_readPiece_80 : decode cX5_readPiece 80 = .ok (.istore 5, 2) := by decide +kernel
theorem dX5_readPiece_82 : decode cX5_readPiece 82 = .ok (.iload 5, 2) := by decide +kernel
theorem dX5_readPiece_84 : decode cX5_readPiece 84 = .ok (.ifCond .eq 13, 3) := by decide +kernel
theorem dX5_readPiece_87 : decode cX5_readPiece 87 = .ok (.aload_n 0, 1) := by decide +kernel
theorem dX5_readPiece_88 : decode cX5_readPiece 88 = .ok (.dup, 1) := by decide +kernel
theorem dX5_readPiece_89 : decode cX5_readPiece 89 = .ok (.getfield 36, 3) := by decide +kernel
theorem dX5_readPiece_92 : decode cX5_readPiece 92 = .ok (.iconst 1, 1) := by decide +kernel
theorem dX5_readPiece_93 : decode cX5_readPiece 93 = .ok (.iadd, 1) := by decide +kernel
theorem dX5_readPiece_94 : decode cX5_readPiece 94 = .ok (.putfield 36, 3) := by decide +kernel
theorem dX5_readPiece_97 : decode cX5_readPiece 97 = .ok (.aload_n 0, 1) := by decide +kernel
theorem dX5_readPiece_98 : decode cX5_readPiece 98 = .ok (.getfield 14, 3) := by decide +kernel
theorem dX5_readPiece_101 : decode cX5_readPiece 101 = .ok (.iload_n 2, 1) := by decide +kernel
theorem dX5_readPiece_102 : decode cX5_readPiece 102 = .ok (.invokevirtual 52, 3) := by decide +kernel
theorem dX5_readPiece_105 : decode cX5_readPiece 105 = .ok (.ifCond .eq 39, 3) := by decide +kernel
theorem dX5_readPiece_108 : decode cX5_readPiece 108 = .ok (.aload_n 0, 1) := by decide +kernel
theorem dX5_readPiece_109 : decode cX5_readPiece 109 = .ok (.getfield 20, 3) := by decide +kernel
theorem dX5_readPiece_112 : decode cX5_readPiece 112 = .ok (.iload_n 3, 1) := by decide +kernel
theorem dX5_readPiece_113 : decode cX5_readPiece 113 = .ok (.invokevirtual 52, 3) := by decide +kernel
theorem dX5_readPiece_116 : decode cX5_readPiece 116 = .ok (.ifCond .eq 28, 3) := by decide +kernel
theorem dX5_readPiece_119 : decode cX5_readPiece 119 = .ok (.aload_n 0, 1) := by decide +kernel
theorem dX5_readPiece_120 : decode cX5_readPiece 120 = .ok (.getfield 23, 3) := by decide +kernel
theorem dX5_readPiece_123 : decode cX5_readPiece 123 = .ok (.iload 5, 2) := by decide +kernel
theorem dX5_readPiece_125 : decode cX5_readPiece 125 = .ok (.ifCond .eq 8, 3) := by decide +kernel
theorem dX5_readPiece_128 : decode cX5_readPiece 128 = .ok (.iload 4, 2) := by decide +kernel
theorem dX5_readPiece_130 : decode cX5_readPiece 130 = .ok (.goto 4, 3) := by decide +kernel
theorem dX5_readPiece_133 : decode cX5_readPiece 133 = .ok (.iconst (-1), 1) := by decide +kernel
theorem dX5_readPiece_134 : decode cX5_readPiece 134 = .ok (.invokevirtual 52, 3) := by decide +kernel
theorem dX5_readPiece_137 : decode cX5_readPiece 137 = .ok (.ifCond .eq 7, 3) := by decide +kernel
theorem dX5_readPiece_140 : decode cX5_readPiece 140 = .ok (.iconst 1, 1) := by decide +kernel
theorem dX5_readPiece_141 : decode cX5_readPiece 141 = .ok (.goto 4, 3) := by decide +kernel
theorem dX5_readPiece_144 : decode cX5_readPiece 144 = .ok (.iconst 0, 1) := by decide +kernel
theorem dX5_readPiece_145 : decode cX5_readPiece 145 = .ok (.ireturn, 1) := by decide +kernel
theorem dX5_readSet_0 : decode cX5_readSet 0 = .ok (.aload_n 1, 1) := by decide +kernel
theorem dX5_readSet_1 : decode cX5_readSet 1 = .ok (.aload_n 0, 1) := by decide +kernel
theorem dX5_readSet_2 : decode cX5_readSet 2 = .ok (.getfield 36, 3) := by decide +kernel
theorem dX5_readSet_5 : decode cX5_readSet 5 = .ok (.invokevirtual 44, 3) := by decide +kernel
theorem dX5_readSet_8 : decode cX5_readSet 8 = .ok (.bipush 33, 2) := by decide +kernel
theorem dX5_readSet_10 : decode cX5_readSet 10 = .ok (.if_icmp .ne 7, 3) := by decide +kernel
theorem dX5_readSet_13 : decode cX5_readSet 13 = .ok (.iconst 1, 1) := by decide +kernel
theorem dX5_readSet_14 : decode cX5_readSet 14 = .ok (.goto 4, 3) := by decide +kernel
theorem dX5_readSet_17 : decode cX5_readSet 17 = .ok (.iconst 0, 1) := by decide +kernel
theorem dX5_readSet_18 : decode cX5_readSet 18 = .ok (.istore_n 2, 1) := by decide +kernel
theorem dX5_readSet_19 : decode cX5_readSet 19 = .ok (.iload_n 2, 1) := by decide +kernel
theorem dX5_readSet_20 : decode cX5_readSet 20 = .ok (.ifCond .eq 13, 3) := by decide +kernel
theorem dX5_readSet_23 : decode cX5_readSet 23 = .ok (.aload_n 0, 1) := by decide +kernel
theorem dX5_readSet_24 : decode cX5_readSet 24 = .ok (.dup, 1) := by decide +kernel
theorem dX5_readSet_25 : decode cX5_readSet 25 = .ok (.getfield 36, 3) := by decide +kernel
theorem dX5_readSet_28 : decode cX5_readSet 28 = .ok (.iconst 1, 1) := by decide +kernel
theorem dX5_readSet_29 : decode cX5_readSet 29 = .ok (.iadd, 1) := by decide +kernel
theorem dX5_readSet_30 : decode cX5_readSet 30 = .ok (.putfield 36, 3) := by decide +kernel
theorem dX5_readSet_33 : decode cX5_readSet 33 = .ok (.aload_n 1, 1) := by decide +kernel
theorem dX5_readSet_34 : decode cX5_readSet 34 = .ok (.aload_n 0, 1) := by decide +kernel
theorem dX5_readSet_35 : decode cX5_readSet 35 = .ok (.getfield 36, 3) := by decide +kernel
theorem dX5_readSet_38 : decode cX5_readSet 38 = .ok (.invokevirtual 44, 3) := by decide +kernel
theorem dX5_readSet_41 : decode cX5_readSet 41 = .ok (.istore_n 3, 1) := by decide +kernel
theorem dX5_readSet_42 : decode cX5_readSet 42 = .ok (.iload_n 3, 1) := by decide +kernel
theorem dX5_readSet_43 : decode cX5_readSet 43 = .ok (.bipush 35, 2) := by decide +kernel
theorem dX5_readSet_45 : decode cX5_readSet 45 = .ok (.if_icmp .ne 11, 3) := by decide +kernel
theorem dX5_readSet_48 : decode cX5_readSet 48 = .ok (.aload_n 0, 1) := by decide +kernel
theorem dX5_readSet_49 : decode cX5_readSet 49 = .ok (.aload_n 1, 1) := by decide +kernel
theorem dX5_readSet_50 : decode cX5_readSet 50 = .ok (.invokevirtual 56, 3) := by decide +kernel
theorem dX5_readSet_53 : decode cX5_readSet 53 = .ok (.goto 7, 3) := by decide +kernel
theorem dX5_readSet_56 : decode cX5_readSet 56 = .ok (.iload_n 3, 1) := by decide +kernel
theorem dX5_readSet_57 : decode cX5_readSet 57 = .ok (.invokestatic 59, 3) := by decide +kernel
theorem dX5_readSet_60 : decode cX5_readSet 60 = .ok (.istore 4, 2) := by decide +kernel
theorem dX5_readSet_62 : decode cX5_readSet 62 = .ok (.aload_n 0, 1) := by decide +kernel
theorem dX5_readSet_63 : decode cX5_readSet 63 = .ok (.dup, 1) := by decide +kernel
theorem dX5_readSet_64 : decode cX5_readSet 64 = .ok (.getfield 36, 3) := by decide +kernel
theorem dX5_readSet_67 : decode cX5_readSet 67 = .ok (.iload_n 3, 1) := by decide +kernel
theorem dX5_readSet_68 : decode cX5_readSet 68 = .ok (.bipush 35, 2) := by decide +kernel
theorem dX5_readSet_70 : decode cX5_readSet 70 = .ok (.if_icmp .ne 7, 3) := by decide +kernel
theorem dX5_readSet_73 : decode cX5_readSet 73 = .ok (.iconst 3, 1) := by decide +kernel
theorem dX5_readSet_74 : decode cX5_readSet 74 = .ok (.goto 4, 3) := by decide +kernel
theorem dX5_readSet_77 : decode cX5_readSet 77 = .ok (.iconst 1, 1) := by decide +kernel
theorem dX5_readSet_78 : decode cX5_readSet 78 = .ok (.iadd, 1) := by decide +kernel
theorem dX5_readSet_79 : decode cX5_readSet 79 = .ok (.putfield 36, 3) := by decide +kernel
theorem dX5_readSet_82 : decode cX5_readSet 82 = .ok (.iload 4, 2) := by decide +kernel
theorem dX5_readSet_84 : decode cX5_readSet 84 = .ok (.iconst (-1), 1) := by decide +kernel
theorem dX5_readSet_85 : decode cX5_readSet 85 = .ok (.if_icmp .eq 16, 3) := by decide +kernel
theorem dX5_readSet_88 : decode cX5_readSet 88 = .ok (.iload_n 2, 1) := by decide +kernel
theorem dX5_readSet_89 : decode cX5_readSet 89 = .ok (.ifCond .eq 12, 3) := by decide +kernel
theorem dX5_readSet_92 : decode cX5_readSet 92 = .ok (.sipush 1000, 3) := by decide +kernel
theorem dX5_readSet_95 : decode cX5_readSet 95 = .ok (.iload 4, 2) := by decide +kernel
theorem dX5_readSet_97 : decode cX5_readSet 97 = .ok (.iadd, 1) := by decide +kernel
theorem dX5_readSet_98 : decode cX5_readSet 98 = .ok (.goto 5, 3) := by decide +kernel
theorem dX5_readSet_101 : decode cX5_readSet 101 = .ok (.iload 4, 2) := by decide +kernel
theorem dX5_readSet_103 : decode cX5_readSet 103 = .ok (.ireturn, 1) := by decide +kernel
theorem dX5_readLetter_0 : decode cX5_readLetter 0 = .ok (.aload_n 1, 1) := by decide +kernel
theorem dX5_readLetter_1 : decode cX5_readLetter 1 = .ok (.aload_n 0, 1) := by decide +kernel
theorem dX5_readLetter_2 : decode cX5_readLetter 2 = .ok (.getfield 36, 3) := by decide +kernel
theorem dX5_readLetter_5 : decode cX5_readLetter 5 = .ok (.iconst 1, 1) := by decide +kernel
theorem dX5_readLetter_6 : decode cX5_readLetter 6 = .ok (.iadd, 1) := by decide +kernel
theorem dX5_readLetter_7 : decode cX5_readLetter 7 = .ok (.invokevirtual 44, 3) := by decide +kernel
theorem dX5_readLetter_10 : decode cX5_readLetter 10 = .ok (.bipush 48, 2) := by decide +kernel
theorem dX5_readLetter_12 : decode cX5_readLetter 12 = .ok (.isub, 1) := by decide +kernel
theorem dX5_readLetter_13 : decode cX5_readLetter 13 = .ok (.istore_n 2, 1) := by decide +kernel
theorem dX5_readLetter_14 : decode cX5_readLetter 14 = .ok (.aload_n 1, 1) := by decide +kernel
theorem dX5_readLetter_15 : decode cX5_readLetter 15 = .ok (.aload_n 0, 1) := by decide +kernel
theorem dX5_readLetter_16 : decode cX5_readLetter 16 = .ok (.getfield 36, 3) := by decide +kernel
theorem dX5_readLetter_19 : decode cX5_readLetter 19 = .ok (.iconst 2, 1) := by decide +kernel
theorem dX5_readLetter_20 : decode cX5_readLetter 20 = .ok (.iadd, 1) := by decide +kernel
theorem dX5_readLetter_21 : decode cX5_readLetter 21 = .ok (.invokevirtual 44, 3) := by decide +kernel
theorem dX5_readLetter_24 : decode cX5_readLetter 24 = .ok (.bipush 48, 2) := by decide +kernel
theorem dX5_readLetter_26 : decode cX5_readLetter 26 = .ok (.isub, 1) := by decide +kernel
theorem dX5_readLetter_27 : decode cX5_readLetter 27 = .ok (.istore_n 3, 1) := by decide +kernel
theorem dX5_readLetter_28 : decode cX5_readLetter 28 = .ok (.bipush 10, 2) := by decide +kernel
theorem dX5_readLetter_30 : decode cX5_readLetter 30 = .ok (.iload_n 2, 1) := by decide +kernel
theorem dX5_readLetter_31 : decode cX5_readLetter 31 = .ok (.imul, 1) := by decide +kernel
theorem dX5_readLetter_32 : decode cX5_readLetter 32 = .ok (.iload_n 3, 1) := by decide +kernel
theorem dX5_readLetter_33 : decode cX5_readLetter 33 = .ok (.iadd, 1) := by decide +kernel
theorem dX5_readLetter_34 : decode cX5_readLetter 34 = .ok (.istore 4, 2) := by decide +kernel
theorem dX5_readLetter_36 : decode cX5_readLetter 36 = .ok (.iload_n 2, 1) := by decide +kernel
theorem dX5_readLetter_37 : decode cX5_readLetter 37 = .ok (.iconst 0, 1) := by decide +kernel
theorem dX5_readLetter_38 : decode cX5_readLetter 38 = .ok (.bipush 9, 2) := by decide +kernel
theorem dX5_readLetter_40 : decode cX5_readLetter 40 = .ok (.invokestatic 62, 3) := by decide +kernel
theorem dX5_readLetter_43 : decode cX5_readLetter 43 = .ok (.ifCond .eq 26, 3) := by decide +kernel
theorem dX5_readLetter_46 : decode cX5_readLetter 46 = .ok (.iload_n 3, 1) := by decide +kernel
theorem dX5_readLetter_47 : decode cX5_readLetter 47 = .ok (.iconst 0, 1) := by decide +kernel
theorem dX5_readLetter_48 : decode cX5_readLetter 48 = .ok (.bipush 9, 2) := by decide +kernel
theorem dX5_readLetter_50 : decode cX5_readLetter 50 = .ok (.invokestatic 62, 3) := by decide +kernel
theorem dX5_readLetter_53 : decode cX5_readLetter 53 = .ok (.ifCond .eq 16, 3) := by decide +kernel
theorem dX5_readLetter_56 : decode cX5_readLetter 56 = .ok (.iload 4, 2) := by decide +kernel
theorem dX5_readLetter_58 : decode cX5_readLetter 58 = .ok (.invokestatic 66, 3) := by decide +kernel
theorem dX5_readLetter_61 : decode cX5_readLetter 61 = .ok (.ifCond .eq 8, 3) := by decide +kernel
theorem dX5_readLetter_64 : decode cX5_readLetter 64 = .ok (.iload 4, 2) := by decide +kernel
theorem dX5_readLetter_66 : decode cX5_readLetter 66 = .ok (.goto 4, 3) := by decide +kernel
theorem dX5_readLetter_69 : decode cX5_readLetter 69 = .ok (.iconst (-1), 1) := by decide +kernel
theorem dX5_readLetter_70 : decode cX5_readLetter 70 = .ok (.ireturn, 1) := by decide +kernel
theorem dX5_setOf_0 : decode cX5_setOf 0 = .ok (.iload_n 0, 1) := by decide +kernel
theorem dX5_setOf_1 : decode cX5_setOf 1 = .ok (.lookupswitch 88 #[(46, 67), (66, 76), (67, 85), (68, 79), (76, 70), (77, 73), (83, 82)], 67) := by decide +kernel
theorem dX5_setOf_68 : decode cX5_setOf 68 = .ok (.bipush 96, 2) := by decide +kernel
theorem dX5_setOf_70 : decode cX5_setOf 70 = .ok (.ireturn, 1) := by decide +kernel
theorem dX5_setOf_71 : decode cX5_setOf 71 = .ok (.bipush 101, 2) := by decide +kernel
theorem dX5_setOf_73 : decode cX5_setOf 73 = .ok (.ireturn, 1) := by decide +kernel
theorem dX5_setOf_74 : decode cX5_setOf 74 = .ok (.bipush 102, 2) := by decide +kernel
theorem dX5_setOf_76 : decode cX5_setOf 76 = .ok (.ireturn, 1) := by decide +kernel
theorem dX5_setOf_77 : decode cX5_setOf 77 = .ok (.bipush 103, 2) := by decide +kernel
theorem dX5_setOf_79 : decode cX5_setOf 79 = .ok (.ireturn, 1) := by decide +kernel
theorem dX5_setOf_80 : decode cX5_setOf 80 = .ok (.bipush 104, 2) := by decide +kernel
theorem dX5_setOf_82 : decode cX5_setOf 82 = .ok (.ireturn, 1) := by decide +kernel
theorem dX5_setOf_83 : decode cX5_setOf 83 = .ok (.bipush 106, 2) := by decide +kernel
theorem dX5_setOf_85 : decode cX5_setOf 85 = .ok (.ireturn, 1) := by decide +kernel
theorem dX5_setOf_86 : decode cX5_setOf 86 = .ok (.bipush 97, 2) := by decide +kernel
theorem dX5_setOf_88 : decode cX5_setOf 88 = .ok (.ireturn, 1) := by decide +kernel
theorem dX5_setOf_89 : decode cX5_setOf 89 = .ok (.iconst (-1), 1) := by decide +kernel
theorem dX5_setOf_90 : decode cX5_setOf 90 = .ok (.ireturn, 1) := by decide +kernel
theorem dX5_endFrom_0 : decode cX5_endFrom 0 = .ok (.aload_n 3, 1) := by decide +kernel
theorem dX5_endFrom_1 : decode cX5_endFrom 1 = .ok (.aload_n 0, 1) := by decide +kernel
theorem dX5_endFrom_2 : decode cX5_endFrom 2 = .ok (.getfield 26, 3) := by decide +kernel
theorem dX5_endFrom_5 : decode cX5_endFrom 5 = .ok (.invokevirtual 69, 3) := by decide +kernel
theorem dX5_endFrom_8 : decode cX5_endFrom 8 = .ok (.iconst (-1), 1) := by decide +kernel
theorem dX5_endFrom_9 : decode cX5_endFrom 9 = .ok (.istore 4, 2) := by decide +kernel
theorem dX5_endFrom_11 : decode cX5_endFrom 11 = .ok (.aload_n 0, 1) := by decide +kernel
theorem dX5_endFrom_12 : decode cX5_endFrom 12 = .ok (.iconst 1, 1) := by decide +kernel
theorem dX5_endFrom_13 : decode cX5_endFrom 13 = .ok (.invokevirtual 75, 3) := by decide +kernel
theorem dX5_endFrom_16 : decode cX5_endFrom 16 = .ok (.istore 5, 2) := by decide +kernel
theorem dX5_endFrom_18 : decode cX5_endFrom 18 = .ok (.iload_n 2, 1) := by decide +kernel
theorem dX5_endFrom_19 : decode cX5_endFrom 19 = .ok (.istore 6, 2) := by decide +kernel
theorem dX5_endFrom_21 : decode cX5_endFrom 21 = .ok (.iload 6, 2) := by decide +kernel
theorem dX5_endFrom_23 : decode cX5_endFrom 23 = .ok (.aload_n 1, 1) := by decide +kernel
theorem dX5_endFrom_24 : decode cX5_endFrom 24 = .ok (.invokevirtual 29, 3) := by decide +kernel
theorem dX5_endFrom_27 : decode cX5_endFrom 27 = .ok (.if_icmp .gt 49, 3) := by decide +kernel
theorem dX5_endFrom_30 : decode cX5_endFrom 30 = .ok (.iload 5, 2) := by decide +kernel
theorem dX5_endFrom_32 : decode cX5_endFrom 32 = .ok (.ifCond .eq 44, 3) := by decide +kernel
theorem dX5_endFrom_35 : decode cX5_endFrom 35 = .ok (.iload 5, 2) := by decide +kernel
theorem dX5_endFrom_37 : decode cX5_endFrom 37 = .ok (.aload_n 0, 1) := by decide +kernel
theorem dX5_endFrom_38 : decode cX5_endFrom 38 = .ok (.getfield 20, 3) := by decide +kernel
theorem dX5_endFrom_41 : decode cX5_endFrom 41 = .ok (.invokevirtual 29, 3) := by decide +kernel
theorem dX5_endFrom_44 : decode cX5_endFrom 44 = .ok (.iushr, 1) := by decide +kernel
theorem dX5_endFrom_45 : decode cX5_endFrom 45 = .ok (.iconst 1, 1) := by decide +kernel
theorem dX5_endFrom_46 : decode cX5_endFrom 46 = .ok (.iand, 1) := by decide +kernel
theorem dX5_endFrom_47 : decode cX5_endFrom 47 = .ok (.ifCond .eq 7, 3) := by decide +kernel
theorem dX5_endFrom_50 : decode cX5_endFrom 50 = .ok (.iload 6, 2) := by decide +kernel
theorem dX5_endFrom_52 : decode cX5_endFrom 52 = .ok (.istore 4, 2) := by decide +kernel
theorem dX5_endFrom_54 : decode cX5_endFrom 54 = .ok (.aload_n 0, 1) := by decide +kernel
theorem dX5_endFrom_55 : decode cX5_endFrom 55 = .ok (.aload_n 0, 1) := by decide +kernel
theorem dX5_endFrom_56 : decode cX5_endFrom 56 = .ok (.iload 5, 2) := by decide +kernel
theorem dX5_endFrom_58 : decode cX5_endFrom 58 = .ok (.aload_n 1, 1) := by decide +kernel
theorem dX5_endFrom_59 : decode cX5_endFrom 59 = .ok (.iload 6, 2) := by decide +kernel
theorem dX5_endFrom_61 : decode cX5_endFrom 61 = .ok (.aload_n 3, 1) := by decide +kernel
theorem dX5_endFrom_62 : decode cX5_endFrom 62 = .ok (.invokevirtual 78, 3) := by decide +kernel
theorem dX5_endFrom_65 : decode cX5_endFrom 65 = .ok (.invokevirtual 75, 3) := by decide +kernel
theorem dX5_endFrom_68 : decode cX5_endFrom 68 = .ok (.istore 5, 2) := by decide +kernel
theorem dX5_endFrom_70 : decode cX5_endFrom 70 = .ok (.iinc 6 1, 3) := by decide +kernel
theorem dX5_endFrom_73 : decode cX5_endFrom 73 = .ok (.goto (-52), 3) := by decide +kernel
theorem dX5_endFrom_76 : decode cX5_endFrom 76 = .ok (.iload 4, 2) := by decide +kernel
theorem dX5_endFrom_78 : decode cX5_endFrom 78 = .ok (.ireturn, 1) := by decide +kernel
theorem dX5_withSkips_0 : decode cX5_withSkips 0 = .ok (.iload_n 1, 1) := by decide +kernel
theorem dX5_withSkips_1 : decode cX5_withSkips 1 = .ok (.istore_n 2, 1) := by decide +kernel
theorem dX5_withSkips_2 : decode cX5_withSkips 2 = .ok (.iconst 0, 1) := by decide +kernel
theorem dX5_withSkips_3 : decode cX5_withSkips 3 = .ok (.istore_n 3, 1) := by decide +kernel
theorem dX5_withSkips_4 : decode cX5_withSkips 4 = .ok (.iload_n 3, 1) := by decide +kernel
theorem dX5_withSkips_5 : decode cX5_withSkips 5 = .ok (.aload_n 0, 1) := by decide +kernel
theorem dX5_withSkips_6 : decode cX5_withSkips 6 = .ok (.getfield 20, 3) := by decide +kernel
theorem dX5_withSkips_9 : decode cX5_withSkips 9 = .ok (.invokevirtual 29, 3) := by decide +kernel
