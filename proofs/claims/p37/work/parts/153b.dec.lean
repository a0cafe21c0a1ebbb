theorem dX5_withSkips_12 : decode cX5_withSkips 12 = .ok (.if_icmp .ge 37, 3) := by decide +kernel
theorem dX5_withSkips_15 : decode cX5_withSkips 15 = .ok (.iload_n 2, 1) := by decide +kernel
theorem dX5_withSkips_16 : decode cX5_withSkips 16 = .ok (.iload_n 3, 1) := by decide +kernel
theorem dX5_withSkips_17 : decode cX5_withSkips 17 = .ok (.iushr, 1) := by decide +kernel
theorem dX5_withSkips_18 : decode cX5_withSkips 18 = .ok (.iconst 1, 1) := by decide +kernel
theorem dX5_withSkips_19 : decode cX5_withSkips 19 = .ok (.iand, 1) := by decide +kernel
theorem dX5_withSkips_20 : decode cX5_withSkips 20 = .ok (.ifCond .eq 23, 3) := by decide +kernel
theorem dX5_withSkips_23 : decode cX5_withSkips 23 = .ok (.aload_n 0, 1) := by decide +kernel
theorem dX5_withSkips_24 : decode cX5_withSkips 24 = .ok (.getfield 23, 3) := by decide +kernel
theorem dX5_withSkips_27 : decode cX5_withSkips 27 = .ok (.iload_n 3, 1) := by decide +kernel
theorem dX5_withSkips_28 : decode cX5_withSkips 28 = .ok (.invokevirtual 44, 3) := by decide +kernel
theorem dX5_withSkips_31 : decode cX5_withSkips 31 = .ok (.iconst (-1), 1) := by decide +kernel
theorem dX5_withSkips_32 : decode cX5_withSkips 32 = .ok (.if_icmp .eq 11, 3) := by decide +kernel
theorem dX5_withSkips_35 : decode cX5_withSkips 35 = .ok (.iload_n 2, 1) := by decide +kernel
theorem dX5_withSkips_36 : decode cX5_withSkips 36 = .ok (.iconst 1, 1) := by decide +kernel
theorem dX5_withSkips_37 : decode cX5_withSkips 37 = .ok (.iload_n 3, 1) := by decide +kernel
theorem dX5_withSkips_38 : decode cX5_withSkips 38 = .ok (.iconst 1, 1) := by decide +kernel
theorem dX5_withSkips_39 : decode cX5_withSkips 39 = .ok (.iadd, 1) := by decide +kernel
theorem dX5_withSkips_40 : decode cX5_withSkips 40 = .ok (.ishl, 1) := by decide +kernel
theorem dX5_withSkips_41 : decode cX5_withSkips 41 = .ok (.ior, 1) := by decide +kernel
theorem dX5_withSkips_42 : decode cX5_withSkips 42 = .ok (.istore_n 2, 1) := by decide +kernel
theorem dX5_withSkips_43 : decode cX5_withSkips 43 = .ok (.iinc 3 1, 3) := by decide +kernel
theorem dX5_withSkips_46 : decode cX5_withSkips 46 = .ok (.goto (-42), 3) := by decide +kernel
theorem dX5_withSkips_49 : decode cX5_withSkips 49 = .ok (.iload_n 2, 1) := by decide +kernel
theorem dX5_withSkips_50 : decode cX5_withSkips 50 = .ok (.ireturn, 1) := by decide +kernel
theorem dX5_statesBehind_0 : decode cX5_statesBehind 0 = .ok (.iconst 0, 1) := by decide +kernel
theorem dX5_statesBehind_1 : decode cX5_statesBehind 1 = .ok (.istore 5, 2) := by decide +kernel
theorem dX5_statesBehind_3 : decode cX5_statesBehind 3 = .ok (.iload_n 3, 1) := by decide +kernel
theorem dX5_statesBehind_4 : decode cX5_statesBehind 4 = .ok (.aload_n 2, 1) := by decide +kernel
theorem dX5_statesBehind_5 : decode cX5_statesBehind 5 = .ok (.invokevirtual 29, 3) := by decide +kernel
theorem dX5_statesBehind_8 : decode cX5_statesBehind 8 = .ok (.if_icmp .lt 6, 3) := by decide +kernel
theorem dX5_statesBehind_11 : decode cX5_statesBehind 11 = .ok (.iload 5, 2) := by decide +kernel
theorem dX5_statesBehind_13 : decode cX5_statesBehind 13 = .ok (.ireturn, 1) := by decide +kernel
theorem dX5_statesBehind_14 : decode cX5_statesBehind 14 = .ok (.iconst 0, 1) := by decide +kernel
theorem dX5_statesBehind_15 : decode cX5_statesBehind 15 = .ok (.istore 6, 2) := by decide +kernel
theorem dX5_statesBehind_17 : decode cX5_statesBehind 17 = .ok (.iload 6, 2) := by decide +kernel
theorem dX5_statesBehind_19 : decode cX5_statesBehind 19 = .ok (.aload_n 0, 1) := by decide +kernel
theorem dX5_statesBehind_20 : decode cX5_statesBehind 20 = .ok (.getfield 20, 3) := by decide +kernel
theorem dX5_statesBehind_23 : decode cX5_statesBehind 23 = .ok (.invokevirtual 29, 3) := by decide +kernel
theorem dX5_statesBehind_26 : decode cX5_statesBehind 26 = .ok (.if_icmp .ge 63, 3) := by decide +kernel
theorem dX5_statesBehind_29 : decode cX5_statesBehind 29 = .ok (.iload_n 1, 1) := by decide +kernel
theorem dX5_statesBehind_30 : decode cX5_statesBehind 30 = .ok (.iload 6, 2) := by decide +kernel
theorem dX5_statesBehind_32 : decode cX5_statesBehind 32 = .ok (.iushr, 1) := by decide +kernel
theorem dX5_statesBehind_33 : decode cX5_statesBehind 33 = .ok (.iconst 1, 1) := by decide +kernel
theorem dX5_statesBehind_34 : decode cX5_statesBehind 34 = .ok (.iand, 1) := by decide +kernel
theorem dX5_statesBehind_35 : decode cX5_statesBehind 35 = .ok (.ifCond .eq 48, 3) := by decide +kernel
theorem dX5_statesBehind_38 : decode cX5_statesBehind 38 = .ok (.aload_n 0, 1) := by decide +kernel
theorem dX5_statesBehind_39 : decode cX5_statesBehind 39 = .ok (.iload 6, 2) := by decide +kernel
theorem dX5_statesBehind_41 : decode cX5_statesBehind 41 = .ok (.aload_n 2, 1) := by decide +kernel
theorem dX5_statesBehind_42 : decode cX5_statesBehind 42 = .ok (.iload_n 3, 1) := by decide +kernel
theorem dX5_statesBehind_43 : decode cX5_statesBehind 43 = .ok (.aload 4, 2) := by decide +kernel
theorem dX5_statesBehind_45 : decode cX5_statesBehind 45 = .ok (.invokevirtual 82, 3) := by decide +kernel
theorem dX5_statesBehind_48 : decode cX5_statesBehind 48 = .ok (.ifCond .eq 35, 3) := by decide +kernel
theorem dX5_statesBehind_51 : decode cX5_statesBehind 51 = .ok (.iload 5, 2) := by decide +kernel
theorem dX5_statesBehind_53 : decode cX5_statesBehind 53 = .ok (.aload_n 0, 1) := by decide +kernel
theorem dX5_statesBehind_54 : decode cX5_statesBehind 54 = .ok (.getfield 23, 3) := by decide +kernel
theorem dX5_statesBehind_57 : decode cX5_statesBehind 57 = .ok (.iload 6, 2) := by decide +kernel
theorem dX5_statesBehind_59 : decode cX5_statesBehind 59 = .ok (.invokevirtual 44, 3) := by decide +kernel
theorem dX5_statesBehind_62 : decode cX5_statesBehind 62 = .ok (.bipush 42, 2) := by decide +kernel
theorem dX5_statesBehind_64 : decode cX5_statesBehind 64 = .ok (.if_icmp .ne 10, 3) := by decide +kernel
theorem dX5_statesBehind_67 : decode cX5_statesBehind 67 = .ok (.iconst 1, 1) := by decide +kernel
theorem dX5_statesBehind_68 : decode cX5_statesBehind 68 = .ok (.iload 6, 2) := by decide +kernel
theorem dX5_statesBehind_70 : decode cX5_statesBehind 70 = .ok (.ishl, 1) := by decide +kernel
theorem dX5_statesBehind_71 : decode cX5_statesBehind 71 = .ok (.goto 9, 3) := by decide +kernel
theorem dX5_statesBehind_74 : decode cX5_statesBehind 74 = .ok (.iconst 1, 1) := by decide +kernel
theorem dX5_statesBehind_75 : decode cX5_statesBehind 75 = .ok (.iload 6, 2) := by decide +kernel
theorem dX5_statesBehind_77 : decode cX5_statesBehind 77 = .ok (.iconst 1, 1) := by decide +kernel
theorem dX5_statesBehind_78 : decode cX5_statesBehind 78 = .ok (.iadd, 1) := by decide +kernel
theorem dX5_statesBehind_79 : decode cX5_statesBehind 79 = .ok (.ishl, 1) := by decide +kernel
theorem dX5_statesBehind_80 : decode cX5_statesBehind 80 = .ok (.ior, 1) := by decide +kernel
theorem dX5_statesBehind_81 : decode cX5_statesBehind 81 = .ok (.istore 5, 2) := by decide +kernel
theorem dX5_statesBehind_83 : decode cX5_statesBehind 83 = .ok (.iinc 6 1, 3) := by decide +kernel
theorem dX5_statesBehind_86 : decode cX5_statesBehind 86 = .ok (.goto (-69), 3) := by decide +kernel
theorem dX5_statesBehind_89 : decode cX5_statesBehind 89 = .ok (.iload 5, 2) := by decide +kernel
theorem dX5_statesBehind_91 : decode cX5_statesBehind 91 = .ok (.ireturn, 1) := by decide +kernel
theorem dX5_isTaken_0 : decode cX5_isTaken 0 = .ok (.aload_n 0, 1) := by decide +kernel
theorem dX5_isTaken_1 : decode cX5_isTaken 1 = .ok (.getfield 14, 3) := by decide +kernel
theorem dX5_isTaken_4 : decode cX5_isTaken 4 = .ok (.iload_n 1, 1) := by decide +kernel
theorem dX5_isTaken_5 : decode cX5_isTaken 5 = .ok (.invokevirtual 44, 3) := by decide +kernel
theorem dX5_isTaken_8 : decode cX5_isTaken 8 = .ok (.istore 5, 2) := by decide +kernel
theorem dX5_isTaken_10 : decode cX5_isTaken 10 = .ok (.iload 5, 2) := by decide +kernel
theorem dX5_isTaken_12 : decode cX5_isTaken 12 = .ok (.iconst (-1), 1) := by decide +kernel
theorem dX5_isTaken_13 : decode cX5_isTaken 13 = .ok (.if_icmp .eq 28, 3) := by decide +kernel
theorem dX5_isTaken_16 : decode cX5_isTaken 16 = .ok (.iload_n 3, 1) := by decide +kernel
theorem dX5_isTaken_17 : decode cX5_isTaken 17 = .ok (.iconst 1, 1) := by decide +kernel
theorem dX5_isTaken_18 : decode cX5_isTaken 18 = .ok (.if_icmp .lt 21, 3) := by decide +kernel
theorem dX5_isTaken_21 : decode cX5_isTaken 21 = .ok (.aload_n 0, 1) := by decide +kernel
theorem dX5_isTaken_22 : decode cX5_isTaken 22 = .ok (.iload 5, 2) := by decide +kernel
theorem dX5_isTaken_24 : decode cX5_isTaken 24 = .ok (.aload_n 2, 1) := by decide +kernel
theorem dX5_isTaken_25 : decode cX5_isTaken 25 = .ok (.iload_n 3, 1) := by decide +kernel
theorem dX5_isTaken_26 : decode cX5_isTaken 26 = .ok (.iconst 1, 1) := by decide +kernel
theorem dX5_isTaken_27 : decode cX5_isTaken 27 = .ok (.isub, 1) := by decide +kernel
theorem dX5_isTaken_28 : decode cX5_isTaken 28 = .ok (.invokevirtual 44, 3) := by decide +kernel
theorem dX5_isTaken_31 : decode cX5_isTaken 31 = .ok (.aload 4, 2) := by decide +kernel
theorem dX5_isTaken_33 : decode cX5_isTaken 33 = .ok (.invokevirtual 86, 3) := by decide +kernel
theorem dX5_isTaken_36 : decode cX5_isTaken 36 = .ok (.ifCond .ne 5, 3) := by decide +kernel
theorem dX5_isTaken_39 : decode cX5_isTaken 39 = .ok (.iconst 0, 1) := by decide +kernel
theorem dX5_isTaken_40 : decode cX5_isTaken 40 = .ok (.ireturn, 1) := by decide +kernel
theorem dX5_isTaken_41 : decode cX5_isTaken 41 = .ok (.aload_n 0, 1) := by decide +kernel
theorem dX5_isTaken_42 : decode cX5_isTaken 42 = .ok (.aload_n 0, 1) := by decide +kernel
theorem dX5_isTaken_43 : decode cX5_isTaken 43 = .ok (.getfield 20, 3) := by decide +kernel
theorem dX5_isTaken_46 : decode cX5_isTaken 46 = .ok (.iload_n 1, 1) := by decide +kernel
theorem dX5_isTaken_47 : decode cX5_isTaken 47 = .ok (.invokevirtual 44, 3) := by decide +kernel
theorem dX5_isTaken_50 : decode cX5_isTaken 50 = .ok (.aload_n 2, 1) := by decide +kernel
theorem dX5_isTaken_51 : decode cX5_isTaken 51 = .ok (.iload_n 3, 1) := by decide +kernel
theorem dX5_isTaken_52 : decode cX5_isTaken 52 = .ok (.invokevirtual 44, 3) := by decide +kernel
theorem dX5_isTaken_55 : decode cX5_isTaken 55 = .ok (.aload 4, 2) := by decide +kernel
theorem dX5_isTaken_57 : decode cX5_isTaken 57 = .ok (.invokevirtual 86, 3) := by decide +kernel
theorem dX5_isTaken_60 : decode cX5_isTaken 60 = .ok (.ireturn, 1) := by decide +kernel
theorem dX5_isInSet_0 : decode cX5_isInSet 0 = .ok (.iload_n 1, 1) := by decide +kernel
theorem dX5_isInSet_1 : decode cX5_isInSet 1 = .ok (.sipush 1000, 3) := by decide +kernel
theorem dX5_isInSet_4 : decode cX5_isInSet 4 = .ok (.if_icmp .lt 7, 3) := by decide +kernel
theorem dX5_isInSet_7 : decode cX5_isInSet 7 = .ok (.iconst 1, 1) := by decide +kernel
theorem dX5_isInSet_8 : decode cX5_isInSet 8 = .ok (.goto 4, 3) := by decide +kernel
theorem dX5_isInSet_11 : decode cX5_isInSet 11 = .ok (.iconst 0, 1) := by decide +kernel
theorem dX5_isInSet_12 : decode cX5_isInSet 12 = .ok (.istore 4, 2) := by decide +kernel
theorem dX5_isInSet_14 : decode cX5_isInSet 14 = .ok (.iload 4, 2) := by decide +kernel
theorem dX5_isInSet_16 : decode cX5_isInSet 16 = .ok (.ifCond .eq 11, 3) := by decide +kernel
theorem dX5_isInSet_19 : decode cX5_isInSet 19 = .ok (.iload_n 1, 1) := by decide +kernel
theorem dX5_isInSet_20 : decode cX5_isInSet 20 = .ok (.sipush 1000, 3) := by decide +kernel
theorem dX5_isInSet_23 : decode cX5_isInSet 23 = .ok (.isub, 1) := by decide +kernel
theorem dX5_isInSet_24 : decode cX5_isInSet 24 = .ok (.goto 4, 3) := by decide +kernel
theorem dX5_isInSet_27 : decode cX5_isInSet 27 = .ok (.iload_n 1, 1) := by decide +kernel
theorem dX5_isInSet_28 : decode cX5_isInSet 28 = .ok (.istore 5, 2) := by decide +kernel
theorem dX5_isInSet_30 : decode cX5_isInSet 30 = .ok (.iload 5, 2) := by decide +kernel
theorem dX5_isInSet_32 : decode cX5_isInSet 32 = .ok (.bipush 96, 2) := by decide +kernel
theorem dX5_isInSet_34 : decode cX5_isInSet 34 = .ok (.if_icmp .ne 9, 3) := by decide +kernel
theorem dX5_isInSet_37 : decode cX5_isInSet 37 = .ok (.iconst 1, 1) := by decide +kernel
theorem dX5_isInSet_38 : decode cX5_isInSet 38 = .ok (.istore 6, 2) := by decide +kernel
theorem dX5_isInSet_40 : decode cX5_isInSet 40 = .ok (.goto 75, 3) := by decide +kernel
theorem dX5_isInSet_43 : decode cX5_isInSet 43 = .ok (.iload 5, 2) := by decide +kernel
theorem dX5_isInSet_45 : decode cX5_isInSet 45 = .ok (.bipush 97, 2) := by decide +kernel
theorem dX5_isInSet_47 : decode cX5_isInSet 47 = .ok (.if_icmp .ne 25, 3) := by decide +kernel
theorem dX5_isInSet_50 : decode cX5_isInSet 50 = .ok (.aload_n 0, 1) := by decide +kernel
theorem dX5_isInSet_51 : decode cX5_isInSet 51 = .ok (.getfield 26, 3) := by decide +kernel
theorem dX5_isInSet_54 : decode cX5_isInSet 54 = .ok (.iload_n 2, 1) := by decide +kernel
theorem dX5_isInSet_55 : decode cX5_isInSet 55 = .ok (.invokevirtual 44, 3) := by decide +kernel
theorem dX5_isInSet_58 : decode cX5_isInSet 58 = .ok (.iconst 1, 1) := by decide +kernel
theorem dX5_isInSet_59 : decode cX5_isInSet 59 = .ok (.if_icmp .ne 7, 3) := by decide +kernel
theorem dX5_isInSet_62 : decode cX5_isInSet 62 = .ok (.iconst 1, 1) := by decide +kernel
theorem dX5_isInSet_63 : decode cX5_isInSet 63 = .ok (.goto 4, 3) := by decide +kernel
theorem dX5_isInSet_66 : decode cX5_isInSet 66 = .ok (.iconst 0, 1) := by decide +kernel
theorem dX5_isInSet_67 : decode cX5_isInSet 67 = .ok (.istore 6, 2) := by decide +kernel
theorem dX5_isInSet_69 : decode cX5_isInSet 69 = .ok (.goto 46, 3) := by decide +kernel
theorem dX5_isInSet_72 : decode cX5_isInSet 72 = .ok (.iload 5, 2) := by decide +kernel
theorem dX5_isInSet_74 : decode cX5_isInSet 74 = .ok (.bipush 100, 2) := by decide +kernel
theorem dX5_isInSet_76 : decode cX5_isInSet 76 = .ok (.if_icmp .lt 26, 3) := by decide +kernel
theorem dX5_isInSet_79 : decode cX5_isInSet 79 = .ok (.aload_n 3, 1) := by decide +kernel
theorem dX5_isInSet_80 : decode cX5_isInSet 80 = .ok (.iload_n 2, 1) := by decide +kernel
theorem dX5_isInSet_81 : decode cX5_isInSet 81 = .ok (.invokevirtual 90, 3) := by decide +kernel
theorem dX5_isInSet_84 : decode cX5_isInSet 84 = .ok (.iload 5, 2) := by decide +kernel
theorem dX5_isInSet_86 : decode cX5_isInSet 86 = .ok (.bipush 100, 2) := by decide +kernel
theorem dX5_isInSet_88 : decode cX5_isInSet 88 = .ok (.isub, 1) := by decide +kernel
theorem dX5_isInSet_89 : decode cX5_isInSet 89 = .ok (.if_icmp .ne 7, 3) := by decide +kernel
theorem dX5_isInSet_92 : decode cX5_isInSet 92 = .ok (.iconst 1, 1) := by decide +kernel
theorem dX5_isInSet_93 : decode cX5_isInSet 93 = .ok (.goto 4, 3) := by decide +kernel
theorem dX5_isInSet_96 : decode cX5_isInSet 96 = .ok (.iconst 0, 1) := by decide +kernel
theorem dX5_isInSet_97 : decode cX5_isInSet 97 = .ok (.istore 6, 2) := by decide +kernel
theorem dX5_isInSet_99 : decode cX5_isInSet 99 = .ok (.goto 16, 3) := by decide +kernel
theorem dX5_isInSet_102 : decode cX5_isInSet 102 = .ok (.iload_n 2, 1) := by decide +kernel
theorem dX5_isInSet_103 : decode cX5_isInSet 103 = .ok (.iload 5, 2) := by decide +kernel
theorem dX5_isInSet_105 : decode cX5_isInSet 105 = .ok (.if_icmp .ne 7, 3) := by decide +kernel
theorem dX5_isInSet_108 : decode cX5_isInSet 108 = .ok (.iconst 1, 1) := by decide +kernel
theorem dX5_isInSet_109 : decode cX5_isInSet 109 = .ok (.goto 4, 3) := by decide +kernel
theorem dX5_isInSet_112 : decode cX5_isInSet 112 = .ok (.iconst 0, 1) := by decide +kernel
theorem dX5_isInSet_113 : decode cX5_isInSet 113 = .ok (.istore 6, 2) := by decide +kernel
theorem dX5_isInSet_115 : decode cX5_isInSet 115 = .ok (.iload 6, 2) := by decide +kernel
theorem dX5_isInSet_117 : decode cX5_isInSet 117 = .ok (.iload 4, 2) := by decide +kernel
theorem dX5_isInSet_119 : decode cX5_isInSet 119 = .ok (.if_icmp .eq 7, 3) := by decide +kernel
theorem dX5_isInSet_122 : decode cX5_isInSet 122 = .ok (.iconst 1, 1) := by decide +kernel
theorem dX5_isInSet_123 : decode cX5_isInSet 123 = .ok (.goto 4, 3) := by decide +kernel
theorem dX5_isInSet_126 : decode cX5_isInSet 126 = .ok (.iconst 0, 1) := by decide +kernel
theorem dX5_isInSet_127 : decode cX5_isInSet 127 = .ok (.ireturn, 1) := by decide +kernel
theorem dX6_init_0 : decode cX6_init 0 = .ok (.aload_n 0, 1) := by decide +kernel
theorem dX6_init_1 : decode cX6_init 1 = .ok (.invokespecial 1, 3) := by decide +kernel
theorem dX6_init_4 : decode cX6_init 4 = .ok (.aload_n 0, 1) := by decide +kernel
theorem dX6_init_5 : decode cX6_init 5 = .ok (.iconst 1, 1) := by decide +kernel
theorem dX6_init_6 : decode cX6_init 6 = .ok (.putfield 7, 3) := by decide +kernel
theorem dX6_init_9 : decode cX6_init 9 = .ok (.return_, 1) := by decide +kernel
theorem dX6_tell_0 : decode cX6_tell 0 = .ok (.aload_n 0, 1) := by decide +kernel
theorem dX6_tell_1 : decode cX6_tell 1 = .ok (.iload_n 1, 1) := by decide +kernel
theorem dX6_tell_2 : decode cX6_tell 2 = .ok (.putfield 13, 3) := by decide +kernel
theorem dX6_tell_5 : decode cX6_tell 5 = .ok (.aload_n 0, 1) := by decide +kernel
theorem dX6_tell_6 : decode cX6_tell 6 = .ok (.iload_n 2, 1) := by decide +kernel
theorem dX6_tell_7 : decode cX6_tell 7 = .ok (.putfield 7, 3) := by decide +kernel
theorem dX6_tell_10 : decode cX6_tell 10 = .ok (.aload_n 0, 1) := by decide +kernel
theorem dX6_tell_11 : decode cX6_tell 11 = .ok (.iload_n 3, 1) := by decide +kernel
theorem dX6_tell_12 : decode cX6_tell 12 = .ok (.putfield 16, 3) := by decide +kernel
theorem dX6_tell_15 : decode cX6_tell 15 = .ok (.aload_n 0, 1) := by decide +kernel
theorem dX6_tell_16 : decode cX6_tell 16 = .ok (.iload 4, 2) := by decide +kernel
theorem dX6_tell_18 : decode cX6_tell 18 = .ok (.putfield 19, 3) := by decide +kernel
theorem dX6_tell_21 : decode cX6_tell 21 = .ok (.aload_n 0, 1) := by decide +kernel
theorem dX6_tell_22 : decode cX6_tell 22 = .ok (.iload 5, 2) := by decide +kernel
theorem dX6_tell_24 : decode cX6_tell 24 = .ok (.putfield 22, 3) := by decide +kernel
theorem dX6_tell_27 : decode cX6_tell 27 = .ok (.aload_n 0, 1) := by decide +kernel
theorem dX6_tell_28 : decode cX6_tell 28 = .ok (.iload 6, 2) := by decide +kernel
theorem dX6_tell_30 : decode cX6_tell 30 = .ok (.putfield 25, 3) := by decide +kernel
theorem dX6_tell_33 : decode cX6_tell 33 = .ok (.aload_n 0, 1) := by decide +kernel
theorem dX6_tell_34 : decode cX6_tell 34 = .ok (.iload 7, 2) := by decide +kernel
theorem dX6_tell_36 : decode cX6_tell 36 = .ok (.putfield 28, 3) := by decide +kernel
theorem dX6_tell_39 : decode cX6_tell 39 = .ok (.return_, 1) := by decide +kernel
theorem dX6_copyFrom_0 : decode cX6_copyFrom 0 = .ok (.aload_n 0, 1) := by decide +kernel
theorem dX6_copyFrom_1 : decode cX6_copyFrom 1 = .ok (.aload_n 1, 1) := by decide +kernel
theorem dX6_copyFrom_2 : decode cX6_copyFrom 2 = .ok (.getfield 13, 3) := by decide +kernel
theorem dX6_copyFrom_5 : decode cX6_copyFrom 5 = .ok (.aload_n 1, 1) := by decide +kernel
theorem dX6_copyFrom_6 : decode cX6_copyFrom 6 = .ok (.getfield 7, 3) := by decide +kernel
theorem dX6_copyFrom_9 : decode cX6_copyFrom 9 = .ok (.aload_n 1, 1) := by decide +kernel
theorem dX6_copyFrom_10 : decode cX6_copyFrom 10 = .ok (.getfield 16, 3) := by decide +kernel
theorem dX6_copyFrom_13 : decode cX6_copyFrom 13 = .ok (.aload_n 1, 1) := by decide +kernel
theorem dX6_copyFrom_14 : decode cX6_copyFrom 14 = .ok (.getfield 19, 3) := by decide +kernel
theorem dX6_copyFrom_17 : decode cX6_copyFrom 17 = .ok (.aload_n 1, 1) := by decide +kernel
theorem dX6_copyFrom_18 : decode cX6_copyFrom 18 = .ok (.getfield 22, 3) := by decide +kernel
theorem dX6_copyFrom_21 : decode cX6_copyFrom 21 = .ok (.aload_n 1, 1) := by decide +kernel
theorem dX6_copyFrom_22 : decode cX6_copyFrom 22 = .ok (.getfield 25, 3) := by decide +kernel
theorem dX6_copyFrom_25 : decode cX6_copyFrom 25 = .ok (.aload_n 1, 1) := by decide +kernel
theorem dX6_copyFrom_26 : decode cX6_copyFrom 26 = .ok (.getfield 28, 3) := by decide +kernel
theorem dX6_copyFrom_29 : decode cX6_copyFrom 29 = .ok (.invokevirtual 31, 3) := by decide +kernel
theorem dX6_copyFrom_32 : decode cX6_copyFrom 32 = .ok (.return_, 1) := by decide +kernel
theorem dX6_classTold_0 : decode cX6_classTold 0 = .ok (.aload_n 0, 1) := by decide +kernel
theorem dX6_classTold_1 : decode cX6_classTold 1 = .ok (.getfield 13, 3) := by decide +kernel
theorem dX6_classTold_4 : decode cX6_classTold 4 = .ok (.ireturn, 1) := by decide +kernel
theorem dX6_fits_0 : decode cX6_fits 0 = .ok (.aload_n 0, 1) := by decide +kernel
theorem dX6_fits_1 : decode cX6_fits 1 = .ok (.getfield 22, 3) := by decide +kernel
theorem dX6_fits_4 : decode cX6_fits 4 = .ok (.ifCond .le 29, 3) := by decide +kernel
theorem dX6_fits_7 : decode cX6_fits 7 = .ok (.iload_n 1, 1) := by decide +kernel
theorem dX6_fits_8 : decode cX6_fits 8 = .ok (.aload_n 0, 1) := by decide +kernel
theorem dX6_fits_9 : decode cX6_fits 9 = .ok (.getfield 22, 3) := by decide +kernel
theorem dX6_fits_12 : decode cX6_fits 12 = .ok (.invokestatic 35, 3) := by decide +kernel
theorem dX6_fits_15 : decode cX6_fits 15 = .ok (.aload_n 0, 1) := by decide +kernel
theorem dX6_fits_16 : decode cX6_fits 16 = .ok (.getfield 25, 3) := by decide +kernel
theorem dX6_fits_19 : decode cX6_fits 19 = .ok (.aload_n 0, 1) := by decide +kernel
theorem dX6_fits_20 : decode cX6_fits 20 = .ok (.getfield 28, 3) := by decide +kernel
theorem dX6_fits_23 : decode cX6_fits 23 = .ok (.invokestatic 39, 3) := by decide +kernel
theorem dX6_fits_26 : decode cX6_fits 26 = .ok (.ifCond .eq 7, 3) := by decide +kernel
theorem dX6_fits_29 : decode cX6_fits 29 = .ok (.iconst 1, 1) := by decide +kernel
theorem dX6_fits_30 : decode cX6_fits 30 = .ok (.goto 4, 3) := by decide +kernel
theorem dX6_fits_33 : decode cX6_fits 33 = .ok (.iconst 0, 1) := by decide +kernel
theorem dX6_fits_34 : decode cX6_fits 34 = .ok (.istore_n 2, 1) := by decide +kernel
theorem dX6_fits_35 : decode cX6_fits 35 = .ok (.iload_n 2, 1) := by decide +kernel
theorem dX6_fits_36 : decode cX6_fits 36 = .ok (.ifCond .ne 29, 3) := by decide +kernel
theorem dX6_fits_39 : decode cX6_fits 39 = .ok (.iload_n 1, 1) := by decide +kernel
theorem dX6_fits_40 : decode cX6_fits 40 = .ok (.aload_n 0, 1) := by decide +kernel
theorem dX6_fits_41 : decode cX6_fits 41 = .ok (.getfield 7, 3) := by decide +kernel
theorem dX6_fits_44 : decode cX6_fits 44 = .ok (.invokestatic 35, 3) := by decide +kernel
theorem dX6_fits_47 : decode cX6_fits 47 = .ok (.aload_n 0, 1) := by decide +kernel
theorem dX6_fits_48 : decode cX6_fits 48 = .ok (.getfield 16, 3) := by decide +kernel
theorem dX6_fits_51 : decode cX6_fits 51 = .ok (.aload_n 0, 1) := by decide +kernel
theorem dX6_fits_52 : decode cX6_fits 52 = .ok (.getfield 19, 3) := by decide +kernel
theorem dX6_fits_55 : decode cX6_fits 55 = .ok (.invokestatic 39, 3) := by decide +kernel
theorem dX6_fits_58 : decode cX6_fits 58 = .ok (.ifCond .eq 7, 3) := by decide +kernel
theorem dX6_fits_61 : decode cX6_fits 61 = .ok (.iconst 1, 1) := by decide +kernel
theorem dX6_fits_62 : decode cX6_fits 62 = .ok (.goto 4, 3) := by decide +kernel
theorem dX6_fits_65 : decode cX6_fits 65 = .ok (.iconst 0, 1) := by decide +kernel
theorem dX6_fits_66 : decode cX6_fits 66 = .ok (.ireturn, 1) := by decide +kernel
theorem dX6_remainder_0 : decode cX6_remainder 0 = .ok (.iload_n 1, 1) := by decide +kernel
theorem dX6_remainder_1 : decode cX6_remainder 1 = .ok (.iconst 1, 1) := by decide +kernel
theorem dX6_remainder_2 : decode cX6_remainder 2 = .ok (.if_icmp .ge 7, 3) := by decide +kernel
theorem dX6_remainder_5 : decode cX6_remainder 5 = .ok (.iconst 0, 1) := by decide +kernel
theorem dX6_remainder_6 : decode cX6_remainder 6 = .ok (.goto 6, 3) := by decide +kernel
theorem dX6_remainder_9 : decode cX6_remainder 9 = .ok (.iload_n 0, 1) := by decide +kernel
theorem dX6_remainder_10 : decode cX6_remainder 10 = .ok (.iload_n 1, 1) := by decide +kernel
theorem dX6_remainder_11 : decode cX6_remainder 11 = .ok (.irem, 1) := by decide +kernel
theorem dX6_remainder_12 : decode cX6_remainder 12 = .ok (.ireturn, 1) := by decide +kernel
theorem dX7_init_0 : decode cX7_init 0 = .ok (.aload_n 0, 1) := by decide +kernel
theorem dX7_init_1 : decode cX7_init 1 = .ok (.invokespecial 3, 3) := by decide +kernel
theorem dX7_init_4 : decode cX7_init 4 = .ok (.aload_n 0, 1) := by decide +kernel
theorem dX7_init_5 : decode cX7_init 5 = .ok (.iload_n 1, 1) := by decide +kernel
theorem dX7_init_6 : decode cX7_init 6 = .ok (.ifCond .ge 7, 3) := by decide +kernel
theorem dX7_init_9 : decode cX7_init 9 = .ok (.iconst 0, 1) := by decide +kernel
theorem dX7_init_10 : decode cX7_init 10 = .ok (.goto 4, 3) := by decide +kernel
theorem dX7_init_13 : decode cX7_init 13 = .ok (.iload_n 1, 1) := by decide +kernel
theorem dX7_init_14 : decode cX7_init 14 = .ok (.newarray .int, 2) := by decide +kernel
theorem dX7_init_16 : decode cX7_init 16 = .ok (.putfield 9, 3) := by decide +kernel
theorem dX7_init_19 : decode cX7_init 19 = .ok (.return_, 1) := by decide +kernel
theorem dX7_size_0 : decode cX7_size 0 = .ok (.aload_n 0, 1) := by decide +kernel
theorem dX7_size_1 : decode cX7_size 1 = .ok (.getfield 15, 3) := by decide +kernel
theorem dX7_size_4 : decode cX7_size 4 = .ok (.ireturn, 1) := by decide +kernel
theorem dX7_get_0 : decode cX7_get 0 = .ok (.iload_n 1, 1) := by decide +kernel
theorem dX7_get_1 : decode cX7_get 1 = .ok (.ifCond .lt 20, 3) := by decide +kernel
theorem dX7_get_4 : decode cX7_get 4 = .ok (.iload_n 1, 1) := by decide +kernel
theorem dX7_get_5 : decode cX7_get 5 = .ok (.aload_n 0, 1) := by decide +kernel
theorem dX7_get_6 : decode cX7_get 6 = .ok (.getfield 15, 3) := by decide +kernel
theorem dX7_get_9 : decode cX7_get 9 = .ok (.if_icmp .ge 12, 3) := by decide +kernel
theorem dX7_get_12 : decode cX7_get 12 = .ok (.iload_n 1, 1) := by decide +kernel
theorem dX7_get_13 : decode cX7_get 13 = .ok (.aload_n 0, 1) := by decide +kernel
theorem dX7_get_14 : decode cX7_get 14 = .ok (.getfield 9, 3) := by decide +kernel
theorem dX7_get_17 : decode cX7_get 17 = .ok (.arraylength, 1) := by decide +kernel
theorem dX7_get_18 : decode cX7_get 18 = .ok (.if_icmp .lt 7, 3) := by decide +kernel
theorem dX7_get_21 : decode cX7_get 21 = .ok (.iconst (-1), 1) := by decide +kernel
theorem dX7_get_22 : decode cX7_get 22 = .ok (.goto 9, 3) := by decide +kernel
theorem dX7_get_25 : decode cX7_get 25 = .ok (.aload_n 0, 1) := by decide +kernel
theorem dX7_get_26 : decode cX7_get 26 = .ok (.getfield 9, 3) := by decide +kernel
theorem dX7_get_29 : decode cX7_get 29 = .ok (.iload_n 1, 1) := by decide +kernel
theorem dX7_get_30 : decode cX7_get 30 = .ok (.iaload, 1) := by decide +kernel
theorem dX7_get_31 : decode cX7_get 31 = .ok (.ireturn, 1) := by decide +kernel
theorem dX7_set_0 : decode cX7_set 0 = .ok (.iload_n 1, 1) := by decide +kernel
theorem dX7_set_1 : decode cX7_set 1 = .ok (.ifCond .lt 27, 3) := by decide +kernel
theorem dX7_set_4 : decode cX7_set 4 = .ok (.iload_n 1, 1) := by decide +kernel
theorem dX7_set_5 : decode cX7_set 5 = .ok (.aload_n 0, 1) := by decide +kernel
theorem dX7_set_6 : decode cX7_set 6 = .ok (.getfield 15, 3) := by decide +kernel
theorem dX7_set_9 : decode cX7_set 9 = .ok (.if_icmp .ge 19, 3) := by decide +kernel
theorem dX7_set_12 : decode cX7_set 12 = .ok (.iload_n 1, 1) := by decide +kernel
theorem dX7_set_13 : decode cX7_set 13 = .ok (.aload_n 0, 1) := by decide +kernel
theorem dX7_set_14 : decode cX7_set 14 = .ok (.getfield 9, 3) := by decide +kernel
theorem dX7_set_17 : decode cX7_set 17 = .ok (.arraylength, 1) := by decide +kernel
theorem dX7_set_18 : decode cX7_set 18 = .ok (.if_icmp .ge 10, 3) := by decide +kernel
theorem dX7_set_21 : decode cX7_set 21 = .ok (.aload_n 0, 1) := by decide +kernel
theorem dX7_set_22 : decode cX7_set 22 = .ok (.getfield 9, 3) := by decide +kernel
theorem dX7_set_25 : decode cX7_set 25 = .ok (.iload_n 1, 1) := by decide +kernel
theorem dX7_set_26 : decode cX7_set 26 = .ok (.iload_n 2, 1) := by decide +kernel
theorem dX7_set_27 : decode cX7_set 27 = .ok (.iastore, 1) := by decide +kernel
theorem dX7_set_28 : decode cX7_set 28 = .ok (.return_, 1) := by decide +kernel
theorem dX7_add_0 : decode cX7_add 0 = .ok (.aload_n 0, 1) := by decide +kernel
theorem dX7_add_1 : decode cX7_add 1 = .ok (.getfield 15, 3) := by decide +kernel
theorem dX7_add_4 : decode cX7_add 4 = .ok (.ifCond .lt 15, 3) := by decide +kernel
theorem dX7_add_7 : decode cX7_add 7 = .ok (.aload_n 0, 1) := by decide +kernel
theorem dX7_add_8 : decode cX7_add 8 = .ok (.getfield 15, 3) := by decide +kernel
theorem dX7_add_11 : decode cX7_add 11 = .ok (.aload_n 0, 1) := by decide +kernel
theorem dX7_add_12 : decode cX7_add 12 = .ok (.getfield 9, 3) := by decide +kernel
theorem dX7_add_15 : decode cX7_add 15 = .ok (.arraylength, 1) := by decide +kernel
theorem dX7_add_16 : decode cX7_add 16 = .ok (.if_icmp .lt 5, 3) := by decide +kernel
theorem dX7_add_19 : decode cX7_add 19 = .ok (.iconst 0, 1) := by decide +kernel
theorem dX7_add_20 : decode cX7_add 20 = .ok (.ireturn, 1) := by decide +kernel
theorem dX7_add_21 : decode cX7_add 21 = .ok (.aload_n 0, 1) := by decide +kernel
theorem dX7_add_22 : decode cX7_add 22 = .ok (.getfield 9, 3) := by decide +kernel
theorem dX7_add_25 : decode cX7_add 25 = .ok (.aload_n 0, 1) := by decide +kernel
theorem dX7_add_26 : decode cX7_add 26 = .ok (.getfield 15, 3) := by decide +kernel
theorem dX7_add_29 : decode cX7_add 29 = .ok (.iload_n 1, 1) := by decide +kernel
theorem dX7_add_30 : decode cX7_add 30 = .ok (.iastore, 1) := by decide +kernel
theorem dX7_add_31 : decode cX7_add 31 = .ok (.aload_n 0, 1) := by decide +kernel
theorem dX7_add_32 : decode cX7_add 32 = .ok (.dup, 1) := by decide +kernel
theorem dX7_add_33 : decode cX7_add 33 = .ok (.getfield 15, 3) := by decide +kernel
theorem dX7_add_36 : decode cX7_add 36 = .ok (.iconst 1, 1) := by decide +kernel
theorem dX7_add_37 : decode cX7_add 37 = .ok (.iadd, 1) := by decide +kernel
theorem dX7_add_38 : decode cX7_add 38 = .ok (.putfield 15, 3) := by decide +kernel
theorem dX7_add_41 : decode cX7_add 41 = .ok (.iconst 1, 1) := by decide +kernel
theorem dX7_add_42 : decode cX7_add 42 = .ok (.ireturn, 1) := by decide +kernel
theorem dX7_removeLast_0 : decode cX7_removeLast 0 = .ok (.aload_n 0, 1) := by decide +kernel
theorem dX7_removeLast_1 : decode cX7_removeLast 1 = .ok (.aload_n 0, 1) := by decide +kernel
theorem dX7_removeLast_2 : decode cX7_removeLast 2 = .ok (.getfield 15, 3) := by decide +kernel
theorem dX7_removeLast_5 : decode cX7_removeLast 5 = .ok (.iconst 1, 1) := by decide +kernel
theorem dX7_removeLast_6 : decode cX7_removeLast 6 = .ok (.isub, 1) := by decide +kernel
theorem dX7_removeLast_7 : decode cX7_removeLast 7 = .ok (.invokevirtual 19, 3) := by decide +kernel
theorem dX7_removeLast_10 : decode cX7_removeLast 10 = .ok (.istore_n 1, 1) := by decide +kernel
theorem dX7_removeLast_11 : decode cX7_removeLast 11 = .ok (.aload_n 0, 1) := by decide +kernel
theorem dX7_removeLast_12 : decode cX7_removeLast 12 = .ok (.aload_n 0, 1) := by decide +kernel
theorem dX7_removeLast_13 : decode cX7_removeLast 13 = .ok (.getfield 15, 3) := by decide +kernel
theorem dX7_removeLast_16 : decode cX7_removeLast 16 = .ok (.iconst 1, 1) := by decide +kernel
theorem dX7_removeLast_17 : decode cX7_removeLast 17 = .ok (.isub, 1) := by decide +kernel
theorem dX7_removeLast_18 : decode cX7_removeLast 18 = .ok (.invokevirtual 23, 3) := by decide +kernel
theorem dX7_removeLast_21 : decode cX7_removeLast 21 = .ok (.iload_n 1, 1) := by decide +kernel
theorem dX7_removeLast_22 : decode cX7_removeLast 22 = .ok (.ireturn, 1) := by decide +kernel
theorem dX7_cutTo_0 : decode cX7_cutTo 0 = .ok (.iload_n 1, 1) := by decide +kernel
theorem dX7_cutTo_1 : decode cX7_cutTo 1 = .ok (.ifCond .lt 16, 3) := by decide +kernel
theorem dX7_cutTo_4 : decode cX7_cutTo 4 = .ok (.iload_n 1, 1) := by decide +kernel
theorem dX7_cutTo_5 : decode cX7_cutTo 5 = .ok (.aload_n 0, 1) := by decide +kernel
theorem dX7_cutTo_6 : decode cX7_cutTo 6 = .ok (.getfield 15, 3) := by decide +kernel
theorem dX7_cutTo_9 : decode cX7_cutTo 9 = .ok (.if_icmp .ge 8, 3) := by decide +kernel
theorem dX7_cutTo_12 : decode cX7_cutTo 12 = .ok (.aload_n 0, 1) := by decide +kernel
theorem dX7_cutTo_13 : decode cX7_cutTo 13 = .ok (.iload_n 1, 1) := by decide +kernel
theorem dX7_cutTo_14 : decode cX7_cutTo 14 = .ok (.putfield 15, 3) := by decide +kernel
theorem dX7_cutTo_17 : decode cX7_cutTo 17 = .ok (.return_, 1) := by decide +kernel
theorem dX7_refill_0 : decode cX7_refill 0 = .ok (.aload_n 0, 1) := by decide +kernel
theorem dX7_refill_1 : decode cX7_refill 1 = .ok (.iconst 0, 1) := by decide +kernel
theorem dX7_refill_2 : decode cX7_refill 2 = .ok (.putfield 15, 3) := by decide +kernel
theorem dX7_refill_5 : decode cX7_refill 5 = .ok (.iconst 0, 1) := by decide +kernel
theorem dX7_refill_6 : decode cX7_refill 6 = .ok (.istore_n 3, 1) := by decide +kernel
theorem dX7_refill_7 : decode cX7_refill 7 = .ok (.iload_n 3, 1) := by decide +kernel
theorem dX7_refill_8 : decode cX7_refill 8 = .ok (.iload_n 2, 1) := by decide +kernel
theorem dX7_refill_9 : decode cX7_refill 9 = .ok (.if_icmp .ge 15, 3) := by decide +kernel
theorem dX7_refill_12 : decode cX7_refill 12 = .ok (.aload_n 0, 1) := by decide +kernel
theorem dX7_refill_13 : decode cX7_refill 13 = .ok (.iload_n 1, 1) := by decide +kernel
theorem dX7_refill_14 : decode cX7_refill 14 = .ok (.invokevirtual 27, 3) := by decide +kernel
theorem dX7_refill_17 : decode cX7_refill 17 = .ok (.pop, 1) := by decide +kernel
theorem dX7_refill_18 : decode cX7_refill 18 = .ok (.iinc 3 1, 3) := by decide +kernel
theorem dX7_refill_21 : decode cX7_refill 21 = .ok (.goto (-14), 3) := by decide +kernel
theorem dX7_refill_24 : decode cX7_refill 24 = .ok (.return_, 1) := by decide +kernel
theorem dX7_takeOver_0 : decode cX7_takeOver 0 = .ok (.aload_n 1, 1) := by decide +kernel
theorem dX7_takeOver_1 : decode cX7_takeOver 1 = .ok (.aload_n 0, 1) := by decide +kernel
theorem dX7_takeOver_2 : decode cX7_takeOver 2 = .ok (.if_acmp .ne 4, 3) := by decide +kernel
theorem dX7_takeOver_5 : decode cX7_takeOver 5 = .ok (.return_, 1) := by decide +kernel
theorem dX7_takeOver_6 : decode cX7_takeOver 6 = .ok (.aload_n 0, 1) := by decide +kernel
theorem dX7_takeOver_7 : decode cX7_takeOver 7 = .ok (.iconst 0, 1) := by decide +kernel
theorem dX7_takeOver_8 : decode cX7_takeOver 8 = .ok (.putfield 15, 3) := by decide +kernel
theorem dX7_takeOver_11 : decode cX7_takeOver 11 = .ok (.iconst 0, 1) := by decide +kernel
theorem dX7_takeOver_12 : decode cX7_takeOver 12 = .ok (.istore_n 2, 1) := by decide +kernel
theorem dX7_takeOver_13 : decode cX7_takeOver 13 = .ok (.iload_n 2, 1) := by decide +kernel
theorem dX7_takeOver_14 : decode cX7_takeOver 14 = .ok (.aload_n 1, 1) := by decide +kernel
theorem dX7_takeOver_15 : decode cX7_takeOver 15 = .ok (.getfield 15, 3) := by decide +kernel
theorem dX7_takeOver_18 : decode cX7_takeOver 18 = .ok (.if_icmp .ge 19, 3) := by decide +kernel
theorem dX7_takeOver_21 : decode cX7_takeOver 21 = .ok (.aload_n 0, 1) := by decide +kernel
theorem dX7_takeOver_22 : decode cX7_takeOver 22 = .ok (.aload_n 1, 1) := by decide +kernel
theorem dX7_takeOver_23 : decode cX7_takeOver 23 = .ok (.iload_n 2, 1) := by decide +kernel
theorem dX7_takeOver_24 : decode cX7_takeOver 24 = .ok (.invokevirtual 19, 3) := by decide +kernel
theorem dX7_takeOver_27 : decode cX7_takeOver 27 = .ok (.invokevirtual 27, 3) := by decide +kernel
theorem dX7_takeOver_30 : decode cX7_takeOver 30 = .ok (.pop, 1) := by decide +kernel
theorem dX7_takeOver_31 : decode cX7_takeOver 31 = .ok (.iinc 2 1, 3) := by decide +kernel
theorem dX7_takeOver_34 : decode cX7_takeOver 34 = .ok (.goto (-21), 3) := by decide +kernel
theorem dX7_takeOver_37 : decode cX7_takeOver 37 = .ok (.return_, 1) := by decide +kernel
theorem dX7_holds_0 : decode cX7_holds 0 = .ok (.iload_n 2, 1) := by decide +kernel
theorem dX7_holds_1 : decode cX7_holds 1 = .ok (.ifCond .lt 16, 3) := by decide +kernel
theorem dX7_holds_4 : decode cX7_holds 4 = .ok (.aload_n 1, 1) := by decide +kernel
theorem dX7_holds_5 : decode cX7_holds 5 = .ok (.getfield 15, 3) := by decide +kernel
theorem dX7_holds_8 : decode cX7_holds 8 = .ok (.aload_n 0, 1) := by decide +kernel
theorem dX7_holds_9 : decode cX7_holds 9 = .ok (.getfield 15, 3) := by decide +kernel
theorem dX7_holds_12 : decode cX7_holds 12 = .ok (.iload_n 2, 1) := by decide +kernel
theorem dX7_holds_13 : decode cX7_holds 13 = .ok (.isub, 1) := by decide +kernel
theorem dX7_holds_14 : decode cX7_holds 14 = .ok (.if_icmp .le 5, 3) := by decide +kernel
theorem dX7_holds_17 : decode cX7_holds 17 = .ok (.iconst 0, 1) := by decide +kernel
theorem dX7_holds_18 : decode cX7_holds 18 = .ok (.ireturn, 1) := by decide +kernel
theorem dX7_holds_19 : decode cX7_holds 19 = .ok (.iconst 0, 1) := by decide +kernel
theorem dX7_holds_20 : decode cX7_holds 20 = .ok (.istore_n 3, 1) := by decide +kernel
theorem dX7_holds_21 : decode cX7_holds 21 = .ok (.iload_n 3, 1) := by decide +kernel
theorem dX7_holds_22 : decode cX7_holds 22 = .ok (.aload_n 1, 1) := by decide +kernel
theorem dX7_holds_23 : decode cX7_holds 23 = .ok (.getfield 15, 3) := by decide +kernel
theorem dX7_holds_26 : decode cX7_holds 26 = .ok (.if_icmp .ge 26, 3) := by decide +kernel
theorem dX7_holds_29 : decode cX7_holds 29 = .ok (.aload_n 0, 1) := by decide +kernel
theorem dX7_holds_30 : decode cX7_holds 30 = .ok (.iload_n 2, 1) := by decide +kernel
theorem dX7_holds_31 : decode cX7_holds 31 = .ok (.iload_n 3, 1) := by decide +kernel
theorem dX7_holds_32 : decode cX7_holds 32 = .ok (.iadd, 1) := by decide +kernel
theorem dX7_holds_33 : decode cX7_holds 33 = .ok (.invokevirtual 19, 3) := by decide +kernel
theorem dX7_holds_36 : decode cX7_holds 36 = .ok (.aload_n 1, 1) := by decide +kernel
theorem dX7_holds_37 : decode cX7_holds 37 = .ok (.iload_n 3, 1) := by decide +kernel
theorem dX7_holds_38 : decode cX7_holds 38 = .ok (.invokevirtual 19, 3) := by decide +kernel
theorem dX7_holds_41 : decode cX7_holds 41 = .ok (.if_icmp .eq 5, 3) := by decide +kernel
theorem dX7_holds_44 : decode cX7_holds 44 = .ok (.iconst 0, 1) := by decide +kernel
theorem dX7_holds_45 : decode cX7_holds 45 = .ok (.ireturn, 1) := by decide +kernel
theorem dX7_holds_46 : decode cX7_holds 46 = .ok (.iinc 3 1, 3) := by decide +kernel
theorem dX7_holds_49 : decode cX7_holds 49 = .ok (.goto (-28), 3) := by decide +kernel
theorem dX7_holds_52 : decode cX7_holds 52 = .ok (.iconst 1, 1) := by decide +kernel
theorem dX7_holds_53 : decode cX7_holds 53 = .ok (.ireturn, 1) := by decide +kernel
theorem dX7_isLike_0 : decode cX7_isLike 0 = .ok (.aload_n 0, 1) := by decide +kernel
theorem dX7_isLike_1 : decode cX7_isLike 1 = .ok (.getfield 15, 3) := by decide +kernel
theorem dX7_isLike_4 : decode cX7_isLike 4 = .ok (.aload_n 1, 1) := by decide +kernel
theorem dX7_isLike_5 : decode cX7_isLike 5 = .ok (.getfield 15, 3) := by decide +kernel
theorem dX7_isLike_8 : decode cX7_isLike 8 = .ok (.if_icmp .ne 16, 3) := by decide +kernel
theorem dX7_isLike_11 : decode cX7_isLike 11 = .ok (.aload_n 0, 1) := by decide +kernel
theorem dX7_isLike_12 : decode cX7_isLike 12 = .ok (.aload_n 1, 1) := by decide +kernel
theorem dX7_isLike_13 : decode cX7_isLike 13 = .ok (.iconst 0, 1) := by decide +kernel
theorem dX7_isLike_14 : decode cX7_isLike 14 = .ok (.invokevirtual 31, 3) := by decide +kernel
theorem dX7_isLike_17 : decode cX7_isLike 17 = .ok (.ifCond .eq 7, 3) := by decide +kernel
theorem dX7_isLike_20 : decode cX7_isLike 20 = .ok (.iconst 1, 1) := by decide +kernel
theorem dX7_isLike_21 : decode cX7_isLike 21 = .ok (.goto 4, 3) := by decide +kernel
theorem dX7_isLike_24 : decode cX7_isLike 24 = .ok (.iconst 0, 1) := by decide +kernel
theorem dX7_isLike_25 : decode cX7_isLike 25 = .ok (.ireturn, 1) := by decide +kernel
theorem dX7_placeOf_0 : decode cX7_placeOf 0 = .ok (.iconst 0, 1) := by decide +kernel
theorem dX7_placeOf_1 : decode cX7_placeOf 1 = .ok (.istore_n 2, 1) := by decide +kernel
theorem dX7_placeOf_2 : decode cX7_placeOf 2 = .ok (.iload_n 2, 1) := by decide +kernel
theorem dX7_placeOf_3 : decode cX7_placeOf 3 = .ok (.aload_n 0, 1) := by decide +kernel
theorem dX7_placeOf_4 : decode cX7_placeOf 4 = .ok (.getfield 15, 3) := by decide +kernel
theorem dX7_placeOf_7 : decode cX7_placeOf 7 = .ok (.if_icmp .ge 20, 3) := by decide +kernel
theorem dX7_placeOf_10 : decode cX7_placeOf 10 = .ok (.aload_n 0, 1) := by decide +kernel
theorem dX7_placeOf_11 : decode cX7_placeOf 11 = .ok (.iload_n 2, 1) := by decide +kernel
theorem dX7_placeOf_12 : decode cX7_placeOf 12 = .ok (.invokevirtual 19, 3) := by decide +kernel
theorem dX7_placeOf_15 : decode cX7_placeOf 15 = .ok (.iload_n 1, 1) := by decide +kernel
theorem dX7_placeOf_16 : decode cX7_placeOf 16 = .ok (.if_icmp .ne 5, 3) := by decide +kernel
theorem dX7_placeOf_19 : decode cX7_placeOf 19 = .ok (.iload_n 2, 1) := by decide +kernel
theorem dX7_placeOf_20 : decode cX7_placeOf 20 = .ok (.ireturn, 1) := by decide +kernel
theorem dX7_placeOf_21 : decode cX7_placeOf 21 = .ok (.iinc 2 1, 3) := by decide +kernel
theorem dX7_placeOf_24 : decode cX7_placeOf 24 = .ok (.goto (-22), 3) := by decide +kernel
theorem dX7_placeOf_27 : decode cX7_placeOf 27 = .ok (.iconst (-1), 1) := by decide +kernel
theorem dX7_placeOf_28 : decode cX7_placeOf 28 = .ok (.ireturn, 1) := by decide +kernel
theorem dX7_turn_0 : decode cX7_turn 0 = .ok (.iload_n 1, 1) := by decide +kernel
theorem dX7_turn_1 : decode cX7_turn 1 = .ok (.istore_n 3, 1) := by decide +kernel
theorem dX7_turn_2 : decode cX7_turn 2 = .ok (.iload_n 2, 1) := by decide +kernel
theorem dX7_turn_3 : decode cX7_turn 3 = .ok (.istore 4, 2) := by decide +kernel
theorem dX7_turn_5 : decode cX7_turn 5 = .ok (.iload_n 3, 1) := by decide +kernel
theorem dX7_turn_6 : decode cX7_turn 6 = .ok (.iload 4, 2) := by decide +kernel
theorem dX7_turn_8 : decode cX7_turn 8 = .ok (.if_icmp .ge 38, 3) := by decide +kernel
theorem dX7_turn_11 : decode cX7_turn 11 = .ok (.aload_n 0, 1) := by decide +kernel
theorem dX7_turn_12 : decode cX7_turn 12 = .ok (.iload_n 3, 1) := by decide +kernel
theorem dX7_turn_13 : decode cX7_turn 13 = .ok (.invokevirtual 19, 3) := by decide +kernel
theorem dX7_turn_16 : decode cX7_turn 16 = .ok (.istore 5, 2) := by decide +kernel
theorem dX7_turn_18 : decode cX7_turn 18 = .ok (.aload_n 0, 1) := by decide +kernel
theorem dX7_turn_19 : decode cX7_turn 19 = .ok (.iload_n 3, 1) := by decide +kernel
theorem dX7_turn_20 : decode cX7_turn 20 = .ok (.aload_n 0, 1) := by decide +kernel
theorem dX7_turn_21 : decode cX7_turn 21 = .ok (.iload 4, 2) := by decide +kernel
theorem dX7_turn_23 : decode cX7_turn 23 = .ok (.invokevirtual 19, 3) := by decide +kernel
theorem dX7_turn_26 : decode cX7_turn 26 = .ok (.invokevirtual 35, 3) := by decide +kernel
theorem dX7_turn_29 : decode cX7_turn 29 = .ok (.aload_n 0, 1) := by decide +kernel
theorem dX7_turn_30 : decode cX7_turn 30 = .ok (.iload 4, 2) := by decide +kernel
theorem dX7_turn_32 : decode cX7_turn 32 = .ok (.iload 5, 2) := by decide +kernel
theorem dX7_turn_34 : decode cX7_turn 34 = .ok (.invokevirtual 35, 3) := by decide +kernel
theorem dX7_turn_37 : decode cX7_turn 37 = .ok (.iinc 3 1, 3) := by decide +kernel
theorem dX7_turn_40 : decode cX7_turn 40 = .ok (.iinc 4 (-1), 3) := by decide +kernel
theorem dX7_turn_43 : decode cX7_turn 43 = .ok (.goto (-38), 3) := by decide +kernel
theorem dX7_turn_46 : decode cX7_turn 46 = .ok (.return_, 1) := by decide +kernel
theorem dX8_init_0 : decode cX8_init 0 = .ok (.aload_n 0, 1) := by decide +kernel
theorem dX8_init_1 : decode cX8_init 1 = .ok (.invokespecial 3, 3) := by decide +kernel
theorem dX8_init_4 : decode cX8_init 4 = .ok (.aload_n 0, 1) := by decide +kernel
theorem dX8_init_5 : decode cX8_init 5 = .ok (.new 9, 3) := by decide +kernel
theorem dX8_init_8 : decode cX8_init 8 = .ok (.dup, 1) := by decide +kernel
theorem dX8_init_9 : decode cX8_init 9 = .ok (.iconst 2, 1) := by decide +kernel
theorem dX8_init_10 : decode cX8_init 10 = .ok (.invokespecial 11, 3) := by decide +kernel
theorem dX8_init_13 : decode cX8_init 13 = .ok (.putfield 14, 3) := by decide +kernel
theorem dX8_init_16 : decode cX8_init 16 = .ok (.aload_n 0, 1) := by decide +kernel
theorem dX8_init_17 : decode cX8_init 17 = .ok (.new 9, 3) := by decide +kernel
theorem dX8_init_20 : decode cX8_init 20 = .ok (.dup, 1) := by decide +kernel
theorem dX8_init_21 : decode cX8_init 21 = .ok (.iconst 3, 1) := by decide +kernel
theorem dX8_init_22 : decode cX8_init 22 = .ok (.invokespecial 11, 3) := by decide +kernel
theorem dX8_init_25 : decode cX8_init 25 = .ok (.putfield 20, 3) := by decide +kernel
theorem dX8_init_28 : decode cX8_init 28 = .ok (.aload_n 0, 1) := by decide +kernel
theorem dX8_init_29 : decode cX8_init 29 = .ok (.new 9, 3) := by decide +kernel
theorem dX8_init_32 : decode cX8_init 32 = .ok (.dup, 1) := by decide +kernel
theorem dX8_init_33 : decode cX8_init 33 = .ok (.iconst 2, 1) := by decide +kernel
theorem dX8_init_34 : decode cX8_init 34 = .ok (.invokespecial 11, 3) := by decide +kernel
theorem dX8_init_37 : decode cX8_init 37 = .ok (.putfield 23, 3) := by decide +kernel
theorem dX8_init_40 : decode cX8_init 40 = .ok (.aload_n 0, 1) := by decide +kernel
theorem dX8_init_41 : decode cX8_init 41 = .ok (.new 9, 3) := by decide +kernel
theorem dX8_init_44 : decode cX8_init 44 = .ok (.dup, 1) := by decide +kernel
theorem dX8_init_45 : decode cX8_init 45 = .ok (.iconst 3, 1) := by decide +kernel
theorem dX8_init_46 : decode cX8_init 46 = .ok (.invokespecial 11, 3) := by decide +kernel
theorem dX8_init_49 : decode cX8_init 49 = .ok (.putfield 26, 3) := by decide +kernel
theorem dX8_init_52 : decode cX8_init 52 = .ok (.return_, 1) := by decide +kernel
theorem dX8_tell_0 : decode cX8_tell 0 = .ok (.aload_n 0, 1) := by decide +kernel
theorem dX8_tell_1 : decode cX8_tell 1 = .ok (.iload_n 1, 1) := by decide +kernel
theorem dX8_tell_2 : decode cX8_tell 2 = .ok (.putfield 29, 3) := by decide +kernel
theorem dX8_tell_5 : decode cX8_tell 5 = .ok (.aload_n 0, 1) := by decide +kernel
theorem dX8_tell_6 : decode cX8_tell 6 = .ok (.getfield 14, 3) := by decide +kernel
theorem dX8_tell_9 : decode cX8_tell 9 = .ok (.aload_n 2, 1) := by decide +kernel
theorem dX8_tell_10 : decode cX8_tell 10 = .ok (.invokevirtual 33, 3) := by decide +kernel
theorem dX8_tell_13 : decode cX8_tell 13 = .ok (.aload_n 0, 1) := by decide +kernel
theorem dX8_tell_14 : decode cX8_tell 14 = .ok (.getfield 20, 3) := by decide +kernel
theorem dX8_tell_17 : decode cX8_tell 17 = .ok (.aload_n 3, 1) := by decide +kernel
theorem dX8_tell_18 : decode cX8_tell 18 = .ok (.invokevirtual 33, 3) := by decide +kernel
theorem dX8_tell_21 : decode cX8_tell 21 = .ok (.aload_n 0, 1) := by decide +kernel
theorem dX8_tell_22 : decode cX8_tell 22 = .ok (.getfield 23, 3) := by decide +kernel
theorem dX8_tell_25 : decode cX8_tell 25 = .ok (.aload 4, 2) := by decide +kernel
theorem dX8_tell_27 : decode cX8_tell 27 = .ok (.invokevirtual 33, 3) := by decide +kernel
theorem dX8_tell_30 : decode cX8_tell 30 = .ok (.aload_n 0, 1) := by decide +kernel
theorem dX8_tell_31 : decode cX8_tell 31 = .ok (.getfield 26, 3) := by decide +kernel
theorem dX8_tell_34 : decode cX8_tell 34 = .ok (.aload 5, 2) := by decide +kernel
theorem dX8_tell_36 : decode cX8_tell 36 = .ok (.invokevirtual 33, 3) := by decide +kernel
theorem dX8_tell_39 : decode cX8_tell 39 = .ok (.return_, 1) := by decide +kernel
theorem dX8_copyFrom_0 : decode cX8_copyFrom 0 = .ok (.aload_n 0, 1) := by decide +kernel
theorem dX8_copyFrom_1 : decode cX8_copyFrom 1 = .ok (.aload_n 1, 1) := by decide +kernel
theorem dX8_copyFrom_2 : decode cX8_copyFrom 2 = .ok (.getfield 29, 3) := by decide +kernel
theorem dX8_copyFrom_5 : decode cX8_copyFrom 5 = .ok (.aload_n 1, 1) := by decide +kernel
theorem dX8_copyFrom_6 : decode cX8_copyFrom 6 = .ok (.getfield 14, 3) := by decide +kernel
theorem dX8_copyFrom_9 : decode cX8_copyFrom 9 = .ok (.aload_n 1, 1) := by decide +kernel
theorem dX8_copyFrom_10 : decode cX8_copyFrom 10 = .ok (.getfield 20, 3) := by decide +kernel
theorem dX8_copyFrom_13 : decode cX8_copyFrom 13 = .ok (.aload_n 1, 1) := by decide +kernel
theorem dX8_copyFrom_14 : decode cX8_copyFrom 14 = .ok (.getfield 23, 3) := by decide +kernel
theorem dX8_copyFrom_17 : decode cX8_copyFrom 17 = .ok (.aload_n 1, 1) := by decide +kernel
theorem dX8_copyFrom_18 : decode cX8_copyFrom 18 = .ok (.getfield 26, 3) := by decide +kernel
theorem dX8_copyFrom_21 : decode cX8_copyFrom 21 = .ok (.invokevirtual 37, 3) := by decide +kernel
theorem dX8_copyFrom_24 : decode cX8_copyFrom 24 = .ok (.return_, 1) := by decide +kernel
theorem dX8_sourceOf_0 : decode cX8_sourceOf 0 = .ok (.iload_n 1, 1) := by decide +kernel
theorem dX8_sourceOf_1 : decode cX8_sourceOf 1 = .ok (.ifCond .eq 10, 3) := by decide +kernel
theorem dX8_sourceOf_4 : decode cX8_sourceOf 4 = .ok (.aload_n 0, 1) := by decide +kernel
theorem dX8_sourceOf_5 : decode cX8_sourceOf 5 = .ok (.getfield 26, 3) := by decide +kernel
theorem dX8_sourceOf_8 : decode cX8_sourceOf 8 = .ok (.goto 7, 3) := by decide +kernel
theorem dX8_sourceOf_11 : decode cX8_sourceOf 11 = .ok (.aload_n 0, 1) := by decide +kernel
theorem dX8_sourceOf_12 : decode cX8_sourceOf 12 = .ok (.getfield 20, 3) := by decide +kernel
theorem dX8_sourceOf_15 : decode cX8_sourceOf 15 = .ok (.areturn, 1) := by decide +kernel
theorem dX8_fits_0 : decode cX8_fits 0 = .ok (.aload_n 0, 1) := by decide +kernel
theorem dX8_fits_1 : decode cX8_fits 1 = .ok (.iload_n 2, 1) := by decide +kernel
theorem dX8_fits_2 : decode cX8_fits 2 = .ok (.invokevirtual 41, 3) := by decide +kernel
theorem dX8_fits_5 : decode cX8_fits 5 = .ok (.astore 6, 2) := by decide +kernel
theorem dX8_fits_7 : decode cX8_fits 7 = .ok (.iload_n 1, 1) := by decide +kernel
theorem dX8_fits_8 : decode cX8_fits 8 = .ok (.aload_n 0, 1) := by decide +kernel
theorem dX8_fits_9 : decode cX8_fits 9 = .ok (.getfield 29, 3) := by decide +kernel
theorem dX8_fits_12 : decode cX8_fits 12 = .ok (.if_icmp .ne 70, 3) := by decide +kernel
theorem dX8_fits_15 : decode cX8_fits 15 = .ok (.aload 6, 2) := by decide +kernel
theorem dX8_fits_17 : decode cX8_fits 17 = .ok (.invokevirtual 45, 3) := by decide +kernel
theorem dX8_fits_20 : decode cX8_fits 20 = .ok (.ifCond .le 62, 3) := by decide +kernel
theorem dX8_fits_23 : decode cX8_fits 23 = .ok (.aload_n 3, 1) := by decide +kernel
theorem dX8_fits_24 : decode cX8_fits 24 = .ok (.aload 6, 2) := by decide +kernel
theorem dX8_fits_26 : decode cX8_fits 26 = .ok (.iload 4, 2) := by decide +kernel
theorem dX8_fits_28 : decode cX8_fits 28 = .ok (.invokevirtual 49, 3) := by decide +kernel
theorem dX8_fits_31 : decode cX8_fits 31 = .ok (.ifCond .eq 51, 3) := by decide +kernel
theorem dX8_fits_34 : decode cX8_fits 34 = .ok (.aload 5, 2) := by decide +kernel
theorem dX8_fits_36 : decode cX8_fits 36 = .ok (.aload_n 0, 1) := by decide +kernel
theorem dX8_fits_37 : decode cX8_fits 37 = .ok (.getfield 14, 3) := by decide +kernel
theorem dX8_fits_40 : decode cX8_fits 40 = .ok (.aload 5, 2) := by decide +kernel
theorem dX8_fits_42 : decode cX8_fits 42 = .ok (.invokevirtual 45, 3) := by decide +kernel
theorem dX8_fits_45 : decode cX8_fits 45 = .ok (.aload_n 0, 1) := by decide +kernel
theorem dX8_fits_46 : decode cX8_fits 46 = .ok (.getfield 14, 3) := by decide +kernel
theorem dX8_fits_49 : decode cX8_fits 49 = .ok (.invokevirtual 45, 3) := by decide +kernel
theorem dX8_fits_52 : decode cX8_fits 52 = .ok (.isub, 1) := by decide +kernel
theorem dX8_fits_53 : decode cX8_fits 53 = .ok (.invokevirtual 49, 3) := by decide +kernel
theorem dX8_fits_56 : decode cX8_fits 56 = .ok (.ifCond .eq 26, 3) := by decide +kernel
theorem dX8_fits_59 : decode cX8_fits 59 = .ok (.aload_n 3, 1) := by decide +kernel
theorem dX8_fits_60 : decode cX8_fits 60 = .ok (.aload_n 0, 1) := by decide +kernel
theorem dX8_fits_61 : decode cX8_fits 61 = .ok (.getfield 23, 3) := by decide +kernel
theorem dX8_fits_64 : decode cX8_fits 64 = .ok (.iload 4, 2) := by decide +kernel
theorem dX8_fits_66 : decode cX8_fits 66 = .ok (.aload 6, 2) := by decide +kernel
theorem dX8_fits_68 : decode cX8_fits 68 = .ok (.invokevirtual 45, 3) := by decide +kernel
theorem dX8_fits_71 : decode cX8_fits 71 = .ok (.iadd, 1) := by decide +kernel
theorem dX8_fits_72 : decode cX8_fits 72 = .ok (.invokevirtual 49, 3) := by decide +kernel
theorem dX8_fits_75 : decode cX8_fits 75 = .ok (.ifCond .eq 7, 3) := by decide +kernel
theorem dX8_fits_78 : decode cX8_fits 78 = .ok (.iconst 1, 1) := by decide +kernel
theorem dX8_fits_79 : decode cX8_fits 79 = .ok (.goto 4, 3) := by decide +kernel
theorem dX8_fits_82 : decode cX8_fits 82 = .ok (.iconst 0, 1) := by decide +kernel
theorem dX8_fits_83 : decode cX8_fits 83 = .ok (.ireturn, 1) := by decide +kernel
theorem dX8_putTarget_0 : decode cX8_putTarget 0 = .ok (.iload_n 1, 1) := by decide +kernel
theorem dX8_putTarget_1 : decode cX8_putTarget 1 = .ok (.ifCond .eq 10, 3) := by decide +kernel
theorem dX8_putTarget_4 : decode cX8_putTarget 4 = .ok (.aload_n 0, 1) := by decide +kernel
theorem dX8_putTarget_5 : decode cX8_putTarget 5 = .ok (.getfield 20, 3) := by decide +kernel
theorem dX8_putTarget_8 : decode cX8_putTarget 8 = .ok (.goto 7, 3) := by decide +kernel
theorem dX8_putTarget_11 : decode cX8_putTarget 11 = .ok (.aload_n 0, 1) := by decide +kernel
theorem dX8_putTarget_12 : decode cX8_putTarget 12 = .ok (.getfield 26, 3) := by decide +kernel
theorem dX8_putTarget_15 : decode cX8_putTarget 15 = .ok (.astore_n 3, 1) := by decide +kernel
theorem dX8_putTarget_16 : decode cX8_putTarget 16 = .ok (.iconst 0, 1) := by decide +kernel
theorem dX8_putTarget_17 : decode cX8_putTarget 17 = .ok (.istore 4, 2) := by decide +kernel
theorem dX8_putTarget_19 : decode cX8_putTarget 19 = .ok (.iload 4, 2) := by decide +kernel
theorem dX8_putTarget_21 : decode cX8_putTarget 21 = .ok (.aload_n 3, 1) := by decide +kernel
theorem dX8_putTarget_22 : decode cX8_putTarget 22 = .ok (.invokevirtual 45, 3) := by decide +kernel
theorem dX8_putTarget_25 : decode cX8_putTarget 25 = .ok (.if_icmp .ge 24, 3) := by decide +kernel
theorem dX8_putTarget_28 : decode cX8_putTarget 28 = .ok (.aload_n 2, 1) := by decide +kernel
theorem dX8_putTarget_29 : decode cX8_putTarget 29 = .ok (.aload_n 3, 1) := by decide +kernel
theorem dX8_putTarget_30 : decode cX8_putTarget 30 = .ok (.iload 4, 2) := by decide +kernel
theorem dX8_putTarget_32 : decode cX8_putTarget 32 = .ok (.invokevirtual 53, 3) := by decide +kernel
theorem dX8_putTarget_35 : decode cX8_putTarget 35 = .ok (.invokevirtual 57, 3) := by decide +kernel
theorem dX8_putTarget_38 : decode cX8_putTarget 38 = .ok (.ifCond .ne 5, 3) := by decide +kernel
theorem dX8_putTarget_41 : decode cX8_putTarget 41 = .ok (.iconst 0, 1) := by decide +kernel
theorem dX8_putTarget_42 : decode cX8_putTarget 42 = .ok (.ireturn, 1) := by decide +kernel
theorem dX8_putTarget_43 : decode cX8_putTarget 43 = .ok (.iinc 4 1, 3) := by decide +kernel
theorem dX8_putTarget_46 : decode cX8_putTarget 46 = .ok (.goto (-27), 3) := by decide +kernel
theorem dX8_putTarget_49 : decode cX8_putTarget 49 = .ok (.iconst 1, 1) := by decide +kernel
theorem dX8_putTarget_50 : decode cX8_putTarget 50 = .ok (.ireturn, 1) := by decide +kernel
theorem dX9_init_0 : decode cX9_init 0 = .ok (.aload_n 0, 1) := by decide +kernel
theorem dX9_init_1 : decode cX9_init 1 = .ok (.invokespecial 3, 3) := by decide +kernel
theorem dX9_init_4 : decode cX9_init 4 = .ok (.aload_n 0, 1) := by decide +kernel
theorem dX9_init_5 : decode cX9_init 5 = .ok (.bipush 96, 2) := by decide +kernel
theorem dX9_init_7 : decode cX9_init 7 = .ok (.newarray .int, 2) := by decide +kernel
theorem dX9_init_9 : decode cX9_init 9 = .ok (.putfield 9, 3) := by decide +kernel
theorem dX9_init_12 : decode cX9_init 12 = .ok (.aload_n 0, 1) := by decide +kernel
theorem dX9_init_13 : decode cX9_init 13 = .ok (.bipush 96, 2) := by decide +kernel
theorem dX9_init_15 : decode cX9_init 15 = .ok (.newarray .int, 2) := by decide +kernel
theorem dX9_init_17 : decode cX9_init 17 = .ok (.putfield 15, 3) := by decide +kernel
theorem dX9_init_20 : decode cX9_init 20 = .ok (.aload_n 0, 1) := by decide +kernel
theorem dX9_init_21 : decode cX9_init 21 = .ok (.bipush 96, 2) := by decide +kernel
theorem dX9_init_23 : decode cX9_init 23 = .ok (.newarray .int, 2) := by decide +kernel
theorem dX9_init_25 : decode cX9_init 25 = .ok (.putfield 18, 3) := by decide +kernel
theorem dX9_init_28 : decode cX9_init 28 = .ok (.aload_n 0, 1) := by decide +kernel
theorem dX9_init_29 : decode cX9_init 29 = .ok (.bipush 96, 2) := by decide +kernel
theorem dX9_init_31 : decode cX9_init 31 = .ok (.newarray .int, 2) := by decide +kernel
theorem dX9_init_33 : decode cX9_init 33 = .ok (.putfield 21, 3) := by decide +kernel
theorem dX9_init_36 : decode cX9_init 36 = .ok (.aload_n 0, 1) := by decide +kernel
theorem dX9_init_37 : decode cX9_init 37 = .ok (.bipush 96, 2) := by decide +kernel
theorem dX9_init_39 : decode cX9_init 39 = .ok (.newarray .int, 2) := by decide +kernel
theorem dX9_init_41 : decode cX9_init 41 = .ok (.putfield 24, 3) := by decide +kernel
theorem dX9_init_44 : decode cX9_init 44 = .ok (.aload_n 0, 1) := by decide +kernel
theorem dX9_init_45 : decode cX9_init 45 = .ok (.bipush 96, 2) := by decide +kernel
theorem dX9_init_47 : decode cX9_init 47 = .ok (.newarray .int, 2) := by decide +kernel
theorem dX9_init_49 : decode cX9_init 49 = .ok (.putfield 27, 3) := by decide +kernel
theorem dX9_init_52 : decode cX9_init 52 = .ok (.aload_n 0, 1) := by decide +kernel
theorem dX9_init_53 : decode cX9_init 53 = .ok (.bipush 96, 2) := by decide +kernel
theorem dX9_init_55 : decode cX9_init 55 = .ok (.newarray .int, 2) := by decide +kernel
theorem dX9_init_57 : decode cX9_init 57 = .ok (.putfield 30, 3) := by decide +kernel
theorem dX9_init_60 : decode cX9_init 60 = .ok (.aload_n 0, 1) := by decide +kernel
theorem dX9_init_61 : decode cX9_init 61 = .ok (.bipush 96, 2) := by decide +kernel
theorem dX9_init_63 : decode cX9_init 63 = .ok (.newarray .int, 2) := by decide +kernel
theorem dX9_init_65 : decode cX9_init 65 = .ok (.putfield 33, 3) := by decide +kernel
theorem dX9_init_68 : decode cX9_init 68 = .ok (.aload_n 0, 1) := by decide +kernel
theorem dX9_init_69 : decode cX9_init 69 = .ok (.bipush 96, 2) := by decide +kernel
theorem dX9_init_71 : decode cX9_init 71 = .ok (.newarray .int, 2) := by decide +kernel
theorem dX9_init_73 : decode cX9_init 73 = .ok (.putfield 36, 3) := by decide +kernel
theorem dX9_init_76 : decode cX9_init 76 = .ok (.aload_n 0, 1) := by decide +kernel
theorem dX9_init_77 : decode cX9_init 77 = .ok (.bipush 96, 2) := by decide +kernel
theorem dX9_init_79 : decode cX9_init 79 = .ok (.newarray .int, 2) := by decide +kernel
theorem dX9_init_81 : decode cX9_init 81 = .ok (.putfield 39, 3) := by decide +kernel
theorem dX9_init_84 : decode cX9_init 84 = .ok (.aload_n 0, 1) := by decide +kernel
theorem dX9_init_85 : decode cX9_init 85 = .ok (.getfield 15, 3) := by decide +kernel
theorem dX9_init_88 : decode cX9_init 88 = .ok (.iconst 3, 1) := by decide +kernel
theorem dX9_init_89 : decode cX9_init 89 = .ok (.invokestatic 42, 3) := by decide +kernel
theorem dX9_init_92 : decode cX9_init 92 = .ok (.iconst 0, 1) := by decide +kernel
theorem dX9_init_93 : decode cX9_init 93 = .ok (.istore_n 1, 1) := by decide +kernel
theorem dX9_init_94 : decode cX9_init 94 = .ok (.iload_n 1, 1) := by decide +kernel
theorem dX9_init_95 : decode cX9_init 95 = .ok (.aload_n 0, 1) := by decide +kernel
theorem dX9_init_96 : decode cX9_init 96 = .ok (.getfield 21, 3) := by decide +kernel
theorem dX9_init_99 : decode cX9_init 99 = .ok (.arraylength, 1) := by decide +kernel
theorem dX9_init_100 : decode cX9_init 100 = .ok (.if_icmp .ge 16, 3) := by decide +kernel
theorem dX9_init_103 : decode cX9_init 103 = .ok (.aload_n 0, 1) := by decide +kernel
theorem dX9_init_104 : decode cX9_init 104 = .ok (.getfield 21, 3) := by decide +kernel
theorem dX9_init_107 : decode cX9_init 107 = .ok (.iload_n 1, 1) := by decide +kernel
theorem dX9_init_108 : decode cX9_init 108 = .ok (.iload_n 1, 1) := by decide +kernel
theorem dX9_init_109 : decode cX9_init 109 = .ok (.iastore, 1) := by decide +kernel
theorem dX9_init_110 : decode cX9_init 110 = .ok (.iinc 1 1, 3) := by decide +kernel
theorem dX9_init_113 : decode cX9_init 113 = .ok (.goto (-19), 3) := by decide +kernel
theorem dX9_init_116 : decode cX9_init 116 = .ok (.aload_n 0, 1) := by decide +kernel
theorem dX9_init_117 : decode cX9_init 117 = .ok (.getfield 24, 3) := by decide +kernel
theorem dX9_init_120 : decode cX9_init 120 = .ok (.iconst (-1), 1) := by decide +kernel
theorem dX9_init_121 : decode cX9_init 121 = .ok (.invokestatic 42, 3) := by decide +kernel
theorem dX9_init_124 : decode cX9_init 124 = .ok (.aload_n 0, 1) := by decide +kernel
theorem dX9_init_125 : decode cX9_init 125 = .ok (.getfield 27, 3) := by decide +kernel
theorem dX9_init_128 : decode cX9_init 128 = .ok (.iconst (-1), 1) := by decide +kernel
theorem dX9_init_129 : decode cX9_init 129 = .ok (.invokestatic 42, 3) := by decide +kernel
theorem dX9_init_132 : decode cX9_init 132 = .ok (.aload_n 0, 1) := by decide +kernel
theorem dX9_init_133 : decode cX9_init 133 = .ok (.getfield 30, 3) := by decide +kernel
theorem dX9_init_136 : decode cX9_init 136 = .ok (.iconst (-1), 1) := by decide +kernel
theorem dX9_init_137 : decode cX9_init 137 = .ok (.invokestatic 42, 3) := by decide +kernel
theorem dX9_init_140 : decode cX9_init 140 = .ok (.aload_n 0, 1) := by decide +kernel
theorem dX9_init_141 : decode cX9_init 141 = .ok (.getfield 33, 3) := by decide +kernel
theorem dX9_init_144 : decode cX9_init 144 = .ok (.iconst (-1), 1) := by decide +kernel
theorem dX9_init_145 : decode cX9_init 145 = .ok (.invokestatic 42, 3) := by decide +kernel
theorem dX9_init_148 : decode cX9_init 148 = .ok (.aload_n 0, 1) := by decide +kernel
theorem dX9_init_149 : decode cX9_init 149 = .ok (.getfield 36, 3) := by decide +kernel
theorem dX9_init_152 : decode cX9_init 152 = .ok (.iconst (-1), 1) := by decide +kernel
theorem dX9_init_153 : decode cX9_init 153 = .ok (.invokestatic 42, 3) := by decide +kernel
theorem dX9_init_156 : decode cX9_init 156 = .ok (.aload_n 0, 1) := by decide +kernel
theorem dX9_init_157 : decode cX9_init 157 = .ok (.iconst 2, 1) := by decide +kernel
theorem dX9_init_158 : decode cX9_init 158 = .ok (.anewarray 46, 3) := by decide +kernel
theorem dX9_init_161 : decode cX9_init 161 = .ok (.putfield 48, 3) := by decide +kernel
theorem dX9_init_164 : decode cX9_init 164 = .ok (.iconst 0, 1) := by decide +kernel
theorem dX9_init_165 : decode cX9_init 165 = .ok (.istore_n 1, 1) := by decide +kernel
theorem dX9_init_166 : decode cX9_init 166 = .ok (.iload_n 1, 1) := by decide +kernel
theorem dX9_init_167 : decode cX9_init 167 = .ok (.aload_n 0, 1) := by decide +kernel
theorem dX9_init_168 : decode cX9_init 168 = .ok (.getfield 48, 3) := by decide +kernel
theorem dX9_init_171 : decode cX9_init 171 = .ok (.arraylength, 1) := by decide +kernel
theorem dX9_init_172 : decode cX9_init 172 = .ok (.if_icmp .ge 22, 3) := by decide +kernel
theorem dX9_init_175 : decode cX9_init 175 = .ok (.aload_n 0, 1) := by decide +kernel
theorem dX9_init_176 : decode cX9_init 176 = .ok (.getfield 48, 3) := by decide +kernel
theorem dX9_init_179 : decode cX9_init 179 = .ok (.iload_n 1, 1) := by decide +kernel
theorem dX9_init_180 : decode cX9_init 180 = .ok (.new 46, 3) := by decide +kernel
theorem dX9_init_183 : decode cX9_init 183 = .ok (.dup, 1) := by decide +kernel
theorem dX9_init_184 : decode cX9_init 184 = .ok (.invokespecial 52, 3) := by decide +kernel
theorem dX9_init_187 : decode cX9_init 187 = .ok (.aastore, 1) := by decide +kernel
theorem dX9_init_188 : decode cX9_init 188 = .ok (.iinc 1 1, 3) := by decide +kernel
theorem dX9_init_191 : decode cX9_init 191 = .ok (.goto (-25), 3) := by decide +kernel
theorem dX9_init_194 : decode cX9_init 194 = .ok (.aload_n 0, 1) := by decide +kernel
theorem dX9_init_195 : decode cX9_init 195 = .ok (.bipush 6, 2) := by decide +kernel
theorem dX9_init_197 : decode cX9_init 197 = .ok (.anewarray 53, 3) := by decide +kernel
theorem dX9_init_200 : decode cX9_init 200 = .ok (.putfield 55, 3) := by decide +kernel
theorem dX9_init_203 : decode cX9_init 203 = .ok (.iconst 0, 1) := by decide +kernel
theorem dX9_init_204 : decode cX9_init 204 = .ok (.istore_n 1, 1) := by decide +kernel
theorem dX9_init_205 : decode cX9_init 205 = .ok (.iload_n 1, 1) := by decide +kernel
theorem dX9_init_206 : decode cX9_init 206 = .ok (.aload_n 0, 1) := by decide +kernel
theorem dX9_init_207 : decode cX9_init 207 = .ok (.getfield 55, 3) := by decide +kernel
theorem dX9_init_210 : decode cX9_init 210 = .ok (.arraylength, 1) := by decide +kernel
theorem dX9_init_211 : decode cX9_init 211 = .ok (.if_icmp .ge 24, 3) := by decide +kernel
theorem dX9_init_214 : decode cX9_init 214 = .ok (.aload_n 0, 1) := by decide +kernel
theorem dX9_init_215 : decode cX9_init 215 = .ok (.getfield 55, 3) := by decide +kernel
theorem dX9_init_218 : decode cX9_init 218 = .ok (.iload_n 1, 1) := by decide +kernel
theorem dX9_init_219 : decode cX9_init 219 = .ok (.new 53, 3) := by decide +kernel
theorem dX9_init_222 : decode cX9_init 222 = .ok (.dup, 1) := by decide +kernel
theorem dX9_init_223 : decode cX9_init 223 = .ok (.bipush 8, 2) := by decide +kernel
theorem dX9_init_225 : decode cX9_init 225 = .ok (.invokespecial 59, 3) := by decide +kernel
theorem dX9_init_228 : decode cX9_init 228 = .ok (.aastore, 1) := by decide +kernel
theorem dX9_init_229 : decode cX9_init 229 = .ok (.iinc 1 1, 3) := by decide +kernel
theorem dX9_init_232 : decode cX9_init 232 = .ok (.goto (-27), 3) := by decide +kernel
theorem dX9_init_235 : decode cX9_init 235 = .ok (.aload_n 0, 1) := by decide +kernel
theorem dX9_init_236 : decode cX9_init 236 = .ok (.bipush 8, 2) := by decide +kernel
theorem dX9_init_238 : decode cX9_init 238 = .ok (.anewarray 62, 3) := by decide +kernel
theorem dX9_init_241 : decode cX9_init 241 = .ok (.putfield 64, 3) := by decide +kernel
theorem dX9_init_244 : decode cX9_init 244 = .ok (.iconst 0, 1) := by decide +kernel
theorem dX9_init_245 : decode cX9_init 245 = .ok (.istore_n 1, 1) := by decide +kernel
theorem dX9_init_246 : decode cX9_init 246 = .ok (.iload_n 1, 1) := by decide +kernel
theorem dX9_init_247 : decode cX9_init 247 = .ok (.aload_n 0, 1) := by decide +kernel
theorem dX9_init_248 : decode cX9_init 248 = .ok (.getfield 64, 3) := by decide +kernel
theorem dX9_init_251 : decode cX9_init 251 = .ok (.arraylength, 1) := by decide +kernel
theorem dX9_init_252 : decode cX9_init 252 = .ok (.if_icmp .ge 22, 3) := by decide +kernel
theorem dX9_init_255 : decode cX9_init 255 = .ok (.aload_n 0, 1) := by decide +kernel
theorem dX9_init_256 : decode cX9_init 256 = .ok (.getfield 64, 3) := by decide +kernel
theorem dX9_init_259 : decode cX9_init 259 = .ok (.iload_n 1, 1) := by decide +kernel
theorem dX9_init_260 : decode cX9_init 260 = .ok (.new 62, 3) := by decide +kernel
theorem dX9_init_263 : decode cX9_init 263 = .ok (.dup, 1) := by decide +kernel
theorem dX9_init_264 : decode cX9_init 264 = .ok (.invokespecial 68, 3) := by decide +kernel
theorem dX9_init_267 : decode cX9_init 267 = .ok (.aastore, 1) := by decide +kernel
theorem dX9_init_268 : decode cX9_init 268 = .ok (.iinc 1 1, 3) := by decide +kernel
theorem dX9_init_271 : decode cX9_init 271 = .ok (.goto (-25), 3) := by decide +kernel
theorem dX9_init_274 : decode cX9_init 274 = .ok (.return_, 1) := by decide +kernel
theorem dX9_copyFrom_0 : decode cX9_copyFrom 0 = .ok (.aload_n 1, 1) := by decide +kernel
theorem dX9_copyFrom_1 : decode cX9_copyFrom 1 = .ok (.getfield 9, 3) := by decide +kernel
theorem dX9_copyFrom_4 : decode cX9_copyFrom 4 = .ok (.aload_n 0, 1) := by decide +kernel
theorem dX9_copyFrom_5 : decode cX9_copyFrom 5 = .ok (.getfield 9, 3) := by decide +kernel
theorem dX9_copyFrom_8 : decode cX9_copyFrom 8 = .ok (.invokestatic 69, 3) := by decide +kernel
theorem dX9_copyFrom_11 : decode cX9_copyFrom 11 = .ok (.aload_n 1, 1) := by decide +kernel
theorem dX9_copyFrom_12 : decode cX9_copyFrom 12 = .ok (.getfield 15, 3) := by decide +kernel
theorem dX9_copyFrom_15 : decode cX9_copyFrom 15 = .ok (.aload_n 0, 1) := by decide +kernel
theorem dX9_copyFrom_16 : decode cX9_copyFrom 16 = .ok (.getfield 15, 3) := by decide +kernel
theorem dX9_copyFrom_19 : decode cX9_copyFrom 19 = .ok (.invokestatic 69, 3) := by decide +kernel
theorem dX9_copyFrom_22 : decode cX9_copyFrom 22 = .ok (.aload_n 1, 1) := by decide +kernel
theorem dX9_copyFrom_23 : decode cX9_copyFrom 23 = .ok (.getfield 18, 3) := by decide +kernel
theorem dX9_copyFrom_26 : decode cX9_copyFrom 26 = .ok (.aload_n 0, 1) := by decide +kernel
theorem dX9_copyFrom_27 : decode cX9_copyFrom 27 = .ok (.getfield 18, 3) := by decide +kernel
theorem dX9_copyFrom_30 : decode cX9_copyFrom 30 = .ok (.invokestatic 69, 3) := by decide +kernel
theorem dX9_copyFrom_33 : decode cX9_copyFrom 33 = .ok (.aload_n 1, 1) := by decide +kernel
theorem dX9_copyFrom_34 : decode cX9_copyFrom 34 = .ok (.getfield 21, 3) := by decide +kernel
theorem dX9_copyFrom_37 : decode cX9_copyFrom 37 = .ok (.aload_n 0, 1) := by decide +kernel
theorem dX9_copyFrom_38 : decode cX9_copyFrom 38 = .ok (.getfield 21, 3) := by decide +kernel
theorem dX9_copyFrom_41 : decode cX9_copyFrom 41 = .ok (.invokestatic 69, 3) := by decide +kernel
theorem dX9_copyFrom_44 : decode cX9_copyFrom 44 = .ok (.aload_n 1, 1) := by decide +kernel
theorem dX9_copyFrom_45 : decode cX9_copyFrom 45 = .ok (.getfield 24, 3) := by decide +kernel
theorem dX9_copyFrom_48 : decode cX9_copyFrom 48 = .ok (.aload_n 0, 1) := by decide +kernel
theorem dX9_copyFrom_49 : decode cX9_copyFrom 49 = .ok (.getfield 24, 3) := by decide +kernel
theorem dX9_copyFrom_52 : decode cX9_copyFrom 52 = .ok (.invokestatic 69, 3) := by decide +kernel
theorem dX9_copyFrom_55 : decode cX9_copyFrom 55 = .ok (.aload_n 1, 1) := by decide +kernel
theorem dX9_copyFrom_56 : decode cX9_copyFrom 56 = .ok (.getfield 27, 3) := by decide +kernel
theorem dX9_copyFrom_59 : decode cX9_copyFrom 59 = .ok (.aload_n 0, 1) := by decide +kernel
theorem dX9_copyFrom_60 : decode cX9_copyFrom 60 = .ok (.getfield 27, 3) := by decide +kernel
theorem dX9_copyFrom_63 : decode cX9_copyFrom 63 = .ok (.invokestatic 69, 3) := by decide +kernel
theorem dX9_copyFrom_66 : decode cX9_copyFrom 66 = .ok (.aload_n 1, 1) := by decide +kernel
theorem dX9_copyFrom_67 : decode cX9_copyFrom 67 = .ok (.getfield 30, 3) := by decide +kernel
theorem dX9_copyFrom_70 : decode cX9_copyFrom 70 = .ok (.aload_n 0, 1) := by decide +kernel
theorem dX9_copyFrom_71 : decode cX9_copyFrom 71 = .ok (.getfield 30, 3) := by decide +kernel
theorem dX9_copyFrom_74 : decode cX9_copyFrom 74 = .ok (.invokestatic 69, 3) := by decide +kernel
theorem dX9_copyFrom_77 : decode cX9_copyFrom 77 = .ok (.aload_n 1, 1) := by decide +kernel
theorem dX9_copyFrom_78 : decode cX9_copyFrom 78 = .ok (.getfield 33, 3) := by decide +kernel
theorem dX9_copyFrom_81 : decode cX9_copyFrom 81 = .ok (.aload_n 0, 1) := by decide +kernel
theorem dX9_copyFrom_82 : decode cX9_copyFrom 82 = .ok (.getfield 33, 3) := by decide +kernel
theorem dX9_copyFrom_85 : decode cX9_copyFrom 85 = .ok (.invokestatic 69, 3) := by decide +kernel
theorem dX9_copyFrom_88 : decode cX9_copyFrom 88 = .ok (.aload_n 1, 1) := by decide +kernel
theorem dX9_copyFrom_89 : decode cX9_copyFrom 89 = .ok (.getfield 36, 3) := by decide +kernel
theorem dX9_copyFrom_92 : decode cX9_copyFrom 92 = .ok (.aload_n 0, 1) := by decide +kernel
theorem dX9_copyFrom_93 : decode cX9_copyFrom 93 = .ok (.getfield 36, 3) := by decide +kernel
theorem dX9_copyFrom_96 : decode cX9_copyFrom 96 = .ok (.invokestatic 69, 3) := by decide +kernel
theorem dX9_copyFrom_99 : decode cX9_copyFrom 99 = .ok (.aload_n 1, 1) := by decide +kernel
theorem dX9_copyFrom_100 : decode cX9_copyFrom 100 = .ok (.getfield 39, 3) := by decide +kernel
theorem dX9_copyFrom_103 : decode cX9_copyFrom 103 = .ok (.aload_n 0, 1) := by decide +kernel
theorem dX9_copyFrom_104 : decode cX9_copyFrom 104 = .ok (.getfield 39, 3) := by decide +kernel
theorem dX9_copyFrom_107 : decode cX9_copyFrom 107 = .ok (.invokestatic 69, 3) := by decide +kernel
theorem dX9_copyFrom_110 : decode cX9_copyFrom 110 = .ok (.iconst 0, 1) := by decide +kernel
theorem dX9_copyFrom_111 : decode cX9_copyFrom 111 = .ok (.istore_n 2, 1) := by decide +kernel
theorem dX9_copyFrom_112 : decode cX9_copyFrom 112 = .ok (.iload_n 2, 1) := by decide +kernel
theorem dX9_copyFrom_113 : decode cX9_copyFrom 113 = .ok (.aload_n 0, 1) := by decide +kernel
theorem dX9_copyFrom_114 : decode cX9_copyFrom 114 = .ok (.getfield 48, 3) := by decide +kernel
theorem dX9_copyFrom_117 : decode cX9_copyFrom 117 = .ok (.arraylength, 1) := by decide +kernel
theorem dX9_copyFrom_118 : decode cX9_copyFrom 118 = .ok (.if_icmp .ge 33, 3) := by decide +kernel
theorem dX9_copyFrom_121 : decode cX9_copyFrom 121 = .ok (.iload_n 2, 1) := by decide +kernel
theorem dX9_copyFrom_122 : decode cX9_copyFrom 122 = .ok (.aload_n 1, 1) := by decide +kernel
theorem dX9_copyFrom_123 : decode cX9_copyFrom 123 = .ok (.getfield 48, 3) := by decide +kernel
theorem dX9_copyFrom_126 : decode cX9_copyFrom 126 = .ok (.arraylength, 1) := by decide +kernel
theorem dX9_copyFrom_127 : decode cX9_copyFrom 127 = .ok (.if_icmp .ge 24, 3) := by decide +kernel
theorem dX9_copyFrom_130 : decode cX9_copyFrom 130 = .ok (.aload_n 0, 1) := by decide +kernel
theorem dX9_copyFrom_131 : decode cX9_copyFrom 131 = .ok (.getfield 48, 3) := by decide +kernel
theorem dX9_copyFrom_134 : decode cX9_copyFrom 134 = .ok (.iload_n 2, 1) := by decide +kernel
theorem dX9_copyFrom_135 : decode cX9_copyFrom 135 = .ok (.aaload, 1) := by decide +kernel
theorem dX9_copyFrom_136 : decode cX9_copyFrom 136 = .ok (.aload_n 1, 1) := by decide +kernel
theorem dX9_copyFrom_137 : decode cX9_copyFrom 137 = .ok (.getfield 48, 3) := by decide +kernel
theorem dX9_copyFrom_140 : decode cX9_copyFrom 140 = .ok (.iload_n 2, 1) := by decide +kernel
theorem dX9_copyFrom_141 : decode cX9_copyFrom 141 = .ok (.aaload, 1) := by decide +kernel
theorem dX9_copyFrom_142 : decode cX9_copyFrom 142 = .ok (.invokevirtual 73, 3) := by decide +kernel
theorem dX9_copyFrom_145 : decode cX9_copyFrom 145 = .ok (.iinc 2 1, 3) := by decide +kernel
theorem dX9_copyFrom_148 : decode cX9_copyFrom 148 = .ok (.goto (-36), 3) := by decide +kernel
theorem dX9_copyFrom_151 : decode cX9_copyFrom 151 = .ok (.iconst 0, 1) := by decide +kernel
theorem dX9_copyFrom_152 : decode cX9_copyFrom 152 = .ok (.istore_n 2, 1) := by decide +kernel
theorem dX9_copyFrom_153 : decode cX9_copyFrom 153 = .ok (.iload_n 2, 1) := by decide +kernel
theorem dX9_copyFrom_154 : decode cX9_copyFrom 154 = .ok (.aload_n 0, 1) := by decide +kernel
theorem dX9_copyFrom_155 : decode cX9_copyFrom 155 = .ok (.getfield 55, 3) := by decide +kernel
theorem dX9_copyFrom_158 : decode cX9_copyFrom 158 = .ok (.arraylength, 1) := by decide +kernel
theorem dX9_copyFrom_159 : decode cX9_copyFrom 159 = .ok (.if_icmp .ge 33, 3) := by decide +kernel
theorem dX9_copyFrom_162 : decode cX9_copyFrom 162 = .ok (.iload_n 2, 1) := by decide +kernel
theorem dX9_copyFrom_163 : decode cX9_copyFrom 163 = .ok (.aload_n 1, 1) := by decide +kernel
theorem dX9_copyFrom_164 : decode cX9_copyFrom 164 = .ok (.getfield 55, 3) := by decide +kernel
theorem dX9_copyFrom_167 : decode cX9_copyFrom 167 = .ok (.arraylength, 1) := by decide +kernel
theorem dX9_copyFrom_168 : decode cX9_copyFrom 168 = .ok (.if_icmp .ge 24, 3) := by decide +kernel
theorem dX9_copyFrom_171 : decode cX9_copyFrom 171 = .ok (.aload_n 0, 1) := by decide +kernel
theorem dX9_copyFrom_172 : decode cX9_copyFrom 172 = .ok (.getfield 55, 3) := by decide +kernel
theorem dX9_copyFrom_175 : decode cX9_copyFrom 175 = .ok (.iload_n 2, 1) := by decide +kernel
theorem dX9_copyFrom_176 : decode cX9_copyFrom 176 = .ok (.aaload, 1) := by decide +kernel
theorem dX9_copyFrom_177 : decode cX9_copyFrom 177 = .ok (.aload_n 1, 1) := by decide +kernel
theorem dX9_copyFrom_178 : decode cX9_copyFrom 178 = .ok (.getfield 55, 3) := by decide +kernel
theorem dX9_copyFrom_181 : decode cX9_copyFrom 181 = .ok (.iload_n 2, 1) := by decide +kernel
theorem dX9_copyFrom_182 : decode cX9_copyFrom 182 = .ok (.aaload, 1) := by decide +kernel
theorem dX9_copyFrom_183 : decode cX9_copyFrom 183 = .ok (.invokevirtual 77, 3) := by decide +kernel
theorem dX9_copyFrom_186 : decode cX9_copyFrom 186 = .ok (.iinc 2 1, 3) := by decide +kernel
theorem dX9_copyFrom_189 : decode cX9_copyFrom 189 = .ok (.goto (-36), 3) := by decide +kernel
theorem dX9_copyFrom_192 : decode cX9_copyFrom 192 = .ok (.aload_n 0, 1) := by decide +kernel
theorem dX9_copyFrom_193 : decode cX9_copyFrom 193 = .ok (.aload_n 1, 1) := by decide +kernel
theorem dX9_copyFrom_194 : decode cX9_copyFrom 194 = .ok (.getfield 81, 3) := by decide +kernel
theorem dX9_copyFrom_197 : decode cX9_copyFrom 197 = .ok (.putfield 81, 3) := by decide +kernel
theorem dX9_copyFrom_200 : decode cX9_copyFrom 200 = .ok (.iconst 0, 1) := by decide +kernel
theorem dX9_copyFrom_201 : decode cX9_copyFrom 201 = .ok (.istore_n 2, 1) := by decide +kernel
theorem dX9_copyFrom_202 : decode cX9_copyFrom 202 = .ok (.iload_n 2, 1) := by decide +kernel
theorem dX9_copyFrom_203 : decode cX9_copyFrom 203 = .ok (.aload_n 0, 1) := by decide +kernel
theorem dX9_copyFrom_204 : decode cX9_copyFrom 204 = .ok (.getfield 64, 3) := by decide +kernel
theorem dX9_copyFrom_207 : decode cX9_copyFrom 207 = .ok (.arraylength, 1) := by decide +kernel
theorem dX9_copyFrom_208 : decode cX9_copyFrom 208 = .ok (.if_icmp .ge 33, 3) := by decide +kernel
theorem dX9_copyFrom_211 : decode cX9_copyFrom 211 = .ok (.iload_n 2, 1) := by decide +kernel
theorem dX9_copyFrom_212 : decode cX9_copyFrom 212 = .ok (.aload_n 1, 1) := by decide +kernel
theorem dX9_copyFrom_213 : decode cX9_copyFrom 213 = .ok (.getfield 64, 3) := by decide +kernel
theorem dX9_copyFrom_216 : decode cX9_copyFrom 216 = .ok (.arraylength, 1) := by decide +kernel
theorem dX9_copyFrom_217 : decode cX9_copyFrom 217 = .ok (.if_icmp .ge 24, 3) := by decide +kernel
theorem dX9_copyFrom_220 : decode cX9_copyFrom 220 = .ok (.aload_n 0, 1) := by decide +kernel
theorem dX9_copyFrom_221 : decode cX9_copyFrom 221 = .ok (.getfield 64, 3) := by decide +kernel
theorem dX9_copyFrom_224 : decode cX9_copyFrom 224 = .ok (.iload_n 2, 1) := by decide +kernel
theorem dX9_copyFrom_225 : decode cX9_copyFrom 225 = .ok (.aaload, 1) := by decide +kernel
theorem dX9_copyFrom_226 : decode cX9_copyFrom 226 = .ok (.aload_n 1, 1) := by decide +kernel
theorem dX9_copyFrom_227 : decode cX9_copyFrom 227 = .ok (.getfield 64, 3) := by decide +kernel
theorem dX9_copyFrom_230 : decode cX9_copyFrom 230 = .ok (.iload_n 2, 1) := by decide +kernel
theorem dX9_copyFrom_231 : decode cX9_copyFrom 231 = .ok (.aaload, 1) := by decide +kernel
theorem dX9_copyFrom_232 : decode cX9_copyFrom 232 = .ok (.invokevirtual 85, 3) := by decide +kernel
theorem dX9_copyFrom_235 : decode cX9_copyFrom 235 = .ok (.iinc 2 1, 3) := by decide +kernel
theorem dX9_copyFrom_238 : decode cX9_copyFrom 238 = .ok (.goto (-36), 3) := by decide +kernel
theorem dX9_copyFrom_241 : decode cX9_copyFrom 241 = .ok (.aload_n 0, 1) := by decide +kernel
theorem dX9_copyFrom_242 : decode cX9_copyFrom 242 = .ok (.aload_n 1, 1) := by decide +kernel
theorem dX9_copyFrom_243 : decode cX9_copyFrom 243 = .ok (.getfield 88, 3) := by decide +kernel
theorem dX9_copyFrom_246 : decode cX9_copyFrom 246 = .ok (.putfield 88, 3) := by decide +kernel
theorem dX9_copyFrom_249 : decode cX9_copyFrom 249 = .ok (.return_, 1) := by decide +kernel
theorem dX9_tell_0 : decode cX9_tell 0 = .ok (.aload_n 0, 1) := by decide +kernel
theorem dX9_tell_1 : decode cX9_tell 1 = .ok (.getfield 9, 3) := by decide +kernel
theorem dX9_tell_4 : decode cX9_tell 4 = .ok (.iload_n 1, 1) := by decide +kernel
theorem dX9_tell_5 : decode cX9_tell 5 = .ok (.iload_n 2, 1) := by decide +kernel
theorem dX9_tell_6 : decode cX9_tell 6 = .ok (.invokestatic 91, 3) := by decide +kernel
theorem dX9_tell_9 : decode cX9_tell 9 = .ok (.aload_n 0, 1) := by decide +kernel
theorem dX9_tell_10 : decode cX9_tell 10 = .ok (.getfield 15, 3) := by decide +kernel
theorem dX9_tell_13 : decode cX9_tell 13 = .ok (.iload_n 1, 1) := by decide +kernel
theorem dX9_tell_14 : decode cX9_tell 14 = .ok (.iload_n 3, 1) := by decide +kernel
theorem dX9_tell_15 : decode cX9_tell 15 = .ok (.invokestatic 91, 3) := by decide +kernel
theorem dX9_tell_18 : decode cX9_tell 18 = .ok (.aload_n 0, 1) := by decide +kernel
theorem dX9_tell_19 : decode cX9_tell 19 = .ok (.getfield 18, 3) := by decide +kernel
theorem dX9_tell_22 : decode cX9_tell 22 = .ok (.iload_n 1, 1) := by decide +kernel
theorem dX9_tell_23 : decode cX9_tell 23 = .ok (.iload 4, 2) := by decide +kernel
theorem dX9_tell_25 : decode cX9_tell 25 = .ok (.invokestatic 91, 3) := by decide +kernel
theorem dX9_tell_28 : decode cX9_tell 28 = .ok (.aload_n 0, 1) := by decide +kernel
theorem dX9_tell_29 : decode cX9_tell 29 = .ok (.getfield 21, 3) := by decide +kernel
theorem dX9_tell_32 : decode cX9_tell 32 = .ok (.iload_n 1, 1) := by decide +kernel
theorem dX9_tell_33 : decode cX9_tell 33 = .ok (.iload 5, 2) := by decide +kernel
theorem dX9_tell_35 : decode cX9_tell 35 = .ok (.invokestatic 91, 3) := by decide +kernel
theorem dX9_tell_38 : decode cX9_tell 38 = .ok (.return_, 1) := by decide +kernel
theorem dX9_tellSplit_0 : decode cX9_tellSplit 0 = .ok (.aload_n 0, 1) := by decide +kernel
theorem dX9_tellSplit_1 : decode cX9_tellSplit 1 = .ok (.getfield 24, 3) := by decide +kernel
theorem dX9_tellSplit_4 : decode cX9_tellSplit 4 = .ok (.iload_n 1, 1) := by decide +kernel
theorem dX9_tellSplit_5 : decode cX9_tellSplit 5 = .ok (.iload_n 2, 1) := by decide +kernel
theorem dX9_tellSplit_6 : decode cX9_tellSplit 6 = .ok (.invokestatic 91, 3) := by decide +kernel
theorem dX9_tellSplit_9 : decode cX9_tellSplit 9 = .ok (.aload_n 0, 1) := by decide +kernel
theorem dX9_tellSplit_10 : decode cX9_tellSplit 10 = .ok (.getfield 27, 3) := by decide +kernel
theorem dX9_tellSplit_13 : decode cX9_tellSplit 13 = .ok (.iload_n 1, 1) := by decide +kernel
theorem dX9_tellSplit_14 : decode cX9_tellSplit 14 = .ok (.iload_n 3, 1) := by decide +kernel
theorem dX9_tellSplit_15 : decode cX9_tellSplit 15 = .ok (.invokestatic 91, 3) := by decide +kernel
theorem dX9_tellSplit_18 : decode cX9_tellSplit 18 = .ok (.return_, 1) := by decide +kernel
theorem dX9_tellCapital_0 : decode cX9_tellCapital 0 = .ok (.aload_n 0, 1) := by decide +kernel
theorem dX9_tellCapital_1 : decode cX9_tellCapital 1 = .ok (.getfield 30, 3) := by decide +kernel
theorem dX9_tellCapital_4 : decode cX9_tellCapital 4 = .ok (.iload_n 1, 1) := by decide +kernel
theorem dX9_tellCapital_5 : decode cX9_tellCapital 5 = .ok (.iload_n 2, 1) := by decide +kernel
theorem dX9_tellCapital_6 : decode cX9_tellCapital 6 = .ok (.invokestatic 91, 3) := by decide +kernel
theorem dX9_tellCapital_9 : decode cX9_tellCapital 9 = .ok (.aload_n 0, 1) := by decide +kernel
theorem dX9_tellCapital_10 : decode cX9_tellCapital 10 = .ok (.getfield 33, 3) := by decide +kernel
theorem dX9_tellCapital_13 : decode cX9_tellCapital 13 = .ok (.iload_n 1, 1) := by decide +kernel
theorem dX9_tellCapital_14 : decode cX9_tellCapital 14 = .ok (.iload_n 3, 1) := by decide +kernel
theorem dX9_tellCapital_15 : decode cX9_tellCapital 15 = .ok (.invokestatic 91, 3) := by decide +kernel
theorem dX9_tellCapital_18 : decode cX9_tellCapital 18 = .ok (.return_, 1) := by decide +kernel
theorem dX9_tellPartners_0 : decode cX9_tellPartners 0 = .ok (.aload_n 0, 1) := by decide +kernel
theorem dX9_tellPartners_1 : decode cX9_tellPartners 1 = .ok (.getfield 36, 3) := by decide +kernel
theorem dX9_tellPartners_4 : decode cX9_tellPartners 4 = .ok (.iload_n 1, 1) := by decide +kernel
theorem dX9_tellPartners_5 : decode cX9_tellPartners 5 = .ok (.iload_n 2, 1) := by decide +kernel
theorem dX9_tellPartners_6 : decode cX9_tellPartners 6 = .ok (.invokestatic 91, 3) := by decide +kernel
theorem dX9_tellPartners_9 : decode cX9_tellPartners 9 = .ok (.aload_n 0, 1) := by decide +kernel
theorem dX9_tellPartners_10 : decode cX9_tellPartners 10 = .ok (.getfield 36, 3) := by decide +kernel
theorem dX9_tellPartners_13 : decode cX9_tellPartners 13 = .ok (.iload_n 2, 1) := by decide +kernel
theorem dX9_tellPartners_14 : decode cX9_tellPartners 14 = .ok (.iload_n 1, 1) := by decide +kernel
theorem dX9_tellPartners_15 : decode cX9_tellPartners 15 = .ok (.invokestatic 91, 3) := by decide +kernel
theorem dX9_tellPartners_18 : decode cX9_tellPartners 18 = .ok (.aload_n 0, 1) := by decide +kernel
theorem dX9_tellPartners_19 : decode cX9_tellPartners 19 = .ok (.getfield 39, 3) := by decide +kernel
theorem dX9_tellPartners_22 : decode cX9_tellPartners 22 = .ok (.iload_n 1, 1) := by decide +kernel
theorem dX9_tellPartners_23 : decode cX9_tellPartners 23 = .ok (.iconst 1, 1) := by decide +kernel
theorem dX9_tellPartners_24 : decode cX9_tellPartners 24 = .ok (.invokestatic 91, 3) := by decide +kernel
theorem dX9_tellPartners_27 : decode cX9_tellPartners 27 = .ok (.aload_n 0, 1) := by decide +kernel
theorem dX9_tellPartners_28 : decode cX9_tellPartners 28 = .ok (.getfield 39, 3) := by decide +kernel
theorem dX9_tellPartners_31 : decode cX9_tellPartners 31 = .ok (.iload_n 2, 1) := by decide +kernel
theorem dX9_tellPartners_32 : decode cX9_tellPartners 32 = .ok (.iconst 0, 1) := by decide +kernel
theorem dX9_tellPartners_33 : decode cX9_tellPartners 33 = .ok (.invokestatic 91, 3) := by decide +kernel
theorem dX9_tellPartners_36 : decode cX9_tellPartners 36 = .ok (.return_, 1) := by decide +kernel
theorem dX9_joinsOf_0 : decode cX9_joinsOf 0 = .ok (.aload_n 0, 1) := by decide +kernel
theorem dX9_joinsOf_1 : decode cX9_joinsOf 1 = .ok (.getfield 9, 3) := by decide +kernel
theorem dX9_joinsOf_4 : decode cX9_joinsOf 4 = .ok (.iload_n 1, 1) := by decide +kernel
theorem dX9_joinsOf_5 : decode cX9_joinsOf 5 = .ok (.iconst 0, 1) := by decide +kernel
theorem dX9_joinsOf_6 : decode cX9_joinsOf 6 = .ok (.invokestatic 95, 3) := by decide +kernel
theorem dX9_joinsOf_9 : decode cX9_joinsOf 9 = .ok (.ireturn, 1) := by decide +kernel
theorem dX9_directionOf_0 : decode cX9_directionOf 0 = .ok (.aload_n 0, 1) := by decide +kernel
theorem dX9_directionOf_1 : decode cX9_directionOf 1 = .ok (.getfield 15, 3) := by decide +kernel
theorem dX9_directionOf_4 : decode cX9_directionOf 4 = .ok (.iload_n 1, 1) := by decide +kernel
theorem dX9_directionOf_5 : decode cX9_directionOf 5 = .ok (.iconst 3, 1) := by decide +kernel
theorem dX9_directionOf_6 : decode cX9_directionOf 6 = .ok (.invokestatic 95, 3) := by decide +kernel
theorem dX9_directionOf_9 : decode cX9_directionOf 9 = .ok (.ireturn, 1) := by decide +kernel
theorem dX9_kindOf_0 : decode cX9_kindOf 0 = .ok (.aload_n 0, 1) := by decide +kernel
theorem dX9_kindOf_1 : decode cX9_kindOf 1 = .ok (.getfield 18, 3) := by decide +kernel
theorem dX9_kindOf_4 : decode cX9_kindOf 4 = .ok (.iload_n 1, 1) := by decide +kernel
theorem dX9_kindOf_5 : decode cX9_kindOf 5 = .ok (.iconst 0, 1) := by decide +kernel
theorem dX9_kindOf_6 : decode cX9_kindOf 6 = .ok (.invokestatic 95, 3) := by decide +kernel
theorem dX9_kindOf_9 : decode cX9_kindOf 9 = .ok (.ireturn, 1) := by decide +kernel
theorem dX9_likeOf_0 : decode cX9_likeOf 0 = .ok (.aload_n 0, 1) := by decide +kernel
theorem dX9_likeOf_1 : decode cX9_likeOf 1 = .ok (.getfield 21, 3) := by decide +kernel
theorem dX9_likeOf_4 : decode cX9_likeOf 4 = .ok (.iload_n 1, 1) := by decide +kernel
theorem dX9_likeOf_5 : decode cX9_likeOf 5 = .ok (.iload_n 1, 1) := by decide +kernel
theorem dX9_likeOf_6 : decode cX9_likeOf 6 = .ok (.invokestatic 95, 3) := by decide +kernel
theorem dX9_likeOf_9 : decode cX9_likeOf 9 = .ok (.ireturn, 1) := by decide +kernel
theorem dX9_splitOneOf_0 : decode cX9_splitOneOf 0 = .ok (.aload_n 0, 1) := by decide +kernel
theorem dX9_splitOneOf_1 : decode cX9_splitOneOf 1 = .ok (.getfield 24, 3) := by decide +kernel
theorem dX9_splitOneOf_4 : decode cX9_splitOneOf 4 = .ok (.iload_n 1, 1) := by decide +kernel
theorem dX9_splitOneOf_5 : decode cX9_splitOneOf 5 = .ok (.iconst (-1), 1) := by decide +kernel
theorem dX9_splitOneOf_6 : decode cX9_splitOneOf 6 = .ok (.invokestatic 95, 3) := by decide +kernel
theorem dX9_splitOneOf_9 : decode cX9_splitOneOf 9 = .ok (.ireturn, 1) := by decide +kernel
theorem dX9_splitOtherOf_0 : decode cX9_splitOtherOf 0 = .ok (.aload_n 0, 1) := by decide +kernel
theorem dX9_splitOtherOf_1 : decode cX9_splitOtherOf 1 = .ok (.getfield 27, 3) := by decide +kernel
theorem dX9_splitOtherOf_4 : decode cX9_splitOtherOf 4 = .ok (.iload_n 1, 1) := by decide +kernel
theorem dX9_splitOtherOf_5 : decode cX9_splitOtherOf 5 = .ok (.iconst (-1), 1) := by decide +kernel
theorem dX9_splitOtherOf_6 : decode cX9_splitOtherOf 6 = .ok (.invokestatic 95, 3) := by decide +kernel
theorem dX9_splitOtherOf_9 : decode cX9_splitOtherOf 9 = .ok (.ireturn, 1) := by decide +kernel
theorem dX9_capitalOneOf_0 : decode cX9_capitalOneOf 0 = .ok (.aload_n 0, 1) := by decide +kernel
theorem dX9_capitalOneOf_1 : decode cX9_capitalOneOf 1 = .ok (.getfield 30, 3) := by decide +kernel
theorem dX9_capitalOneOf_4 : decode cX9_capitalOneOf 4 = .ok (.iload_n 1, 1) := by decide +kernel
theorem dX9_capitalOneOf_5 : decode cX9_capitalOneOf 5 = .ok (.iconst (-1), 1) := by decide +kernel
theorem dX9_capitalOneOf_6 : decode cX9_capitalOneOf 6 = .ok (.invokestatic 95, 3) := by decide +kernel
theorem dX9_capitalOneOf_9 : decode cX9_capitalOneOf 9 = .ok (.ireturn, 1) := by decide +kernel
theorem dX9_capitalOtherOf_0 : decode cX9_capitalOtherOf 0 = .ok (.aload_n 0, 1) := by decide +kernel
theorem dX9_capitalOtherOf_1 : decode cX9_capitalOtherOf 1 = .ok (.getfield 33, 3) := by decide +kernel
theorem dX9_capitalOtherOf_4 : decode cX9_capitalOtherOf 4 = .ok (.iload_n 1, 1) := by decide +kernel
theorem dX9_capitalOtherOf_5 : decode cX9_capitalOtherOf 5 = .ok (.iconst (-1), 1) := by decide +kernel
theorem dX9_capitalOtherOf_6 : decode cX9_capitalOtherOf 6 = .ok (.invokestatic 95, 3) := by decide +kernel
theorem dX9_capitalOtherOf_9 : decode cX9_capitalOtherOf 9 = .ok (.ireturn, 1) := by decide +kernel
theorem dX9_partnerOf_0 : decode cX9_partnerOf 0 = .ok (.aload_n 0, 1) := by decide +kernel
theorem dX9_partnerOf_1 : decode cX9_partnerOf 1 = .ok (.getfield 36, 3) := by decide +kernel
theorem dX9_partnerOf_4 : decode cX9_partnerOf 4 = .ok (.iload_n 1, 1) := by decide +kernel
theorem dX9_partnerOf_5 : decode cX9_partnerOf 5 = .ok (.iconst (-1), 1) := by decide +kernel
theorem dX9_partnerOf_6 : decode cX9_partnerOf 6 = .ok (.invokestatic 95, 3) := by decide +kernel
theorem dX9_partnerOf_9 : decode cX9_partnerOf 9 = .ok (.ireturn, 1) := by decide +kernel
theorem dX9_isOpening_0 : decode cX9_isOpening 0 = .ok (.aload_n 0, 1) := by decide +kernel
theorem dX9_isOpening_1 : decode cX9_isOpening 1 = .ok (.iload_n 1, 1) := by decide +kernel
theorem dX9_isOpening_2 : decode cX9_isOpening 2 = .ok (.invokevirtual 99, 3) := by decide +kernel
theorem dX9_isOpening_5 : decode cX9_isOpening 5 = .ok (.iconst (-1), 1) := by decide +kernel
theorem dX9_isOpening_6 : decode cX9_isOpening 6 = .ok (.if_icmp .eq 20, 3) := by decide +kernel
theorem dX9_isOpening_9 : decode cX9_isOpening 9 = .ok (.aload_n 0, 1) := by decide +kernel
theorem dX9_isOpening_10 : decode cX9_isOpening 10 = .ok (.getfield 39, 3) := by decide +kernel
theorem dX9_isOpening_13 : decode cX9_isOpening 13 = .ok (.iload_n 1, 1) := by decide +kernel
theorem dX9_isOpening_14 : decode cX9_isOpening 14 = .ok (.iconst 0, 1) := by decide +kernel
theorem dX9_isOpening_15 : decode cX9_isOpening 15 = .ok (.invokestatic 95, 3) := by decide +kernel
theorem dX9_isOpening_18 : decode cX9_isOpening 18 = .ok (.iconst 1, 1) := by decide +kernel
theorem dX9_isOpening_19 : decode cX9_isOpening 19 = .ok (.if_icmp .ne 7, 3) := by decide +kernel
theorem dX9_isOpening_22 : decode cX9_isOpening 22 = .ok (.iconst 1, 1) := by decide +kernel
theorem dX9_isOpening_23 : decode cX9_isOpening 23 = .ok (.goto 4, 3) := by decide +kernel
theorem dX9_isOpening_26 : decode cX9_isOpening 26 = .ok (.iconst 0, 1) := by decide +kernel
theorem dX9_isOpening_27 : decode cX9_isOpening 27 = .ok (.ireturn, 1) := by decide +kernel
theorem dX9_isClosing_0 : decode cX9_isClosing 0 = .ok (.aload_n 0, 1) := by decide +kernel
theorem dX9_isClosing_1 : decode cX9_isClosing 1 = .ok (.iload_n 1, 1) := by decide +kernel
theorem dX9_isClosing_2 : decode cX9_isClosing 2 = .ok (.invokevirtual 99, 3) := by decide +kernel
theorem dX9_isClosing_5 : decode cX9_isClosing 5 = .ok (.iconst (-1), 1) := by decide +kernel
theorem dX9_isClosing_6 : decode cX9_isClosing 6 = .ok (.if_icmp .eq 19, 3) := by decide +kernel
theorem dX9_isClosing_9 : decode cX9_isClosing 9 = .ok (.aload_n 0, 1) := by decide +kernel
theorem dX9_isClosing_10 : decode cX9_isClosing 10 = .ok (.getfield 39, 3) := by decide +kernel
theorem dX9_isClosing_13 : decode cX9_isClosing 13 = .ok (.iload_n 1, 1) := by decide +kernel
theorem dX9_isClosing_14 : decode cX9_isClosing 14 = .ok (.iconst 0, 1) := by decide +kernel
theorem dX9_isClosing_15 : decode cX9_isClosing 15 = .ok (.invokestatic 95, 3) := by decide +kernel
theorem dX9_isClosing_18 : decode cX9_isClosing 18 = .ok (.ifCond .ne 7, 3) := by decide +kernel
theorem dX9_isClosing_21 : decode cX9_isClosing 21 = .ok (.iconst 1, 1) := by decide +kernel
theorem dX9_isClosing_22 : decode cX9_isClosing 22 = .ok (.goto 4, 3) := by decide +kernel
theorem dX9_isClosing_25 : decode cX9_isClosing 25 = .ok (.iconst 0, 1) := by decide +kernel
theorem dX9_isClosing_26 : decode cX9_isClosing 26 = .ok (.ireturn, 1) := by decide +kernel
theorem dX9_joinedOf_0 : decode cX9_joinedOf 0 = .ok (.iconst 0, 1) := by decide +kernel
theorem dX9_joinedOf_1 : decode cX9_joinedOf 1 = .ok (.istore_n 3, 1) := by decide +kernel
theorem dX9_joinedOf_2 : decode cX9_joinedOf 2 = .ok (.iload_n 3, 1) := by decide +kernel
theorem dX9_joinedOf_3 : decode cX9_joinedOf 3 = .ok (.bipush 96, 2) := by decide +kernel
theorem dX9_joinedOf_5 : decode cX9_joinedOf 5 = .ok (.if_icmp .ge 29, 3) := by decide +kernel
theorem dX9_joinedOf_8 : decode cX9_joinedOf 8 = .ok (.aload_n 0, 1) := by decide +kernel
theorem dX9_joinedOf_9 : decode cX9_joinedOf 9 = .ok (.iload_n 3, 1) := by decide +kernel
theorem dX9_joinedOf_10 : decode cX9_joinedOf 10 = .ok (.invokevirtual 103, 3) := by decide +kernel
theorem dX9_joinedOf_13 : decode cX9_joinedOf 13 = .ok (.iload_n 1, 1) := by decide +kernel
theorem dX9_joinedOf_14 : decode cX9_joinedOf 14 = .ok (.if_icmp .ne 14, 3) := by decide +kernel
theorem dX9_joinedOf_17 : decode cX9_joinedOf 17 = .ok (.aload_n 0, 1) := by decide +kernel
theorem dX9_joinedOf_18 : decode cX9_joinedOf 18 = .ok (.iload_n 3, 1) := by decide +kernel
theorem dX9_joinedOf_19 : decode cX9_joinedOf 19 = .ok (.invokevirtual 106, 3) := by decide +kernel
theorem dX9_joinedOf_22 : decode cX9_joinedOf 22 = .ok (.iload_n 2, 1) := by decide +kernel
theorem dX9_joinedOf_23 : decode cX9_joinedOf 23 = .ok (.if_icmp .ne 5, 3) := by decide +kernel
theorem dX9_joinedOf_26 : decode cX9_joinedOf 26 = .ok (.iload_n 3, 1) := by decide +kernel
theorem dX9_joinedOf_27 : decode cX9_joinedOf 27 = .ok (.ireturn, 1) := by decide +kernel
theorem dX9_joinedOf_28 : decode cX9_joinedOf 28 = .ok (.iinc 3 1, 3) := by decide +kernel
theorem dX9_joinedOf_31 : decode cX9_joinedOf 31 = .ok (.goto (-29), 3) := by decide +kernel
theorem dX9_joinedOf_34 : decode cX9_joinedOf 34 = .ok (.iconst (-1), 1) := by decide +kernel
theorem dX9_joinedOf_35 : decode cX9_joinedOf 35 = .ok (.ireturn, 1) := by decide +kernel
theorem dX9_capitalsInto_0 : decode cX9_capitalsInto 0 = .ok (.aload_n 1, 1) := by decide +kernel
theorem dX9_capitalsInto_1 : decode cX9_capitalsInto 1 = .ok (.iconst 0, 1) := by decide +kernel
theorem dX9_capitalsInto_2 : decode cX9_capitalsInto 2 = .ok (.bipush 96, 2) := by decide +kernel
theorem dX9_capitalsInto_4 : decode cX9_capitalsInto 4 = .ok (.invokevirtual 109, 3) := by decide +kernel
theorem dX9_capitalsInto_7 : decode cX9_capitalsInto 7 = .ok (.iconst 0, 1) := by decide +kernel
theorem dX9_capitalsInto_8 : decode cX9_capitalsInto 8 = .ok (.istore_n 2, 1) := by decide +kernel
theorem dX9_capitalsInto_9 : decode cX9_capitalsInto 9 = .ok (.iload_n 2, 1) := by decide +kernel
theorem dX9_capitalsInto_10 : decode cX9_capitalsInto 10 = .ok (.bipush 96, 2) := by decide +kernel
theorem dX9_capitalsInto_12 : decode cX9_capitalsInto 12 = .ok (.if_icmp .ge 46, 3) := by decide +kernel
theorem dX9_capitalsInto_15 : decode cX9_capitalsInto 15 = .ok (.aload_n 0, 1) := by decide +kernel
theorem dX9_capitalsInto_16 : decode cX9_capitalsInto 16 = .ok (.iload_n 2, 1) := by decide +kernel
theorem dX9_capitalsInto_17 : decode cX9_capitalsInto 17 = .ok (.invokevirtual 113, 3) := by decide +kernel
theorem dX9_capitalsInto_20 : decode cX9_capitalsInto 20 = .ok (.istore_n 3, 1) := by decide +kernel
theorem dX9_capitalsInto_21 : decode cX9_capitalsInto 21 = .ok (.aload_n 0, 1) := by decide +kernel
theorem dX9_capitalsInto_22 : decode cX9_capitalsInto 22 = .ok (.iload_n 2, 1) := by decide +kernel
theorem dX9_capitalsInto_23 : decode cX9_capitalsInto 23 = .ok (.invokevirtual 116, 3) := by decide +kernel
theorem dX9_capitalsInto_26 : decode cX9_capitalsInto 26 = .ok (.istore 4, 2) := by decide +kernel
theorem dX9_capitalsInto_28 : decode cX9_capitalsInto 28 = .ok (.iload_n 3, 1) := by decide +kernel
theorem dX9_capitalsInto_29 : decode cX9_capitalsInto 29 = .ok (.iload_n 2, 1) := by decide +kernel
theorem dX9_capitalsInto_30 : decode cX9_capitalsInto 30 = .ok (.if_icmp .eq 9, 3) := by decide +kernel
theorem dX9_capitalsInto_33 : decode cX9_capitalsInto 33 = .ok (.aload_n 1, 1) := by decide +kernel
theorem dX9_capitalsInto_34 : decode cX9_capitalsInto 34 = .ok (.iload_n 3, 1) := by decide +kernel
theorem dX9_capitalsInto_35 : decode cX9_capitalsInto 35 = .ok (.iconst 1, 1) := by decide +kernel
theorem dX9_capitalsInto_36 : decode cX9_capitalsInto 36 = .ok (.invokevirtual 119, 3) := by decide +kernel
theorem dX9_capitalsInto_39 : decode cX9_capitalsInto 39 = .ok (.iload 4, 2) := by decide +kernel
theorem dX9_capitalsInto_41 : decode cX9_capitalsInto 41 = .ok (.iload_n 2, 1) := by decide +kernel
theorem dX9_capitalsInto_42 : decode cX9_capitalsInto 42 = .ok (.if_icmp .eq 10, 3) := by decide +kernel
theorem dX9_capitalsInto_45 : decode cX9_capitalsInto 45 = .ok (.aload_n 1, 1) := by decide +kernel
theorem dX9_capitalsInto_46 : decode cX9_capitalsInto 46 = .ok (.iload 4, 2) := by decide +kernel
theorem dX9_capitalsInto_48 : decode cX9_capitalsInto 48 = .ok (.iconst 1, 1) := by decide +kernel
theorem dX9_capitalsInto_49 : decode cX9_capitalsInto 49 = .ok (.invokevirtual 119, 3) := by decide +kernel
theorem dX9_capitalsInto_52 : decode cX9_capitalsInto 52 = .ok (.iinc 2 1, 3) := by decide +kernel
theorem dX9_capitalsInto_55 : decode cX9_capitalsInto 55 = .ok (.goto (-46), 3) := by decide +kernel
theorem dX9_capitalsInto_58 : decode cX9_capitalsInto 58 = .ok (.return_, 1) := by decide +kernel
theorem dX9_languageAt_0 : decode cX9_languageAt 0 = .ok (.iload_n 1, 1) := by decide +kernel
theorem dX9_languageAt_1 : decode cX9_languageAt 1 = .ok (.ifCond .lt 12, 3) := by decide +kernel
theorem dX9_languageAt_4 : decode cX9_languageAt 4 = .ok (.iload_n 1, 1) := by decide +kernel
theorem dX9_languageAt_5 : decode cX9_languageAt 5 = .ok (.aload_n 0, 1) := by decide +kernel
theorem dX9_languageAt_6 : decode cX9_languageAt 6 = .ok (.getfield 48, 3) := by decide +kernel
theorem dX9_languageAt_9 : decode cX9_languageAt 9 = .ok (.arraylength, 1) := by decide +kernel
theorem dX9_languageAt_10 : decode cX9_languageAt 10 = .ok (.if_icmp .lt 7, 3) := by decide +kernel
theorem dX9_languageAt_13 : decode cX9_languageAt 13 = .ok (.aconst_null, 1) := by decide +kernel
theorem dX9_languageAt_14 : decode cX9_languageAt 14 = .ok (.goto 9, 3) := by decide +kernel
theorem dX9_languageAt_17 : decode cX9_languageAt 17 = .ok (.aload_n 0, 1) := by decide +kernel
theorem dX9_languageAt_18 : decode cX9_languageAt 18 = .ok (.getfield 48, 3) := by decide +kernel
theorem dX9_languageAt_21 : decode cX9_languageAt 21 = .ok (.iload_n 1, 1) := by decide +kernel
theorem dX9_languageAt_22 : decode cX9_languageAt 22 = .ok (.aaload, 1) := by decide +kernel
theorem dX9_languageAt_23 : decode cX9_languageAt 23 = .ok (.areturn, 1) := by decide +kernel
theorem dX9_takeWord_0 : decode cX9_takeWord 0 = .ok (.aload_n 0, 1) := by decide +kernel
theorem dX9_takeWord_1 : decode cX9_takeWord 1 = .ok (.getfield 81, 3) := by decide +kernel
theorem dX9_takeWord_4 : decode cX9_takeWord 4 = .ok (.ifCond .lt 15, 3) := by decide +kernel
theorem dX9_takeWord_7 : decode cX9_takeWord 7 = .ok (.aload_n 0, 1) := by decide +kernel
theorem dX9_takeWord_8 : decode cX9_takeWord 8 = .ok (.getfield 81, 3) := by decide +kernel
theorem dX9_takeWord_11 : decode cX9_takeWord 11 = .ok (.aload_n 0, 1) := by decide +kernel
theorem dX9_takeWord_12 : decode cX9_takeWord 12 = .ok (.getfield 55, 3) := by decide +kernel
theorem dX9_takeWord_15 : decode cX9_takeWord 15 = .ok (.arraylength, 1) := by decide +kernel
theorem dX9_takeWord_16 : decode cX9_takeWord 16 = .ok (.if_icmp .lt 5, 3) := by decide +kernel
theorem dX9_takeWord_19 : decode cX9_takeWord 19 = .ok (.iconst 0, 1) := by decide +kernel
theorem dX9_takeWord_20 : decode cX9_takeWord 20 = .ok (.ireturn, 1) := by decide +kernel
theorem dX9_takeWord_21 : decode cX9_takeWord 21 = .ok (.aload_n 0, 1) := by decide +kernel
theorem dX9_takeWord_22 : decode cX9_takeWord 22 = .ok (.getfield 55, 3) := by decide +kernel
theorem dX9_takeWord_25 : decode cX9_takeWord 25 = .ok (.aload_n 0, 1) := by decide +kernel
theorem dX9_takeWord_26 : decode cX9_takeWord 26 = .ok (.getfield 81, 3) := by decide +kernel
theorem dX9_takeWord_29 : decode cX9_takeWord 29 = .ok (.aaload, 1) := by decide +kernel
theorem dX9_takeWord_30 : decode cX9_takeWord 30 = .ok (.aload_n 1, 1) := by decide +kernel
theorem dX9_takeWord_31 : decode cX9_takeWord 31 = .ok (.invokevirtual 77, 3) := by decide +kernel
theorem dX9_takeWord_34 : decode cX9_takeWord 34 = .ok (.aload_n 0, 1) := by decide +kernel
theorem dX9_takeWord_35 : decode cX9_takeWord 35 = .ok (.dup, 1) := by decide +kernel
theorem dX9_takeWord_36 : decode cX9_takeWord 36 = .ok (.getfield 81, 3) := by decide +kernel
theorem dX9_takeWord_39 : decode cX9_takeWord 39 = .ok (.iconst 1, 1) := by decide +kernel
theorem dX9_takeWord_40 : decode cX9_takeWord 40 = .ok (.iadd, 1) := by decide +kernel
theorem dX9_takeWord_41 : decode cX9_takeWord 41 = .ok (.putfield 81, 3) := by decide +kernel
theorem dX9_takeWord_44 : decode cX9_takeWord 44 = .ok (.iconst 1, 1) := by decide +kernel
theorem dX9_takeWord_45 : decode cX9_takeWord 45 = .ok (.ireturn, 1) := by decide +kernel
theorem dX9_wordCount_0 : decode cX9_wordCount 0 = .ok (.aload_n 0, 1) := by decide +kernel
theorem dX9_wordCount_1 : decode cX9_wordCount 1 = .ok (.getfield 81, 3) := by decide +kernel
theorem dX9_wordCount_4 : decode cX9_wordCount 4 = .ok (.ireturn, 1) := by decide +kernel
theorem dX9_wordAt_0 : decode cX9_wordAt 0 = .ok (.iload_n 1, 1) := by decide +kernel
theorem dX9_wordAt_1 : decode cX9_wordAt 1 = .ok (.ifCond .lt 20, 3) := by decide +kernel
theorem dX9_wordAt_4 : decode cX9_wordAt 4 = .ok (.iload_n 1, 1) := by decide +kernel
theorem dX9_wordAt_5 : decode cX9_wordAt 5 = .ok (.aload_n 0, 1) := by decide +kernel
theorem dX9_wordAt_6 : decode cX9_wordAt 6 = .ok (.getfield 81, 3) := by decide +kernel
theorem dX9_wordAt_9 : decode cX9_wordAt 9 = .ok (.if_icmp .ge 12, 3) := by decide +kernel
theorem dX9_wordAt_12 : decode cX9_wordAt 12 = .ok (.iload_n 1, 1) := by decide +kernel
theorem dX9_wordAt_13 : decode cX9_wordAt 13 = .ok (.aload_n 0, 1) := by decide +kernel
theorem dX9_wordAt_14 : decode cX9_wordAt 14 = .ok (.getfield 55, 3) := by decide +kernel
theorem dX9_wordAt_17 : decode cX9_wordAt 17 = .ok (.arraylength, 1) := by decide +kernel
theorem dX9_wordAt_18 : decode cX9_wordAt 18 = .ok (.if_icmp .lt 7, 3) := by decide +kernel
theorem dX9_wordAt_21 : decode cX9_wordAt 21 = .ok (.aconst_null, 1) := by decide +kernel
theorem dX9_wordAt_22 : decode cX9_wordAt 22 = .ok (.goto 9, 3) := by decide +kernel
theorem dX9_wordAt_25 : decode cX9_wordAt 25 = .ok (.aload_n 0, 1) := by decide +kernel
theorem dX9_wordAt_26 : decode cX9_wordAt 26 = .ok (.getfield 55, 3) := by decide +kernel
theorem dX9_wordAt_29 : decode cX9_wordAt 29 = .ok (.iload_n 1, 1) := by decide +kernel
theorem dX9_wordAt_30 : decode cX9_wordAt 30 = .ok (.aaload, 1) := by decide +kernel
theorem dX9_wordAt_31 : decode cX9_wordAt 31 = .ok (.areturn, 1) := by decide +kernel
theorem dX9_nextRule_0 : decode cX9_nextRule 0 = .ok (.aload_n 0, 1) := by decide +kernel
theorem dX9_nextRule_1 : decode cX9_nextRule 1 = .ok (.getfield 88, 3) := by decide +kernel
theorem dX9_nextRule_4 : decode cX9_nextRule 4 = .ok (.ifCond .lt 15, 3) := by decide +kernel
theorem dX9_nextRule_7 : decode cX9_nextRule 7 = .ok (.aload_n 0, 1) := by decide +kernel
theorem dX9_nextRule_8 : decode cX9_nextRule 8 = .ok (.getfield 88, 3) := by decide +kernel
theorem dX9_nextRule_11 : decode cX9_nextRule 11 = .ok (.aload_n 0, 1) := by decide +kernel
theorem dX9_nextRule_12 : decode cX9_nextRule 12 = .ok (.getfield 64, 3) := by decide +kernel
theorem dX9_nextRule_15 : decode cX9_nextRule 15 = .ok (.arraylength, 1) := by decide +kernel
theorem dX9_nextRule_16 : decode cX9_nextRule 16 = .ok (.if_icmp .lt 7, 3) := by decide +kernel
theorem dX9_nextRule_19 : decode cX9_nextRule 19 = .ok (.aconst_null, 1) := by decide +kernel
theorem dX9_nextRule_20 : decode cX9_nextRule 20 = .ok (.goto 12, 3) := by decide +kernel
theorem dX9_nextRule_23 : decode cX9_nextRule 23 = .ok (.aload_n 0, 1) := by decide +kernel
theorem dX9_nextRule_24 : decode cX9_nextRule 24 = .ok (.getfield 64, 3) := by decide +kernel
theorem dX9_nextRule_27 : decode cX9_nextRule 27 = .ok (.aload_n 0, 1) := by decide +kernel
theorem dX9_nextRule_28 : decode cX9_nextRule 28 = .ok (.getfield 88, 3) := by decide +kernel
theorem dX9_nextRule_31 : decode cX9_nextRule 31 = .ok (.aaload, 1) := by decide +kernel
theorem dX9_nextRule_32 : decode cX9_nextRule 32 = .ok (.areturn, 1) := by decide +kernel
theorem dX9_countRule_0 : decode cX9_countRule 0 = .ok (.aload_n 0, 1) := by decide +kernel
theorem dX9_countRule_1 : decode cX9_countRule 1 = .ok (.dup, 1) := by decide +kernel
theorem dX9_countRule_2 : decode cX9_countRule 2 = .ok (.getfield 88, 3) := by decide +kernel
theorem dX9_countRule_5 : decode cX9_countRule 5 = .ok (.iconst 1, 1) := by decide +kernel
theorem dX9_countRule_6 : decode cX9_countRule 6 = .ok (.iadd, 1) := by decide +kernel
theorem dX9_countRule_7 : decode cX9_countRule 7 = .ok (.putfield 88, 3) := by decide +kernel
theorem dX9_countRule_10 : decode cX9_countRule 10 = .ok (.aload_n 0, 1) := by decide +kernel
theorem dX9_countRule_11 : decode cX9_countRule 11 = .ok (.getfield 88, 3) := by decide +kernel
theorem dX9_countRule_14 : decode cX9_countRule 14 = .ok (.ireturn, 1) := by decide +kernel
theorem dX9_passInto_0 : decode cX9_passInto 0 = .ok (.aload 4, 2) := by decide +kernel
theorem dX9_passInto_2 : decode cX9_passInto 2 = .ok (.iconst 0, 1) := by decide +kernel
theorem dX9_passInto_3 : decode cX9_passInto 3 = .ok (.invokevirtual 122, 3) := by decide +kernel
theorem dX9_passInto_6 : decode cX9_passInto 6 = .ok (.iconst 0, 1) := by decide +kernel
theorem dX9_passInto_7 : decode cX9_passInto 7 = .ok (.istore 5, 2) := by decide +kernel
theorem dX9_passInto_9 : decode cX9_passInto 9 = .ok (.iconst 0, 1) := by decide +kernel
theorem dX9_passInto_10 : decode cX9_passInto 10 = .ok (.istore 6, 2) := by decide +kernel
theorem dX9_passInto_12 : decode cX9_passInto 12 = .ok (.iload 6, 2) := by decide +kernel
theorem dX9_passInto_14 : decode cX9_passInto 14 = .ok (.bipush 40, 2) := by decide +kernel
theorem dX9_passInto_16 : decode cX9_passInto 16 = .ok (.if_icmp .ge 86, 3) := by decide +kernel
theorem dX9_passInto_19 : decode cX9_passInto 19 = .ok (.iload 5, 2) := by decide +kernel
theorem dX9_passInto_21 : decode cX9_passInto 21 = .ok (.aload_n 3, 1) := by decide +kernel
theorem dX9_passInto_22 : decode cX9_passInto 22 = .ok (.invokevirtual 125, 3) := by decide +kernel
theorem dX9_passInto_25 : decode cX9_passInto 25 = .ok (.if_icmp .ge 77, 3) := by decide +kernel
theorem dX9_passInto_28 : decode cX9_passInto 28 = .ok (.aload_n 0, 1) := by decide +kernel
theorem dX9_passInto_29 : decode cX9_passInto 29 = .ok (.iload_n 1, 1) := by decide +kernel
theorem dX9_passInto_30 : decode cX9_passInto 30 = .ok (.iload_n 2, 1) := by decide +kernel
theorem dX9_passInto_31 : decode cX9_passInto 31 = .ok (.aload_n 3, 1) := by decide +kernel
theorem dX9_passInto_32 : decode cX9_passInto 32 = .ok (.iload 5, 2) := by decide +kernel
theorem dX9_passInto_34 : decode cX9_passInto 34 = .ok (.aload 4, 2) := by decide +kernel
theorem dX9_passInto_36 : decode cX9_passInto 36 = .ok (.invokevirtual 129, 3) := by decide +kernel
theorem dX9_passInto_39 : decode cX9_passInto 39 = .ok (.astore 7, 2) := by decide +kernel
theorem dX9_passInto_41 : decode cX9_passInto 41 = .ok (.aload 7, 2) := by decide +kernel
theorem dX9_passInto_43 : decode cX9_passInto 43 = .ok (.ifnonnull 22, 3) := by decide +kernel
theorem dX9_passInto_46 : decode cX9_passInto 46 = .ok (.aload 4, 2) := by decide +kernel
theorem dX9_passInto_48 : decode cX9_passInto 48 = .ok (.aload_n 3, 1) := by decide +kernel
theorem dX9_passInto_49 : decode cX9_passInto 49 = .ok (.iload 5, 2) := by decide +kernel
theorem dX9_passInto_51 : decode cX9_passInto 51 = .ok (.invokevirtual 133, 3) := by decide +kernel
theorem dX9_passInto_54 : decode cX9_passInto 54 = .ok (.invokevirtual 136, 3) := by decide +kernel
theorem dX9_passInto_57 : decode cX9_passInto 57 = .ok (.istore 8, 2) := by decide +kernel
theorem dX9_passInto_59 : decode cX9_passInto 59 = .ok (.iinc 5 1, 3) := by decide +kernel
theorem dX9_passInto_62 : decode cX9_passInto 62 = .ok (.goto 27, 3) := by decide +kernel
theorem dX9_passInto_65 : decode cX9_passInto 65 = .ok (.aload 7, 2) := by decide +kernel
theorem dX9_passInto_67 : decode cX9_passInto 67 = .ok (.iload_n 2, 1) := by decide +kernel
theorem dX9_passInto_68 : decode cX9_passInto 68 = .ok (.aload 4, 2) := by decide +kernel
theorem dX9_passInto_70 : decode cX9_passInto 70 = .ok (.invokevirtual 140, 3) := by decide +kernel
theorem dX9_passInto_73 : decode cX9_passInto 73 = .ok (.istore 8, 2) := by decide +kernel
theorem dX9_passInto_75 : decode cX9_passInto 75 = .ok (.iload 5, 2) := by decide +kernel
theorem dX9_passInto_77 : decode cX9_passInto 77 = .ok (.aload 7, 2) := by decide +kernel
theorem dX9_passInto_79 : decode cX9_passInto 79 = .ok (.iload_n 2, 1) := by decide +kernel
theorem dX9_passInto_80 : decode cX9_passInto 80 = .ok (.invokevirtual 144, 3) := by decide +kernel
theorem dX9_passInto_83 : decode cX9_passInto 83 = .ok (.invokevirtual 125, 3) := by decide +kernel
theorem dX9_passInto_86 : decode cX9_passInto 86 = .ok (.iadd, 1) := by decide +kernel
theorem dX9_passInto_87 : decode cX9_passInto 87 = .ok (.istore 5, 2) := by decide +kernel
theorem dX9_passInto_89 : decode cX9_passInto 89 = .ok (.iload 8, 2) := by decide +kernel
theorem dX9_passInto_91 : decode cX9_passInto 91 = .ok (.ifCond .ne 5, 3) := by decide +kernel
theorem dX9_passInto_94 : decode cX9_passInto 94 = .ok (.iconst 0, 1) := by decide +kernel
theorem dX9_passInto_95 : decode cX9_passInto 95 = .ok (.ireturn, 1) := by decide +kernel
theorem dX9_passInto_96 : decode cX9_passInto 96 = .ok (.iinc 6 1, 3) := by decide +kernel
theorem dX9_passInto_99 : decode cX9_passInto 99 = .ok (.goto (-87), 3) := by decide +kernel
theorem dX9_passInto_102 : decode cX9_passInto 102 = .ok (.iconst 1, 1) := by decide +kernel
theorem dX9_passInto_103 : decode cX9_passInto 103 = .ok (.ireturn, 1) := by decide +kernel
theorem dX9_fittingRule_0 : decode cX9_fittingRule 0 = .ok (.iconst 0, 1) := by decide +kernel
theorem dX9_fittingRule_1 : decode cX9_fittingRule 1 = .ok (.istore 6, 2) := by decide +kernel
theorem dX9_fittingRule_3 : decode cX9_fittingRule 3 = .ok (.iload 6, 2) := by decide +kernel
theorem dX9_fittingRule_5 : decode cX9_fittingRule 5 = .ok (.aload_n 0, 1) := by decide +kernel
theorem dX9_fittingRule_6 : decode cX9_fittingRule 6 = .ok (.getfield 88, 3) := by decide +kernel
theorem dX9_fittingRule_9 : decode cX9_fittingRule 9 = .ok (.if_icmp .ge 47, 3) := by decide +kernel
theorem dX9_fittingRule_12 : decode cX9_fittingRule 12 = .ok (.iload 6, 2) := by decide +kernel
theorem dX9_fittingRule_14 : decode cX9_fittingRule 14 = .ok (.aload_n 0, 1) := by decide +kernel
theorem dX9_fittingRule_15 : decode cX9_fittingRule 15 = .ok (.getfield 64, 3) := by decide +kernel
theorem dX9_fittingRule_18 : decode cX9_fittingRule 18 = .ok (.arraylength, 1) := by decide +kernel
theorem dX9_fittingRule_19 : decode cX9_fittingRule 19 = .ok (.if_icmp .ge 37, 3) := by decide +kernel
theorem dX9_fittingRule_22 : decode cX9_fittingRule 22 = .ok (.aload_n 0, 1) := by decide +kernel
theorem dX9_fittingRule_23 : decode cX9_fittingRule 23 = .ok (.getfield 64, 3) := by decide +kernel
theorem dX9_fittingRule_26 : decode cX9_fittingRule 26 = .ok (.iload 6, 2) := by decide +kernel
theorem dX9_fittingRule_28 : decode cX9_fittingRule 28 = .ok (.aaload, 1) := by decide +kernel
theorem dX9_fittingRule_29 : decode cX9_fittingRule 29 = .ok (.iload_n 1, 1) := by decide +kernel
theorem dX9_fittingRule_30 : decode cX9_fittingRule 30 = .ok (.iload_n 2, 1) := by decide +kernel
theorem dX9_fittingRule_31 : decode cX9_fittingRule 31 = .ok (.aload_n 3, 1) := by decide +kernel
theorem dX9_fittingRule_32 : decode cX9_fittingRule 32 = .ok (.iload 4, 2) := by decide +kernel
theorem dX9_fittingRule_34 : decode cX9_fittingRule 34 = .ok (.aload 5, 2) := by decide +kernel
theorem dX9_fittingRule_36 : decode cX9_fittingRule 36 = .ok (.invokevirtual 148, 3) := by decide +kernel
theorem dX9_fittingRule_39 : decode cX9_fittingRule 39 = .ok (.ifCond .eq 11, 3) := by decide +kernel
theorem dX9_fittingRule_42 : decode cX9_fittingRule 42 = .ok (.aload_n 0, 1) := by decide +kernel
theorem dX9_fittingRule_43 : decode cX9_fittingRule 43 = .ok (.getfield 64, 3) := by decide +kernel
theorem dX9_fittingRule_46 : decode cX9_fittingRule 46 = .ok (.iload 6, 2) := by decide +kernel
theorem dX9_fittingRule_48 : decode cX9_fittingRule 48 = .ok (.aaload, 1) := by decide +kernel
theorem dX9_fittingRule_49 : decode cX9_fittingRule 49 = .ok (.areturn, 1) := by decide +kernel
theorem dX9_fittingRule_50 : decode cX9_fittingRule 50 = .ok (.iinc 6 1, 3) := by decide +kernel
theorem dX9_fittingRule_53 : decode cX9_fittingRule 53 = .ok (.goto (-50), 3) := by decide +kernel
theorem dX9_fittingRule_56 : decode cX9_fittingRule 56 = .ok (.aconst_null, 1) := by decide +kernel
theorem dX9_fittingRule_57 : decode cX9_fittingRule 57 = .ok (.areturn, 1) := by decide +kernel
theorem dX10_init_0 : decode cX10_init 0 = .ok (.aload_n 0, 1) := by decide +kernel
theorem dX10_init_1 : decode cX10_init 1 = .ok (.invokespecial 3, 3) := by decide +kernel
theorem dX10_init_4 : decode cX10_init 4 = .ok (.aload_n 0, 1) := by decide +kernel
theorem dX10_init_5 : decode cX10_init 5 = .ok (.new 9, 3) := by decide +kernel
theorem dX10_init_8 : decode cX10_init 8 = .ok (.dup, 1) := by decide +kernel
theorem dX10_init_9 : decode cX10_init 9 = .ok (.invokespecial 11, 3) := by decide +kernel
theorem dX10_init_12 : decode cX10_init 12 = .ok (.putfield 12, 3) := by decide +kernel
theorem dX10_init_15 : decode cX10_init 15 = .ok (.aload_n 0, 1) := by decide +kernel
theorem dX10_init_16 : decode cX10_init 16 = .ok (.iconst 4, 1) := by decide +kernel
theorem dX10_init_17 : decode cX10_init 17 = .ok (.anewarray 9, 3) := by decide +kernel
theorem dX10_init_20 : decode cX10_init 20 = .ok (.putfield 16, 3) := by decide +kernel
theorem dX10_init_23 : decode cX10_init 23 = .ok (.iconst 0, 1) := by decide +kernel
theorem dX10_init_24 : decode cX10_init 24 = .ok (.istore_n 1, 1) := by decide +kernel
theorem dX10_init_25 : decode cX10_init 25 = .ok (.iload_n 1, 1) := by decide +kernel
theorem dX10_init_26 : decode cX10_init 26 = .ok (.aload_n 0, 1) := by decide +kernel
theorem dX10_init_27 : decode cX10_init 27 = .ok (.getfield 16, 3) := by decide +kernel
theorem dX10_init_30 : decode cX10_init 30 = .ok (.arraylength, 1) := by decide +kernel
theorem dX10_init_31 : decode cX10_init 31 = .ok (.if_icmp .ge 22, 3) := by decide +kernel
theorem dX10_init_34 : decode cX10_init 34 = .ok (.aload_n 0, 1) := by decide +kernel
theorem dX10_init_35 : decode cX10_init 35 = .ok (.getfield 16, 3) := by decide +kernel
theorem dX10_init_38 : decode cX10_init 38 = .ok (.iload_n 1, 1) := by decide +kernel
theorem dX10_init_39 : decode cX10_init 39 = .ok (.new 9, 3) := by decide +kernel
theorem dX10_init_42 : decode cX10_init 42 = .ok (.dup, 1) := by decide +kernel
theorem dX10_init_43 : decode cX10_init 43 = .ok (.invokespecial 11, 3) := by decide +kernel
theorem dX10_init_46 : decode cX10_init 46 = .ok (.aastore, 1) := by decide +kernel
theorem dX10_init_47 : decode cX10_init 47 = .ok (.iinc 1 1, 3) := by decide +kernel
theorem dX10_init_50 : decode cX10_init 50 = .ok (.goto (-25), 3) := by decide +kernel
theorem dX10_init_53 : decode cX10_init 53 = .ok (.aload_n 0, 1) := by decide +kernel
theorem dX10_init_54 : decode cX10_init 54 = .ok (.bipush 6, 2) := by decide +kernel
theorem dX10_init_56 : decode cX10_init 56 = .ok (.anewarray 20, 3) := by decide +kernel
theorem dX10_init_59 : decode cX10_init 59 = .ok (.putfield 22, 3) := by decide +kernel
theorem dX10_init_62 : decode cX10_init 62 = .ok (.iconst 0, 1) := by decide +kernel
theorem dX10_init_63 : decode cX10_init 63 = .ok (.istore_n 1, 1) := by decide +kernel
theorem dX10_init_64 : decode cX10_init 64 = .ok (.iload_n 1, 1) := by decide +kernel
theorem dX10_init_65 : decode cX10_init 65 = .ok (.aload_n 0, 1) := by decide +kernel
theorem dX10_init_66 : decode cX10_init 66 = .ok (.getfield 22, 3) := by decide +kernel
theorem dX10_init_69 : decode cX10_init 69 = .ok (.arraylength, 1) := by decide +kernel
theorem dX10_init_70 : decode cX10_init 70 = .ok (.if_icmp .ge 24, 3) := by decide +kernel
theorem dX10_init_73 : decode cX10_init 73 = .ok (.aload_n 0, 1) := by decide +kernel
theorem dX10_init_74 : decode cX10_init 74 = .ok (.getfield 22, 3) := by decide +kernel
theorem dX10_init_77 : decode cX10_init 77 = .ok (.iload_n 1, 1) := by decide +kernel
theorem dX10_init_78 : decode cX10_init 78 = .ok (.new 20, 3) := by decide +kernel
theorem dX10_init_81 : decode cX10_init 81 = .ok (.dup, 1) := by decide +kernel
theorem dX10_init_82 : decode cX10_init 82 = .ok (.bipush 40, 2) := by decide +kernel
theorem dX10_init_84 : decode cX10_init 84 = .ok (.invokespecial 26, 3) := by decide +kernel
theorem dX10_init_87 : decode cX10_init 87 = .ok (.aastore, 1) := by decide +kernel
theorem dX10_init_88 : decode cX10_init 88 = .ok (.iinc 1 1, 3) := by decide +kernel
theorem dX10_init_91 : decode cX10_init 91 = .ok (.goto (-27), 3) := by decide +kernel
theorem dX10_init_94 : decode cX10_init 94 = .ok (.aload_n 0, 1) := by decide +kernel
theorem dX10_init_95 : decode cX10_init 95 = .ok (.new 20, 3) := by decide +kernel
theorem dX10_init_98 : decode cX10_init 98 = .ok (.dup, 1) := by decide +kernel
theorem dX10_init_99 : decode cX10_init 99 = .ok (.sipush 160, 3) := by decide +kernel
theorem dX10_init_102 : decode cX10_init 102 = .ok (.invokespecial 26, 3) := by decide +kernel
theorem dX10_init_105 : decode cX10_init 105 = .ok (.putfield 29, 3) := by decide +kernel
theorem dX10_init_108 : decode cX10_init 108 = .ok (.aload_n 0, 1) := by decide +kernel
theorem dX10_init_109 : decode cX10_init 109 = .ok (.new 20, 3) := by decide +kernel
theorem dX10_init_112 : decode cX10_init 112 = .ok (.dup, 1) := by decide +kernel
theorem dX10_init_113 : decode cX10_init 113 = .ok (.sipush 200, 3) := by decide +kernel
theorem dX10_init_116 : decode cX10_init 116 = .ok (.invokespecial 26, 3) := by decide +kernel
theorem dX10_init_119 : decode cX10_init 119 = .ok (.putfield 33, 3) := by decide +kernel
theorem dX10_init_122 : decode cX10_init 122 = .ok (.aload_n 0, 1) := by decide +kernel
theorem dX10_init_123 : decode cX10_init 123 = .ok (.new 36, 3) := by decide +kernel
theorem dX10_init_126 : decode cX10_init 126 = .ok (.dup, 1) := by decide +kernel
theorem dX10_init_127 : decode cX10_init 127 = .ok (.aload_n 0, 1) := by decide +kernel
theorem dX10_init_128 : decode cX10_init 128 = .ok (.getfield 12, 3) := by decide +kernel
theorem dX10_init_131 : decode cX10_init 131 = .ok (.invokespecial 38, 3) := by decide +kernel
theorem dX10_init_134 : decode cX10_init 134 = .ok (.putfield 41, 3) := by decide +kernel
theorem dX10_init_137 : decode cX10_init 137 = .ok (.aload_n 0, 1) := by decide +kernel
theorem dX10_init_138 : decode cX10_init 138 = .ok (.new 45, 3) := by decide +kernel
theorem dX10_init_141 : decode cX10_init 141 = .ok (.dup, 1) := by decide +kernel
theorem dX10_init_142 : decode cX10_init 142 = .ok (.aload_n 0, 1) := by decide +kernel
theorem dX10_init_143 : decode cX10_init 143 = .ok (.getfield 12, 3) := by decide +kernel
theorem dX10_init_146 : decode cX10_init 146 = .ok (.invokespecial 47, 3) := by decide +kernel
theorem dX10_init_149 : decode cX10_init 149 = .ok (.putfield 48, 3) := by decide +kernel
theorem dX10_init_152 : decode cX10_init 152 = .ok (.aload_n 0, 1) := by decide +kernel
theorem dX10_init_153 : decode cX10_init 153 = .ok (.new 52, 3) := by decide +kernel
theorem dX10_init_156 : decode cX10_init 156 = .ok (.dup, 1) := by decide +kernel
theorem dX10_init_157 : decode cX10_init 157 = .ok (.aload_n 0, 1) := by decide +kernel
theorem dX10_init_158 : decode cX10_init 158 = .ok (.getfield 12, 3) := by decide +kernel
theorem dX10_init_161 : decode cX10_init 161 = .ok (.invokespecial 54, 3) := by decide +kernel
theorem dX10_init_164 : decode cX10_init 164 = .ok (.putfield 55, 3) := by decide +kernel
theorem dX10_init_167 : decode cX10_init 167 = .ok (.aload_n 0, 1) := by decide +kernel
theorem dX10_init_168 : decode cX10_init 168 = .ok (.new 59, 3) := by decide +kernel
theorem dX10_init_171 : decode cX10_init 171 = .ok (.dup, 1) := by decide +kernel
theorem dX10_init_172 : decode cX10_init 172 = .ok (.invokespecial 61, 3) := by decide +kernel
theorem dX10_init_175 : decode cX10_init 175 = .ok (.putfield 62, 3) := by decide +kernel
theorem dX10_init_178 : decode cX10_init 178 = .ok (.aload_n 0, 1) := by decide +kernel
theorem dX10_init_179 : decode cX10_init 179 = .ok (.new 59, 3) := by decide +kernel
theorem dX10_init_182 : decode cX10_init 182 = .ok (.dup, 1) := by decide +kernel
theorem dX10_init_183 : decode cX10_init 183 = .ok (.invokespecial 61, 3) := by decide +kernel
theorem dX10_init_186 : decode cX10_init 186 = .ok (.putfield 66, 3) := by decide +kernel
theorem dX10_init_189 : decode cX10_init 189 = .ok (.aload_n 0, 1) := by decide +kernel
theorem dX10_init_190 : decode cX10_init 190 = .ok (.new 69, 3) := by decide +kernel
theorem dX10_init_193 : decode cX10_init 193 = .ok (.dup, 1) := by decide +kernel
theorem dX10_init_194 : decode cX10_init 194 = .ok (.aload_n 0, 1) := by decide +kernel
theorem dX10_init_195 : decode cX10_init 195 = .ok (.getfield 29, 3) := by decide +kernel
theorem dX10_init_198 : decode cX10_init 198 = .ok (.invokespecial 71, 3) := by decide +kernel
theorem dX10_init_201 : decode cX10_init 201 = .ok (.putfield 74, 3) := by decide +kernel
theorem dX10_init_204 : decode cX10_init 204 = .ok (.aload_n 0, 1) := by decide +kernel
theorem dX10_init_205 : decode cX10_init 205 = .ok (.new 20, 3) := by decide +kernel
theorem dX10_init_208 : decode cX10_init 208 = .ok (.dup, 1) := by decide +kernel
theorem dX10_init_209 : decode cX10_init 209 = .ok (.bipush 80, 2) := by decide +kernel
theorem dX10_init_211 : decode cX10_init 211 = .ok (.invokespecial 26, 3) := by decide +kernel
theorem dX10_init_214 : decode cX10_init 214 = .ok (.putfield 78, 3) := by decide +kernel
theorem dX10_init_217 : decode cX10_init 217 = .ok (.aload_n 0, 1) := by decide +kernel
theorem dX10_init_218 : decode cX10_init 218 = .ok (.new 20, 3) := by decide +kernel
theorem dX10_init_221 : decode cX10_init 221 = .ok (.dup, 1) := by decide +kernel
theorem dX10_init_222 : decode cX10_init 222 = .ok (.bipush 80, 2) := by decide +kernel
theorem dX10_init_224 : decode cX10_init 224 = .ok (.invokespecial 26, 3) := by decide +kernel
theorem dX10_init_227 : decode cX10_init 227 = .ok (.putfield 81, 3) := by decide +kernel
theorem dX10_init_230 : decode cX10_init 230 = .ok (.aload_n 0, 1) := by decide +kernel
theorem dX10_init_231 : decode cX10_init 231 = .ok (.new 20, 3) := by decide +kernel
theorem dX10_init_234 : decode cX10_init 234 = .ok (.dup, 1) := by decide +kernel
theorem dX10_init_235 : decode cX10_init 235 = .ok (.bipush 80, 2) := by decide +kernel
theorem dX10_init_237 : decode cX10_init 237 = .ok (.invokespecial 26, 3) := by decide +kernel
theorem dX10_init_240 : decode cX10_init 240 = .ok (.putfield 84, 3) := by decide +kernel
theorem dX10_init_243 : decode cX10_init 243 = .ok (.aload_n 0, 1) := by decide +kernel
theorem dX10_init_244 : decode cX10_init 244 = .ok (.new 20, 3) := by decide +kernel
theorem dX10_init_247 : decode cX10_init 247 = .ok (.dup, 1) := by decide +kernel
theorem dX10_init_248 : decode cX10_init 248 = .ok (.bipush 80, 2) := by decide +kernel
theorem dX10_init_250 : decode cX10_init 250 = .ok (.invokespecial 26, 3) := by decide +kernel
theorem dX10_init_253 : decode cX10_init 253 = .ok (.putfield 87, 3) := by decide +kernel
theorem dX10_init_256 : decode cX10_init 256 = .ok (.aload_n 0, 1) := by decide +kernel
theorem dX10_init_257 : decode cX10_init 257 = .ok (.new 20, 3) := by decide +kernel
theorem dX10_init_260 : decode cX10_init 260 = .ok (.dup, 1) := by decide +kernel
theorem dX10_init_261 : decode cX10_init 261 = .ok (.sipush 242, 3) := by decide +kernel
theorem dX10_init_264 : decode cX10_init 264 = .ok (.invokespecial 26, 3) := by decide +kernel
theorem dX10_init_267 : decode cX10_init 267 = .ok (.putfield 90, 3) := by decide +kernel
theorem dX10_init_270 : decode cX10_init 270 = .ok (.aload_n 0, 1) := by decide +kernel
theorem dX10_init_271 : decode cX10_init 271 = .ok (.new 20, 3) := by decide +kernel
theorem dX10_init_274 : decode cX10_init 274 = .ok (.dup, 1) := by decide +kernel
theorem dX10_init_275 : decode cX10_init 275 = .ok (.bipush 40, 2) := by decide +kernel
theorem dX10_init_277 : decode cX10_init 277 = .ok (.invokespecial 26, 3) := by decide +kernel
theorem dX10_init_280 : decode cX10_init 280 = .ok (.putfield 93, 3) := by decide +kernel
theorem dX10_init_283 : decode cX10_init 283 = .ok (.aload_n 0, 1) := by decide +kernel
theorem dX10_init_284 : decode cX10_init 284 = .ok (.new 20, 3) := by decide +kernel
theorem dX10_init_287 : decode cX10_init 287 = .ok (.dup, 1) := by decide +kernel
theorem dX10_init_288 : decode cX10_init 288 = .ok (.bipush 40, 2) := by decide +kernel
theorem dX10_init_290 : decode cX10_init 290 = .ok (.invokespecial 26, 3) := by decide +kernel
theorem dX10_init_293 : decode cX10_init 293 = .ok (.putfield 96, 3) := by decide +kernel
theorem dX10_init_296 : decode cX10_init 296 = .ok (.return_, 1) := by decide +kernel
theorem dX10_feed_0 : decode cX10_feed 0 = .ok (.iload_n 3, 1) := by decide +kernel
theorem dX10_feed_1 : decode cX10_feed 1 = .ok (.iconst 1, 1) := by decide +kernel
theorem dX10_feed_2 : decode cX10_feed 2 = .ok (.bipush 8, 2) := by decide +kernel
theorem dX10_feed_4 : decode cX10_feed 4 = .ok (.invokestatic 99, 3) := by decide +kernel
theorem dX10_feed_7 : decode cX10_feed 7 = .ok (.invokestatic 103, 3) := by decide +kernel
theorem dX10_feed_10 : decode cX10_feed 10 = .ok (.aload_n 0, 1) := by decide +kernel
theorem dX10_feed_11 : decode cX10_feed 11 = .ok (.getfield 29, 3) := by decide +kernel
theorem dX10_feed_14 : decode cX10_feed 14 = .ok (.invokevirtual 107, 3) := by decide +kernel
theorem dX10_feed_17 : decode cX10_feed 17 = .ok (.iload_n 3, 1) := by decide +kernel
theorem dX10_feed_18 : decode cX10_feed 18 = .ok (.iadd, 1) := by decide +kernel
theorem dX10_feed_19 : decode cX10_feed 19 = .ok (.sipush 160, 3) := by decide +kernel
theorem dX10_feed_22 : decode cX10_feed 22 = .ok (.if_icmp .le 13, 3) := by decide +kernel
theorem dX10_feed_25 : decode cX10_feed 25 = .ok (.new 111, 3) := by decide +kernel
theorem dX10_feed_28 : decode cX10_feed 28 = .ok (.dup, 1) := by decide +kernel
theorem dX10_feed_29 : decode cX10_feed 29 = .ok (.ldc 113, 2) := by decide +kernel
theorem dX10_feed_31 : decode cX10_feed 31 = .ok (.invokespecial 115, 3) := by decide +kernel
theorem dX10_feed_34 : decode cX10_feed 34 = .ok (.athrow, 1) := by decide +kernel
theorem dX10_feed_35 : decode cX10_feed 35 = .ok (.iconst 0, 1) := by decide +kernel
theorem dX10_feed_36 : decode cX10_feed 36 = .ok (.istore 4, 2) := by decide +kernel
theorem dX10_feed_38 : decode cX10_feed 38 = .ok (.iload 4, 2) := by decide +kernel
theorem dX10_feed_40 : decode cX10_feed 40 = .ok (.iload_n 3, 1) := by decide +kernel
theorem dX10_feed_41 : decode cX10_feed 41 = .ok (.if_icmp .ge 29, 3) := by decide +kernel
theorem dX10_feed_44 : decode cX10_feed 44 = .ok (.aload_n 0, 1) := by decide +kernel
theorem dX10_feed_45 : decode cX10_feed 45 = .ok (.getfield 29, 3) := by decide +kernel
theorem dX10_feed_48 : decode cX10_feed 48 = .ok (.lload_n 1, 1) := by decide +kernel
theorem dX10_feed_49 : decode cX10_feed 49 = .ok (.bipush 8, 2) := by decide +kernel
theorem dX10_feed_51 : decode cX10_feed 51 = .ok (.iload 4, 2) := by decide +kernel
theorem dX10_feed_53 : decode cX10_feed 53 = .ok (.imul, 1) := by decide +kernel
theorem dX10_feed_54 : decode cX10_feed 54 = .ok (.lushr, 1) := by decide +kernel
theorem dX10_feed_55 : decode cX10_feed 55 = .ok (.ldc2_w 118, 3) := by decide +kernel
theorem dX10_feed_58 : decode cX10_feed 58 = .ok (.land, 1) := by decide +kernel
theorem dX10_feed_59 : decode cX10_feed 59 = .ok (.l2i, 1) := by decide +kernel
theorem dX10_feed_60 : decode cX10_feed 60 = .ok (.invokevirtual 120, 3) := by decide +kernel
theorem dX10_feed_63 : decode cX10_feed 63 = .ok (.pop, 1) := by decide +kernel
theorem dX10_feed_64 : decode cX10_feed 64 = .ok (.iinc 4 1, 3) := by decide +kernel
theorem dX10_feed_67 : decode cX10_feed 67 = .ok (.goto (-29), 3) := by decide +kernel
theorem dX10_feed_70 : decode cX10_feed 70 = .ok (.aload_n 0, 1) := by decide +kernel
theorem dX10_feed_71 : decode cX10_feed 71 = .ok (.getfield 29, 3) := by decide +kernel
theorem dX10_feed_74 : decode cX10_feed 74 = .ok (.invokevirtual 107, 3) := by decide +kernel
theorem dX10_feed_77 : decode cX10_feed 77 = .ok (.ireturn, 1) := by decide +kernel
theorem dX10_letter_0 : decode cX10_letter 0 = .ok (.iload_n 1, 1) := by decide +kernel
theorem dX10_letter_1 : decode cX10_letter 1 = .ok (.invokestatic 124, 3) := by decide +kernel
theorem dX10_letter_4 : decode cX10_letter 4 = .ok (.iload_n 2, 1) := by decide +kernel
theorem dX10_letter_5 : decode cX10_letter 5 = .ok (.iconst 0, 1) := by decide +kernel
theorem dX10_letter_6 : decode cX10_letter 6 = .ok (.bipush 9, 2) := by decide +kernel
theorem dX10_letter_8 : decode cX10_letter 8 = .ok (.invokestatic 99, 3) := by decide +kernel
theorem dX10_letter_11 : decode cX10_letter 11 = .ok (.ifCond .eq 36, 3) := by decide +kernel
theorem dX10_letter_14 : decode cX10_letter 14 = .ok (.iload_n 3, 1) := by decide +kernel
theorem dX10_letter_15 : decode cX10_letter 15 = .ok (.iconst 0, 1) := by decide +kernel
theorem dX10_letter_16 : decode cX10_letter 16 = .ok (.bipush 10, 2) := by decide +kernel
theorem dX10_letter_18 : decode cX10_letter 18 = .ok (.invokestatic 99, 3) := by decide +kernel
theorem dX10_letter_21 : decode cX10_letter 21 = .ok (.ifCond .eq 26, 3) := by decide +kernel
theorem dX10_letter_24 : decode cX10_letter 24 = .ok (.iload 4, 2) := by decide +kernel
theorem dX10_letter_26 : decode cX10_letter 26 = .ok (.iconst 0, 1) := by decide +kernel
theorem dX10_letter_27 : decode cX10_letter 27 = .ok (.bipush 6, 2) := by decide +kernel
theorem dX10_letter_29 : decode cX10_letter 29 = .ok (.invokestatic 99, 3) := by decide +kernel
theorem dX10_letter_32 : decode cX10_letter 32 = .ok (.ifCond .eq 15, 3) := by decide +kernel
theorem dX10_letter_35 : decode cX10_letter 35 = .ok (.iload 5, 2) := by decide +kernel
theorem dX10_letter_37 : decode cX10_letter 37 = .ok (.invokestatic 127, 3) := by decide +kernel
theorem dX10_letter_40 : decode cX10_letter 40 = .ok (.ifCond .eq 7, 3) := by decide +kernel
theorem dX10_letter_43 : decode cX10_letter 43 = .ok (.iconst 1, 1) := by decide +kernel
theorem dX10_letter_44 : decode cX10_letter 44 = .ok (.goto 4, 3) := by decide +kernel
theorem dX10_letter_47 : decode cX10_letter 47 = .ok (.iconst 0, 1) := by decide +kernel
theorem dX10_letter_48 : decode cX10_letter 48 = .ok (.invokestatic 103, 3) := by decide +kernel
theorem dX10_letter_51 : decode cX10_letter 51 = .ok (.aload_n 0, 1) := by decide +kernel
theorem dX10_letter_52 : decode cX10_letter 52 = .ok (.getfield 12, 3) := by decide +kernel
theorem dX10_letter_55 : decode cX10_letter 55 = .ok (.iload_n 1, 1) := by decide +kernel
theorem dX10_letter_56 : decode cX10_letter 56 = .ok (.iload_n 2, 1) := by decide +kernel
theorem dX10_letter_57 : decode cX10_letter 57 = .ok (.iload_n 3, 1) := by decide +kernel
theorem dX10_letter_58 : decode cX10_letter 58 = .ok (.iload 4, 2) := by decide +kernel
theorem dX10_letter_60 : decode cX10_letter 60 = .ok (.iload 5, 2) := by decide +kernel
theorem dX10_letter_62 : decode cX10_letter 62 = .ok (.invokevirtual 130, 3) := by decide +kernel
theorem dX10_letter_65 : decode cX10_letter 65 = .ok (.return_, 1) := by decide +kernel
theorem dX10_split_0 : decode cX10_split 0 = .ok (.iload_n 1, 1) := by decide +kernel
theorem dX10_split_1 : decode cX10_split 1 = .ok (.invokestatic 124, 3) := by decide +kernel
theorem dX10_split_4 : decode cX10_split 4 = .ok (.iload_n 2, 1) := by decide +kernel
theorem dX10_split_5 : decode cX10_split 5 = .ok (.iconst (-1), 1) := by decide +kernel
theorem dX10_split_6 : decode cX10_split 6 = .ok (.if_icmp .ne 12, 3) := by decide +kernel
theorem dX10_split_9 : decode cX10_split 9 = .ok (.iload_n 3, 1) := by decide +kernel
theorem dX10_split_10 : decode cX10_split 10 = .ok (.iconst (-1), 1) := by decide +kernel
theorem dX10_split_11 : decode cX10_split 11 = .ok (.if_icmp .ne 7, 3) := by decide +kernel
theorem dX10_split_14 : decode cX10_split 14 = .ok (.iconst 1, 1) := by decide +kernel
theorem dX10_split_15 : decode cX10_split 15 = .ok (.goto 4, 3) := by decide +kernel
theorem dX10_split_18 : decode cX10_split 18 = .ok (.iconst 0, 1) := by decide +kernel
theorem dX10_split_19 : decode cX10_split 19 = .ok (.istore 4, 2) := by decide +kernel
theorem dX10_split_21 : decode cX10_split 21 = .ok (.iload 4, 2) := by decide +kernel
theorem dX10_split_23 : decode cX10_split 23 = .ok (.ifCond .ne 25, 3) := by decide +kernel
theorem dX10_split_26 : decode cX10_split 26 = .ok (.iload_n 2, 1) := by decide +kernel
theorem dX10_split_27 : decode cX10_split 27 = .ok (.iconst 0, 1) := by decide +kernel
theorem dX10_split_28 : decode cX10_split 28 = .ok (.iload_n 1, 1) := by decide +kernel
theorem dX10_split_29 : decode cX10_split 29 = .ok (.iconst 1, 1) := by decide +kernel
theorem dX10_split_30 : decode cX10_split 30 = .ok (.isub, 1) := by decide +kernel
theorem dX10_split_31 : decode cX10_split 31 = .ok (.invokestatic 99, 3) := by decide +kernel
theorem dX10_split_34 : decode cX10_split 34 = .ok (.ifCond .eq 18, 3) := by decide +kernel
theorem dX10_split_37 : decode cX10_split 37 = .ok (.iload_n 3, 1) := by decide +kernel
theorem dX10_split_38 : decode cX10_split 38 = .ok (.iconst 0, 1) := by decide +kernel
theorem dX10_split_39 : decode cX10_split 39 = .ok (.iload_n 1, 1) := by decide +kernel
theorem dX10_split_40 : decode cX10_split 40 = .ok (.iconst 1, 1) := by decide +kernel
theorem dX10_split_41 : decode cX10_split 41 = .ok (.isub, 1) := by decide +kernel
theorem dX10_split_42 : decode cX10_split 42 = .ok (.invokestatic 99, 3) := by decide +kernel
theorem dX10_split_45 : decode cX10_split 45 = .ok (.ifCond .eq 7, 3) := by decide +kernel
theorem dX10_split_48 : decode cX10_split 48 = .ok (.iconst 1, 1) := by decide +kernel
theorem dX10_split_49 : decode cX10_split 49 = .ok (.goto 4, 3) := by decide +kernel
theorem dX10_split_52 : decode cX10_split 52 = .ok (.iconst 0, 1) := by decide +kernel
theorem dX10_split_53 : decode cX10_split 53 = .ok (.invokestatic 103, 3) := by decide +kernel
theorem dX10_split_56 : decode cX10_split 56 = .ok (.aload_n 0, 1) := by decide +kernel
theorem dX10_split_57 : decode cX10_split 57 = .ok (.getfield 12, 3) := by decide +kernel
theorem dX10_split_60 : decode cX10_split 60 = .ok (.iload_n 1, 1) := by decide +kernel
theorem dX10_split_61 : decode cX10_split 61 = .ok (.iload_n 2, 1) := by decide +kernel
theorem dX10_split_62 : decode cX10_split 62 = .ok (.iload_n 3, 1) := by decide +kernel
theorem dX10_split_63 : decode cX10_split 63 = .ok (.invokevirtual 134, 3) := by decide +kernel
theorem dX10_split_66 : decode cX10_split 66 = .ok (.return_, 1) := by decide +kernel
theorem dX10_capital_0 : decode cX10_capital 0 = .ok (.iload_n 1, 1) := by decide +kernel
theorem dX10_capital_1 : decode cX10_capital 1 = .ok (.invokestatic 124, 3) := by decide +kernel
theorem dX10_capital_4 : decode cX10_capital 4 = .ok (.iload_n 2, 1) := by decide +kernel
theorem dX10_capital_5 : decode cX10_capital 5 = .ok (.iconst (-1), 1) := by decide +kernel
theorem dX10_capital_6 : decode cX10_capital 6 = .ok (.if_icmp .ne 12, 3) := by decide +kernel
theorem dX10_capital_9 : decode cX10_capital 9 = .ok (.iload_n 3, 1) := by decide +kernel
theorem dX10_capital_10 : decode cX10_capital 10 = .ok (.iconst (-1), 1) := by decide +kernel
theorem dX10_capital_11 : decode cX10_capital 11 = .ok (.if_icmp .ne 7, 3) := by decide +kernel
theorem dX10_capital_14 : decode cX10_capital 14 = .ok (.iconst 1, 1) := by decide +kernel
theorem dX10_capital_15 : decode cX10_capital 15 = .ok (.goto 4, 3) := by decide +kernel
theorem dX10_capital_18 : decode cX10_capital 18 = .ok (.iconst 0, 1) := by decide +kernel
theorem dX10_capital_19 : decode cX10_capital 19 = .ok (.istore 4, 2) := by decide +kernel
theorem dX10_capital_21 : decode cX10_capital 21 = .ok (.iload 4, 2) := by decide +kernel
theorem dX10_capital_23 : decode cX10_capital 23 = .ok (.ifCond .ne 22, 3) := by decide +kernel
theorem dX10_capital_26 : decode cX10_capital 26 = .ok (.iload_n 2, 1) := by decide +kernel
theorem dX10_capital_27 : decode cX10_capital 27 = .ok (.invokestatic 127, 3) := by decide +kernel
theorem dX10_capital_30 : decode cX10_capital 30 = .ok (.ifCond .eq 19, 3) := by decide +kernel
theorem dX10_capital_33 : decode cX10_capital 33 = .ok (.iload_n 3, 1) := by decide +kernel
theorem dX10_capital_34 : decode cX10_capital 34 = .ok (.iconst (-1), 1) := by decide +kernel
theorem dX10_capital_35 : decode cX10_capital 35 = .ok (.if_icmp .eq 10, 3) := by decide +kernel
theorem dX10_capital_38 : decode cX10_capital 38 = .ok (.iload_n 3, 1) := by decide +kernel
theorem dX10_capital_39 : decode cX10_capital 39 = .ok (.invokestatic 127, 3) := by decide +kernel
theorem dX10_capital_42 : decode cX10_capital 42 = .ok (.ifCond .eq 7, 3) := by decide +kernel
theorem dX10_capital_45 : decode cX10_capital 45 = .ok (.iconst 1, 1) := by decide +kernel
theorem dX10_capital_46 : decode cX10_capital 46 = .ok (.goto 4, 3) := by decide +kernel
theorem dX10_capital_49 : decode cX10_capital 49 = .ok (.iconst 0, 1) := by decide +kernel
theorem dX10_capital_50 : decode cX10_capital 50 = .ok (.invokestatic 103, 3) := by decide +kernel
theorem dX10_capital_53 : decode cX10_capital 53 = .ok (.aload_n 0, 1) := by decide +kernel
theorem dX10_capital_54 : decode cX10_capital 54 = .ok (.getfield 12, 3) := by decide +kernel
theorem dX10_capital_57 : decode cX10_capital 57 = .ok (.iload_n 1, 1) := by decide +kernel
theorem dX10_capital_58 : decode cX10_capital 58 = .ok (.iload_n 2, 1) := by decide +kernel
theorem dX10_capital_59 : decode cX10_capital 59 = .ok (.iload_n 3, 1) := by decide +kernel
theorem dX10_capital_60 : decode cX10_capital 60 = .ok (.invokevirtual 138, 3) := by decide +kernel
theorem dX10_capital_63 : decode cX10_capital 63 = .ok (.return_, 1) := by decide +kernel
theorem dX10_partners_0 : decode cX10_partners 0 = .ok (.iload_n 1, 1) := by decide +kernel
theorem dX10_partners_1 : decode cX10_partners 1 = .ok (.invokestatic 124, 3) := by decide +kernel
theorem dX10_partners_4 : decode cX10_partners 4 = .ok (.iload_n 2, 1) := by decide +kernel
theorem dX10_partners_5 : decode cX10_partners 5 = .ok (.invokestatic 124, 3) := by decide +kernel
theorem dX10_partners_8 : decode cX10_partners 8 = .ok (.iload_n 1, 1) := by decide +kernel
theorem dX10_partners_9 : decode cX10_partners 9 = .ok (.iload_n 2, 1) := by decide +kernel
theorem dX10_partners_10 : decode cX10_partners 10 = .ok (.if_icmp .eq 27, 3) := by decide +kernel
theorem dX10_partners_13 : decode cX10_partners 13 = .ok (.aload_n 0, 1) := by decide +kernel
theorem dX10_partners_14 : decode cX10_partners 14 = .ok (.getfield 12, 3) := by decide +kernel
theorem dX10_partners_17 : decode cX10_partners 17 = .ok (.iload_n 1, 1) := by decide +kernel
theorem dX10_partners_18 : decode cX10_partners 18 = .ok (.invokevirtual 141, 3) := by decide +kernel
theorem dX10_partners_21 : decode cX10_partners 21 = .ok (.iconst (-1), 1) := by decide +kernel
theorem dX10_partners_22 : decode cX10_partners 22 = .ok (.if_icmp .ne 15, 3) := by decide +kernel
theorem dX10_partners_25 : decode cX10_partners 25 = .ok (.aload_n 0, 1) := by decide +kernel
theorem dX10_partners_26 : decode cX10_partners 26 = .ok (.getfield 12, 3) := by decide +kernel
theorem dX10_partners_29 : decode cX10_partners 29 = .ok (.iload_n 2, 1) := by decide +kernel
theorem dX10_partners_30 : decode cX10_partners 30 = .ok (.invokevirtual 141, 3) := by decide +kernel
theorem dX10_partners_33 : decode cX10_partners 33 = .ok (.iconst (-1), 1) := by decide +kernel
theorem dX10_partners_34 : decode cX10_partners 34 = .ok (.if_icmp .eq 13, 3) := by decide +kernel
theorem dX10_partners_37 : decode cX10_partners 37 = .ok (.new 111, 3) := by decide +kernel
theorem dX10_partners_40 : decode cX10_partners 40 = .ok (.dup, 1) := by decide +kernel
theorem dX10_partners_41 : decode cX10_partners 41 = .ok (.ldc 145, 2) := by decide +kernel
theorem dX10_partners_43 : decode cX10_partners 43 = .ok (.invokespecial 115, 3) := by decide +kernel
theorem dX10_partners_46 : decode cX10_partners 46 = .ok (.athrow, 1) := by decide +kernel
theorem dX10_partners_47 : decode cX10_partners 47 = .ok (.aload_n 0, 1) := by decide +kernel
theorem dX10_partners_48 : decode cX10_partners 48 = .ok (.getfield 12, 3) := by decide +kernel
theorem dX10_partners_51 : decode cX10_partners 51 = .ok (.iload_n 1, 1) := by decide +kernel
theorem dX10_partners_52 : decode cX10_partners 52 = .ok (.iload_n 2, 1) := by decide +kernel
theorem dX10_partners_53 : decode cX10_partners 53 = .ok (.invokevirtual 147, 3) := by decide +kernel
theorem dX10_partners_56 : decode cX10_partners 56 = .ok (.return_, 1) := by decide +kernel
theorem dX10_weigh_0 : decode cX10_weigh 0 = .ok (.aload_n 0, 1) := by decide +kernel
theorem dX10_weigh_1 : decode cX10_weigh 1 = .ok (.iload_n 1, 1) := by decide +kernel
theorem dX10_weigh_2 : decode cX10_weigh 2 = .ok (.invokevirtual 151, 3) := by decide +kernel
theorem dX10_weigh_5 : decode cX10_weigh 5 = .ok (.astore 6, 2) := by decide +kernel
theorem dX10_weigh_7 : decode cX10_weigh 7 = .ok (.iload_n 2, 1) := by decide +kernel
theorem dX10_weigh_8 : decode cX10_weigh 8 = .ok (.invokestatic 124, 3) := by decide +kernel
theorem dX10_weigh_11 : decode cX10_weigh 11 = .ok (.iload_n 3, 1) := by decide +kernel
theorem dX10_weigh_12 : decode cX10_weigh 12 = .ok (.iload 4, 2) := by decide +kernel
theorem dX10_weigh_14 : decode cX10_weigh 14 = .ok (.iload 5, 2) := by decide +kernel
theorem dX10_weigh_16 : decode cX10_weigh 16 = .ok (.invokestatic 155, 3) := by decide +kernel
theorem dX10_weigh_19 : decode cX10_weigh 19 = .ok (.aload 6, 2) := by decide +kernel
theorem dX10_weigh_21 : decode cX10_weigh 21 = .ok (.iload_n 2, 1) := by decide +kernel
theorem dX10_weigh_22 : decode cX10_weigh 22 = .ok (.iload_n 3, 1) := by decide +kernel
theorem dX10_weigh_23 : decode cX10_weigh 23 = .ok (.iload 4, 2) := by decide +kernel
theorem dX10_weigh_25 : decode cX10_weigh 25 = .ok (.iload 5, 2) := by decide +kernel
theorem dX10_weigh_27 : decode cX10_weigh 27 = .ok (.invokevirtual 158, 3) := by decide +kernel
theorem dX10_weigh_30 : decode cX10_weigh 30 = .ok (.return_, 1) := by decide +kernel
theorem dX10_contract_0 : decode cX10_contract 0 = .ok (.aload_n 0, 1) := by decide +kernel
theorem dX10_contract_1 : decode cX10_contract 1 = .ok (.iload_n 1, 1) := by decide +kernel
theorem dX10_contract_2 : decode cX10_contract 2 = .ok (.invokevirtual 151, 3) := by decide +kernel
theorem dX10_contract_5 : decode cX10_contract 5 = .ok (.astore 7, 2) := by decide +kernel
theorem dX10_contract_7 : decode cX10_contract 7 = .ok (.iload_n 2, 1) := by decide +kernel
theorem dX10_contract_8 : decode cX10_contract 8 = .ok (.invokestatic 124, 3) := by decide +kernel
theorem dX10_contract_11 : decode cX10_contract 11 = .ok (.iload_n 3, 1) := by decide +kernel
theorem dX10_contract_12 : decode cX10_contract 12 = .ok (.invokestatic 124, 3) := by decide +kernel
theorem dX10_contract_15 : decode cX10_contract 15 = .ok (.iload 4, 2) := by decide +kernel
theorem dX10_contract_17 : decode cX10_contract 17 = .ok (.iload 5, 2) := by decide +kernel
theorem dX10_contract_19 : decode cX10_contract 19 = .ok (.iload 6, 2) := by decide +kernel
theorem dX10_contract_21 : decode cX10_contract 21 = .ok (.invokestatic 155, 3) := by decide +kernel
theorem dX10_contract_24 : decode cX10_contract 24 = .ok (.aload 7, 2) := by decide +kernel
theorem dX10_contract_26 : decode cX10_contract 26 = .ok (.iload_n 2, 1) := by decide +kernel
theorem dX10_contract_27 : decode cX10_contract 27 = .ok (.iload_n 3, 1) := by decide +kernel
theorem dX10_contract_28 : decode cX10_contract 28 = .ok (.invokevirtual 164, 3) := by decide +kernel
theorem dX10_contract_31 : decode cX10_contract 31 = .ok (.istore 8, 2) := by decide +kernel
theorem dX10_contract_33 : decode cX10_contract 33 = .ok (.iload 8, 2) := by decide +kernel
theorem dX10_contract_35 : decode cX10_contract 35 = .ok (.iconst (-1), 1) := by decide +kernel
theorem dX10_contract_36 : decode cX10_contract 36 = .ok (.if_icmp .ne 12, 3) := by decide +kernel
theorem dX10_contract_39 : decode cX10_contract 39 = .ok (.aload 7, 2) := by decide +kernel
theorem dX10_contract_41 : decode cX10_contract 41 = .ok (.iload_n 2, 1) := by decide +kernel
theorem dX10_contract_42 : decode cX10_contract 42 = .ok (.iload_n 3, 1) := by decide +kernel
theorem dX10_contract_43 : decode cX10_contract 43 = .ok (.invokevirtual 168, 3) := by decide +kernel
theorem dX10_contract_46 : decode cX10_contract 46 = .ok (.istore 8, 2) := by decide +kernel
theorem dX10_contract_48 : decode cX10_contract 48 = .ok (.iload 8, 2) := by decide +kernel
theorem dX10_contract_50 : decode cX10_contract 50 = .ok (.iconst (-1), 1) := by decide +kernel
theorem dX10_contract_51 : decode cX10_contract 51 = .ok (.if_icmp .ne 13, 3) := by decide +kernel
theorem dX10_contract_54 : decode cX10_contract 54 = .ok (.new 111, 3) := by decide +kernel
theorem dX10_contract_57 : decode cX10_contract 57 = .ok (.dup, 1) := by decide +kernel
theorem dX10_contract_58 : decode cX10_contract 58 = .ok (.ldc 171, 2) := by decide +kernel
theorem dX10_contract_60 : decode cX10_contract 60 = .ok (.invokespecial 115, 3) := by decide +kernel
theorem dX10_contract_63 : decode cX10_contract 63 = .ok (.athrow, 1) := by decide +kernel
theorem dX10_contract_64 : decode cX10_contract 64 = .ok (.aload 7, 2) := by decide +kernel
theorem dX10_contract_66 : decode cX10_contract 66 = .ok (.iload 8, 2) := by decide +kernel
theorem dX10_contract_68 : decode cX10_contract 68 = .ok (.iload 4, 2) := by decide +kernel
theorem dX10_contract_70 : decode cX10_contract 70 = .ok (.iload 5, 2) := by decide +kernel
theorem dX10_contract_72 : decode cX10_contract 72 = .ok (.iload 6, 2) := by decide +kernel
theorem dX10_contract_74 : decode cX10_contract 74 = .ok (.invokevirtual 158, 3) := by decide +kernel
theorem dX10_contract_77 : decode cX10_contract 77 = .ok (.aload 7, 2) := by decide +kernel
theorem dX10_contract_79 : decode cX10_contract 79 = .ok (.invokevirtual 173, 3) := by decide +kernel
theorem dX10_contract_82 : decode cX10_contract 82 = .ok (.ireturn, 1) := by decide +kernel
theorem dX10_plural_0 : decode cX10_plural 0 = .ok (.aload_n 0, 1) := by decide +kernel
theorem dX10_plural_1 : decode cX10_plural 1 = .ok (.iload_n 1, 1) := by decide +kernel
theorem dX10_plural_2 : decode cX10_plural 2 = .ok (.invokevirtual 151, 3) := by decide +kernel
theorem dX10_plural_5 : decode cX10_plural 5 = .ok (.astore 9, 2) := by decide +kernel
theorem dX10_plural_7 : decode cX10_plural 7 = .ok (.iload_n 2, 1) := by decide +kernel
theorem dX10_plural_8 : decode cX10_plural 8 = .ok (.iconst 0, 1) := by decide +kernel
theorem dX10_plural_9 : decode cX10_plural 9 = .ok (.iconst 2, 1) := by decide +kernel
theorem dX10_plural_10 : decode cX10_plural 10 = .ok (.invokestatic 99, 3) := by decide +kernel
theorem dX10_plural_13 : decode cX10_plural 13 = .ok (.ifCond .eq 27, 3) := by decide +kernel
theorem dX10_plural_16 : decode cX10_plural 16 = .ok (.iload_n 3, 1) := by decide +kernel
theorem dX10_plural_17 : decode cX10_plural 17 = .ok (.iconst 1, 1) := by decide +kernel
theorem dX10_plural_18 : decode cX10_plural 18 = .ok (.bipush 100, 2) := by decide +kernel
theorem dX10_plural_20 : decode cX10_plural 20 = .ok (.invokestatic 99, 3) := by decide +kernel
theorem dX10_plural_23 : decode cX10_plural 23 = .ok (.ifCond .eq 17, 3) := by decide +kernel
theorem dX10_plural_26 : decode cX10_plural 26 = .ok (.iload 4, 2) := by decide +kernel
theorem dX10_plural_28 : decode cX10_plural 28 = .ok (.iload 5, 2) := by decide +kernel
theorem dX10_plural_30 : decode cX10_plural 30 = .ok (.invokestatic 176, 3) := by decide +kernel
theorem dX10_plural_33 : decode cX10_plural 33 = .ok (.ifCond .eq 7, 3) := by decide +kernel
theorem dX10_plural_36 : decode cX10_plural 36 = .ok (.iconst 1, 1) := by decide +kernel
theorem dX10_plural_37 : decode cX10_plural 37 = .ok (.goto 4, 3) := by decide +kernel
theorem dX10_plural_40 : decode cX10_plural 40 = .ok (.iconst 0, 1) := by decide +kernel
theorem dX10_plural_41 : decode cX10_plural 41 = .ok (.invokestatic 103, 3) := by decide +kernel
theorem dX10_plural_44 : decode cX10_plural 44 = .ok (.iload 6, 2) := by decide +kernel
theorem dX10_plural_46 : decode cX10_plural 46 = .ok (.ifCond .ne 17, 3) := by decide +kernel
theorem dX10_plural_49 : decode cX10_plural 49 = .ok (.iload 7, 2) := by decide +kernel
theorem dX10_plural_51 : decode cX10_plural 51 = .ok (.ifCond .ne 12, 3) := by decide +kernel
theorem dX10_plural_54 : decode cX10_plural 54 = .ok (.iload 8, 2) := by decide +kernel
theorem dX10_plural_56 : decode cX10_plural 56 = .ok (.ifCond .ne 7, 3) := by decide +kernel
theorem dX10_plural_59 : decode cX10_plural 59 = .ok (.iconst 1, 1) := by decide +kernel
theorem dX10_plural_60 : decode cX10_plural 60 = .ok (.goto 4, 3) := by decide +kernel
theorem dX10_plural_63 : decode cX10_plural 63 = .ok (.iconst 0, 1) := by decide +kernel
theorem dX10_plural_64 : decode cX10_plural 64 = .ok (.istore 10, 2) := by decide +kernel
theorem dX10_plural_66 : decode cX10_plural 66 = .ok (.iload 10, 2) := by decide +kernel
theorem dX10_plural_68 : decode cX10_plural 68 = .ok (.ifCond .ne 24, 3) := by decide +kernel
theorem dX10_plural_71 : decode cX10_plural 71 = .ok (.iload 6, 2) := by decide +kernel
theorem dX10_plural_73 : decode cX10_plural 73 = .ok (.iconst 1, 1) := by decide +kernel
theorem dX10_plural_74 : decode cX10_plural 74 = .ok (.bipush 100, 2) := by decide +kernel
theorem dX10_plural_76 : decode cX10_plural 76 = .ok (.invokestatic 99, 3) := by decide +kernel
theorem dX10_plural_79 : decode cX10_plural 79 = .ok (.ifCond .eq 17, 3) := by decide +kernel
theorem dX10_plural_82 : decode cX10_plural 82 = .ok (.iload 7, 2) := by decide +kernel
theorem dX10_plural_84 : decode cX10_plural 84 = .ok (.iload 8, 2) := by decide +kernel
theorem dX10_plural_86 : decode cX10_plural 86 = .ok (.invokestatic 176, 3) := by decide +kernel
theorem dX10_plural_89 : decode cX10_plural 89 = .ok (.ifCond .eq 7, 3) := by decide +kernel
theorem dX10_plural_92 : decode cX10_plural 92 = .ok (.iconst 1, 1) := by decide +kernel
theorem dX10_plural_93 : decode cX10_plural 93 = .ok (.goto 4, 3) := by decide +kernel
theorem dX10_plural_96 : decode cX10_plural 96 = .ok (.iconst 0, 1) := by decide +kernel
theorem dX10_plural_97 : decode cX10_plural 97 = .ok (.invokestatic 103, 3) := by decide +kernel
theorem dX10_plural_100 : decode cX10_plural 100 = .ok (.aload 9, 2) := by decide +kernel
theorem dX10_plural_102 : decode cX10_plural 102 = .ok (.invokevirtual 180, 3) := by decide +kernel
theorem dX10_plural_105 : decode cX10_plural 105 = .ok (.astore 11, 2) := by decide +kernel
theorem dX10_plural_107 : decode cX10_plural 107 = .ok (.aload 11, 2) := by decide +kernel
theorem dX10_plural_109 : decode cX10_plural 109 = .ok (.ifnonnull 13, 3) := by decide +kernel
theorem dX10_plural_112 : decode cX10_plural 112 = .ok (.new 111, 3) := by decide +kernel
theorem dX10_plural_115 : decode cX10_plural 115 = .ok (.dup, 1) := by decide +kernel
theorem dX10_plural_116 : decode cX10_plural 116 = .ok (.ldc 184, 2) := by decide +kernel
theorem dX10_plural_118 : decode cX10_plural 118 = .ok (.invokespecial 115, 3) := by decide +kernel
theorem dX10_plural_121 : decode cX10_plural 121 = .ok (.athrow, 1) := by decide +kernel
theorem dX10_plural_122 : decode cX10_plural 122 = .ok (.aload 11, 2) := by decide +kernel
theorem dX10_plural_124 : decode cX10_plural 124 = .ok (.iload_n 2, 1) := by decide +kernel
theorem dX10_plural_125 : decode cX10_plural 125 = .ok (.iload_n 3, 1) := by decide +kernel
theorem dX10_plural_126 : decode cX10_plural 126 = .ok (.iload 4, 2) := by decide +kernel
theorem dX10_plural_128 : decode cX10_plural 128 = .ok (.iload 5, 2) := by decide +kernel
theorem dX10_plural_130 : decode cX10_plural 130 = .ok (.iload 6, 2) := by decide +kernel
theorem dX10_plural_132 : decode cX10_plural 132 = .ok (.iload 7, 2) := by decide +kernel
theorem dX10_plural_134 : decode cX10_plural 134 = .ok (.iload 8, 2) := by decide +kernel
theorem dX10_plural_136 : decode cX10_plural 136 = .ok (.invokevirtual 186, 3) := by decide +kernel
theorem dX10_plural_139 : decode cX10_plural 139 = .ok (.aload 9, 2) := by decide +kernel
theorem dX10_plural_141 : decode cX10_plural 141 = .ok (.invokevirtual 191, 3) := by decide +kernel
theorem dX10_plural_144 : decode cX10_plural 144 = .ok (.ireturn, 1) := by decide +kernel
theorem dX10_addWord_0 : decode cX10_addWord 0 = .ok (.aload_n 0, 1) := by decide +kernel
theorem dX10_addWord_1 : decode cX10_addWord 1 = .ok (.iload_n 1, 1) := by decide +kernel
theorem dX10_addWord_2 : decode cX10_addWord 2 = .ok (.invokevirtual 194, 3) := by decide +kernel
theorem dX10_addWord_5 : decode cX10_addWord 5 = .ok (.astore_n 2, 1) := by decide +kernel
theorem dX10_addWord_6 : decode cX10_addWord 6 = .ok (.aload_n 2, 1) := by decide +kernel
theorem dX10_addWord_7 : decode cX10_addWord 7 = .ok (.invokevirtual 107, 3) := by decide +kernel
theorem dX10_addWord_10 : decode cX10_addWord 10 = .ok (.iconst 1, 1) := by decide +kernel
theorem dX10_addWord_11 : decode cX10_addWord 11 = .ok (.bipush 8, 2) := by decide +kernel
theorem dX10_addWord_13 : decode cX10_addWord 13 = .ok (.invokestatic 99, 3) := by decide +kernel
theorem dX10_addWord_16 : decode cX10_addWord 16 = .ok (.ifCond .eq 14, 3) := by decide +kernel
theorem dX10_addWord_19 : decode cX10_addWord 19 = .ok (.aload_n 0, 1) := by decide +kernel
theorem dX10_addWord_20 : decode cX10_addWord 20 = .ok (.getfield 12, 3) := by decide +kernel
theorem dX10_addWord_23 : decode cX10_addWord 23 = .ok (.aload_n 2, 1) := by decide +kernel
theorem dX10_addWord_24 : decode cX10_addWord 24 = .ok (.invokevirtual 198, 3) := by decide +kernel
theorem dX10_addWord_27 : decode cX10_addWord 27 = .ok (.ifCond .ne 13, 3) := by decide +kernel
theorem dX10_addWord_30 : decode cX10_addWord 30 = .ok (.new 111, 3) := by decide +kernel
theorem dX10_addWord_33 : decode cX10_addWord 33 = .ok (.dup, 1) := by decide +kernel
theorem dX10_addWord_34 : decode cX10_addWord 34 = .ok (.ldc 202, 2) := by decide +kernel
theorem dX10_addWord_36 : decode cX10_addWord 36 = .ok (.invokespecial 115, 3) := by decide +kernel
theorem dX10_addWord_39 : decode cX10_addWord 39 = .ok (.athrow, 1) := by decide +kernel
theorem dX10_addWord_40 : decode cX10_addWord 40 = .ok (.aload_n 0, 1) := by decide +kernel
theorem dX10_addWord_41 : decode cX10_addWord 41 = .ok (.getfield 12, 3) := by decide +kernel
theorem dX10_addWord_44 : decode cX10_addWord 44 = .ok (.invokevirtual 204, 3) := by decide +kernel
theorem dX10_addWord_47 : decode cX10_addWord 47 = .ok (.ireturn, 1) := by decide +kernel
theorem dX10_addRule_0 : decode cX10_addRule 0 = .ok (.aload_n 0, 1) := by decide +kernel
theorem dX10_addRule_1 : decode cX10_addRule 1 = .ok (.iload_n 2, 1) := by decide +kernel
theorem dX10_addRule_2 : decode cX10_addRule 2 = .ok (.invokevirtual 194, 3) := by decide +kernel
theorem dX10_addRule_5 : decode cX10_addRule 5 = .ok (.astore 6, 2) := by decide +kernel
theorem dX10_addRule_7 : decode cX10_addRule 7 = .ok (.aload_n 0, 1) := by decide +kernel
theorem dX10_addRule_8 : decode cX10_addRule 8 = .ok (.iload_n 3, 1) := by decide +kernel
theorem dX10_addRule_9 : decode cX10_addRule 9 = .ok (.invokevirtual 194, 3) := by decide +kernel
theorem dX10_addRule_12 : decode cX10_addRule 12 = .ok (.astore 7, 2) := by decide +kernel
theorem dX10_addRule_14 : decode cX10_addRule 14 = .ok (.aload_n 0, 1) := by decide +kernel
theorem dX10_addRule_15 : decode cX10_addRule 15 = .ok (.iload 4, 2) := by decide +kernel
theorem dX10_addRule_17 : decode cX10_addRule 17 = .ok (.invokevirtual 194, 3) := by decide +kernel
theorem dX10_addRule_20 : decode cX10_addRule 20 = .ok (.astore 8, 2) := by decide +kernel
theorem dX10_addRule_22 : decode cX10_addRule 22 = .ok (.aload_n 0, 1) := by decide +kernel
theorem dX10_addRule_23 : decode cX10_addRule 23 = .ok (.iload 5, 2) := by decide +kernel
theorem dX10_addRule_25 : decode cX10_addRule 25 = .ok (.invokevirtual 194, 3) := by decide +kernel
theorem dX10_addRule_28 : decode cX10_addRule 28 = .ok (.astore 9, 2) := by decide +kernel
theorem dX10_addRule_30 : decode cX10_addRule 30 = .ok (.iload_n 1, 1) := by decide +kernel
theorem dX10_addRule_31 : decode cX10_addRule 31 = .ok (.iconst 0, 1) := by decide +kernel
theorem dX10_addRule_32 : decode cX10_addRule 32 = .ok (.iconst 1, 1) := by decide +kernel
theorem dX10_addRule_33 : decode cX10_addRule 33 = .ok (.invokestatic 99, 3) := by decide +kernel
theorem dX10_addRule_36 : decode cX10_addRule 36 = .ok (.invokestatic 103, 3) := by decide +kernel
theorem dX10_addRule_39 : decode cX10_addRule 39 = .ok (.aload 6, 2) := by decide +kernel
theorem dX10_addRule_41 : decode cX10_addRule 41 = .ok (.invokevirtual 107, 3) := by decide +kernel
theorem dX10_addRule_44 : decode cX10_addRule 44 = .ok (.iconst 2, 1) := by decide +kernel
theorem dX10_addRule_45 : decode cX10_addRule 45 = .ok (.if_icmp .gt 38, 3) := by decide +kernel
theorem dX10_addRule_48 : decode cX10_addRule 48 = .ok (.aload 8, 2) := by decide +kernel
theorem dX10_addRule_50 : decode cX10_addRule 50 = .ok (.invokevirtual 107, 3) := by decide +kernel
theorem dX10_addRule_53 : decode cX10_addRule 53 = .ok (.iconst 2, 1) := by decide +kernel
theorem dX10_addRule_54 : decode cX10_addRule 54 = .ok (.if_icmp .gt 29, 3) := by decide +kernel
theorem dX10_addRule_57 : decode cX10_addRule 57 = .ok (.aload 7, 2) := by decide +kernel
theorem dX10_addRule_59 : decode cX10_addRule 59 = .ok (.invokevirtual 107, 3) := by decide +kernel
theorem dX10_addRule_62 : decode cX10_addRule 62 = .ok (.iconst 1, 1) := by decide +kernel
theorem dX10_addRule_63 : decode cX10_addRule 63 = .ok (.iconst 3, 1) := by decide +kernel
theorem dX10_addRule_64 : decode cX10_addRule 64 = .ok (.invokestatic 99, 3) := by decide +kernel
theorem dX10_addRule_67 : decode cX10_addRule 67 = .ok (.ifCond .eq 16, 3) := by decide +kernel
theorem dX10_addRule_70 : decode cX10_addRule 70 = .ok (.aload 9, 2) := by decide +kernel
theorem dX10_addRule_72 : decode cX10_addRule 72 = .ok (.invokevirtual 107, 3) := by decide +kernel
theorem dX10_addRule_75 : decode cX10_addRule 75 = .ok (.iconst 3, 1) := by decide +kernel
theorem dX10_addRule_76 : decode cX10_addRule 76 = .ok (.if_icmp .gt 7, 3) := by decide +kernel
theorem dX10_addRule_79 : decode cX10_addRule 79 = .ok (.iconst 1, 1) := by decide +kernel
theorem dX10_addRule_80 : decode cX10_addRule 80 = .ok (.goto 4, 3) := by decide +kernel
theorem dX10_addRule_83 : decode cX10_addRule 83 = .ok (.iconst 0, 1) := by decide +kernel
theorem dX10_addRule_84 : decode cX10_addRule 84 = .ok (.istore 10, 2) := by decide +kernel
theorem dX10_addRule_86 : decode cX10_addRule 86 = .ok (.aload_n 0, 1) := by decide +kernel
theorem dX10_addRule_87 : decode cX10_addRule 87 = .ok (.getfield 12, 3) := by decide +kernel
theorem dX10_addRule_90 : decode cX10_addRule 90 = .ok (.invokevirtual 207, 3) := by decide +kernel
theorem dX10_addRule_93 : decode cX10_addRule 93 = .ok (.astore 11, 2) := by decide +kernel
theorem dX10_addRule_95 : decode cX10_addRule 95 = .ok (.iload 10, 2) := by decide +kernel
theorem dX10_addRule_97 : decode cX10_addRule 97 = .ok (.ifCond .eq 8, 3) := by decide +kernel
theorem dX10_addRule_100 : decode cX10_addRule 100 = .ok (.aload 11, 2) := by decide +kernel
theorem dX10_addRule_102 : decode cX10_addRule 102 = .ok (.ifnonnull 13, 3) := by decide +kernel
theorem dX10_addRule_105 : decode cX10_addRule 105 = .ok (.new 111, 3) := by decide +kernel
theorem dX10_addRule_108 : decode cX10_addRule 108 = .ok (.dup, 1) := by decide +kernel
theorem dX10_addRule_109 : decode cX10_addRule 109 = .ok (.ldc 211, 2) := by decide +kernel
theorem dX10_addRule_111 : decode cX10_addRule 111 = .ok (.invokespecial 115, 3) := by decide +kernel
theorem dX10_addRule_114 : decode cX10_addRule 114 = .ok (.athrow, 1) := by decide +kernel
theorem dX10_addRule_115 : decode cX10_addRule 115 = .ok (.aload 11, 2) := by decide +kernel
theorem dX10_addRule_117 : decode cX10_addRule 117 = .ok (.iload_n 1, 1) := by decide +kernel
theorem dX10_addRule_118 : decode cX10_addRule 118 = .ok (.aload 6, 2) := by decide +kernel
theorem dX10_addRule_120 : decode cX10_addRule 120 = .ok (.aload 7, 2) := by decide +kernel
theorem dX10_addRule_122 : decode cX10_addRule 122 = .ok (.aload 8, 2) := by decide +kernel
theorem dX10_addRule_124 : decode cX10_addRule 124 = .ok (.aload 9, 2) := by decide +kernel
theorem dX10_addRule_126 : decode cX10_addRule 126 = .ok (.invokevirtual 213, 3) := by decide +kernel
theorem dX10_addRule_129 : decode cX10_addRule 129 = .ok (.aload_n 0, 1) := by decide +kernel
theorem dX10_addRule_130 : decode cX10_addRule 130 = .ok (.getfield 12, 3) := by decide +kernel
theorem dX10_addRule_133 : decode cX10_addRule 133 = .ok (.invokevirtual 218, 3) := by decide +kernel
theorem dX10_addRule_136 : decode cX10_addRule 136 = .ok (.ireturn, 1) := by decide +kernel
theorem dX10_save_0 : decode cX10_save 0 = .ok (.aload_n 0, 1) := by decide +kernel
theorem dX10_save_1 : decode cX10_save 1 = .ok (.getfield 221, 3) := by decide +kernel
theorem dX10_save_4 : decode cX10_save 4 = .ok (.ifCond .lt 15, 3) := by decide +kernel
theorem dX10_save_7 : decode cX10_save 7 = .ok (.aload_n 0, 1) := by decide +kernel
theorem dX10_save_8 : decode cX10_save 8 = .ok (.getfield 221, 3) := by decide +kernel
theorem dX10_save_11 : decode cX10_save 11 = .ok (.aload_n 0, 1) := by decide +kernel
theorem dX10_save_12 : decode cX10_save 12 = .ok (.getfield 16, 3) := by decide +kernel
theorem dX10_save_15 : decode cX10_save 15 = .ok (.arraylength, 1) := by decide +kernel
theorem dX10_save_16 : decode cX10_save 16 = .ok (.if_icmp .lt 13, 3) := by decide +kernel
theorem dX10_save_19 : decode cX10_save 19 = .ok (.new 111, 3) := by decide +kernel
theorem dX10_save_22 : decode cX10_save 22 = .ok (.dup, 1) := by decide +kernel
theorem dX10_save_23 : decode cX10_save 23 = .ok (.ldc 225, 2) := by decide +kernel
theorem dX10_save_25 : decode cX10_save 25 = .ok (.invokespecial 115, 3) := by decide +kernel
theorem dX10_save_28 : decode cX10_save 28 = .ok (.athrow, 1) := by decide +kernel
theorem dX10_save_29 : decode cX10_save 29 = .ok (.aload_n 0, 1) := by decide +kernel
theorem dX10_save_30 : decode cX10_save 30 = .ok (.getfield 16, 3) := by decide +kernel
theorem dX10_save_33 : decode cX10_save 33 = .ok (.aload_n 0, 1) := by decide +kernel
theorem dX10_save_34 : decode cX10_save 34 = .ok (.getfield 221, 3) := by decide +kernel
theorem dX10_save_37 : decode cX10_save 37 = .ok (.aaload, 1) := by decide +kernel
theorem dX10_save_38 : decode cX10_save 38 = .ok (.aload_n 0, 1) := by decide +kernel
theorem dX10_save_39 : decode cX10_save 39 = .ok (.getfield 12, 3) := by decide +kernel
theorem dX10_save_42 : decode cX10_save 42 = .ok (.invokevirtual 227, 3) := by decide +kernel
theorem dX10_save_45 : decode cX10_save 45 = .ok (.aload_n 0, 1) := by decide +kernel
theorem dX10_save_46 : decode cX10_save 46 = .ok (.dup, 1) := by decide +kernel
theorem dX10_save_47 : decode cX10_save 47 = .ok (.getfield 221, 3) := by decide +kernel
theorem dX10_save_50 : decode cX10_save 50 = .ok (.iconst 1, 1) := by decide +kernel
theorem dX10_save_51 : decode cX10_save 51 = .ok (.iadd, 1) := by decide +kernel
theorem dX10_save_52 : decode cX10_save 52 = .ok (.putfield 221, 3) := by decide +kernel
theorem dX10_save_55 : decode cX10_save 55 = .ok (.aload_n 0, 1) := by decide +kernel
theorem dX10_save_56 : decode cX10_save 56 = .ok (.getfield 221, 3) := by decide +kernel
theorem dX10_save_59 : decode cX10_save 59 = .ok (.iconst 1, 1) := by decide +kernel
theorem dX10_save_60 : decode cX10_save 60 = .ok (.isub, 1) := by decide +kernel
theorem dX10_save_61 : decode cX10_save 61 = .ok (.ireturn, 1) := by decide +kernel
theorem dX10_use_0 : decode cX10_use 0 = .ok (.iload_n 1, 1) := by decide +kernel
theorem dX10_use_1 : decode cX10_use 1 = .ok (.ifCond .lt 20, 3) := by decide +kernel
theorem dX10_use_4 : decode cX10_use 4 = .ok (.iload_n 1, 1) := by decide +kernel
theorem dX10_use_5 : decode cX10_use 5 = .ok (.aload_n 0, 1) := by decide +kernel
theorem dX10_use_6 : decode cX10_use 6 = .ok (.getfield 221, 3) := by decide +kernel
theorem dX10_use_9 : decode cX10_use 9 = .ok (.if_icmp .ge 12, 3) := by decide +kernel
theorem dX10_use_12 : decode cX10_use 12 = .ok (.iload_n 1, 1) := by decide +kernel
theorem dX10_use_13 : decode cX10_use 13 = .ok (.aload_n 0, 1) := by decide +kernel
theorem dX10_use_14 : decode cX10_use 14 = .ok (.getfield 16, 3) := by decide +kernel
theorem dX10_use_17 : decode cX10_use 17 = .ok (.arraylength, 1) := by decide +kernel
theorem dX10_use_18 : decode cX10_use 18 = .ok (.if_icmp .lt 13, 3) := by decide +kernel
theorem dX10_use_21 : decode cX10_use 21 = .ok (.new 230, 3) := by decide +kernel
theorem dX10_use_24 : decode cX10_use 24 = .ok (.dup, 1) := by decide +kernel
theorem dX10_use_25 : decode cX10_use 25 = .ok (.ldc 232, 2) := by decide +kernel
theorem dX10_use_27 : decode cX10_use 27 = .ok (.invokespecial 234, 3) := by decide +kernel
theorem dX10_use_30 : decode cX10_use 30 = .ok (.athrow, 1) := by decide +kernel
theorem dX10_use_31 : decode cX10_use 31 = .ok (.aload_n 0, 1) := by decide +kernel
theorem dX10_use_32 : decode cX10_use 32 = .ok (.getfield 12, 3) := by decide +kernel
theorem dX10_use_35 : decode cX10_use 35 = .ok (.aload_n 0, 1) := by decide +kernel
theorem dX10_use_36 : decode cX10_use 36 = .ok (.getfield 16, 3) := by decide +kernel
theorem dX10_use_39 : decode cX10_use 39 = .ok (.iload_n 1, 1) := by decide +kernel
theorem dX10_use_40 : decode cX10_use 40 = .ok (.aaload, 1) := by decide +kernel
theorem dX10_use_41 : decode cX10_use 41 = .ok (.invokevirtual 227, 3) := by decide +kernel
theorem dX10_use_44 : decode cX10_use 44 = .ok (.return_, 1) := by decide +kernel
theorem dX10_put_0 : decode cX10_put 0 = .ok (.aload_n 0, 1) := by decide +kernel
theorem dX10_put_1 : decode cX10_put 1 = .ok (.iload_n 1, 1) := by decide +kernel
theorem dX10_put_2 : decode cX10_put 2 = .ok (.invokevirtual 194, 3) := by decide +kernel
theorem dX10_put_5 : decode cX10_put 5 = .ok (.astore_n 3, 1) := by decide +kernel
theorem dX10_put_6 : decode cX10_put 6 = .ok (.iload_n 2, 1) := by decide +kernel
theorem dX10_put_7 : decode cX10_put 7 = .ok (.invokestatic 124, 3) := by decide +kernel
theorem dX10_put_10 : decode cX10_put 10 = .ok (.aload_n 3, 1) := by decide +kernel
theorem dX10_put_11 : decode cX10_put 11 = .ok (.iload_n 2, 1) := by decide +kernel
theorem dX10_put_12 : decode cX10_put 12 = .ok (.invokevirtual 120, 3) := by decide +kernel
theorem dX10_put_15 : decode cX10_put 15 = .ok (.ifCond .ne 13, 3) := by decide +kernel
theorem dX10_put_18 : decode cX10_put 18 = .ok (.new 111, 3) := by decide +kernel
theorem dX10_put_21 : decode cX10_put 21 = .ok (.dup, 1) := by decide +kernel
theorem dX10_put_22 : decode cX10_put 22 = .ok (.ldc 235, 2) := by decide +kernel
theorem dX10_put_24 : decode cX10_put 24 = .ok (.invokespecial 115, 3) := by decide +kernel
theorem dX10_put_27 : decode cX10_put 27 = .ok (.athrow, 1) := by decide +kernel
theorem dX10_put_28 : decode cX10_put 28 = .ok (.aload_n 3, 1) := by decide +kernel
theorem dX10_put_29 : decode cX10_put 29 = .ok (.invokevirtual 107, 3) := by decide +kernel
theorem dX10_put_32 : decode cX10_put 32 = .ok (.ireturn, 1) := by decide +kernel
theorem dX10_clear_0 : decode cX10_clear 0 = .ok (.aload_n 0, 1) := by decide +kernel
theorem dX10_clear_1 : decode cX10_clear 1 = .ok (.iload_n 1, 1) := by decide +kernel
theorem dX10_clear_2 : decode cX10_clear 2 = .ok (.invokevirtual 194, 3) := by decide +kernel
theorem dX10_clear_5 : decode cX10_clear 5 = .ok (.astore_n 2, 1) := by decide +kernel
theorem dX10_clear_6 : decode cX10_clear 6 = .ok (.aload_n 2, 1) := by decide +kernel
theorem dX10_clear_7 : decode cX10_clear 7 = .ok (.invokevirtual 107, 3) := by decide +kernel
theorem dX10_clear_10 : decode cX10_clear 10 = .ok (.istore_n 3, 1) := by decide +kernel
theorem dX10_clear_11 : decode cX10_clear 11 = .ok (.aload_n 2, 1) := by decide +kernel
theorem dX10_clear_12 : decode cX10_clear 12 = .ok (.iconst 0, 1) := by decide +kernel
theorem dX10_clear_13 : decode cX10_clear 13 = .ok (.invokevirtual 237, 3) := by decide +kernel
theorem dX10_clear_16 : decode cX10_clear 16 = .ok (.iload_n 3, 1) := by decide +kernel
theorem dX10_clear_17 : decode cX10_clear 17 = .ok (.ireturn, 1) := by decide +kernel
theorem dX10_at_0 : decode cX10_at 0 = .ok (.aload_n 0, 1) := by decide +kernel
theorem dX10_at_1 : decode cX10_at 1 = .ok (.iload_n 1, 1) := by decide +kernel
theorem dX10_at_2 : decode cX10_at 2 = .ok (.invokevirtual 194, 3) := by decide +kernel
theorem dX10_at_5 : decode cX10_at 5 = .ok (.astore_n 3, 1) := by decide +kernel
theorem dX10_at_6 : decode cX10_at 6 = .ok (.iload_n 2, 1) := by decide +kernel
theorem dX10_at_7 : decode cX10_at 7 = .ok (.iconst (-1), 1) := by decide +kernel
theorem dX10_at_8 : decode cX10_at 8 = .ok (.if_icmp .ne 8, 3) := by decide +kernel
theorem dX10_at_11 : decode cX10_at 11 = .ok (.aload_n 3, 1) := by decide +kernel
theorem dX10_at_12 : decode cX10_at 12 = .ok (.invokevirtual 107, 3) := by decide +kernel
theorem dX10_at_15 : decode cX10_at 15 = .ok (.ireturn, 1) := by decide +kernel
theorem dX10_at_16 : decode cX10_at 16 = .ok (.iload_n 2, 1) := by decide +kernel
theorem dX10_at_17 : decode cX10_at 17 = .ok (.aload_n 3, 1) := by decide +kernel
theorem dX10_at_18 : decode cX10_at 18 = .ok (.invokevirtual 107, 3) := by decide +kernel
theorem dX10_at_21 : decode cX10_at 21 = .ok (.invokestatic 240, 3) := by decide +kernel
theorem dX10_at_24 : decode cX10_at 24 = .ok (.aload_n 3, 1) := by decide +kernel
theorem dX10_at_25 : decode cX10_at 25 = .ok (.iload_n 2, 1) := by decide +kernel
theorem dX10_at_26 : decode cX10_at 26 = .ok (.invokevirtual 243, 3) := by decide +kernel
theorem dX10_at_29 : decode cX10_at 29 = .ok (.ireturn, 1) := by decide +kernel
theorem dX10_form_0 : decode cX10_form 0 = .ok (.aload_n 0, 1) := by decide +kernel
theorem dX10_form_1 : decode cX10_form 1 = .ok (.iload_n 1, 1) := by decide +kernel
theorem dX10_form_2 : decode cX10_form 2 = .ok (.invokevirtual 194, 3) := by decide +kernel
theorem dX10_form_5 : decode cX10_form 5 = .ok (.astore 4, 2) := by decide +kernel
theorem dX10_form_7 : decode cX10_form 7 = .ok (.aload_n 0, 1) := by decide +kernel
theorem dX10_form_8 : decode cX10_form 8 = .ok (.iload_n 3, 1) := by decide +kernel
theorem dX10_form_9 : decode cX10_form 9 = .ok (.invokevirtual 194, 3) := by decide +kernel
theorem dX10_form_12 : decode cX10_form 12 = .ok (.astore 5, 2) := by decide +kernel
theorem dX10_form_14 : decode cX10_form 14 = .ok (.iload_n 2, 1) := by decide +kernel
theorem dX10_form_15 : decode cX10_form 15 = .ok (.iconst 0, 1) := by decide +kernel
theorem dX10_form_16 : decode cX10_form 16 = .ok (.iconst 3, 1) := by decide +kernel
theorem dX10_form_17 : decode cX10_form 17 = .ok (.invokestatic 99, 3) := by decide +kernel
theorem dX10_form_20 : decode cX10_form 20 = .ok (.invokestatic 103, 3) := by decide +kernel
theorem dX10_form_23 : decode cX10_form 23 = .ok (.aload_n 0, 1) := by decide +kernel
theorem dX10_form_24 : decode cX10_form 24 = .ok (.getfield 41, 3) := by decide +kernel
theorem dX10_form_27 : decode cX10_form 27 = .ok (.aload 4, 2) := by decide +kernel
theorem dX10_form_29 : decode cX10_form 29 = .ok (.iload_n 2, 1) := by decide +kernel
theorem dX10_form_30 : decode cX10_form 30 = .ok (.aload_n 0, 1) := by decide +kernel
theorem dX10_form_31 : decode cX10_form 31 = .ok (.getfield 78, 3) := by decide +kernel
theorem dX10_form_34 : decode cX10_form 34 = .ok (.invokevirtual 246, 3) := by decide +kernel
theorem dX10_form_37 : decode cX10_form 37 = .ok (.ifCond .eq 19, 3) := by decide +kernel
theorem dX10_form_40 : decode cX10_form 40 = .ok (.aload_n 0, 1) := by decide +kernel
theorem dX10_form_41 : decode cX10_form 41 = .ok (.getfield 78, 3) := by decide +kernel
theorem dX10_form_44 : decode cX10_form 44 = .ok (.invokevirtual 107, 3) := by decide +kernel
theorem dX10_form_47 : decode cX10_form 47 = .ok (.bipush 40, 2) := by decide +kernel
theorem dX10_form_49 : decode cX10_form 49 = .ok (.if_icmp .gt 7, 3) := by decide +kernel
theorem dX10_form_52 : decode cX10_form 52 = .ok (.iconst 1, 1) := by decide +kernel
theorem dX10_form_53 : decode cX10_form 53 = .ok (.goto 4, 3) := by decide +kernel
theorem dX10_form_56 : decode cX10_form 56 = .ok (.iconst 0, 1) := by decide +kernel
theorem dX10_form_57 : decode cX10_form 57 = .ok (.invokestatic 250, 3) := by decide +kernel
theorem dX10_form_60 : decode cX10_form 60 = .ok (.aload 5, 2) := by decide +kernel
theorem dX10_form_62 : decode cX10_form 62 = .ok (.aload_n 0, 1) := by decide +kernel
theorem dX10_form_63 : decode cX10_form 63 = .ok (.getfield 78, 3) := by decide +kernel
theorem dX10_form_66 : decode cX10_form 66 = .ok (.invokevirtual 253, 3) := by decide +kernel
theorem dX10_form_69 : decode cX10_form 69 = .ok (.aload 5, 2) := by decide +kernel
theorem dX10_form_71 : decode cX10_form 71 = .ok (.invokevirtual 107, 3) := by decide +kernel
theorem dX10_form_74 : decode cX10_form 74 = .ok (.ireturn, 1) := by decide +kernel
theorem dX10_looksLike_0 : decode cX10_looksLike 0 = .ok (.aload_n 0, 1) := by decide +kernel
theorem dX10_looksLike_1 : decode cX10_looksLike 1 = .ok (.iload_n 1, 1) := by decide +kernel
theorem dX10_looksLike_2 : decode cX10_looksLike 2 = .ok (.invokevirtual 194, 3) := by decide +kernel
theorem dX10_looksLike_5 : decode cX10_looksLike 5 = .ok (.astore_n 3, 1) := by decide +kernel
theorem dX10_looksLike_6 : decode cX10_looksLike 6 = .ok (.aload_n 0, 1) := by decide +kernel
theorem dX10_looksLike_7 : decode cX10_looksLike 7 = .ok (.iload_n 2, 1) := by decide +kernel
theorem dX10_looksLike_8 : decode cX10_looksLike 8 = .ok (.invokevirtual 194, 3) := by decide +kernel
theorem dX10_looksLike_11 : decode cX10_looksLike 11 = .ok (.astore 4, 2) := by decide +kernel
theorem dX10_looksLike_13 : decode cX10_looksLike 13 = .ok (.aload_n 0, 1) := by decide +kernel
theorem dX10_looksLike_14 : decode cX10_looksLike 14 = .ok (.getfield 41, 3) := by decide +kernel
theorem dX10_looksLike_17 : decode cX10_looksLike 17 = .ok (.aload_n 3, 1) := by decide +kernel
theorem dX10_looksLike_18 : decode cX10_looksLike 18 = .ok (.aload_n 0, 1) := by decide +kernel
theorem dX10_looksLike_19 : decode cX10_looksLike 19 = .ok (.getfield 78, 3) := by decide +kernel
theorem dX10_looksLike_22 : decode cX10_looksLike 22 = .ok (.invokevirtual 256, 3) := by decide +kernel
theorem dX10_looksLike_25 : decode cX10_looksLike 25 = .ok (.ifCond .eq 23, 3) := by decide +kernel
theorem dX10_looksLike_28 : decode cX10_looksLike 28 = .ok (.aload_n 0, 1) := by decide +kernel
theorem dX10_looksLike_29 : decode cX10_looksLike 29 = .ok (.getfield 41, 3) := by decide +kernel
theorem dX10_looksLike_32 : decode cX10_looksLike 32 = .ok (.aload 4, 2) := by decide +kernel
theorem dX10_looksLike_34 : decode cX10_looksLike 34 = .ok (.aload_n 0, 1) := by decide +kernel
theorem dX10_looksLike_35 : decode cX10_looksLike 35 = .ok (.getfield 81, 3) := by decide +kernel
theorem dX10_looksLike_38 : decode cX10_looksLike 38 = .ok (.invokevirtual 256, 3) := by decide +kernel
theorem dX10_looksLike_41 : decode cX10_looksLike 41 = .ok (.ifCond .eq 7, 3) := by decide +kernel
theorem dX10_looksLike_44 : decode cX10_looksLike 44 = .ok (.iconst 1, 1) := by decide +kernel
theorem dX10_looksLike_45 : decode cX10_looksLike 45 = .ok (.goto 4, 3) := by decide +kernel
theorem dX10_looksLike_48 : decode cX10_looksLike 48 = .ok (.iconst 0, 1) := by decide +kernel
theorem dX10_looksLike_49 : decode cX10_looksLike 49 = .ok (.invokestatic 250, 3) := by decide +kernel
theorem dX10_looksLike_52 : decode cX10_looksLike 52 = .ok (.aload_n 0, 1) := by decide +kernel
theorem dX10_looksLike_53 : decode cX10_looksLike 53 = .ok (.getfield 78, 3) := by decide +kernel
theorem dX10_looksLike_56 : decode cX10_looksLike 56 = .ok (.aload_n 0, 1) := by decide +kernel
theorem dX10_looksLike_57 : decode cX10_looksLike 57 = .ok (.getfield 81, 3) := by decide +kernel
theorem dX10_looksLike_60 : decode cX10_looksLike 60 = .ok (.invokevirtual 260, 3) := by decide +kernel
theorem dX10_looksLike_63 : decode cX10_looksLike 63 = .ok (.ireturn, 1) := by decide +kernel
theorem dX10_base_0 : decode cX10_base 0 = .ok (.aload_n 0, 1) := by decide +kernel
theorem dX10_base_1 : decode cX10_base 1 = .ok (.getfield 48, 3) := by decide +kernel
theorem dX10_base_4 : decode cX10_base 4 = .ok (.aload_n 0, 1) := by decide +kernel
theorem dX10_base_5 : decode cX10_base 5 = .ok (.iload_n 1, 1) := by decide +kernel
theorem dX10_base_6 : decode cX10_base 6 = .ok (.invokevirtual 194, 3) := by decide +kernel
theorem dX10_base_9 : decode cX10_base 9 = .ok (.iconst 0, 1) := by decide +kernel
theorem dX10_base_10 : decode cX10_base 10 = .ok (.iconst 0, 1) := by decide +kernel
theorem dX10_base_11 : decode cX10_base 11 = .ok (.invokevirtual 263, 3) := by decide +kernel
theorem dX10_base_14 : decode cX10_base 14 = .ok (.ireturn, 1) := by decide +kernel
theorem dX10_level_0 : decode cX10_level 0 = .ok (.aload_n 0, 1) := by decide +kernel
theorem dX10_level_1 : decode cX10_level 1 = .ok (.iload_n 1, 1) := by decide +kernel
theorem dX10_level_2 : decode cX10_level 2 = .ok (.invokevirtual 194, 3) := by decide +kernel
theorem dX10_level_5 : decode cX10_level 5 = .ok (.astore 4, 2) := by decide +kernel
theorem dX10_level_7 : decode cX10_level 7 = .ok (.iload_n 2, 1) := by decide +kernel
theorem dX10_level_8 : decode cX10_level 8 = .ok (.aload 4, 2) := by decide +kernel
theorem dX10_level_10 : decode cX10_level 10 = .ok (.invokevirtual 107, 3) := by decide +kernel
theorem dX10_level_13 : decode cX10_level 13 = .ok (.invokestatic 240, 3) := by decide +kernel
theorem dX10_level_16 : decode cX10_level 16 = .ok (.iload_n 3, 1) := by decide +kernel
theorem dX10_level_17 : decode cX10_level 17 = .ok (.iconst (-1), 1) := by decide +kernel
theorem dX10_level_18 : decode cX10_level 18 = .ok (.iconst 1, 1) := by decide +kernel
theorem dX10_level_19 : decode cX10_level 19 = .ok (.invokestatic 99, 3) := by decide +kernel
theorem dX10_level_22 : decode cX10_level 22 = .ok (.invokestatic 103, 3) := by decide +kernel
theorem dX10_level_25 : decode cX10_level 25 = .ok (.aload_n 0, 1) := by decide +kernel
theorem dX10_level_26 : decode cX10_level 26 = .ok (.getfield 48, 3) := by decide +kernel
theorem dX10_level_29 : decode cX10_level 29 = .ok (.aload 4, 2) := by decide +kernel
theorem dX10_level_31 : decode cX10_level 31 = .ok (.iload_n 3, 1) := by decide +kernel
theorem dX10_level_32 : decode cX10_level 32 = .ok (.invokevirtual 267, 3) := by decide +kernel
theorem dX10_level_35 : decode cX10_level 35 = .ok (.aload_n 0, 1) := by decide +kernel
theorem dX10_level_36 : decode cX10_level 36 = .ok (.getfield 48, 3) := by decide +kernel
theorem dX10_level_39 : decode cX10_level 39 = .ok (.iload_n 2, 1) := by decide +kernel
theorem dX10_level_40 : decode cX10_level 40 = .ok (.invokevirtual 271, 3) := by decide +kernel
theorem dX10_level_43 : decode cX10_level 43 = .ok (.ireturn, 1) := by decide +kernel
theorem dX10_shown_0 : decode cX10_shown 0 = .ok (.aload_n 0, 1) := by decide +kernel
theorem dX10_shown_1 : decode cX10_shown 1 = .ok (.iload_n 1, 1) := by decide +kernel
theorem dX10_shown_2 : decode cX10_shown 2 = .ok (.invokevirtual 194, 3) := by decide +kernel
theorem dX10_shown_5 : decode cX10_shown 5 = .ok (.astore 4, 2) := by decide +kernel
theorem dX10_shown_7 : decode cX10_shown 7 = .ok (.iload_n 2, 1) := by decide +kernel
theorem dX10_shown_8 : decode cX10_shown 8 = .ok (.aload 4, 2) := by decide +kernel
theorem dX10_shown_10 : decode cX10_shown 10 = .ok (.invokevirtual 107, 3) := by decide +kernel
theorem dX10_shown_13 : decode cX10_shown 13 = .ok (.invokestatic 240, 3) := by decide +kernel
theorem dX10_shown_16 : decode cX10_shown 16 = .ok (.iload_n 3, 1) := by decide +kernel
theorem dX10_shown_17 : decode cX10_shown 17 = .ok (.iconst (-1), 1) := by decide +kernel
theorem dX10_shown_18 : decode cX10_shown 18 = .ok (.iconst 1, 1) := by decide +kernel
theorem dX10_shown_19 : decode cX10_shown 19 = .ok (.invokestatic 99, 3) := by decide +kernel
theorem dX10_shown_22 : decode cX10_shown 22 = .ok (.invokestatic 103, 3) := by decide +kernel
theorem dX10_shown_25 : decode cX10_shown 25 = .ok (.aload_n 0, 1) := by decide +kernel
theorem dX10_shown_26 : decode cX10_shown 26 = .ok (.getfield 48, 3) := by decide +kernel
theorem dX10_shown_29 : decode cX10_shown 29 = .ok (.aload 4, 2) := by decide +kernel
theorem dX10_shown_31 : decode cX10_shown 31 = .ok (.iload_n 3, 1) := by decide +kernel
theorem dX10_shown_32 : decode cX10_shown 32 = .ok (.invokevirtual 267, 3) := by decide +kernel
theorem dX10_shown_35 : decode cX10_shown 35 = .ok (.aload_n 0, 1) := by decide +kernel
theorem dX10_shown_36 : decode cX10_shown 36 = .ok (.getfield 48, 3) := by decide +kernel
theorem dX10_shown_39 : decode cX10_shown 39 = .ok (.invokevirtual 274, 3) := by decide +kernel
theorem dX10_shown_42 : decode cX10_shown 42 = .ok (.iload_n 2, 1) := by decide +kernel
theorem dX10_shown_43 : decode cX10_shown 43 = .ok (.invokevirtual 243, 3) := by decide +kernel
theorem dX10_shown_46 : decode cX10_shown 46 = .ok (.ireturn, 1) := by decide +kernel
theorem dX10_bySight_0 : decode cX10_bySight 0 = .ok (.aload_n 0, 1) := by decide +kernel
theorem dX10_bySight_1 : decode cX10_bySight 1 = .ok (.iload_n 1, 1) := by decide +kernel
theorem dX10_bySight_2 : decode cX10_bySight 2 = .ok (.invokevirtual 194, 3) := by decide +kernel
theorem dX10_bySight_5 : decode cX10_bySight 5 = .ok (.astore 4, 2) := by decide +kernel
theorem dX10_bySight_7 : decode cX10_bySight 7 = .ok (.iload_n 2, 1) := by decide +kernel
theorem dX10_bySight_8 : decode cX10_bySight 8 = .ok (.aload 4, 2) := by decide +kernel
theorem dX10_bySight_10 : decode cX10_bySight 10 = .ok (.invokevirtual 107, 3) := by decide +kernel
theorem dX10_bySight_13 : decode cX10_bySight 13 = .ok (.invokestatic 240, 3) := by decide +kernel
theorem dX10_bySight_16 : decode cX10_bySight 16 = .ok (.aload_n 0, 1) := by decide +kernel
theorem dX10_bySight_17 : decode cX10_bySight 17 = .ok (.getfield 48, 3) := by decide +kernel
theorem dX10_bySight_20 : decode cX10_bySight 20 = .ok (.aload 4, 2) := by decide +kernel
theorem dX10_bySight_22 : decode cX10_bySight 22 = .ok (.iconst (-1), 1) := by decide +kernel
theorem dX10_bySight_23 : decode cX10_bySight 23 = .ok (.invokevirtual 267, 3) := by decide +kernel
theorem dX10_bySight_26 : decode cX10_bySight 26 = .ok (.aload_n 0, 1) := by decide +kernel
theorem dX10_bySight_27 : decode cX10_bySight 27 = .ok (.getfield 48, 3) := by decide +kernel
theorem dX10_bySight_30 : decode cX10_bySight 30 = .ok (.invokevirtual 274, 3) := by decide +kernel
theorem dX10_bySight_33 : decode cX10_bySight 33 = .ok (.astore 5, 2) := by decide +kernel
theorem dX10_bySight_35 : decode cX10_bySight 35 = .ok (.aload_n 0, 1) := by decide +kernel
theorem dX10_bySight_36 : decode cX10_bySight 36 = .ok (.getfield 55, 3) := by decide +kernel
theorem dX10_bySight_39 : decode cX10_bySight 39 = .ok (.aload 4, 2) := by decide +kernel
theorem dX10_bySight_41 : decode cX10_bySight 41 = .ok (.invokevirtual 278, 3) := by decide +kernel
theorem dX10_bySight_44 : decode cX10_bySight 44 = .ok (.lstore 6, 2) := by decide +kernel
theorem dX10_bySight_46 : decode cX10_bySight 46 = .ok (.iload_n 3, 1) := by decide +kernel
theorem dX10_bySight_47 : decode cX10_bySight 47 = .ok (.ifCond .eq 7, 3) := by decide +kernel
theorem dX10_bySight_50 : decode cX10_bySight 50 = .ok (.iconst 1, 1) := by decide +kernel
theorem dX10_bySight_51 : decode cX10_bySight 51 = .ok (.goto 4, 3) := by decide +kernel
theorem dX10_bySight_54 : decode cX10_bySight 54 = .ok (.iconst (-1), 1) := by decide +kernel
theorem dX10_bySight_55 : decode cX10_bySight 55 = .ok (.istore 8, 2) := by decide +kernel
theorem dX10_bySight_57 : decode cX10_bySight 57 = .ok (.aload 5, 2) := by decide +kernel
theorem dX10_bySight_59 : decode cX10_bySight 59 = .ok (.iload_n 2, 1) := by decide +kernel
theorem dX10_bySight_60 : decode cX10_bySight 60 = .ok (.invokevirtual 282, 3) := by decide +kernel
theorem dX10_bySight_63 : decode cX10_bySight 63 = .ok (.iload 8, 2) := by decide +kernel
theorem dX10_bySight_65 : decode cX10_bySight 65 = .ok (.iadd, 1) := by decide +kernel
theorem dX10_bySight_66 : decode cX10_bySight 66 = .ok (.istore 9, 2) := by decide +kernel
theorem dX10_bySight_68 : decode cX10_bySight 68 = .ok (.iload 9, 2) := by decide +kernel
theorem dX10_bySight_70 : decode cX10_bySight 70 = .ok (.ifCond .lt 45, 3) := by decide +kernel
theorem dX10_bySight_73 : decode cX10_bySight 73 = .ok (.iload 9, 2) := by decide +kernel
theorem dX10_bySight_75 : decode cX10_bySight 75 = .ok (.aload 5, 2) := by decide +kernel
theorem dX10_bySight_77 : decode cX10_bySight 77 = .ok (.invokevirtual 107, 3) := by decide +kernel
theorem dX10_bySight_80 : decode cX10_bySight 80 = .ok (.if_icmp .ge 35, 3) := by decide +kernel
theorem dX10_bySight_83 : decode cX10_bySight 83 = .ok (.aload 5, 2) := by decide +kernel
theorem dX10_bySight_85 : decode cX10_bySight 85 = .ok (.iload 9, 2) := by decide +kernel
theorem dX10_bySight_87 : decode cX10_bySight 87 = .ok (.invokevirtual 243, 3) := by decide +kernel
theorem dX10_bySight_90 : decode cX10_bySight 90 = .ok (.istore 10, 2) := by decide +kernel
theorem dX10_bySight_92 : decode cX10_bySight 92 = .ok (.lload 6, 2) := by decide +kernel
theorem dX10_bySight_94 : decode cX10_bySight 94 = .ok (.iload 10, 2) := by decide +kernel
theorem dX10_bySight_96 : decode cX10_bySight 96 = .ok (.invokestatic 285, 3) := by decide +kernel
theorem dX10_bySight_99 : decode cX10_bySight 99 = .ok (.ifCond .eq 6, 3) := by decide +kernel
theorem dX10_bySight_102 : decode cX10_bySight 102 = .ok (.iload 10, 2) := by decide +kernel
theorem dX10_bySight_104 : decode cX10_bySight 104 = .ok (.ireturn, 1) := by decide +kernel
theorem dX10_bySight_105 : decode cX10_bySight 105 = .ok (.iload 9, 2) := by decide +kernel
theorem dX10_bySight_107 : decode cX10_bySight 107 = .ok (.iload 8, 2) := by decide +kernel
theorem dX10_bySight_109 : decode cX10_bySight 109 = .ok (.iadd, 1) := by decide +kernel
theorem dX10_bySight_110 : decode cX10_bySight 110 = .ok (.istore 9, 2) := by decide +kernel
theorem dX10_bySight_112 : decode cX10_bySight 112 = .ok (.goto (-44), 3) := by decide +kernel
theorem dX10_bySight_115 : decode cX10_bySight 115 = .ok (.iconst (-1), 1) := by decide +kernel
theorem dX10_bySight_116 : decode cX10_bySight 116 = .ok (.ireturn, 1) := by decide +kernel
theorem dX10_breaks_0 : decode cX10_breaks 0 = .ok (.aload_n 0, 1) := by decide +kernel
theorem dX10_breaks_1 : decode cX10_breaks 1 = .ok (.iload_n 1, 1) := by decide +kernel
theorem dX10_breaks_2 : decode cX10_breaks 2 = .ok (.invokevirtual 194, 3) := by decide +kernel
theorem dX10_breaks_5 : decode cX10_breaks 5 = .ok (.astore_n 3, 1) := by decide +kernel
theorem dX10_breaks_6 : decode cX10_breaks 6 = .ok (.iload_n 2, 1) := by decide +kernel
theorem dX10_breaks_7 : decode cX10_breaks 7 = .ok (.iconst 0, 1) := by decide +kernel
theorem dX10_breaks_8 : decode cX10_breaks 8 = .ok (.iconst 2, 1) := by decide +kernel
theorem dX10_breaks_9 : decode cX10_breaks 9 = .ok (.invokestatic 99, 3) := by decide +kernel
theorem dX10_breaks_12 : decode cX10_breaks 12 = .ok (.invokestatic 103, 3) := by decide +kernel
theorem dX10_breaks_15 : decode cX10_breaks 15 = .ok (.iload_n 2, 1) := by decide +kernel
theorem dX10_breaks_16 : decode cX10_breaks 16 = .ok (.ifCond .ne 12, 3) := by decide +kernel
theorem dX10_breaks_19 : decode cX10_breaks 19 = .ok (.aload_n 0, 1) := by decide +kernel
theorem dX10_breaks_20 : decode cX10_breaks 20 = .ok (.getfield 55, 3) := by decide +kernel
theorem dX10_breaks_23 : decode cX10_breaks 23 = .ok (.aload_n 3, 1) := by decide +kernel
theorem dX10_breaks_24 : decode cX10_breaks 24 = .ok (.invokevirtual 278, 3) := by decide +kernel
theorem dX10_breaks_27 : decode cX10_breaks 27 = .ok (.lreturn, 1) := by decide +kernel
theorem dX10_breaks_28 : decode cX10_breaks 28 = .ok (.aload_n 0, 1) := by decide +kernel
theorem dX10_breaks_29 : decode cX10_breaks 29 = .ok (.getfield 55, 3) := by decide +kernel
theorem dX10_breaks_32 : decode cX10_breaks 32 = .ok (.aload_n 3, 1) := by decide +kernel
theorem dX10_breaks_33 : decode cX10_breaks 33 = .ok (.iload_n 2, 1) := by decide +kernel
theorem dX10_breaks_34 : decode cX10_breaks 34 = .ok (.iconst 2, 1) := by decide +kernel
theorem dX10_breaks_35 : decode cX10_breaks 35 = .ok (.if_icmp .ne 7, 3) := by decide +kernel
theorem dX10_breaks_38 : decode cX10_breaks 38 = .ok (.iconst 1, 1) := by decide +kernel
theorem dX10_breaks_39 : decode cX10_breaks 39 = .ok (.goto 4, 3) := by decide +kernel
theorem dX10_breaks_42 : decode cX10_breaks 42 = .ok (.iconst 0, 1) := by decide +kernel
theorem dX10_breaks_43 : decode cX10_breaks 43 = .ok (.invokevirtual 289, 3) := by decide +kernel
theorem dX10_breaks_46 : decode cX10_breaks 46 = .ok (.lreturn, 1) := by decide +kernel
theorem dX10_bySense_0 : decode cX10_bySense 0 = .ok (.aload_n 0, 1) := by decide +kernel
theorem dX10_bySense_1 : decode cX10_bySense 1 = .ok (.iload_n 1, 1) := by decide +kernel
theorem dX10_bySense_2 : decode cX10_bySense 2 = .ok (.invokevirtual 194, 3) := by decide +kernel
theorem dX10_bySense_5 : decode cX10_bySense 5 = .ok (.astore 4, 2) := by decide +kernel
theorem dX10_bySense_7 : decode cX10_bySense 7 = .ok (.aload 4, 2) := by decide +kernel
theorem dX10_bySense_9 : decode cX10_bySense 9 = .ok (.invokevirtual 107, 3) := by decide +kernel
theorem dX10_bySense_12 : decode cX10_bySense 12 = .ok (.istore 5, 2) := by decide +kernel
theorem dX10_bySense_14 : decode cX10_bySense 14 = .ok (.iload_n 2, 1) := by decide +kernel
theorem dX10_bySense_15 : decode cX10_bySense 15 = .ok (.iload 5, 2) := by decide +kernel
theorem dX10_bySense_17 : decode cX10_bySense 17 = .ok (.iconst 1, 1) := by decide +kernel
theorem dX10_bySense_18 : decode cX10_bySense 18 = .ok (.iadd, 1) := by decide +kernel
theorem dX10_bySense_19 : decode cX10_bySense 19 = .ok (.invokestatic 240, 3) := by decide +kernel
theorem dX10_bySense_22 : decode cX10_bySense 22 = .ok (.aload_n 0, 1) := by decide +kernel
theorem dX10_bySense_23 : decode cX10_bySense 23 = .ok (.getfield 55, 3) := by decide +kernel
theorem dX10_bySense_26 : decode cX10_bySense 26 = .ok (.aload 4, 2) := by decide +kernel
theorem dX10_bySense_28 : decode cX10_bySense 28 = .ok (.invokevirtual 278, 3) := by decide +kernel
theorem dX10_bySense_31 : decode cX10_bySense 31 = .ok (.lstore 6, 2) := by decide +kernel
theorem dX10_bySense_33 : decode cX10_bySense 33 = .ok (.iload_n 3, 1) := by decide +kernel
theorem dX10_bySense_34 : decode cX10_bySense 34 = .ok (.ifCond .eq 7, 3) := by decide +kernel
theorem dX10_bySense_37 : decode cX10_bySense 37 = .ok (.iconst 1, 1) := by decide +kernel
theorem dX10_bySense_38 : decode cX10_bySense 38 = .ok (.goto 4, 3) := by decide +kernel
theorem dX10_bySense_41 : decode cX10_bySense 41 = .ok (.iconst (-1), 1) := by decide +kernel
theorem dX10_bySense_42 : decode cX10_bySense 42 = .ok (.istore 8, 2) := by decide +kernel
theorem dX10_bySense_44 : decode cX10_bySense 44 = .ok (.iload_n 2, 1) := by decide +kernel
theorem dX10_bySense_45 : decode cX10_bySense 45 = .ok (.iload 8, 2) := by decide +kernel
theorem dX10_bySense_47 : decode cX10_bySense 47 = .ok (.iadd, 1) := by decide +kernel
theorem dX10_bySense_48 : decode cX10_bySense 48 = .ok (.istore 9, 2) := by decide +kernel
theorem dX10_bySense_50 : decode cX10_bySense 50 = .ok (.iload 9, 2) := by decide +kernel
theorem dX10_bySense_52 : decode cX10_bySense 52 = .ok (.ifCond .lt 40, 3) := by decide +kernel
theorem dX10_bySense_55 : decode cX10_bySense 55 = .ok (.iload 9, 2) := by decide +kernel
theorem dX10_bySense_57 : decode cX10_bySense 57 = .ok (.iload 5, 2) := by decide +kernel
theorem dX10_bySense_59 : decode cX10_bySense 59 = .ok (.if_icmp .gt 33, 3) := by decide +kernel
theorem dX10_bySense_62 : decode cX10_bySense 62 = .ok (.iload 9, 2) := by decide +kernel
theorem dX10_bySense_64 : decode cX10_bySense 64 = .ok (.iload 5, 2) := by decide +kernel
theorem dX10_bySense_66 : decode cX10_bySense 66 = .ok (.if_icmp .eq 13, 3) := by decide +kernel
theorem dX10_bySense_69 : decode cX10_bySense 69 = .ok (.lload 6, 2) := by decide +kernel
theorem dX10_bySense_71 : decode cX10_bySense 71 = .ok (.iload 9, 2) := by decide +kernel
theorem dX10_bySense_73 : decode cX10_bySense 73 = .ok (.invokestatic 285, 3) := by decide +kernel
theorem dX10_bySense_76 : decode cX10_bySense 76 = .ok (.ifCond .eq 6, 3) := by decide +kernel
theorem dX10_bySense_79 : decode cX10_bySense 79 = .ok (.iload 9, 2) := by decide +kernel
theorem dX10_bySense_81 : decode cX10_bySense 81 = .ok (.ireturn, 1) := by decide +kernel
theorem dX10_bySense_82 : decode cX10_bySense 82 = .ok (.iload 9, 2) := by decide +kernel
theorem dX10_bySense_84 : decode cX10_bySense 84 = .ok (.iload 8, 2) := by decide +kernel
theorem dX10_bySense_86 : decode cX10_bySense 86 = .ok (.iadd, 1) := by decide +kernel
theorem dX10_bySense_87 : decode cX10_bySense 87 = .ok (.istore 9, 2) := by decide +kernel
theorem dX10_bySense_89 : decode cX10_bySense 89 = .ok (.goto (-39), 3) := by decide +kernel
theorem dX10_bySense_92 : decode cX10_bySense 92 = .ok (.iload_n 2, 1) := by decide +kernel
theorem dX10_bySense_93 : decode cX10_bySense 93 = .ok (.ireturn, 1) := by decide +kernel
theorem dX10_compare_0 : decode cX10_compare 0 = .ok (.aload_n 0, 1) := by decide +kernel
theorem dX10_compare_1 : decode cX10_compare 1 = .ok (.iload_n 1, 1) := by decide +kernel
theorem dX10_compare_2 : decode cX10_compare 2 = .ok (.invokevirtual 151, 3) := by decide +kernel
theorem dX10_compare_5 : decode cX10_compare 5 = .ok (.astore 4, 2) := by decide +kernel
theorem dX10_compare_7 : decode cX10_compare 7 = .ok (.aload_n 0, 1) := by decide +kernel
theorem dX10_compare_8 : decode cX10_compare 8 = .ok (.iload_n 2, 1) := by decide +kernel
theorem dX10_compare_9 : decode cX10_compare 9 = .ok (.invokevirtual 194, 3) := by decide +kernel
theorem dX10_compare_12 : decode cX10_compare 12 = .ok (.astore 5, 2) := by decide +kernel
theorem dX10_compare_14 : decode cX10_compare 14 = .ok (.aload_n 0, 1) := by decide +kernel
theorem dX10_compare_15 : decode cX10_compare 15 = .ok (.iload_n 3, 1) := by decide +kernel
theorem dX10_compare_16 : decode cX10_compare 16 = .ok (.invokevirtual 194, 3) := by decide +kernel
theorem dX10_compare_19 : decode cX10_compare 19 = .ok (.astore 6, 2) := by decide +kernel
theorem dX10_compare_21 : decode cX10_compare 21 = .ok (.aload_n 0, 1) := by decide +kernel
theorem dX10_compare_22 : decode cX10_compare 22 = .ok (.getfield 41, 3) := by decide +kernel
theorem dX10_compare_25 : decode cX10_compare 25 = .ok (.aload 5, 2) := by decide +kernel
theorem dX10_compare_27 : decode cX10_compare 27 = .ok (.aload_n 0, 1) := by decide +kernel
theorem dX10_compare_28 : decode cX10_compare 28 = .ok (.getfield 78, 3) := by decide +kernel
theorem dX10_compare_31 : decode cX10_compare 31 = .ok (.invokevirtual 293, 3) := by decide +kernel
theorem dX10_compare_34 : decode cX10_compare 34 = .ok (.ifCond .eq 23, 3) := by decide +kernel
theorem dX10_compare_37 : decode cX10_compare 37 = .ok (.aload_n 0, 1) := by decide +kernel
theorem dX10_compare_38 : decode cX10_compare 38 = .ok (.getfield 41, 3) := by decide +kernel
theorem dX10_compare_41 : decode cX10_compare 41 = .ok (.aload 6, 2) := by decide +kernel
theorem dX10_compare_43 : decode cX10_compare 43 = .ok (.aload_n 0, 1) := by decide +kernel
theorem dX10_compare_44 : decode cX10_compare 44 = .ok (.getfield 81, 3) := by decide +kernel
theorem dX10_compare_47 : decode cX10_compare 47 = .ok (.invokevirtual 293, 3) := by decide +kernel
theorem dX10_compare_50 : decode cX10_compare 50 = .ok (.ifCond .eq 7, 3) := by decide +kernel
theorem dX10_compare_53 : decode cX10_compare 53 = .ok (.iconst 1, 1) := by decide +kernel
theorem dX10_compare_54 : decode cX10_compare 54 = .ok (.goto 4, 3) := by decide +kernel
theorem dX10_compare_57 : decode cX10_compare 57 = .ok (.iconst 0, 1) := by decide +kernel
theorem dX10_compare_58 : decode cX10_compare 58 = .ok (.invokestatic 250, 3) := by decide +kernel
theorem dX10_compare_61 : decode cX10_compare 61 = .ok (.aload 4, 2) := by decide +kernel
theorem dX10_compare_63 : decode cX10_compare 63 = .ok (.aload_n 0, 1) := by decide +kernel
theorem dX10_compare_64 : decode cX10_compare 64 = .ok (.getfield 78, 3) := by decide +kernel
theorem dX10_compare_67 : decode cX10_compare 67 = .ok (.aload_n 0, 1) := by decide +kernel
theorem dX10_compare_68 : decode cX10_compare 68 = .ok (.getfield 84, 3) := by decide +kernel
theorem dX10_compare_71 : decode cX10_compare 71 = .ok (.invokevirtual 296, 3) := by decide +kernel
theorem dX10_compare_74 : decode cX10_compare 74 = .ok (.aload 4, 2) := by decide +kernel
theorem dX10_compare_76 : decode cX10_compare 76 = .ok (.aload_n 0, 1) := by decide +kernel
theorem dX10_compare_77 : decode cX10_compare 77 = .ok (.getfield 81, 3) := by decide +kernel
theorem dX10_compare_80 : decode cX10_compare 80 = .ok (.aload_n 0, 1) := by decide +kernel
theorem dX10_compare_81 : decode cX10_compare 81 = .ok (.getfield 87, 3) := by decide +kernel
theorem dX10_compare_84 : decode cX10_compare 84 = .ok (.invokevirtual 296, 3) := by decide +kernel
theorem dX10_compare_87 : decode cX10_compare 87 = .ok (.iconst 0, 1) := by decide +kernel
theorem dX10_compare_88 : decode cX10_compare 88 = .ok (.istore 7, 2) := by decide +kernel
theorem dX10_compare_90 : decode cX10_compare 90 = .ok (.iconst 0, 1) := by decide +kernel
theorem dX10_compare_91 : decode cX10_compare 91 = .ok (.istore 8, 2) := by decide +kernel
theorem dX10_compare_93 : decode cX10_compare 93 = .ok (.iload 8, 2) := by decide +kernel
theorem dX10_compare_95 : decode cX10_compare 95 = .ok (.iconst 3, 1) := by decide +kernel
theorem dX10_compare_96 : decode cX10_compare 96 = .ok (.if_icmp .ge 31, 3) := by decide +kernel
theorem dX10_compare_99 : decode cX10_compare 99 = .ok (.iload 7, 2) := by decide +kernel
theorem dX10_compare_101 : decode cX10_compare 101 = .ok (.ifCond .ne 26, 3) := by decide +kernel
theorem dX10_compare_104 : decode cX10_compare 104 = .ok (.aload 4, 2) := by decide +kernel
theorem dX10_compare_106 : decode cX10_compare 106 = .ok (.aload_n 0, 1) := by decide +kernel
theorem dX10_compare_107 : decode cX10_compare 107 = .ok (.getfield 84, 3) := by decide +kernel
theorem dX10_compare_110 : decode cX10_compare 110 = .ok (.aload_n 0, 1) := by decide +kernel
theorem dX10_compare_111 : decode cX10_compare 111 = .ok (.getfield 87, 3) := by decide +kernel
theorem dX10_compare_114 : decode cX10_compare 114 = .ok (.iload 8, 2) := by decide +kernel
theorem dX10_compare_116 : decode cX10_compare 116 = .ok (.invokevirtual 300, 3) := by decide +kernel
theorem dX10_compare_119 : decode cX10_compare 119 = .ok (.istore 7, 2) := by decide +kernel
theorem dX10_compare_121 : decode cX10_compare 121 = .ok (.iinc 8 1, 3) := by decide +kernel
theorem dX10_compare_124 : decode cX10_compare 124 = .ok (.goto (-31), 3) := by decide +kernel
theorem dX10_compare_127 : decode cX10_compare 127 = .ok (.iload 7, 2) := by decide +kernel
theorem dX10_compare_129 : decode cX10_compare 129 = .ok (.ireturn, 1) := by decide +kernel
theorem dX10_key_0 : decode cX10_key 0 = .ok (.aload_n 0, 1) := by decide +kernel
theorem dX10_key_1 : decode cX10_key 1 = .ok (.iload_n 1, 1) := by decide +kernel
theorem dX10_key_2 : decode cX10_key 2 = .ok (.invokevirtual 151, 3) := by decide +kernel
theorem dX10_key_5 : decode cX10_key 5 = .ok (.astore 4, 2) := by decide +kernel
theorem dX10_key_7 : decode cX10_key 7 = .ok (.aload_n 0, 1) := by decide +kernel
theorem dX10_key_8 : decode cX10_key 8 = .ok (.iload_n 2, 1) := by decide +kernel
theorem dX10_key_9 : decode cX10_key 9 = .ok (.invokevirtual 194, 3) := by decide +kernel
theorem dX10_key_12 : decode cX10_key 12 = .ok (.astore 5, 2) := by decide +kernel
theorem dX10_key_14 : decode cX10_key 14 = .ok (.aload_n 0, 1) := by decide +kernel
theorem dX10_key_15 : decode cX10_key 15 = .ok (.getfield 41, 3) := by decide +kernel
theorem dX10_key_18 : decode cX10_key 18 = .ok (.aload 5, 2) := by decide +kernel
theorem dX10_key_20 : decode cX10_key 20 = .ok (.aload_n 0, 1) := by decide +kernel
theorem dX10_key_21 : decode cX10_key 21 = .ok (.getfield 78, 3) := by decide +kernel
theorem dX10_key_24 : decode cX10_key 24 = .ok (.invokevirtual 293, 3) := by decide +kernel
theorem dX10_key_27 : decode cX10_key 27 = .ok (.invokestatic 250, 3) := by decide +kernel
theorem dX10_key_30 : decode cX10_key 30 = .ok (.aload 4, 2) := by decide +kernel
theorem dX10_key_32 : decode cX10_key 32 = .ok (.aload_n 0, 1) := by decide +kernel
theorem dX10_key_33 : decode cX10_key 33 = .ok (.getfield 78, 3) := by decide +kernel
theorem dX10_key_36 : decode cX10_key 36 = .ok (.aload_n 0, 1) := by decide +kernel
theorem dX10_key_37 : decode cX10_key 37 = .ok (.getfield 84, 3) := by decide +kernel
theorem dX10_key_40 : decode cX10_key 40 = .ok (.invokevirtual 296, 3) := by decide +kernel
theorem dX10_key_43 : decode cX10_key 43 = .ok (.aload 4, 2) := by decide +kernel
theorem dX10_key_45 : decode cX10_key 45 = .ok (.aload_n 0, 1) := by decide +kernel
theorem dX10_key_46 : decode cX10_key 46 = .ok (.getfield 84, 3) := by decide +kernel
theorem dX10_key_49 : decode cX10_key 49 = .ok (.aload_n 0, 1) := by decide +kernel
theorem dX10_key_50 : decode cX10_key 50 = .ok (.getfield 90, 3) := by decide +kernel
theorem dX10_key_53 : decode cX10_key 53 = .ok (.invokevirtual 304, 3) := by decide +kernel
theorem dX10_key_56 : decode cX10_key 56 = .ok (.iload_n 3, 1) := by decide +kernel
theorem dX10_key_57 : decode cX10_key 57 = .ok (.iconst (-1), 1) := by decide +kernel
theorem dX10_key_58 : decode cX10_key 58 = .ok (.if_icmp .ne 11, 3) := by decide +kernel
theorem dX10_key_61 : decode cX10_key 61 = .ok (.aload_n 0, 1) := by decide +kernel
theorem dX10_key_62 : decode cX10_key 62 = .ok (.getfield 90, 3) := by decide +kernel
theorem dX10_key_65 : decode cX10_key 65 = .ok (.invokevirtual 107, 3) := by decide +kernel
theorem dX10_key_68 : decode cX10_key 68 = .ok (.ireturn, 1) := by decide +kernel
theorem dX10_key_69 : decode cX10_key 69 = .ok (.iload_n 3, 1) := by decide +kernel
theorem dX10_key_70 : decode cX10_key 70 = .ok (.aload_n 0, 1) := by decide +kernel
theorem dX10_key_71 : decode cX10_key 71 = .ok (.getfield 90, 3) := by decide +kernel
theorem dX10_key_74 : decode cX10_key 74 = .ok (.invokevirtual 107, 3) := by decide +kernel
theorem dX10_key_77 : decode cX10_key 77 = .ok (.invokestatic 240, 3) := by decide +kernel
theorem dX10_key_80 : decode cX10_key 80 = .ok (.aload_n 0, 1) := by decide +kernel
theorem dX10_key_81 : decode cX10_key 81 = .ok (.getfield 90, 3) := by decide +kernel
theorem dX10_key_84 : decode cX10_key 84 = .ok (.iload_n 3, 1) := by decide +kernel
theorem dX10_key_85 : decode cX10_key 85 = .ok (.invokevirtual 243, 3) := by decide +kernel
theorem dX10_key_88 : decode cX10_key 88 = .ok (.ireturn, 1) := by decide +kernel
theorem dX10_find_0 : decode cX10_find 0 = .ok (.aload_n 0, 1) := by decide +kernel
theorem dX10_find_1 : decode cX10_find 1 = .ok (.iload_n 1, 1) := by decide +kernel
theorem dX10_find_2 : decode cX10_find 2 = .ok (.invokevirtual 194, 3) := by decide +kernel
theorem dX10_find_5 : decode cX10_find 5 = .ok (.astore 4, 2) := by decide +kernel
theorem dX10_find_7 : decode cX10_find 7 = .ok (.aload_n 0, 1) := by decide +kernel
theorem dX10_find_8 : decode cX10_find 8 = .ok (.iload_n 2, 1) := by decide +kernel
theorem dX10_find_9 : decode cX10_find 9 = .ok (.invokevirtual 194, 3) := by decide +kernel
theorem dX10_find_12 : decode cX10_find 12 = .ok (.astore 5, 2) := by decide +kernel
theorem dX10_find_14 : decode cX10_find 14 = .ok (.iload_n 3, 1) := by decide +kernel
theorem dX10_find_15 : decode cX10_find 15 = .ok (.iconst 0, 1) := by decide +kernel
theorem dX10_find_16 : decode cX10_find 16 = .ok (.bipush 40, 2) := by decide +kernel
theorem dX10_find_18 : decode cX10_find 18 = .ok (.invokestatic 99, 3) := by decide +kernel
theorem dX10_find_21 : decode cX10_find 21 = .ok (.invokestatic 103, 3) := by decide +kernel
theorem dX10_find_24 : decode cX10_find 24 = .ok (.aload_n 0, 1) := by decide +kernel
theorem dX10_find_25 : decode cX10_find 25 = .ok (.getfield 41, 3) := by decide +kernel
theorem dX10_find_28 : decode cX10_find 28 = .ok (.aload 5, 2) := by decide +kernel
theorem dX10_find_30 : decode cX10_find 30 = .ok (.aload_n 0, 1) := by decide +kernel
theorem dX10_find_31 : decode cX10_find 31 = .ok (.getfield 81, 3) := by decide +kernel
theorem dX10_find_34 : decode cX10_find 34 = .ok (.invokevirtual 307, 3) := by decide +kernel
theorem dX10_find_37 : decode cX10_find 37 = .ok (.ifCond .eq 23, 3) := by decide +kernel
theorem dX10_find_40 : decode cX10_find 40 = .ok (.aload_n 0, 1) := by decide +kernel
theorem dX10_find_41 : decode cX10_find 41 = .ok (.getfield 41, 3) := by decide +kernel
theorem dX10_find_44 : decode cX10_find 44 = .ok (.aload 4, 2) := by decide +kernel
theorem dX10_find_46 : decode cX10_find 46 = .ok (.aload_n 0, 1) := by decide +kernel
theorem dX10_find_47 : decode cX10_find 47 = .ok (.getfield 78, 3) := by decide +kernel
theorem dX10_find_50 : decode cX10_find 50 = .ok (.invokevirtual 307, 3) := by decide +kernel
theorem dX10_find_53 : decode cX10_find 53 = .ok (.ifCond .eq 7, 3) := by decide +kernel
theorem dX10_find_56 : decode cX10_find 56 = .ok (.iconst 1, 1) := by decide +kernel
theorem dX10_find_57 : decode cX10_find 57 = .ok (.goto 4, 3) := by decide +kernel
theorem dX10_find_60 : decode cX10_find 60 = .ok (.iconst 0, 1) := by decide +kernel
theorem dX10_find_61 : decode cX10_find 61 = .ok (.invokestatic 250, 3) := by decide +kernel
theorem dX10_find_64 : decode cX10_find 64 = .ok (.aload_n 0, 1) := by decide +kernel
theorem dX10_find_65 : decode cX10_find 65 = .ok (.getfield 81, 3) := by decide +kernel
theorem dX10_find_68 : decode cX10_find 68 = .ok (.invokevirtual 107, 3) := by decide +kernel
theorem dX10_find_71 : decode cX10_find 71 = .ok (.ifCond .ne 5, 3) := by decide +kernel
theorem dX10_find_74 : decode cX10_find 74 = .ok (.iconst (-1), 1) := by decide +kernel
theorem dX10_find_75 : decode cX10_find 75 = .ok (.ireturn, 1) := by decide +kernel
theorem dX10_find_76 : decode cX10_find 76 = .ok (.aload_n 0, 1) := by decide +kernel
theorem dX10_find_77 : decode cX10_find 77 = .ok (.getfield 55, 3) := by decide +kernel
theorem dX10_find_80 : decode cX10_find 80 = .ok (.aload 4, 2) := by decide +kernel
theorem dX10_find_82 : decode cX10_find 82 = .ok (.invokevirtual 278, 3) := by decide +kernel
theorem dX10_find_85 : decode cX10_find 85 = .ok (.lstore 6, 2) := by decide +kernel
theorem dX10_find_87 : decode cX10_find 87 = .ok (.iload_n 3, 1) := by decide +kernel
theorem dX10_find_88 : decode cX10_find 88 = .ok (.istore 8, 2) := by decide +kernel
theorem dX10_find_90 : decode cX10_find 90 = .ok (.iload 8, 2) := by decide +kernel
theorem dX10_find_92 : decode cX10_find 92 = .ok (.aload 4, 2) := by decide +kernel
theorem dX10_find_94 : decode cX10_find 94 = .ok (.invokevirtual 107, 3) := by decide +kernel
theorem dX10_find_97 : decode cX10_find 97 = .ok (.if_icmp .ge 53, 3) := by decide +kernel
theorem dX10_find_100 : decode cX10_find 100 = .ok (.lload 6, 2) := by decide +kernel
theorem dX10_find_102 : decode cX10_find 102 = .ok (.iload 8, 2) := by decide +kernel
theorem dX10_find_104 : decode cX10_find 104 = .ok (.invokestatic 285, 3) := by decide +kernel
theorem dX10_find_107 : decode cX10_find 107 = .ok (.ifCond .eq 19, 3) := by decide +kernel
theorem dX10_find_110 : decode cX10_find 110 = .ok (.aload_n 0, 1) := by decide +kernel
theorem dX10_find_111 : decode cX10_find 111 = .ok (.iload 8, 2) := by decide +kernel
theorem dX10_find_113 : decode cX10_find 113 = .ok (.aload 4, 2) := by decide +kernel
theorem dX10_find_115 : decode cX10_find 115 = .ok (.invokevirtual 107, 3) := by decide +kernel
theorem dX10_find_118 : decode cX10_find 118 = .ok (.lload 6, 2) := by decide +kernel
theorem dX10_find_120 : decode cX10_find 120 = .ok (.invokevirtual 310, 3) := by decide +kernel
theorem dX10_find_123 : decode cX10_find 123 = .ok (.goto 4, 3) := by decide +kernel
theorem dX10_find_126 : decode cX10_find 126 = .ok (.iconst (-1), 1) := by decide +kernel
theorem dX10_find_127 : decode cX10_find 127 = .ok (.istore 9, 2) := by decide +kernel
theorem dX10_find_129 : decode cX10_find 129 = .ok (.iload 9, 2) := by decide +kernel
theorem dX10_find_131 : decode cX10_find 131 = .ok (.iconst (-1), 1) := by decide +kernel
theorem dX10_find_132 : decode cX10_find 132 = .ok (.if_icmp .eq 12, 3) := by decide +kernel
theorem dX10_find_135 : decode cX10_find 135 = .ok (.bipush 100, 2) := by decide +kernel
theorem dX10_find_137 : decode cX10_find 137 = .ok (.iload 8, 2) := by decide +kernel
theorem dX10_find_139 : decode cX10_find 139 = .ok (.imul, 1) := by decide +kernel
theorem dX10_find_140 : decode cX10_find 140 = .ok (.iload 9, 2) := by decide +kernel
theorem dX10_find_142 : decode cX10_find 142 = .ok (.iadd, 1) := by decide +kernel
theorem dX10_find_143 : decode cX10_find 143 = .ok (.ireturn, 1) := by decide +kernel
theorem dX10_find_144 : decode cX10_find 144 = .ok (.iinc 8 1, 3) := by decide +kernel
theorem dX10_find_147 : decode cX10_find 147 = .ok (.goto (-57), 3) := by decide +kernel
theorem dX10_find_150 : decode cX10_find 150 = .ok (.iconst (-1), 1) := by decide +kernel
theorem dX10_find_151 : decode cX10_find 151 = .ok (.ireturn, 1) := by decide +kernel
theorem dX10_pattern_0 : decode cX10_pattern 0 = .ok (.aload_n 0, 1) := by decide +kernel
theorem dX10_pattern_1 : decode cX10_pattern 1 = .ok (.getfield 66, 3) := by decide +kernel
theorem dX10_pattern_4 : decode cX10_pattern 4 = .ok (.aload_n 0, 1) := by decide +kernel
theorem dX10_pattern_5 : decode cX10_pattern 5 = .ok (.getfield 29, 3) := by decide +kernel
theorem dX10_pattern_8 : decode cX10_pattern 8 = .ok (.invokevirtual 314, 3) := by decide +kernel
theorem dX10_pattern_11 : decode cX10_pattern 11 = .ok (.istore_n 1, 1) := by decide +kernel
theorem dX10_pattern_12 : decode cX10_pattern 12 = .ok (.aload_n 0, 1) := by decide +kernel
theorem dX10_pattern_13 : decode cX10_pattern 13 = .ok (.getfield 29, 3) := by decide +kernel
theorem dX10_pattern_16 : decode cX10_pattern 16 = .ok (.iconst 0, 1) := by decide +kernel
theorem dX10_pattern_17 : decode cX10_pattern 17 = .ok (.invokevirtual 237, 3) := by decide +kernel
theorem dX10_pattern_20 : decode cX10_pattern 20 = .ok (.iload_n 1, 1) := by decide +kernel
theorem dX10_pattern_21 : decode cX10_pattern 21 = .ok (.ifCond .ne 14, 3) := by decide +kernel
theorem dX10_pattern_24 : decode cX10_pattern 24 = .ok (.new 111, 3) := by decide +kernel
theorem dX10_pattern_27 : decode cX10_pattern 27 = .ok (.dup, 1) := by decide +kernel
theorem dX10_pattern_28 : decode cX10_pattern 28 = .ok (.ldc_w 317, 3) := by decide +kernel
theorem dX10_pattern_31 : decode cX10_pattern 31 = .ok (.invokespecial 115, 3) := by decide +kernel
theorem dX10_pattern_34 : decode cX10_pattern 34 = .ok (.athrow, 1) := by decide +kernel
theorem dX10_pattern_35 : decode cX10_pattern 35 = .ok (.aload_n 0, 1) := by decide +kernel
theorem dX10_pattern_36 : decode cX10_pattern 36 = .ok (.getfield 62, 3) := by decide +kernel
theorem dX10_pattern_39 : decode cX10_pattern 39 = .ok (.astore_n 2, 1) := by decide +kernel
theorem dX10_pattern_40 : decode cX10_pattern 40 = .ok (.aload_n 0, 1) := by decide +kernel
theorem dX10_pattern_41 : decode cX10_pattern 41 = .ok (.aload_n 0, 1) := by decide +kernel
theorem dX10_pattern_42 : decode cX10_pattern 42 = .ok (.getfield 66, 3) := by decide +kernel
theorem dX10_pattern_45 : decode cX10_pattern 45 = .ok (.putfield 62, 3) := by decide +kernel
theorem dX10_pattern_48 : decode cX10_pattern 48 = .ok (.aload_n 0, 1) := by decide +kernel
theorem dX10_pattern_49 : decode cX10_pattern 49 = .ok (.aload_n 2, 1) := by decide +kernel
theorem dX10_pattern_50 : decode cX10_pattern 50 = .ok (.putfield 66, 3) := by decide +kernel
theorem dX10_pattern_53 : decode cX10_pattern 53 = .ok (.aload_n 0, 1) := by decide +kernel
theorem dX10_pattern_54 : decode cX10_pattern 54 = .ok (.iconst 1, 1) := by decide +kernel
theorem dX10_pattern_55 : decode cX10_pattern 55 = .ok (.putfield 319, 3) := by decide +kernel
theorem dX10_pattern_58 : decode cX10_pattern 58 = .ok (.aload_n 0, 1) := by decide +kernel
theorem dX10_pattern_59 : decode cX10_pattern 59 = .ok (.getfield 62, 3) := by decide +kernel
theorem dX10_pattern_62 : decode cX10_pattern 62 = .ok (.invokevirtual 323, 3) := by decide +kernel
theorem dX10_pattern_65 : decode cX10_pattern 65 = .ok (.ireturn, 1) := by decide +kernel
theorem dX10_match_0 : decode cX10_match 0 = .ok (.aload_n 0, 1) := by decide +kernel
theorem dX10_match_1 : decode cX10_match 1 = .ok (.iload_n 1, 1) := by decide +kernel
theorem dX10_match_2 : decode cX10_match 2 = .ok (.invokevirtual 194, 3) := by decide +kernel
theorem dX10_match_5 : decode cX10_match 5 = .ok (.astore_n 3, 1) := by decide +kernel
theorem dX10_match_6 : decode cX10_match 6 = .ok (.iload_n 2, 1) := by decide +kernel
theorem dX10_match_7 : decode cX10_match 7 = .ok (.aload_n 3, 1) := by decide +kernel
theorem dX10_match_8 : decode cX10_match 8 = .ok (.invokevirtual 107, 3) := by decide +kernel
theorem dX10_match_11 : decode cX10_match 11 = .ok (.iconst 1, 1) := by decide +kernel
theorem dX10_match_12 : decode cX10_match 12 = .ok (.iadd, 1) := by decide +kernel
theorem dX10_match_13 : decode cX10_match 13 = .ok (.invokestatic 240, 3) := by decide +kernel
theorem dX10_match_16 : decode cX10_match 16 = .ok (.aload_n 0, 1) := by decide +kernel
theorem dX10_match_17 : decode cX10_match 17 = .ok (.getfield 319, 3) := by decide +kernel
theorem dX10_match_20 : decode cX10_match 20 = .ok (.ifCond .ne 14, 3) := by decide +kernel
theorem dX10_match_23 : decode cX10_match 23 = .ok (.new 111, 3) := by decide +kernel
theorem dX10_match_26 : decode cX10_match 26 = .ok (.dup, 1) := by decide +kernel
theorem dX10_match_27 : decode cX10_match 27 = .ok (.ldc_w 324, 3) := by decide +kernel
theorem dX10_match_30 : decode cX10_match 30 = .ok (.invokespecial 115, 3) := by decide +kernel
theorem dX10_match_33 : decode cX10_match 33 = .ok (.athrow, 1) := by decide +kernel
theorem dX10_match_34 : decode cX10_match 34 = .ok (.aload_n 0, 1) := by decide +kernel
theorem dX10_match_35 : decode cX10_match 35 = .ok (.getfield 62, 3) := by decide +kernel
theorem dX10_match_38 : decode cX10_match 38 = .ok (.aload_n 3, 1) := by decide +kernel
theorem dX10_match_39 : decode cX10_match 39 = .ok (.iload_n 2, 1) := by decide +kernel
theorem dX10_match_40 : decode cX10_match 40 = .ok (.aload_n 0, 1) := by decide +kernel
theorem dX10_match_41 : decode cX10_match 41 = .ok (.getfield 12, 3) := by decide +kernel
theorem dX10_match_44 : decode cX10_match 44 = .ok (.invokevirtual 326, 3) := by decide +kernel
theorem dX10_match_47 : decode cX10_match 47 = .ok (.ireturn, 1) := by decide +kernel
theorem dX10_transliterate_0 : decode cX10_transliterate 0 = .ok (.aload_n 0, 1) := by decide +kernel
theorem dX10_transliterate_1 : decode cX10_transliterate 1 = .ok (.iload_n 1, 1) := by decide +kernel
theorem dX10_transliterate_2 : decode cX10_transliterate 2 = .ok (.invokevirtual 194, 3) := by decide +kernel
theorem dX10_transliterate_5 : decode cX10_transliterate 5 = .ok (.astore 4, 2) := by decide +kernel
theorem dX10_transliterate_7 : decode cX10_transliterate 7 = .ok (.aload_n 0, 1) := by decide +kernel
theorem dX10_transliterate_8 : decode cX10_transliterate 8 = .ok (.iload_n 2, 1) := by decide +kernel
theorem dX10_transliterate_9 : decode cX10_transliterate 9 = .ok (.invokevirtual 194, 3) := by decide +kernel
theorem dX10_transliterate_12 : decode cX10_transliterate 12 = .ok (.astore 5, 2) := by decide +kernel
theorem dX10_transliterate_14 : decode cX10_transliterate 14 = .ok (.iload_n 3, 1) := by decide +kernel
theorem dX10_transliterate_15 : decode cX10_transliterate 15 = .ok (.ifCond .eq 7, 3) := by decide +kernel
theorem dX10_transliterate_18 : decode cX10_transliterate 18 = .ok (.iconst 1, 1) := by decide +kernel
theorem dX10_transliterate_19 : decode cX10_transliterate 19 = .ok (.goto 4, 3) := by decide +kernel
theorem dX10_transliterate_22 : decode cX10_transliterate 22 = .ok (.iconst 0, 1) := by decide +kernel
theorem dX10_transliterate_23 : decode cX10_transliterate 23 = .ok (.istore 6, 2) := by decide +kernel
theorem dX10_transliterate_25 : decode cX10_transliterate 25 = .ok (.aload_n 0, 1) := by decide +kernel
theorem dX10_transliterate_26 : decode cX10_transliterate 26 = .ok (.getfield 12, 3) := by decide +kernel
theorem dX10_transliterate_29 : decode cX10_transliterate 29 = .ok (.iload 6, 2) := by decide +kernel
theorem dX10_transliterate_31 : decode cX10_transliterate 31 = .ok (.iload_n 3, 1) := by decide +kernel
theorem dX10_transliterate_32 : decode cX10_transliterate 32 = .ok (.aload 4, 2) := by decide +kernel
theorem dX10_transliterate_34 : decode cX10_transliterate 34 = .ok (.aload_n 0, 1) := by decide +kernel
theorem dX10_transliterate_35 : decode cX10_transliterate 35 = .ok (.getfield 93, 3) := by decide +kernel
theorem dX10_transliterate_38 : decode cX10_transliterate 38 = .ok (.invokevirtual 330, 3) := by decide +kernel
theorem dX10_transliterate_41 : decode cX10_transliterate 41 = .ok (.ifCond .eq 26, 3) := by decide +kernel
theorem dX10_transliterate_44 : decode cX10_transliterate 44 = .ok (.aload_n 0, 1) := by decide +kernel
theorem dX10_transliterate_45 : decode cX10_transliterate 45 = .ok (.getfield 12, 3) := by decide +kernel
theorem dX10_transliterate_48 : decode cX10_transliterate 48 = .ok (.iconst 1, 1) := by decide +kernel
theorem dX10_transliterate_49 : decode cX10_transliterate 49 = .ok (.iload 6, 2) := by decide +kernel
theorem dX10_transliterate_51 : decode cX10_transliterate 51 = .ok (.isub, 1) := by decide +kernel
theorem dX10_transliterate_52 : decode cX10_transliterate 52 = .ok (.iload_n 3, 1) := by decide +kernel
theorem dX10_transliterate_53 : decode cX10_transliterate 53 = .ok (.aload_n 0, 1) := by decide +kernel
theorem dX10_transliterate_54 : decode cX10_transliterate 54 = .ok (.getfield 93, 3) := by decide +kernel
theorem dX10_transliterate_57 : decode cX10_transliterate 57 = .ok (.aload_n 0, 1) := by decide +kernel
theorem dX10_transliterate_58 : decode cX10_transliterate 58 = .ok (.getfield 96, 3) := by decide +kernel
theorem dX10_transliterate_61 : decode cX10_transliterate 61 = .ok (.invokevirtual 330, 3) := by decide +kernel
theorem dX10_transliterate_64 : decode cX10_transliterate 64 = .ok (.ifCond .ne 14, 3) := by decide +kernel
theorem dX10_transliterate_67 : decode cX10_transliterate 67 = .ok (.new 111, 3) := by decide +kernel
theorem dX10_transliterate_70 : decode cX10_transliterate 70 = .ok (.dup, 1) := by decide +kernel
theorem dX10_transliterate_71 : decode cX10_transliterate 71 = .ok (.ldc_w 334, 3) := by decide +kernel
theorem dX10_transliterate_74 : decode cX10_transliterate 74 = .ok (.invokespecial 115, 3) := by decide +kernel
theorem dX10_transliterate_77 : decode cX10_transliterate 77 = .ok (.athrow, 1) := by decide +kernel
theorem dX10_transliterate_78 : decode cX10_transliterate 78 = .ok (.aload 5, 2) := by decide +kernel
theorem dX10_transliterate_80 : decode cX10_transliterate 80 = .ok (.aload_n 0, 1) := by decide +kernel
theorem dX10_transliterate_81 : decode cX10_transliterate 81 = .ok (.getfield 96, 3) := by decide +kernel
theorem dX10_transliterate_84 : decode cX10_transliterate 84 = .ok (.invokevirtual 253, 3) := by decide +kernel
theorem dX10_transliterate_87 : decode cX10_transliterate 87 = .ok (.aload 5, 2) := by decide +kernel
theorem dX10_transliterate_89 : decode cX10_transliterate 89 = .ok (.invokevirtual 107, 3) := by decide +kernel
theorem dX10_transliterate_92 : decode cX10_transliterate 92 = .ok (.ireturn, 1) := by decide +kernel
theorem dX10_classOf_0 : decode cX10_classOf 0 = .ok (.aload_n 0, 1) := by decide +kernel
theorem dX10_classOf_1 : decode cX10_classOf 1 = .ok (.iload_n 1, 1) := by decide +kernel
theorem dX10_classOf_2 : decode cX10_classOf 2 = .ok (.invokevirtual 151, 3) := by decide +kernel
theorem dX10_classOf_5 : decode cX10_classOf 5 = .ok (.astore_n 3, 1) := by decide +kernel
theorem dX10_classOf_6 : decode cX10_classOf 6 = .ok (.iload_n 2, 1) := by decide +kernel
theorem dX10_classOf_7 : decode cX10_classOf 7 = .ok (.invokestatic 336, 3) := by decide +kernel
theorem dX10_classOf_10 : decode cX10_classOf 10 = .ok (.invokestatic 103, 3) := by decide +kernel
theorem dX10_classOf_13 : decode cX10_classOf 13 = .ok (.aload_n 3, 1) := by decide +kernel
theorem dX10_classOf_14 : decode cX10_classOf 14 = .ok (.iload_n 2, 1) := by decide +kernel
theorem dX10_classOf_15 : decode cX10_classOf 15 = .ok (.invokevirtual 339, 3) := by decide +kernel
theorem dX10_classOf_18 : decode cX10_classOf 18 = .ok (.ireturn, 1) := by decide +kernel
theorem dX10_message_0 : decode cX10_message 0 = .ok (.aload_n 0, 1) := by decide +kernel
theorem dX10_message_1 : decode cX10_message 1 = .ok (.iload_n 1, 1) := by decide +kernel
theorem dX10_message_2 : decode cX10_message 2 = .ok (.invokevirtual 151, 3) := by decide +kernel
theorem dX10_message_5 : decode cX10_message 5 = .ok (.astore 6, 2) := by decide +kernel
theorem dX10_message_7 : decode cX10_message 7 = .ok (.iload_n 2, 1) := by decide +kernel
theorem dX10_message_8 : decode cX10_message 8 = .ok (.invokestatic 336, 3) := by decide +kernel
theorem dX10_message_11 : decode cX10_message 11 = .ok (.ifCond .eq 30, 3) := by decide +kernel
theorem dX10_message_14 : decode cX10_message 14 = .ok (.iload_n 3, 1) := by decide +kernel
theorem dX10_message_15 : decode cX10_message 15 = .ok (.invokestatic 336, 3) := by decide +kernel
theorem dX10_message_18 : decode cX10_message 18 = .ok (.ifCond .eq 23, 3) := by decide +kernel
theorem dX10_message_21 : decode cX10_message 21 = .ok (.iload 4, 2) := by decide +kernel
theorem dX10_message_23 : decode cX10_message 23 = .ok (.invokestatic 336, 3) := by decide +kernel
theorem dX10_message_26 : decode cX10_message 26 = .ok (.ifCond .eq 15, 3) := by decide +kernel
theorem dX10_message_29 : decode cX10_message 29 = .ok (.iload 5, 2) := by decide +kernel
theorem dX10_message_31 : decode cX10_message 31 = .ok (.invokestatic 336, 3) := by decide +kernel
theorem dX10_message_34 : decode cX10_message 34 = .ok (.ifCond .eq 7, 3) := by decide +kernel
theorem dX10_message_37 : decode cX10_message 37 = .ok (.iconst 1, 1) := by decide +kernel
theorem dX10_message_38 : decode cX10_message 38 = .ok (.goto 4, 3) := by decide +kernel
theorem dX10_message_41 : decode cX10_message 41 = .ok (.iconst 0, 1) := by decide +kernel
theorem dX10_message_42 : decode cX10_message 42 = .ok (.invokestatic 103, 3) := by decide +kernel
theorem dX10_message_45 : decode cX10_message 45 = .ok (.aload_n 0, 1) := by decide +kernel
theorem dX10_message_46 : decode cX10_message 46 = .ok (.getfield 74, 3) := by decide +kernel
theorem dX10_message_49 : decode cX10_message 49 = .ok (.invokevirtual 342, 3) := by decide +kernel
theorem dX10_message_52 : decode cX10_message 52 = .ok (.aload_n 0, 1) := by decide +kernel
theorem dX10_message_53 : decode cX10_message 53 = .ok (.getfield 74, 3) := by decide +kernel
theorem dX10_message_56 : decode cX10_message 56 = .ok (.iload_n 2, 1) := by decide +kernel
theorem dX10_message_57 : decode cX10_message 57 = .ok (.aload 6, 2) := by decide +kernel
theorem dX10_message_59 : decode cX10_message 59 = .ok (.iload_n 2, 1) := by decide +kernel
theorem dX10_message_60 : decode cX10_message 60 = .ok (.invokevirtual 339, 3) := by decide +kernel
theorem dX10_message_63 : decode cX10_message 63 = .ok (.invokevirtual 345, 3) := by decide +kernel
theorem dX10_message_66 : decode cX10_message 66 = .ok (.aload_n 0, 1) := by decide +kernel
theorem dX10_message_67 : decode cX10_message 67 = .ok (.getfield 74, 3) := by decide +kernel
theorem dX10_message_70 : decode cX10_message 70 = .ok (.iload_n 3, 1) := by decide +kernel
theorem dX10_message_71 : decode cX10_message 71 = .ok (.aload 6, 2) := by decide +kernel
theorem dX10_message_73 : decode cX10_message 73 = .ok (.iload_n 3, 1) := by decide +kernel
theorem dX10_message_74 : decode cX10_message 74 = .ok (.invokevirtual 339, 3) := by decide +kernel
theorem dX10_message_77 : decode cX10_message 77 = .ok (.invokevirtual 345, 3) := by decide +kernel
theorem dX10_message_80 : decode cX10_message 80 = .ok (.aload_n 0, 1) := by decide +kernel
theorem dX10_message_81 : decode cX10_message 81 = .ok (.getfield 74, 3) := by decide +kernel
theorem dX10_message_84 : decode cX10_message 84 = .ok (.iload 4, 2) := by decide +kernel
theorem dX10_message_86 : decode cX10_message 86 = .ok (.aload 6, 2) := by decide +kernel
theorem dX10_message_88 : decode cX10_message 88 = .ok (.iload 4, 2) := by decide +kernel
theorem dX10_message_90 : decode cX10_message 90 = .ok (.invokevirtual 339, 3) := by decide +kernel
theorem dX10_message_93 : decode cX10_message 93 = .ok (.invokevirtual 345, 3) := by decide +kernel
theorem dX10_message_96 : decode cX10_message 96 = .ok (.aload_n 0, 1) := by decide +kernel
theorem dX10_message_97 : decode cX10_message 97 = .ok (.getfield 74, 3) := by decide +kernel
theorem dX10_message_100 : decode cX10_message 100 = .ok (.iload 5, 2) := by decide +kernel
theorem dX10_message_102 : decode cX10_message 102 = .ok (.aload 6, 2) := by decide +kernel
theorem dX10_message_104 : decode cX10_message 104 = .ok (.iload 5, 2) := by decide +kernel
theorem dX10_message_106 : decode cX10_message 106 = .ok (.invokevirtual 339, 3) := by decide +kernel
theorem dX10_message_109 : decode cX10_message 109 = .ok (.invokevirtual 345, 3) := by decide +kernel
theorem dX10_message_112 : decode cX10_message 112 = .ok (.aload_n 0, 1) := by decide +kernel
theorem dX10_message_113 : decode cX10_message 113 = .ok (.getfield 74, 3) := by decide +kernel
theorem dX10_message_116 : decode cX10_message 116 = .ok (.invokevirtual 348, 3) := by decide +kernel
theorem dX10_message_119 : decode cX10_message 119 = .ok (.istore 7, 2) := by decide +kernel
theorem dX10_message_121 : decode cX10_message 121 = .ok (.aload_n 0, 1) := by decide +kernel
theorem dX10_message_122 : decode cX10_message 122 = .ok (.getfield 29, 3) := by decide +kernel
theorem dX10_message_125 : decode cX10_message 125 = .ok (.iconst 0, 1) := by decide +kernel
theorem dX10_message_126 : decode cX10_message 126 = .ok (.invokevirtual 237, 3) := by decide +kernel
theorem dX10_message_129 : decode cX10_message 129 = .ok (.iload 7, 2) := by decide +kernel
theorem dX10_message_131 : decode cX10_message 131 = .ok (.ifCond .ne 14, 3) := by decide +kernel
theorem dX10_message_134 : decode cX10_message 134 = .ok (.new 111, 3) := by decide +kernel
theorem dX10_message_137 : decode cX10_message 137 = .ok (.dup, 1) := by decide +kernel
theorem dX10_message_138 : decode cX10_message 138 = .ok (.ldc_w 352, 3) := by decide +kernel
theorem dX10_message_141 : decode cX10_message 141 = .ok (.invokespecial 115, 3) := by decide +kernel
theorem dX10_message_144 : decode cX10_message 144 = .ok (.athrow, 1) := by decide +kernel
theorem dX10_message_145 : decode cX10_message 145 = .ok (.aload_n 0, 1) := by decide +kernel
theorem dX10_message_146 : decode cX10_message 146 = .ok (.getfield 33, 3) := by decide +kernel
theorem dX10_message_149 : decode cX10_message 149 = .ok (.aload_n 0, 1) := by decide +kernel
theorem dX10_message_150 : decode cX10_message 150 = .ok (.getfield 74, 3) := by decide +kernel
theorem dX10_message_153 : decode cX10_message 153 = .ok (.invokevirtual 354, 3) := by decide +kernel
theorem dX10_message_156 : decode cX10_message 156 = .ok (.invokevirtual 253, 3) := by decide +kernel
theorem dX10_message_159 : decode cX10_message 159 = .ok (.aload_n 0, 1) := by decide +kernel
theorem dX10_message_160 : decode cX10_message 160 = .ok (.getfield 33, 3) := by decide +kernel
theorem dX10_message_163 : decode cX10_message 163 = .ok (.invokevirtual 107, 3) := by decide +kernel
theorem dX10_message_166 : decode cX10_message 166 = .ok (.ireturn, 1) := by decide +kernel
theorem dX10_word_0 : decode cX10_word 0 = .ok (.lconst 0, 1) := by decide +kernel
theorem dX10_word_1 : decode cX10_word 1 = .ok (.lstore_n 2, 1) := by decide +kernel
theorem dX10_word_2 : decode cX10_word 2 = .ok (.bipush 7, 2) := by decide +kernel
theorem dX10_word_4 : decode cX10_word 4 = .ok (.istore 4, 2) := by decide +kernel
theorem dX10_word_6 : decode cX10_word 6 = .ok (.iload 4, 2) := by decide +kernel
theorem dX10_word_8 : decode cX10_word 8 = .ok (.ifCond .lt 79, 3) := by decide +kernel
theorem dX10_word_11 : decode cX10_word 11 = .ok (.ldc2_w 357, 3) := by decide +kernel
theorem dX10_word_14 : decode cX10_word 14 = .ok (.iload_n 1, 1) := by decide +kernel
theorem dX10_word_15 : decode cX10_word 15 = .ok (.i2l, 1) := by decide +kernel
theorem dX10_word_16 : decode cX10_word 16 = .ok (.lmul, 1) := by decide +kernel
theorem dX10_word_17 : decode cX10_word 17 = .ok (.iload 4, 2) := by decide +kernel
theorem dX10_word_19 : decode cX10_word 19 = .ok (.i2l, 1) := by decide +kernel
theorem dX10_word_20 : decode cX10_word 20 = .ok (.ladd, 1) := by decide +kernel
theorem dX10_word_21 : decode cX10_word 21 = .ok (.lstore 5, 2) := by decide +kernel
theorem dX10_word_23 : decode cX10_word 23 = .ok (.lload 5, 2) := by decide +kernel
theorem dX10_word_25 : decode cX10_word 25 = .ok (.lconst 0, 1) := by decide +kernel
theorem dX10_word_26 : decode cX10_word 26 = .ok (.lcmp, 1) := by decide +kernel
theorem dX10_word_27 : decode cX10_word 27 = .ok (.ifCond .lt 21, 3) := by decide +kernel
theorem dX10_word_30 : decode cX10_word 30 = .ok (.lload 5, 2) := by decide +kernel
theorem dX10_word_32 : decode cX10_word 32 = .ok (.aload_n 0, 1) := by decide +kernel
theorem dX10_word_33 : decode cX10_word 33 = .ok (.getfield 33, 3) := by decide +kernel
theorem dX10_word_36 : decode cX10_word 36 = .ok (.invokevirtual 107, 3) := by decide +kernel
theorem dX10_word_39 : decode cX10_word 39 = .ok (.i2l, 1) := by decide +kernel
theorem dX10_word_40 : decode cX10_word 40 = .ok (.lcmp, 1) := by decide +kernel
theorem dX10_word_41 : decode cX10_word 41 = .ok (.ifCond .ge 7, 3) := by decide +kernel
theorem dX10_word_44 : decode cX10_word 44 = .ok (.iconst 1, 1) := by decide +kernel
theorem dX10_word_45 : decode cX10_word 45 = .ok (.goto 4, 3) := by decide +kernel
theorem dX10_word_48 : decode cX10_word 48 = .ok (.iconst 0, 1) := by decide +kernel
theorem dX10_word_49 : decode cX10_word 49 = .ok (.istore 7, 2) := by decide +kernel
theorem dX10_word_51 : decode cX10_word 51 = .ok (.lload_n 2, 1) := by decide +kernel
theorem dX10_word_52 : decode cX10_word 52 = .ok (.bipush 8, 2) := by decide +kernel
theorem dX10_word_54 : decode cX10_word 54 = .ok (.lshl, 1) := by decide +kernel
theorem dX10_word_55 : decode cX10_word 55 = .ok (.iload 7, 2) := by decide +kernel
theorem dX10_word_57 : decode cX10_word 57 = .ok (.ifCond .eq 20, 3) := by decide +kernel
theorem dX10_word_60 : decode cX10_word 60 = .ok (.aload_n 0, 1) := by decide +kernel
theorem dX10_word_61 : decode cX10_word 61 = .ok (.getfield 33, 3) := by decide +kernel
theorem dX10_word_64 : decode cX10_word 64 = .ok (.lload 5, 2) := by decide +kernel
theorem dX10_word_66 : decode cX10_word 66 = .ok (.l2i, 1) := by decide +kernel
theorem dX10_word_67 : decode cX10_word 67 = .ok (.invokevirtual 243, 3) := by decide +kernel
theorem dX10_word_70 : decode cX10_word 70 = .ok (.sipush 255, 3) := by decide +kernel
theorem dX10_word_73 : decode cX10_word 73 = .ok (.iand, 1) := by decide +kernel
theorem dX10_word_74 : decode cX10_word 74 = .ok (.goto 4, 3) := by decide +kernel
theorem dX10_word_77 : decode cX10_word 77 = .ok (.iconst 0, 1) := by decide +kernel
theorem dX10_word_78 : decode cX10_word 78 = .ok (.i2l, 1) := by decide +kernel
theorem dX10_word_79 : decode cX10_word 79 = .ok (.lor, 1) := by decide +kernel
theorem dX10_word_80 : decode cX10_word 80 = .ok (.lstore_n 2, 1) := by decide +kernel
theorem dX10_word_81 : decode cX10_word 81 = .ok (.iinc 4 (-1), 3) := by decide +kernel
theorem dX10_word_84 : decode cX10_word 84 = .ok (.goto (-78), 3) := by decide +kernel
theorem dX10_word_87 : decode cX10_word 87 = .ok (.lload_n 2, 1) := by decide +kernel
theorem dX10_word_88 : decode cX10_word 88 = .ok (.lreturn, 1) := by decide +kernel
theorem dX10_encode_0 : decode cX10_encode 0 = .ok (.aload_n 0, 1) := by decide +kernel
theorem dX10_encode_1 : decode cX10_encode 1 = .ok (.iload_n 1, 1) := by decide +kernel
theorem dX10_encode_2 : decode cX10_encode 2 = .ok (.invokevirtual 194, 3) := by decide +kernel
theorem dX10_encode_5 : decode cX10_encode 5 = .ok (.astore_n 2, 1) := by decide +kernel
theorem dX10_encode_6 : decode cX10_encode 6 = .ok (.aload_n 0, 1) := by decide +kernel
theorem dX10_encode_7 : decode cX10_encode 7 = .ok (.getfield 33, 3) := by decide +kernel
theorem dX10_encode_10 : decode cX10_encode 10 = .ok (.iconst 0, 1) := by decide +kernel
theorem dX10_encode_11 : decode cX10_encode 11 = .ok (.invokevirtual 237, 3) := by decide +kernel
theorem dX10_encode_14 : decode cX10_encode 14 = .ok (.iconst 0, 1) := by decide +kernel
theorem dX10_encode_15 : decode cX10_encode 15 = .ok (.istore_n 3, 1) := by decide +kernel
theorem dX10_encode_16 : decode cX10_encode 16 = .ok (.iconst 0, 1) := by decide +kernel
theorem dX10_encode_17 : decode cX10_encode 17 = .ok (.istore 4, 2) := by decide +kernel
theorem dX10_encode_19 : decode cX10_encode 19 = .ok (.iload 4, 2) := by decide +kernel
theorem dX10_encode_21 : decode cX10_encode 21 = .ok (.aload_n 2, 1) := by decide +kernel
theorem dX10_encode_22 : decode cX10_encode 22 = .ok (.invokevirtual 107, 3) := by decide +kernel
theorem dX10_encode_25 : decode cX10_encode 25 = .ok (.if_icmp .ge 80, 3) := by decide +kernel
theorem dX10_encode_28 : decode cX10_encode 28 = .ok (.aload_n 2, 1) := by decide +kernel
theorem dX10_encode_29 : decode cX10_encode 29 = .ok (.iload 4, 2) := by decide +kernel
theorem dX10_encode_31 : decode cX10_encode 31 = .ok (.invokevirtual 243, 3) := by decide +kernel
theorem dX10_encode_34 : decode cX10_encode 34 = .ok (.istore 5, 2) := by decide +kernel
theorem dX10_encode_36 : decode cX10_encode 36 = .ok (.iload 5, 2) := by decide +kernel
theorem dX10_encode_38 : decode cX10_encode 38 = .ok (.bipush 64, 2) := by decide +kernel
theorem dX10_encode_40 : decode cX10_encode 40 = .ok (.if_icmp .ge 7, 3) := by decide +kernel
theorem dX10_encode_43 : decode cX10_encode 43 = .ok (.iconst 0, 1) := by decide +kernel
theorem dX10_encode_44 : decode cX10_encode 44 = .ok (.goto 4, 3) := by decide +kernel
theorem dX10_encode_47 : decode cX10_encode 47 = .ok (.iconst 1, 1) := by decide +kernel
theorem dX10_encode_48 : decode cX10_encode 48 = .ok (.istore 6, 2) := by decide +kernel
theorem dX10_encode_50 : decode cX10_encode 50 = .ok (.iload 6, 2) := by decide +kernel
theorem dX10_encode_52 : decode cX10_encode 52 = .ok (.iload_n 3, 1) := by decide +kernel
theorem dX10_encode_53 : decode cX10_encode 53 = .ok (.if_icmp .eq 27, 3) := by decide +kernel
theorem dX10_encode_56 : decode cX10_encode 56 = .ok (.aload_n 0, 1) := by decide +kernel
theorem dX10_encode_57 : decode cX10_encode 57 = .ok (.getfield 33, 3) := by decide +kernel
theorem dX10_encode_60 : decode cX10_encode 60 = .ok (.iload 6, 2) := by decide +kernel
theorem dX10_encode_62 : decode cX10_encode 62 = .ok (.iconst 1, 1) := by decide +kernel
theorem dX10_encode_63 : decode cX10_encode 63 = .ok (.if_icmp .ne 8, 3) := by decide +kernel
theorem dX10_encode_66 : decode cX10_encode 66 = .ok (.bipush 14, 2) := by decide +kernel
theorem dX10_encode_68 : decode cX10_encode 68 = .ok (.goto 5, 3) := by decide +kernel
theorem dX10_encode_71 : decode cX10_encode 71 = .ok (.bipush 15, 2) := by decide +kernel
theorem dX10_encode_73 : decode cX10_encode 73 = .ok (.invokevirtual 120, 3) := by decide +kernel
theorem dX10_encode_76 : decode cX10_encode 76 = .ok (.pop, 1) := by decide +kernel
theorem dX10_encode_77 : decode cX10_encode 77 = .ok (.iload 6, 2) := by decide +kernel
theorem dX10_encode_79 : decode cX10_encode 79 = .ok (.istore_n 3, 1) := by decide +kernel
theorem dX10_encode_80 : decode cX10_encode 80 = .ok (.aload_n 0, 1) := by decide +kernel
theorem dX10_encode_81 : decode cX10_encode 81 = .ok (.getfield 33, 3) := by decide +kernel
theorem dX10_encode_84 : decode cX10_encode 84 = .ok (.bipush 32, 2) := by decide +kernel
theorem dX10_encode_86 : decode cX10_encode 86 = .ok (.iload 5, 2) := by decide +kernel
theorem dX10_encode_88 : decode cX10_encode 88 = .ok (.iadd, 1) := by decide +kernel
theorem dX10_encode_89 : decode cX10_encode 89 = .ok (.iload 6, 2) := by decide +kernel
theorem dX10_encode_91 : decode cX10_encode 91 = .ok (.bipush 64, 2) := by decide +kernel
theorem dX10_encode_93 : decode cX10_encode 93 = .ok (.imul, 1) := by decide +kernel
theorem dX10_encode_94 : decode cX10_encode 94 = .ok (.isub, 1) := by decide +kernel
theorem dX10_encode_95 : decode cX10_encode 95 = .ok (.invokevirtual 120, 3) := by decide +kernel
theorem dX10_encode_98 : decode cX10_encode 98 = .ok (.pop, 1) := by decide +kernel
theorem dX10_encode_99 : decode cX10_encode 99 = .ok (.iinc 4 1, 3) := by decide +kernel
theorem dX10_encode_102 : decode cX10_encode 102 = .ok (.goto (-83), 3) := by decide +kernel
theorem dX10_encode_105 : decode cX10_encode 105 = .ok (.iload_n 3, 1) := by decide +kernel
theorem dX10_encode_106 : decode cX10_encode 106 = .ok (.iconst 1, 1) := by decide +kernel
theorem dX10_encode_107 : decode cX10_encode 107 = .ok (.if_icmp .ne 13, 3) := by decide +kernel
theorem dX10_encode_110 : decode cX10_encode 110 = .ok (.aload_n 0, 1) := by decide +kernel
theorem dX10_encode_111 : decode cX10_encode 111 = .ok (.getfield 33, 3) := by decide +kernel
theorem dX10_encode_114 : decode cX10_encode 114 = .ok (.bipush 15, 2) := by decide +kernel
theorem dX10_encode_116 : decode cX10_encode 116 = .ok (.invokevirtual 120, 3) := by decide +kernel
theorem dX10_encode_119 : decode cX10_encode 119 = .ok (.pop, 1) := by decide +kernel
theorem dX10_encode_120 : decode cX10_encode 120 = .ok (.aload_n 0, 1) := by decide +kernel
theorem dX10_encode_121 : decode cX10_encode 121 = .ok (.getfield 33, 3) := by decide +kernel
theorem dX10_encode_124 : decode cX10_encode 124 = .ok (.invokevirtual 107, 3) := by decide +kernel
theorem dX10_encode_127 : decode cX10_encode 127 = .ok (.ireturn, 1) := by decide +kernel
theorem dX10_decode_0 : decode cX10_decode 0 = .ok (.aload_n 0, 1) := by decide +kernel
theorem dX10_decode_1 : decode cX10_decode 1 = .ok (.iload_n 1, 1) := by decide +kernel
theorem dX10_decode_2 : decode cX10_decode 2 = .ok (.invokevirtual 194, 3) := by decide +kernel
theorem dX10_decode_5 : decode cX10_decode 5 = .ok (.astore_n 2, 1) := by decide +kernel
theorem dX10_decode_6 : decode cX10_decode 6 = .ok (.aload_n 0, 1) := by decide +kernel
theorem dX10_decode_7 : decode cX10_decode 7 = .ok (.aload_n 0, 1) := by decide +kernel
theorem dX10_decode_8 : decode cX10_decode 8 = .ok (.getfield 93, 3) := by decide +kernel
theorem dX10_decode_11 : decode cX10_decode 11 = .ok (.invokevirtual 359, 3) := by decide +kernel
theorem dX10_decode_14 : decode cX10_decode 14 = .ok (.istore_n 3, 1) := by decide +kernel
theorem dX10_decode_15 : decode cX10_decode 15 = .ok (.aload_n 0, 1) := by decide +kernel
theorem dX10_decode_16 : decode cX10_decode 16 = .ok (.getfield 29, 3) := by decide +kernel
theorem dX10_decode_19 : decode cX10_decode 19 = .ok (.iconst 0, 1) := by decide +kernel
theorem dX10_decode_20 : decode cX10_decode 20 = .ok (.invokevirtual 237, 3) := by decide +kernel
theorem dX10_decode_23 : decode cX10_decode 23 = .ok (.iload_n 3, 1) := by decide +kernel
theorem dX10_decode_24 : decode cX10_decode 24 = .ok (.iconst (-1), 1) := by decide +kernel
theorem dX10_decode_25 : decode cX10_decode 25 = .ok (.if_icmp .ne 14, 3) := by decide +kernel
theorem dX10_decode_28 : decode cX10_decode 28 = .ok (.new 111, 3) := by decide +kernel
theorem dX10_decode_31 : decode cX10_decode 31 = .ok (.dup, 1) := by decide +kernel
theorem dX10_decode_32 : decode cX10_decode 32 = .ok (.ldc_w 363, 3) := by decide +kernel
theorem dX10_decode_35 : decode cX10_decode 35 = .ok (.invokespecial 115, 3) := by decide +kernel
theorem dX10_decode_38 : decode cX10_decode 38 = .ok (.athrow, 1) := by decide +kernel
theorem dX10_decode_39 : decode cX10_decode 39 = .ok (.aload_n 2, 1) := by decide +kernel
theorem dX10_decode_40 : decode cX10_decode 40 = .ok (.aload_n 0, 1) := by decide +kernel
theorem dX10_decode_41 : decode cX10_decode 41 = .ok (.getfield 93, 3) := by decide +kernel
theorem dX10_decode_44 : decode cX10_decode 44 = .ok (.invokevirtual 253, 3) := by decide +kernel
theorem dX10_decode_47 : decode cX10_decode 47 = .ok (.iload_n 3, 1) := by decide +kernel
theorem dX10_decode_48 : decode cX10_decode 48 = .ok (.ireturn, 1) := by decide +kernel
theorem dX10_isWithin_0 : decode cX10_isWithin 0 = .ok (.iload_n 0, 1) := by decide +kernel
theorem dX10_isWithin_1 : decode cX10_isWithin 1 = .ok (.iload_n 1, 1) := by decide +kernel
theorem dX10_isWithin_2 : decode cX10_isWithin 2 = .ok (.if_icmp .lt 12, 3) := by decide +kernel
theorem dX10_isWithin_5 : decode cX10_isWithin 5 = .ok (.iload_n 0, 1) := by decide +kernel
theorem dX10_isWithin_6 : decode cX10_isWithin 6 = .ok (.iload_n 2, 1) := by decide +kernel
theorem dX10_isWithin_7 : decode cX10_isWithin 7 = .ok (.if_icmp .gt 7, 3) := by decide +kernel
theorem dX10_isWithin_10 : decode cX10_isWithin 10 = .ok (.iconst 1, 1) := by decide +kernel
theorem dX10_isWithin_11 : decode cX10_isWithin 11 = .ok (.goto 4, 3) := by decide +kernel
theorem dX10_isWithin_14 : decode cX10_isWithin 14 = .ok (.iconst 0, 1) := by decide +kernel
theorem dX10_isWithin_15 : decode cX10_isWithin 15 = .ok (.ireturn, 1) := by decide +kernel
theorem dX10_isLetter_0 : decode cX10_isLetter 0 = .ok (.iload_n 0, 1) := by decide +kernel
theorem dX10_isLetter_1 : decode cX10_isLetter 1 = .ok (.iconst 0, 1) := by decide +kernel
theorem dX10_isLetter_2 : decode cX10_isLetter 2 = .ok (.bipush 95, 2) := by decide +kernel
theorem dX10_isLetter_4 : decode cX10_isLetter 4 = .ok (.invokestatic 99, 3) := by decide +kernel
theorem dX10_isLetter_7 : decode cX10_isLetter 7 = .ok (.ireturn, 1) := by decide +kernel
theorem dX10_isNumber_0 : decode cX10_isNumber 0 = .ok (.iload_n 0, 1) := by decide +kernel
theorem dX10_isNumber_1 : decode cX10_isNumber 1 = .ok (.iconst 0, 1) := by decide +kernel
theorem dX10_isNumber_2 : decode cX10_isNumber 2 = .ok (.ldc_w 365, 3) := by decide +kernel
theorem dX10_isNumber_5 : decode cX10_isNumber 5 = .ok (.invokestatic 99, 3) := by decide +kernel
theorem dX10_isNumber_8 : decode cX10_isNumber 8 = .ok (.ireturn, 1) := by decide +kernel
theorem dX10_isRange_0 : decode cX10_isRange 0 = .ok (.iload_n 0, 1) := by decide +kernel
theorem dX10_isRange_1 : decode cX10_isRange 1 = .ok (.iconst 0, 1) := by decide +kernel
theorem dX10_isRange_2 : decode cX10_isRange 2 = .ok (.bipush 99, 2) := by decide +kernel
theorem dX10_isRange_4 : decode cX10_isRange 4 = .ok (.invokestatic 99, 3) := by decide +kernel
theorem dX10_isRange_7 : decode cX10_isRange 7 = .ok (.ifCond .eq 17, 3) := by decide +kernel
theorem dX10_isRange_10 : decode cX10_isRange 10 = .ok (.iload_n 1, 1) := by decide +kernel
theorem dX10_isRange_11 : decode cX10_isRange 11 = .ok (.iload_n 0, 1) := by decide +kernel
theorem dX10_isRange_12 : decode cX10_isRange 12 = .ok (.bipush 99, 2) := by decide +kernel
theorem dX10_isRange_14 : decode cX10_isRange 14 = .ok (.invokestatic 99, 3) := by decide +kernel
theorem dX10_isRange_17 : decode cX10_isRange 17 = .ok (.ifCond .eq 7, 3) := by decide +kernel
theorem dX10_isRange_20 : decode cX10_isRange 20 = .ok (.iconst 1, 1) := by decide +kernel
theorem dX10_isRange_21 : decode cX10_isRange 21 = .ok (.goto 4, 3) := by decide +kernel
theorem dX10_isRange_24 : decode cX10_isRange 24 = .ok (.iconst 0, 1) := by decide +kernel
theorem dX10_isRange_25 : decode cX10_isRange 25 = .ok (.ireturn, 1) := by decide +kernel
theorem dX10_checkLetter_0 : decode cX10_checkLetter 0 = .ok (.iload_n 0, 1) := by decide +kernel
theorem dX10_checkLetter_1 : decode cX10_checkLetter 1 = .ok (.invokestatic 127, 3) := by decide +kernel
theorem dX10_checkLetter_4 : decode cX10_checkLetter 4 = .ok (.ifCond .ne 14, 3) := by decide +kernel
theorem dX10_checkLetter_7 : decode cX10_checkLetter 7 = .ok (.new 230, 3) := by decide +kernel
theorem dX10_checkLetter_10 : decode cX10_checkLetter 10 = .ok (.dup, 1) := by decide +kernel
theorem dX10_checkLetter_11 : decode cX10_checkLetter 11 = .ok (.ldc_w 366, 3) := by decide +kernel
theorem dX10_checkLetter_14 : decode cX10_checkLetter 14 = .ok (.invokespecial 234, 3) := by decide +kernel
theorem dX10_checkLetter_17 : decode cX10_checkLetter 17 = .ok (.athrow, 1) := by decide +kernel
theorem dX10_checkLetter_18 : decode cX10_checkLetter 18 = .ok (.return_, 1) := by decide +kernel
theorem dX10_checkPlace_0 : decode cX10_checkPlace 0 = .ok (.iload_n 0, 1) := by decide +kernel
theorem dX10_checkPlace_1 : decode cX10_checkPlace 1 = .ok (.ifCond .lt 8, 3) := by decide +kernel
theorem dX10_checkPlace_4 : decode cX10_checkPlace 4 = .ok (.iload_n 0, 1) := by decide +kernel
theorem dX10_checkPlace_5 : decode cX10_checkPlace 5 = .ok (.iload_n 1, 1) := by decide +kernel
theorem dX10_checkPlace_6 : decode cX10_checkPlace 6 = .ok (.if_icmp .lt 14, 3) := by decide +kernel
theorem dX10_checkPlace_9 : decode cX10_checkPlace 9 = .ok (.new 230, 3) := by decide +kernel
theorem dX10_checkPlace_12 : decode cX10_checkPlace 12 = .ok (.dup, 1) := by decide +kernel
theorem dX10_checkPlace_13 : decode cX10_checkPlace 13 = .ok (.ldc_w 368, 3) := by decide +kernel
theorem dX10_checkPlace_16 : decode cX10_checkPlace 16 = .ok (.invokespecial 234, 3) := by decide +kernel
theorem dX10_checkPlace_19 : decode cX10_checkPlace 19 = .ok (.athrow, 1) := by decide +kernel
theorem dX10_checkPlace_20 : decode cX10_checkPlace 20 = .ok (.return_, 1) := by decide +kernel
theorem dX10_checkArgument_0 : decode cX10_checkArgument 0 = .ok (.iload_n 0, 1) := by decide +kernel
theorem dX10_checkArgument_1 : decode cX10_checkArgument 1 = .ok (.ifCond .ne 14, 3) := by decide +kernel
theorem dX10_checkArgument_4 : decode cX10_checkArgument 4 = .ok (.new 370, 3) := by decide +kernel
theorem dX10_checkArgument_7 : decode cX10_checkArgument 7 = .ok (.dup, 1) := by decide +kernel
theorem dX10_checkArgument_8 : decode cX10_checkArgument 8 = .ok (.ldc_w 372, 3) := by decide +kernel
theorem dX10_checkArgument_11 : decode cX10_checkArgument 11 = .ok (.invokespecial 374, 3) := by decide +kernel
theorem dX10_checkArgument_14 : decode cX10_checkArgument 14 = .ok (.athrow, 1) := by decide +kernel
theorem dX10_checkArgument_15 : decode cX10_checkArgument 15 = .ok (.return_, 1) := by decide +kernel
theorem dX10_checkWeights_0 : decode cX10_checkWeights 0 = .ok (.iload_n 0, 1) := by decide +kernel
theorem dX10_checkWeights_1 : decode cX10_checkWeights 1 = .ok (.iconst 0, 1) := by decide +kernel
theorem dX10_checkWeights_2 : decode cX10_checkWeights 2 = .ok (.bipush 99, 2) := by decide +kernel
theorem dX10_checkWeights_4 : decode cX10_checkWeights 4 = .ok (.invokestatic 99, 3) := by decide +kernel
theorem dX10_checkWeights_7 : decode cX10_checkWeights 7 = .ok (.ifCond .eq 27, 3) := by decide +kernel
theorem dX10_checkWeights_10 : decode cX10_checkWeights 10 = .ok (.iload_n 1, 1) := by decide +kernel
theorem dX10_checkWeights_11 : decode cX10_checkWeights 11 = .ok (.iconst 0, 1) := by decide +kernel
theorem dX10_checkWeights_12 : decode cX10_checkWeights 12 = .ok (.bipush 9, 2) := by decide +kernel
theorem dX10_checkWeights_14 : decode cX10_checkWeights 14 = .ok (.invokestatic 99, 3) := by decide +kernel
theorem dX10_checkWeights_17 : decode cX10_checkWeights 17 = .ok (.ifCond .eq 17, 3) := by decide +kernel
theorem dX10_checkWeights_20 : decode cX10_checkWeights 20 = .ok (.iload_n 2, 1) := by decide +kernel
theorem dX10_checkWeights_21 : decode cX10_checkWeights 21 = .ok (.iconst 0, 1) := by decide +kernel
theorem dX10_checkWeights_22 : decode cX10_checkWeights 22 = .ok (.bipush 9, 2) := by decide +kernel
theorem dX10_checkWeights_24 : decode cX10_checkWeights 24 = .ok (.invokestatic 99, 3) := by decide +kernel
theorem dX10_checkWeights_27 : decode cX10_checkWeights 27 = .ok (.ifCond .eq 7, 3) := by decide +kernel
theorem dX10_checkWeights_30 : decode cX10_checkWeights 30 = .ok (.iconst 1, 1) := by decide +kernel
theorem dX10_checkWeights_31 : decode cX10_checkWeights 31 = .ok (.goto 4, 3) := by decide +kernel
theorem dX10_checkWeights_34 : decode cX10_checkWeights 34 = .ok (.iconst 0, 1) := by decide +kernel
theorem dX10_checkWeights_35 : decode cX10_checkWeights 35 = .ok (.invokestatic 103, 3) := by decide +kernel
theorem dX10_checkWeights_38 : decode cX10_checkWeights 38 = .ok (.return_, 1) := by decide +kernel
theorem dX10_checkForm_0 : decode cX10_checkForm 0 = .ok (.iload_n 0, 1) := by decide +kernel
theorem dX10_checkForm_1 : decode cX10_checkForm 1 = .ok (.ifCond .ne 14, 3) := by decide +kernel
theorem dX10_checkForm_4 : decode cX10_checkForm 4 = .ok (.new 111, 3) := by decide +kernel
theorem dX10_checkForm_7 : decode cX10_checkForm 7 = .ok (.dup, 1) := by decide +kernel
theorem dX10_checkForm_8 : decode cX10_checkForm 8 = .ok (.ldc_w 375, 3) := by decide +kernel
theorem dX10_checkForm_11 : decode cX10_checkForm 11 = .ok (.invokespecial 115, 3) := by decide +kernel
theorem dX10_checkForm_14 : decode cX10_checkForm 14 = .ok (.athrow, 1) := by decide +kernel
theorem dX10_checkForm_15 : decode cX10_checkForm 15 = .ok (.return_, 1) := by decide +kernel
theorem dX10_textOf_0 : decode cX10_textOf 0 = .ok (.iload_n 1, 1) := by decide +kernel
theorem dX10_textOf_1 : decode cX10_textOf 1 = .ok (.ifCond .lt 12, 3) := by decide +kernel
theorem dX10_textOf_4 : decode cX10_textOf 4 = .ok (.iload_n 1, 1) := by decide +kernel
theorem dX10_textOf_5 : decode cX10_textOf 5 = .ok (.aload_n 0, 1) := by decide +kernel
theorem dX10_textOf_6 : decode cX10_textOf 6 = .ok (.getfield 22, 3) := by decide +kernel
theorem dX10_textOf_9 : decode cX10_textOf 9 = .ok (.arraylength, 1) := by decide +kernel
theorem dX10_textOf_10 : decode cX10_textOf 10 = .ok (.if_icmp .lt 14, 3) := by decide +kernel
theorem dX10_textOf_13 : decode cX10_textOf 13 = .ok (.new 230, 3) := by decide +kernel
theorem dX10_textOf_16 : decode cX10_textOf 16 = .ok (.dup, 1) := by decide +kernel
theorem dX10_textOf_17 : decode cX10_textOf 17 = .ok (.ldc_w 377, 3) := by decide +kernel
theorem dX10_textOf_20 : decode cX10_textOf 20 = .ok (.invokespecial 234, 3) := by decide +kernel
theorem dX10_textOf_23 : decode cX10_textOf 23 = .ok (.athrow, 1) := by decide +kernel
theorem dX10_textOf_24 : decode cX10_textOf 24 = .ok (.aload_n 0, 1) := by decide +kernel
theorem dX10_textOf_25 : decode cX10_textOf 25 = .ok (.getfield 22, 3) := by decide +kernel
theorem dX10_textOf_28 : decode cX10_textOf 28 = .ok (.iload_n 1, 1) := by decide +kernel
theorem dX10_textOf_29 : decode cX10_textOf 29 = .ok (.aaload, 1) := by decide +kernel
theorem dX10_textOf_30 : decode cX10_textOf 30 = .ok (.areturn, 1) := by decide +kernel
theorem dX10_languageOf_0 : decode cX10_languageOf 0 = .ok (.aload_n 0, 1) := by decide +kernel
theorem dX10_languageOf_1 : decode cX10_languageOf 1 = .ok (.getfield 12, 3) := by decide +kernel
theorem dX10_languageOf_4 : decode cX10_languageOf 4 = .ok (.iload_n 1, 1) := by decide +kernel
theorem dX10_languageOf_5 : decode cX10_languageOf 5 = .ok (.invokevirtual 379, 3) := by decide +kernel
theorem dX10_languageOf_8 : decode cX10_languageOf 8 = .ok (.astore_n 2, 1) := by decide +kernel
theorem dX10_languageOf_9 : decode cX10_languageOf 9 = .ok (.aload_n 2, 1) := by decide +kernel
theorem dX10_languageOf_10 : decode cX10_languageOf 10 = .ok (.ifnonnull 14, 3) := by decide +kernel
theorem dX10_languageOf_13 : decode cX10_languageOf 13 = .ok (.new 230, 3) := by decide +kernel
theorem dX10_languageOf_16 : decode cX10_languageOf 16 = .ok (.dup, 1) := by decide +kernel
theorem dX10_languageOf_17 : decode cX10_languageOf 17 = .ok (.ldc_w 382, 3) := by decide +kernel
theorem dX10_languageOf_20 : decode cX10_languageOf 20 = .ok (.invokespecial 234, 3) := by decide +kernel
