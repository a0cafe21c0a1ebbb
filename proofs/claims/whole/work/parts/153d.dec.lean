theorem dX11_settlesOthers_73 : decode cX11_settlesOthers 73 = .ok (.iconst 1, 1) := by decide +kernel
theorem dX11_settlesOthers_74 : decode cX11_settlesOthers 74 = .ok (.isub, 1) := by decide +kernel
theorem dX11_settlesOthers_75 : decode cX11_settlesOthers 75 = .ok (.iaload, 1) := by decide +kernel
theorem dX11_settlesOthers_76 : decode cX11_settlesOthers 76 = .ok (.invokevirtual 217, 3) := by decide +kernel
theorem dX11_settlesOthers_79 : decode cX11_settlesOthers 79 = .ok (.istore 5, 2) := by decide +kernel
theorem dX11_settlesOthers_81 : decode cX11_settlesOthers 81 = .ok (.iload 4, 2) := by decide +kernel
theorem dX11_settlesOthers_83 : decode cX11_settlesOthers 83 = .ok (.iload_n 1, 1) := by decide +kernel
theorem dX11_settlesOthers_84 : decode cX11_settlesOthers 84 = .ok (.if_icmp .ne 7, 3) := by decide +kernel
theorem dX11_settlesOthers_87 : decode cX11_settlesOthers 87 = .ok (.iload_n 2, 1) := by decide +kernel
theorem dX11_settlesOthers_88 : decode cX11_settlesOthers 88 = .ok (.goto 14, 3) := by decide +kernel
theorem dX11_settlesOthers_91 : decode cX11_settlesOthers 91 = .ok (.aload_n 0, 1) := by decide +kernel
theorem dX11_settlesOthers_92 : decode cX11_settlesOthers 92 = .ok (.aload_n 0, 1) := by decide +kernel
theorem dX11_settlesOthers_93 : decode cX11_settlesOthers 93 = .ok (.getfield 61, 3) := by decide +kernel
theorem dX11_settlesOthers_96 : decode cX11_settlesOthers 96 = .ok (.iload 4, 2) := by decide +kernel
theorem dX11_settlesOthers_98 : decode cX11_settlesOthers 98 = .ok (.iaload, 1) := by decide +kernel
theorem dX11_settlesOthers_99 : decode cX11_settlesOthers 99 = .ok (.invokevirtual 217, 3) := by decide +kernel
theorem dX11_settlesOthers_102 : decode cX11_settlesOthers 102 = .ok (.istore 6, 2) := by decide +kernel
theorem dX11_settlesOthers_104 : decode cX11_settlesOthers 104 = .ok (.iload_n 3, 1) := by decide +kernel
theorem dX11_settlesOthers_105 : decode cX11_settlesOthers 105 = .ok (.iload 4, 2) := by decide +kernel
theorem dX11_settlesOthers_107 : decode cX11_settlesOthers 107 = .ok (.if_icmp .ge 33, 3) := by decide +kernel
theorem dX11_settlesOthers_110 : decode cX11_settlesOthers 110 = .ok (.aload_n 0, 1) := by decide +kernel
theorem dX11_settlesOthers_111 : decode cX11_settlesOthers 111 = .ok (.getfield 40, 3) := by decide +kernel
theorem dX11_settlesOthers_114 : decode cX11_settlesOthers 114 = .ok (.aload_n 0, 1) := by decide +kernel
theorem dX11_settlesOthers_115 : decode cX11_settlesOthers 115 = .ok (.getfield 61, 3) := by decide +kernel
theorem dX11_settlesOthers_118 : decode cX11_settlesOthers 118 = .ok (.iload_n 3, 1) := by decide +kernel
theorem dX11_settlesOthers_119 : decode cX11_settlesOthers 119 = .ok (.iaload, 1) := by decide +kernel
theorem dX11_settlesOthers_120 : decode cX11_settlesOthers 120 = .ok (.iload 5, 2) := by decide +kernel
theorem dX11_settlesOthers_122 : decode cX11_settlesOthers 122 = .ok (.iload 6, 2) := by decide +kernel
theorem dX11_settlesOthers_124 : decode cX11_settlesOthers 124 = .ok (.if_icmp .ne 8, 3) := by decide +kernel
theorem dX11_settlesOthers_127 : decode cX11_settlesOthers 127 = .ok (.iload 5, 2) := by decide +kernel
theorem dX11_settlesOthers_129 : decode cX11_settlesOthers 129 = .ok (.goto 4, 3) := by decide +kernel
theorem dX11_settlesOthers_132 : decode cX11_settlesOthers 132 = .ok (.iload_n 2, 1) := by decide +kernel
theorem dX11_settlesOthers_133 : decode cX11_settlesOthers 133 = .ok (.iastore, 1) := by decide +kernel
theorem dX11_settlesOthers_134 : decode cX11_settlesOthers 134 = .ok (.iinc 3 1, 3) := by decide +kernel
theorem dX11_settlesOthers_137 : decode cX11_settlesOthers 137 = .ok (.goto (-33), 3) := by decide +kernel
theorem dX11_settlesOthers_140 : decode cX11_settlesOthers 140 = .ok (.goto (-138), 3) := by decide +kernel
theorem dX11_settlesOthers_143 : decode cX11_settlesOthers 143 = .ok (.return_, 1) := by decide +kernel
theorem dX11_laysLevels_0 : decode cX11_laysLevels 0 = .ok (.aload_n 0, 1) := by decide +kernel
theorem dX11_laysLevels_1 : decode cX11_laysLevels 1 = .ok (.iload_n 1, 1) := by decide +kernel
theorem dX11_laysLevels_2 : decode cX11_laysLevels 2 = .ok (.invokevirtual 221, 3) := by decide +kernel
theorem dX11_laysLevels_5 : decode cX11_laysLevels 5 = .ok (.aload_n 0, 1) := by decide +kernel
theorem dX11_laysLevels_6 : decode cX11_laysLevels 6 = .ok (.iload_n 1, 1) := by decide +kernel
theorem dX11_laysLevels_7 : decode cX11_laysLevels 7 = .ok (.iload_n 2, 1) := by decide +kernel
theorem dX11_laysLevels_8 : decode cX11_laysLevels 8 = .ok (.iconst (-1), 1) := by decide +kernel
theorem dX11_laysLevels_9 : decode cX11_laysLevels 9 = .ok (.if_icmp .ne 18, 3) := by decide +kernel
theorem dX11_laysLevels_12 : decode cX11_laysLevels 12 = .ok (.aload_n 0, 1) := by decide +kernel
theorem dX11_laysLevels_13 : decode cX11_laysLevels 13 = .ok (.iload_n 1, 1) := by decide +kernel
theorem dX11_laysLevels_14 : decode cX11_laysLevels 14 = .ok (.iconst 0, 1) := by decide +kernel
theorem dX11_laysLevels_15 : decode cX11_laysLevels 15 = .ok (.aload_n 0, 1) := by decide +kernel
theorem dX11_laysLevels_16 : decode cX11_laysLevels 16 = .ok (.getfield 19, 3) := by decide +kernel
theorem dX11_laysLevels_19 : decode cX11_laysLevels 19 = .ok (.iload_n 1, 1) := by decide +kernel
theorem dX11_laysLevels_20 : decode cX11_laysLevels 20 = .ok (.iaload, 1) := by decide +kernel
theorem dX11_laysLevels_21 : decode cX11_laysLevels 21 = .ok (.invokevirtual 214, 3) := by decide +kernel
theorem dX11_laysLevels_24 : decode cX11_laysLevels 24 = .ok (.goto 4, 3) := by decide +kernel
theorem dX11_laysLevels_27 : decode cX11_laysLevels 27 = .ok (.iload_n 2, 1) := by decide +kernel
theorem dX11_laysLevels_28 : decode cX11_laysLevels 28 = .ok (.invokevirtual 224, 3) := by decide +kernel
theorem dX11_laysLevels_31 : decode cX11_laysLevels 31 = .ok (.iconst 0, 1) := by decide +kernel
theorem dX11_laysLevels_32 : decode cX11_laysLevels 32 = .ok (.istore_n 3, 1) := by decide +kernel
theorem dX11_laysLevels_33 : decode cX11_laysLevels 33 = .ok (.iload_n 3, 1) := by decide +kernel
theorem dX11_laysLevels_34 : decode cX11_laysLevels 34 = .ok (.aload_n 0, 1) := by decide +kernel
theorem dX11_laysLevels_35 : decode cX11_laysLevels 35 = .ok (.getfield 207, 3) := by decide +kernel
theorem dX11_laysLevels_38 : decode cX11_laysLevels 38 = .ok (.if_icmp .ge 174, 3) := by decide +kernel
theorem dX11_laysLevels_41 : decode cX11_laysLevels 41 = .ok (.iconst 0, 1) := by decide +kernel
theorem dX11_laysLevels_42 : decode cX11_laysLevels 42 = .ok (.istore 4, 2) := by decide +kernel
theorem dX11_laysLevels_44 : decode cX11_laysLevels 44 = .ok (.aload_n 0, 1) := by decide +kernel
theorem dX11_laysLevels_45 : decode cX11_laysLevels 45 = .ok (.getfield 52, 3) := by decide +kernel
theorem dX11_laysLevels_48 : decode cX11_laysLevels 48 = .ok (.iload_n 3, 1) := by decide +kernel
theorem dX11_laysLevels_49 : decode cX11_laysLevels 49 = .ok (.iaload, 1) := by decide +kernel
theorem dX11_laysLevels_50 : decode cX11_laysLevels 50 = .ok (.istore 5, 2) := by decide +kernel
theorem dX11_laysLevels_52 : decode cX11_laysLevels 52 = .ok (.iconst 0, 1) := by decide +kernel
theorem dX11_laysLevels_53 : decode cX11_laysLevels 53 = .ok (.istore 6, 2) := by decide +kernel
theorem dX11_laysLevels_55 : decode cX11_laysLevels 55 = .ok (.iload 6, 2) := by decide +kernel
theorem dX11_laysLevels_57 : decode cX11_laysLevels 57 = .ok (.aload_n 0, 1) := by decide +kernel
theorem dX11_laysLevels_58 : decode cX11_laysLevels 58 = .ok (.getfield 19, 3) := by decide +kernel
theorem dX11_laysLevels_61 : decode cX11_laysLevels 61 = .ok (.iload_n 1, 1) := by decide +kernel
theorem dX11_laysLevels_62 : decode cX11_laysLevels 62 = .ok (.iaload, 1) := by decide +kernel
theorem dX11_laysLevels_63 : decode cX11_laysLevels 63 = .ok (.if_icmp .ge 39, 3) := by decide +kernel
theorem dX11_laysLevels_66 : decode cX11_laysLevels 66 = .ok (.aload_n 0, 1) := by decide +kernel
theorem dX11_laysLevels_67 : decode cX11_laysLevels 67 = .ok (.getfield 61, 3) := by decide +kernel
theorem dX11_laysLevels_70 : decode cX11_laysLevels 70 = .ok (.iload 4, 2) := by decide +kernel
theorem dX11_laysLevels_72 : decode cX11_laysLevels 72 = .ok (.iload 6, 2) := by decide +kernel
theorem dX11_laysLevels_74 : decode cX11_laysLevels 74 = .ok (.iastore, 1) := by decide +kernel
theorem dX11_laysLevels_75 : decode cX11_laysLevels 75 = .ok (.iload 4, 2) := by decide +kernel
theorem dX11_laysLevels_77 : decode cX11_laysLevels 77 = .ok (.aload_n 0, 1) := by decide +kernel
theorem dX11_laysLevels_78 : decode cX11_laysLevels 78 = .ok (.getfield 37, 3) := by decide +kernel
theorem dX11_laysLevels_81 : decode cX11_laysLevels 81 = .ok (.iload 6, 2) := by decide +kernel
theorem dX11_laysLevels_83 : decode cX11_laysLevels 83 = .ok (.iaload, 1) := by decide +kernel
theorem dX11_laysLevels_84 : decode cX11_laysLevels 84 = .ok (.iload_n 3, 1) := by decide +kernel
theorem dX11_laysLevels_85 : decode cX11_laysLevels 85 = .ok (.if_icmp .ne 7, 3) := by decide +kernel
theorem dX11_laysLevels_88 : decode cX11_laysLevels 88 = .ok (.iconst 1, 1) := by decide +kernel
theorem dX11_laysLevels_89 : decode cX11_laysLevels 89 = .ok (.goto 4, 3) := by decide +kernel
theorem dX11_laysLevels_92 : decode cX11_laysLevels 92 = .ok (.iconst 0, 1) := by decide +kernel
theorem dX11_laysLevels_93 : decode cX11_laysLevels 93 = .ok (.iadd, 1) := by decide +kernel
theorem dX11_laysLevels_94 : decode cX11_laysLevels 94 = .ok (.istore 4, 2) := by decide +kernel
theorem dX11_laysLevels_96 : decode cX11_laysLevels 96 = .ok (.iinc 6 1, 3) := by decide +kernel
theorem dX11_laysLevels_99 : decode cX11_laysLevels 99 = .ok (.goto (-44), 3) := by decide +kernel
theorem dX11_laysLevels_102 : decode cX11_laysLevels 102 = .ok (.aload_n 0, 1) := by decide +kernel
theorem dX11_laysLevels_103 : decode cX11_laysLevels 103 = .ok (.iload_n 1, 1) := by decide +kernel
theorem dX11_laysLevels_104 : decode cX11_laysLevels 104 = .ok (.iload 4, 2) := by decide +kernel
theorem dX11_laysLevels_106 : decode cX11_laysLevels 106 = .ok (.iload 5, 2) := by decide +kernel
theorem dX11_laysLevels_108 : decode cX11_laysLevels 108 = .ok (.invokevirtual 228, 3) := by decide +kernel
theorem dX11_laysLevels_111 : decode cX11_laysLevels 111 = .ok (.aload_n 0, 1) := by decide +kernel
theorem dX11_laysLevels_112 : decode cX11_laysLevels 112 = .ok (.iload_n 1, 1) := by decide +kernel
theorem dX11_laysLevels_113 : decode cX11_laysLevels 113 = .ok (.iload 4, 2) := by decide +kernel
theorem dX11_laysLevels_115 : decode cX11_laysLevels 115 = .ok (.invokevirtual 231, 3) := by decide +kernel
theorem dX11_laysLevels_118 : decode cX11_laysLevels 118 = .ok (.aload_n 0, 1) := by decide +kernel
theorem dX11_laysLevels_119 : decode cX11_laysLevels 119 = .ok (.iload 4, 2) := by decide +kernel
theorem dX11_laysLevels_121 : decode cX11_laysLevels 121 = .ok (.iload 5, 2) := by decide +kernel
theorem dX11_laysLevels_123 : decode cX11_laysLevels 123 = .ok (.iconst 2, 1) := by decide +kernel
theorem dX11_laysLevels_124 : decode cX11_laysLevels 124 = .ok (.irem, 1) := by decide +kernel
theorem dX11_laysLevels_125 : decode cX11_laysLevels 125 = .ok (.invokevirtual 234, 3) := by decide +kernel
theorem dX11_laysLevels_128 : decode cX11_laysLevels 128 = .ok (.aload_n 0, 1) := by decide +kernel
theorem dX11_laysLevels_129 : decode cX11_laysLevels 129 = .ok (.iload 4, 2) := by decide +kernel
theorem dX11_laysLevels_131 : decode cX11_laysLevels 131 = .ok (.iload 5, 2) := by decide +kernel
theorem dX11_laysLevels_133 : decode cX11_laysLevels 133 = .ok (.iconst 2, 1) := by decide +kernel
theorem dX11_laysLevels_134 : decode cX11_laysLevels 134 = .ok (.irem, 1) := by decide +kernel
theorem dX11_laysLevels_135 : decode cX11_laysLevels 135 = .ok (.invokevirtual 237, 3) := by decide +kernel
theorem dX11_laysLevels_138 : decode cX11_laysLevels 138 = .ok (.iconst 0, 1) := by decide +kernel
theorem dX11_laysLevels_139 : decode cX11_laysLevels 139 = .ok (.istore 6, 2) := by decide +kernel
theorem dX11_laysLevels_141 : decode cX11_laysLevels 141 = .ok (.iload 6, 2) := by decide +kernel
theorem dX11_laysLevels_143 : decode cX11_laysLevels 143 = .ok (.iload 4, 2) := by decide +kernel
theorem dX11_laysLevels_145 : decode cX11_laysLevels 145 = .ok (.if_icmp .ge 61, 3) := by decide +kernel
theorem dX11_laysLevels_148 : decode cX11_laysLevels 148 = .ok (.aload_n 0, 1) := by decide +kernel
theorem dX11_laysLevels_149 : decode cX11_laysLevels 149 = .ok (.getfield 40, 3) := by decide +kernel
theorem dX11_laysLevels_152 : decode cX11_laysLevels 152 = .ok (.aload_n 0, 1) := by decide +kernel
theorem dX11_laysLevels_153 : decode cX11_laysLevels 153 = .ok (.getfield 61, 3) := by decide +kernel
theorem dX11_laysLevels_156 : decode cX11_laysLevels 156 = .ok (.iload 6, 2) := by decide +kernel
theorem dX11_laysLevels_158 : decode cX11_laysLevels 158 = .ok (.iaload, 1) := by decide +kernel
theorem dX11_laysLevels_159 : decode cX11_laysLevels 159 = .ok (.iaload, 1) := by decide +kernel
theorem dX11_laysLevels_160 : decode cX11_laysLevels 160 = .ok (.istore 7, 2) := by decide +kernel
theorem dX11_laysLevels_162 : decode cX11_laysLevels 162 = .ok (.aload_n 0, 1) := by decide +kernel
theorem dX11_laysLevels_163 : decode cX11_laysLevels 163 = .ok (.getfield 34, 3) := by decide +kernel
theorem dX11_laysLevels_166 : decode cX11_laysLevels 166 = .ok (.aload_n 0, 1) := by decide +kernel
theorem dX11_laysLevels_167 : decode cX11_laysLevels 167 = .ok (.getfield 61, 3) := by decide +kernel
theorem dX11_laysLevels_170 : decode cX11_laysLevels 170 = .ok (.iload 6, 2) := by decide +kernel
theorem dX11_laysLevels_172 : decode cX11_laysLevels 172 = .ok (.iaload, 1) := by decide +kernel
theorem dX11_laysLevels_173 : decode cX11_laysLevels 173 = .ok (.iload 5, 2) := by decide +kernel
theorem dX11_laysLevels_175 : decode cX11_laysLevels 175 = .ok (.iload 5, 2) := by decide +kernel
theorem dX11_laysLevels_177 : decode cX11_laysLevels 177 = .ok (.iconst 2, 1) := by decide +kernel
theorem dX11_laysLevels_178 : decode cX11_laysLevels 178 = .ok (.irem, 1) := by decide +kernel
theorem dX11_laysLevels_179 : decode cX11_laysLevels 179 = .ok (.ifCond .ne 8, 3) := by decide +kernel
theorem dX11_laysLevels_182 : decode cX11_laysLevels 182 = .ok (.iload 7, 2) := by decide +kernel
theorem dX11_laysLevels_184 : decode cX11_laysLevels 184 = .ok (.goto 14, 3) := by decide +kernel
theorem dX11_laysLevels_187 : decode cX11_laysLevels 187 = .ok (.iload 7, 2) := by decide +kernel
theorem dX11_laysLevels_189 : decode cX11_laysLevels 189 = .ok (.iconst 1, 1) := by decide +kernel
theorem dX11_laysLevels_190 : decode cX11_laysLevels 190 = .ok (.if_icmp .ne 7, 3) := by decide +kernel
theorem dX11_laysLevels_193 : decode cX11_laysLevels 193 = .ok (.iconst 0, 1) := by decide +kernel
theorem dX11_laysLevels_194 : decode cX11_laysLevels 194 = .ok (.goto 4, 3) := by decide +kernel
theorem dX11_laysLevels_197 : decode cX11_laysLevels 197 = .ok (.iconst 1, 1) := by decide +kernel
theorem dX11_laysLevels_198 : decode cX11_laysLevels 198 = .ok (.iadd, 1) := by decide +kernel
theorem dX11_laysLevels_199 : decode cX11_laysLevels 199 = .ok (.iastore, 1) := by decide +kernel
theorem dX11_laysLevels_200 : decode cX11_laysLevels 200 = .ok (.iinc 6 1, 3) := by decide +kernel
theorem dX11_laysLevels_203 : decode cX11_laysLevels 203 = .ok (.goto (-62), 3) := by decide +kernel
theorem dX11_laysLevels_206 : decode cX11_laysLevels 206 = .ok (.iinc 3 1, 3) := by decide +kernel
theorem dX11_laysLevels_209 : decode cX11_laysLevels 209 = .ok (.goto (-176), 3) := by decide +kernel
theorem dX11_laysLevels_212 : decode cX11_laysLevels 212 = .ok (.return_, 1) := by decide +kernel
theorem dX11_laysOrder_0 : decode cX11_laysOrder 0 = .ok (.aload_n 0, 1) := by decide +kernel
theorem dX11_laysOrder_1 : decode cX11_laysOrder 1 = .ok (.iload_n 1, 1) := by decide +kernel
theorem dX11_laysOrder_2 : decode cX11_laysOrder 2 = .ok (.iload_n 2, 1) := by decide +kernel
theorem dX11_laysOrder_3 : decode cX11_laysOrder 3 = .ok (.invokevirtual 240, 3) := by decide +kernel
theorem dX11_laysOrder_6 : decode cX11_laysOrder 6 = .ok (.iconst 0, 1) := by decide +kernel
theorem dX11_laysOrder_7 : decode cX11_laysOrder 7 = .ok (.istore_n 3, 1) := by decide +kernel
theorem dX11_laysOrder_8 : decode cX11_laysOrder 8 = .ok (.iload_n 3, 1) := by decide +kernel
theorem dX11_laysOrder_9 : decode cX11_laysOrder 9 = .ok (.aload_n 0, 1) := by decide +kernel
theorem dX11_laysOrder_10 : decode cX11_laysOrder 10 = .ok (.getfield 19, 3) := by decide +kernel
theorem dX11_laysOrder_13 : decode cX11_laysOrder 13 = .ok (.iload_n 1, 1) := by decide +kernel
theorem dX11_laysOrder_14 : decode cX11_laysOrder 14 = .ok (.iaload, 1) := by decide +kernel
theorem dX11_laysOrder_15 : decode cX11_laysOrder 15 = .ok (.if_icmp .ge 16, 3) := by decide +kernel
theorem dX11_laysOrder_18 : decode cX11_laysOrder 18 = .ok (.aload_n 0, 1) := by decide +kernel
theorem dX11_laysOrder_19 : decode cX11_laysOrder 19 = .ok (.getfield 64, 3) := by decide +kernel
theorem dX11_laysOrder_22 : decode cX11_laysOrder 22 = .ok (.iload_n 3, 1) := by decide +kernel
theorem dX11_laysOrder_23 : decode cX11_laysOrder 23 = .ok (.iload_n 3, 1) := by decide +kernel
theorem dX11_laysOrder_24 : decode cX11_laysOrder 24 = .ok (.iastore, 1) := by decide +kernel
theorem dX11_laysOrder_25 : decode cX11_laysOrder 25 = .ok (.iinc 3 1, 3) := by decide +kernel
theorem dX11_laysOrder_28 : decode cX11_laysOrder 28 = .ok (.goto (-20), 3) := by decide +kernel
theorem dX11_laysOrder_31 : decode cX11_laysOrder 31 = .ok (.bipush 13, 2) := by decide +kernel
theorem dX11_laysOrder_33 : decode cX11_laysOrder 33 = .ok (.istore_n 3, 1) := by decide +kernel
theorem dX11_laysOrder_34 : decode cX11_laysOrder 34 = .ok (.iload_n 3, 1) := by decide +kernel
theorem dX11_laysOrder_35 : decode cX11_laysOrder 35 = .ok (.ifCond .le 138, 3) := by decide +kernel
theorem dX11_laysOrder_38 : decode cX11_laysOrder 38 = .ok (.iconst 0, 1) := by decide +kernel
theorem dX11_laysOrder_39 : decode cX11_laysOrder 39 = .ok (.istore 4, 2) := by decide +kernel
theorem dX11_laysOrder_41 : decode cX11_laysOrder 41 = .ok (.iload 4, 2) := by decide +kernel
theorem dX11_laysOrder_43 : decode cX11_laysOrder 43 = .ok (.aload_n 0, 1) := by decide +kernel
theorem dX11_laysOrder_44 : decode cX11_laysOrder 44 = .ok (.getfield 19, 3) := by decide +kernel
theorem dX11_laysOrder_47 : decode cX11_laysOrder 47 = .ok (.iload_n 1, 1) := by decide +kernel
theorem dX11_laysOrder_48 : decode cX11_laysOrder 48 = .ok (.iaload, 1) := by decide +kernel
theorem dX11_laysOrder_49 : decode cX11_laysOrder 49 = .ok (.if_icmp .ge 118, 3) := by decide +kernel
theorem dX11_laysOrder_52 : decode cX11_laysOrder 52 = .ok (.iload 4, 2) := by decide +kernel
theorem dX11_laysOrder_54 : decode cX11_laysOrder 54 = .ok (.istore 5, 2) := by decide +kernel
theorem dX11_laysOrder_56 : decode cX11_laysOrder 56 = .ok (.iload 5, 2) := by decide +kernel
theorem dX11_laysOrder_58 : decode cX11_laysOrder 58 = .ok (.aload_n 0, 1) := by decide +kernel
theorem dX11_laysOrder_59 : decode cX11_laysOrder 59 = .ok (.getfield 19, 3) := by decide +kernel
theorem dX11_laysOrder_62 : decode cX11_laysOrder 62 = .ok (.iload_n 1, 1) := by decide +kernel
theorem dX11_laysOrder_63 : decode cX11_laysOrder 63 = .ok (.iaload, 1) := by decide +kernel
theorem dX11_laysOrder_64 : decode cX11_laysOrder 64 = .ok (.if_icmp .ge 25, 3) := by decide +kernel
theorem dX11_laysOrder_67 : decode cX11_laysOrder 67 = .ok (.aload_n 0, 1) := by decide +kernel
theorem dX11_laysOrder_68 : decode cX11_laysOrder 68 = .ok (.getfield 34, 3) := by decide +kernel
theorem dX11_laysOrder_71 : decode cX11_laysOrder 71 = .ok (.aload_n 0, 1) := by decide +kernel
theorem dX11_laysOrder_72 : decode cX11_laysOrder 72 = .ok (.getfield 64, 3) := by decide +kernel
theorem dX11_laysOrder_75 : decode cX11_laysOrder 75 = .ok (.iload 5, 2) := by decide +kernel
theorem dX11_laysOrder_77 : decode cX11_laysOrder 77 = .ok (.iaload, 1) := by decide +kernel
theorem dX11_laysOrder_78 : decode cX11_laysOrder 78 = .ok (.iaload, 1) := by decide +kernel
theorem dX11_laysOrder_79 : decode cX11_laysOrder 79 = .ok (.iload_n 3, 1) := by decide +kernel
theorem dX11_laysOrder_80 : decode cX11_laysOrder 80 = .ok (.if_icmp .lt 9, 3) := by decide +kernel
theorem dX11_laysOrder_83 : decode cX11_laysOrder 83 = .ok (.iinc 5 1, 3) := by decide +kernel
theorem dX11_laysOrder_86 : decode cX11_laysOrder 86 = .ok (.goto (-30), 3) := by decide +kernel
theorem dX11_laysOrder_89 : decode cX11_laysOrder 89 = .ok (.iconst 0, 1) := by decide +kernel
theorem dX11_laysOrder_90 : decode cX11_laysOrder 90 = .ok (.istore 6, 2) := by decide +kernel
theorem dX11_laysOrder_92 : decode cX11_laysOrder 92 = .ok (.iload 6, 2) := by decide +kernel
theorem dX11_laysOrder_94 : decode cX11_laysOrder 94 = .ok (.iload 5, 2) := by decide +kernel
theorem dX11_laysOrder_96 : decode cX11_laysOrder 96 = .ok (.iload 4, 2) := by decide +kernel
theorem dX11_laysOrder_98 : decode cX11_laysOrder 98 = .ok (.isub, 1) := by decide +kernel
theorem dX11_laysOrder_99 : decode cX11_laysOrder 99 = .ok (.iconst 2, 1) := by decide +kernel
theorem dX11_laysOrder_100 : decode cX11_laysOrder 100 = .ok (.idiv, 1) := by decide +kernel
theorem dX11_laysOrder_101 : decode cX11_laysOrder 101 = .ok (.if_icmp .ge 57, 3) := by decide +kernel
theorem dX11_laysOrder_104 : decode cX11_laysOrder 104 = .ok (.aload_n 0, 1) := by decide +kernel
theorem dX11_laysOrder_105 : decode cX11_laysOrder 105 = .ok (.getfield 64, 3) := by decide +kernel
theorem dX11_laysOrder_108 : decode cX11_laysOrder 108 = .ok (.iload 4, 2) := by decide +kernel
theorem dX11_laysOrder_110 : decode cX11_laysOrder 110 = .ok (.iload 6, 2) := by decide +kernel
theorem dX11_laysOrder_112 : decode cX11_laysOrder 112 = .ok (.iadd, 1) := by decide +kernel
theorem dX11_laysOrder_113 : decode cX11_laysOrder 113 = .ok (.iaload, 1) := by decide +kernel
theorem dX11_laysOrder_114 : decode cX11_laysOrder 114 = .ok (.istore 7, 2) := by decide +kernel
theorem dX11_laysOrder_116 : decode cX11_laysOrder 116 = .ok (.aload_n 0, 1) := by decide +kernel
theorem dX11_laysOrder_117 : decode cX11_laysOrder 117 = .ok (.getfield 64, 3) := by decide +kernel
theorem dX11_laysOrder_120 : decode cX11_laysOrder 120 = .ok (.iload 4, 2) := by decide +kernel
theorem dX11_laysOrder_122 : decode cX11_laysOrder 122 = .ok (.iload 6, 2) := by decide +kernel
theorem dX11_laysOrder_124 : decode cX11_laysOrder 124 = .ok (.iadd, 1) := by decide +kernel
theorem dX11_laysOrder_125 : decode cX11_laysOrder 125 = .ok (.aload_n 0, 1) := by decide +kernel
theorem dX11_laysOrder_126 : decode cX11_laysOrder 126 = .ok (.getfield 64, 3) := by decide +kernel
theorem dX11_laysOrder_129 : decode cX11_laysOrder 129 = .ok (.iload 5, 2) := by decide +kernel
theorem dX11_laysOrder_131 : decode cX11_laysOrder 131 = .ok (.iconst 1, 1) := by decide +kernel
theorem dX11_laysOrder_132 : decode cX11_laysOrder 132 = .ok (.isub, 1) := by decide +kernel
theorem dX11_laysOrder_133 : decode cX11_laysOrder 133 = .ok (.iload 6, 2) := by decide +kernel
theorem dX11_laysOrder_135 : decode cX11_laysOrder 135 = .ok (.isub, 1) := by decide +kernel
theorem dX11_laysOrder_136 : decode cX11_laysOrder 136 = .ok (.iaload, 1) := by decide +kernel
theorem dX11_laysOrder_137 : decode cX11_laysOrder 137 = .ok (.iastore, 1) := by decide +kernel
theorem dX11_laysOrder_138 : decode cX11_laysOrder 138 = .ok (.aload_n 0, 1) := by decide +kernel
theorem dX11_laysOrder_139 : decode cX11_laysOrder 139 = .ok (.getfield 64, 3) := by decide +kernel
theorem dX11_laysOrder_142 : decode cX11_laysOrder 142 = .ok (.iload 5, 2) := by decide +kernel
theorem dX11_laysOrder_144 : decode cX11_laysOrder 144 = .ok (.iconst 1, 1) := by decide +kernel
theorem dX11_laysOrder_145 : decode cX11_laysOrder 145 = .ok (.isub, 1) := by decide +kernel
theorem dX11_laysOrder_146 : decode cX11_laysOrder 146 = .ok (.iload 6, 2) := by decide +kernel
theorem dX11_laysOrder_148 : decode cX11_laysOrder 148 = .ok (.isub, 1) := by decide +kernel
theorem dX11_laysOrder_149 : decode cX11_laysOrder 149 = .ok (.iload 7, 2) := by decide +kernel
theorem dX11_laysOrder_151 : decode cX11_laysOrder 151 = .ok (.iastore, 1) := by decide +kernel
theorem dX11_laysOrder_152 : decode cX11_laysOrder 152 = .ok (.iinc 6 1, 3) := by decide +kernel
theorem dX11_laysOrder_155 : decode cX11_laysOrder 155 = .ok (.goto (-63), 3) := by decide +kernel
theorem dX11_laysOrder_158 : decode cX11_laysOrder 158 = .ok (.iload 5, 2) := by decide +kernel
theorem dX11_laysOrder_160 : decode cX11_laysOrder 160 = .ok (.iconst 1, 1) := by decide +kernel
theorem dX11_laysOrder_161 : decode cX11_laysOrder 161 = .ok (.iadd, 1) := by decide +kernel
theorem dX11_laysOrder_162 : decode cX11_laysOrder 162 = .ok (.istore 4, 2) := by decide +kernel
theorem dX11_laysOrder_164 : decode cX11_laysOrder 164 = .ok (.goto (-123), 3) := by decide +kernel
theorem dX11_laysOrder_167 : decode cX11_laysOrder 167 = .ok (.iinc 3 (-1), 3) := by decide +kernel
theorem dX11_laysOrder_170 : decode cX11_laysOrder 170 = .ok (.goto (-136), 3) := by decide +kernel
theorem dX11_laysOrder_173 : decode cX11_laysOrder 173 = .ok (.return_, 1) := by decide +kernel
theorem dX11_base_0 : decode cX11_base 0 = .ok (.aload_n 0, 1) := by decide +kernel
theorem dX11_base_1 : decode cX11_base 1 = .ok (.iload_n 1, 1) := by decide +kernel
theorem dX11_base_2 : decode cX11_base 2 = .ok (.invokestatic 145, 3) := by decide +kernel
theorem dX11_base_5 : decode cX11_base 5 = .ok (.ifCond .eq 7, 3) := by decide +kernel
theorem dX11_base_8 : decode cX11_base 8 = .ok (.iconst 0, 1) := by decide +kernel
theorem dX11_base_9 : decode cX11_base 9 = .ok (.goto 4, 3) := by decide +kernel
theorem dX11_base_12 : decode cX11_base 12 = .ok (.iconst 1, 1) := by decide +kernel
theorem dX11_base_13 : decode cX11_base 13 = .ok (.invokevirtual 118, 3) := by decide +kernel
theorem dX11_base_16 : decode cX11_base 16 = .ok (.ifCond .ne 5, 3) := by decide +kernel
theorem dX11_base_19 : decode cX11_base 19 = .ok (.iconst 0, 1) := by decide +kernel
theorem dX11_base_20 : decode cX11_base 20 = .ok (.ireturn, 1) := by decide +kernel
theorem dX11_base_21 : decode cX11_base 21 = .ok (.aload_n 0, 1) := by decide +kernel
theorem dX11_base_22 : decode cX11_base 22 = .ok (.iload_n 1, 1) := by decide +kernel
theorem dX11_base_23 : decode cX11_base 23 = .ok (.invokevirtual 221, 3) := by decide +kernel
theorem dX11_base_26 : decode cX11_base 26 = .ok (.aload_n 0, 1) := by decide +kernel
theorem dX11_base_27 : decode cX11_base 27 = .ok (.iload_n 1, 1) := by decide +kernel
theorem dX11_base_28 : decode cX11_base 28 = .ok (.iconst 0, 1) := by decide +kernel
theorem dX11_base_29 : decode cX11_base 29 = .ok (.aload_n 0, 1) := by decide +kernel
theorem dX11_base_30 : decode cX11_base 30 = .ok (.getfield 19, 3) := by decide +kernel
theorem dX11_base_33 : decode cX11_base 33 = .ok (.iload_n 1, 1) := by decide +kernel
theorem dX11_base_34 : decode cX11_base 34 = .ok (.iaload, 1) := by decide +kernel
theorem dX11_base_35 : decode cX11_base 35 = .ok (.invokevirtual 214, 3) := by decide +kernel
theorem dX11_base_38 : decode cX11_base 38 = .ok (.ireturn, 1) := by decide +kernel
theorem dX11_isPlace_0 : decode cX11_isPlace 0 = .ok (.iload_n 1, 1) := by decide +kernel
theorem dX11_isPlace_1 : decode cX11_isPlace 1 = .ok (.invokestatic 145, 3) := by decide +kernel
theorem dX11_isPlace_4 : decode cX11_isPlace 4 = .ok (.ifCond .eq 23, 3) := by decide +kernel
theorem dX11_isPlace_7 : decode cX11_isPlace 7 = .ok (.iload_n 2, 1) := by decide +kernel
theorem dX11_isPlace_8 : decode cX11_isPlace 8 = .ok (.iconst 0, 1) := by decide +kernel
theorem dX11_isPlace_9 : decode cX11_isPlace 9 = .ok (.aload_n 0, 1) := by decide +kernel
theorem dX11_isPlace_10 : decode cX11_isPlace 10 = .ok (.getfield 19, 3) := by decide +kernel
theorem dX11_isPlace_13 : decode cX11_isPlace 13 = .ok (.iload_n 1, 1) := by decide +kernel
theorem dX11_isPlace_14 : decode cX11_isPlace 14 = .ok (.iaload, 1) := by decide +kernel
theorem dX11_isPlace_15 : decode cX11_isPlace 15 = .ok (.iconst 1, 1) := by decide +kernel
theorem dX11_isPlace_16 : decode cX11_isPlace 16 = .ok (.isub, 1) := by decide +kernel
theorem dX11_isPlace_17 : decode cX11_isPlace 17 = .ok (.invokestatic 111, 3) := by decide +kernel
theorem dX11_isPlace_20 : decode cX11_isPlace 20 = .ok (.ifCond .eq 7, 3) := by decide +kernel
theorem dX11_isPlace_23 : decode cX11_isPlace 23 = .ok (.iconst 1, 1) := by decide +kernel
theorem dX11_isPlace_24 : decode cX11_isPlace 24 = .ok (.goto 4, 3) := by decide +kernel
theorem dX11_isPlace_27 : decode cX11_isPlace 27 = .ok (.iconst 0, 1) := by decide +kernel
theorem dX11_isPlace_28 : decode cX11_isPlace 28 = .ok (.ireturn, 1) := by decide +kernel
theorem dX11_level_0 : decode cX11_level 0 = .ok (.aload_n 0, 1) := by decide +kernel
theorem dX11_level_1 : decode cX11_level 1 = .ok (.aload_n 0, 1) := by decide +kernel
theorem dX11_level_2 : decode cX11_level 2 = .ok (.iload_n 1, 1) := by decide +kernel
theorem dX11_level_3 : decode cX11_level 3 = .ok (.iload_n 2, 1) := by decide +kernel
theorem dX11_level_4 : decode cX11_level 4 = .ok (.invokevirtual 243, 3) := by decide +kernel
theorem dX11_level_7 : decode cX11_level 7 = .ok (.ifCond .ne 7, 3) := by decide +kernel
theorem dX11_level_10 : decode cX11_level 10 = .ok (.iconst 1, 1) := by decide +kernel
theorem dX11_level_11 : decode cX11_level 11 = .ok (.goto 17, 3) := by decide +kernel
theorem dX11_level_14 : decode cX11_level 14 = .ok (.iload_n 3, 1) := by decide +kernel
theorem dX11_level_15 : decode cX11_level 15 = .ok (.iconst (-1), 1) := by decide +kernel
theorem dX11_level_16 : decode cX11_level 16 = .ok (.iconst 1, 1) := by decide +kernel
theorem dX11_level_17 : decode cX11_level 17 = .ok (.invokestatic 111, 3) := by decide +kernel
theorem dX11_level_20 : decode cX11_level 20 = .ok (.ifCond .eq 7, 3) := by decide +kernel
theorem dX11_level_23 : decode cX11_level 23 = .ok (.iconst 0, 1) := by decide +kernel
theorem dX11_level_24 : decode cX11_level 24 = .ok (.goto 4, 3) := by decide +kernel
theorem dX11_level_27 : decode cX11_level 27 = .ok (.iconst 2, 1) := by decide +kernel
theorem dX11_level_28 : decode cX11_level 28 = .ok (.invokevirtual 118, 3) := by decide +kernel
theorem dX11_level_31 : decode cX11_level 31 = .ok (.ifCond .ne 5, 3) := by decide +kernel
theorem dX11_level_34 : decode cX11_level 34 = .ok (.iconst 0, 1) := by decide +kernel
theorem dX11_level_35 : decode cX11_level 35 = .ok (.ireturn, 1) := by decide +kernel
theorem dX11_level_36 : decode cX11_level 36 = .ok (.aload_n 0, 1) := by decide +kernel
theorem dX11_level_37 : decode cX11_level 37 = .ok (.iload_n 1, 1) := by decide +kernel
theorem dX11_level_38 : decode cX11_level 38 = .ok (.iload_n 3, 1) := by decide +kernel
theorem dX11_level_39 : decode cX11_level 39 = .ok (.invokevirtual 240, 3) := by decide +kernel
theorem dX11_level_42 : decode cX11_level 42 = .ok (.aload_n 0, 1) := by decide +kernel
theorem dX11_level_43 : decode cX11_level 43 = .ok (.getfield 34, 3) := by decide +kernel
theorem dX11_level_46 : decode cX11_level 46 = .ok (.iload_n 2, 1) := by decide +kernel
theorem dX11_level_47 : decode cX11_level 47 = .ok (.iaload, 1) := by decide +kernel
theorem dX11_level_48 : decode cX11_level 48 = .ok (.ireturn, 1) := by decide +kernel
theorem dX11_shown_0 : decode cX11_shown 0 = .ok (.aload_n 0, 1) := by decide +kernel
theorem dX11_shown_1 : decode cX11_shown 1 = .ok (.aload_n 0, 1) := by decide +kernel
theorem dX11_shown_2 : decode cX11_shown 2 = .ok (.iload_n 1, 1) := by decide +kernel
theorem dX11_shown_3 : decode cX11_shown 3 = .ok (.iload_n 2, 1) := by decide +kernel
theorem dX11_shown_4 : decode cX11_shown 4 = .ok (.invokevirtual 243, 3) := by decide +kernel
theorem dX11_shown_7 : decode cX11_shown 7 = .ok (.ifCond .ne 7, 3) := by decide +kernel
theorem dX11_shown_10 : decode cX11_shown 10 = .ok (.iconst 1, 1) := by decide +kernel
theorem dX11_shown_11 : decode cX11_shown 11 = .ok (.goto 17, 3) := by decide +kernel
theorem dX11_shown_14 : decode cX11_shown 14 = .ok (.iload_n 3, 1) := by decide +kernel
theorem dX11_shown_15 : decode cX11_shown 15 = .ok (.iconst (-1), 1) := by decide +kernel
theorem dX11_shown_16 : decode cX11_shown 16 = .ok (.iconst 1, 1) := by decide +kernel
theorem dX11_shown_17 : decode cX11_shown 17 = .ok (.invokestatic 111, 3) := by decide +kernel
theorem dX11_shown_20 : decode cX11_shown 20 = .ok (.ifCond .eq 7, 3) := by decide +kernel
theorem dX11_shown_23 : decode cX11_shown 23 = .ok (.iconst 0, 1) := by decide +kernel
theorem dX11_shown_24 : decode cX11_shown 24 = .ok (.goto 4, 3) := by decide +kernel
theorem dX11_shown_27 : decode cX11_shown 27 = .ok (.iconst 2, 1) := by decide +kernel
theorem dX11_shown_28 : decode cX11_shown 28 = .ok (.invokevirtual 118, 3) := by decide +kernel
theorem dX11_shown_31 : decode cX11_shown 31 = .ok (.ifCond .ne 5, 3) := by decide +kernel
theorem dX11_shown_34 : decode cX11_shown 34 = .ok (.iconst 0, 1) := by decide +kernel
theorem dX11_shown_35 : decode cX11_shown 35 = .ok (.ireturn, 1) := by decide +kernel
theorem dX11_shown_36 : decode cX11_shown 36 = .ok (.aload_n 0, 1) := by decide +kernel
theorem dX11_shown_37 : decode cX11_shown 37 = .ok (.iload_n 1, 1) := by decide +kernel
theorem dX11_shown_38 : decode cX11_shown 38 = .ok (.iload_n 3, 1) := by decide +kernel
theorem dX11_shown_39 : decode cX11_shown 39 = .ok (.invokevirtual 246, 3) := by decide +kernel
theorem dX11_shown_42 : decode cX11_shown 42 = .ok (.aload_n 0, 1) := by decide +kernel
theorem dX11_shown_43 : decode cX11_shown 43 = .ok (.getfield 64, 3) := by decide +kernel
theorem dX11_shown_46 : decode cX11_shown 46 = .ok (.iload_n 2, 1) := by decide +kernel
theorem dX11_shown_47 : decode cX11_shown 47 = .ok (.iaload, 1) := by decide +kernel
theorem dX11_shown_48 : decode cX11_shown 48 = .ok (.ireturn, 1) := by decide +kernel
theorem dX11_bySight_0 : decode cX11_bySight 0 = .ok (.aload_n 0, 1) := by decide +kernel
theorem dX11_bySight_1 : decode cX11_bySight 1 = .ok (.aload_n 0, 1) := by decide +kernel
theorem dX11_bySight_2 : decode cX11_bySight 2 = .ok (.iload_n 1, 1) := by decide +kernel
theorem dX11_bySight_3 : decode cX11_bySight 3 = .ok (.iload_n 2, 1) := by decide +kernel
theorem dX11_bySight_4 : decode cX11_bySight 4 = .ok (.invokevirtual 243, 3) := by decide +kernel
theorem dX11_bySight_7 : decode cX11_bySight 7 = .ok (.ifCond .eq 7, 3) := by decide +kernel
theorem dX11_bySight_10 : decode cX11_bySight 10 = .ok (.iconst 0, 1) := by decide +kernel
theorem dX11_bySight_11 : decode cX11_bySight 11 = .ok (.goto 4, 3) := by decide +kernel
theorem dX11_bySight_14 : decode cX11_bySight 14 = .ok (.iconst 1, 1) := by decide +kernel
theorem dX11_bySight_15 : decode cX11_bySight 15 = .ok (.invokevirtual 118, 3) := by decide +kernel
theorem dX11_bySight_18 : decode cX11_bySight 18 = .ok (.ifCond .ne 5, 3) := by decide +kernel
theorem dX11_bySight_21 : decode cX11_bySight 21 = .ok (.iconst 0, 1) := by decide +kernel
theorem dX11_bySight_22 : decode cX11_bySight 22 = .ok (.ireturn, 1) := by decide +kernel
theorem dX11_bySight_23 : decode cX11_bySight 23 = .ok (.aload_n 0, 1) := by decide +kernel
theorem dX11_bySight_24 : decode cX11_bySight 24 = .ok (.iload_n 1, 1) := by decide +kernel
theorem dX11_bySight_25 : decode cX11_bySight 25 = .ok (.iconst (-1), 1) := by decide +kernel
theorem dX11_bySight_26 : decode cX11_bySight 26 = .ok (.invokevirtual 246, 3) := by decide +kernel
theorem dX11_bySight_29 : decode cX11_bySight 29 = .ok (.iconst 0, 1) := by decide +kernel
theorem dX11_bySight_30 : decode cX11_bySight 30 = .ok (.istore 4, 2) := by decide +kernel
theorem dX11_bySight_32 : decode cX11_bySight 32 = .ok (.aload_n 0, 1) := by decide +kernel
theorem dX11_bySight_33 : decode cX11_bySight 33 = .ok (.getfield 64, 3) := by decide +kernel
theorem dX11_bySight_36 : decode cX11_bySight 36 = .ok (.iload 4, 2) := by decide +kernel
theorem dX11_bySight_38 : decode cX11_bySight 38 = .ok (.iaload, 1) := by decide +kernel
theorem dX11_bySight_39 : decode cX11_bySight 39 = .ok (.iload_n 2, 1) := by decide +kernel
theorem dX11_bySight_40 : decode cX11_bySight 40 = .ok (.if_icmp .eq 9, 3) := by decide +kernel
theorem dX11_bySight_43 : decode cX11_bySight 43 = .ok (.iinc 4 1, 3) := by decide +kernel
theorem dX11_bySight_46 : decode cX11_bySight 46 = .ok (.goto (-14), 3) := by decide +kernel
theorem dX11_bySight_49 : decode cX11_bySight 49 = .ok (.iload 4, 2) := by decide +kernel
theorem dX11_bySight_51 : decode cX11_bySight 51 = .ok (.iload_n 3, 1) := by decide +kernel
theorem dX11_bySight_52 : decode cX11_bySight 52 = .ok (.ifCond .eq 7, 3) := by decide +kernel
theorem dX11_bySight_55 : decode cX11_bySight 55 = .ok (.iconst 1, 1) := by decide +kernel
theorem dX11_bySight_56 : decode cX11_bySight 56 = .ok (.goto 4, 3) := by decide +kernel
theorem dX11_bySight_59 : decode cX11_bySight 59 = .ok (.iconst (-1), 1) := by decide +kernel
theorem dX11_bySight_60 : decode cX11_bySight 60 = .ok (.iadd, 1) := by decide +kernel
theorem dX11_bySight_61 : decode cX11_bySight 61 = .ok (.istore 4, 2) := by decide +kernel
theorem dX11_bySight_63 : decode cX11_bySight 63 = .ok (.iload 4, 2) := by decide +kernel
theorem dX11_bySight_65 : decode cX11_bySight 65 = .ok (.iconst 0, 1) := by decide +kernel
theorem dX11_bySight_66 : decode cX11_bySight 66 = .ok (.aload_n 0, 1) := by decide +kernel
theorem dX11_bySight_67 : decode cX11_bySight 67 = .ok (.getfield 19, 3) := by decide +kernel
theorem dX11_bySight_70 : decode cX11_bySight 70 = .ok (.iload_n 1, 1) := by decide +kernel
theorem dX11_bySight_71 : decode cX11_bySight 71 = .ok (.iaload, 1) := by decide +kernel
theorem dX11_bySight_72 : decode cX11_bySight 72 = .ok (.iconst 1, 1) := by decide +kernel
theorem dX11_bySight_73 : decode cX11_bySight 73 = .ok (.isub, 1) := by decide +kernel
theorem dX11_bySight_74 : decode cX11_bySight 74 = .ok (.invokestatic 111, 3) := by decide +kernel
theorem dX11_bySight_77 : decode cX11_bySight 77 = .ok (.ifCond .eq 35, 3) := by decide +kernel
theorem dX11_bySight_80 : decode cX11_bySight 80 = .ok (.aload_n 0, 1) := by decide +kernel
theorem dX11_bySight_81 : decode cX11_bySight 81 = .ok (.iload_n 1, 1) := by decide +kernel
theorem dX11_bySight_82 : decode cX11_bySight 82 = .ok (.aload_n 0, 1) := by decide +kernel
theorem dX11_bySight_83 : decode cX11_bySight 83 = .ok (.getfield 64, 3) := by decide +kernel
theorem dX11_bySight_86 : decode cX11_bySight 86 = .ok (.iload 4, 2) := by decide +kernel
theorem dX11_bySight_88 : decode cX11_bySight 88 = .ok (.iaload, 1) := by decide +kernel
theorem dX11_bySight_89 : decode cX11_bySight 89 = .ok (.invokevirtual 249, 3) := by decide +kernel
theorem dX11_bySight_92 : decode cX11_bySight 92 = .ok (.ifCond .ne 20, 3) := by decide +kernel
theorem dX11_bySight_95 : decode cX11_bySight 95 = .ok (.iload 4, 2) := by decide +kernel
theorem dX11_bySight_97 : decode cX11_bySight 97 = .ok (.iload_n 3, 1) := by decide +kernel
theorem dX11_bySight_98 : decode cX11_bySight 98 = .ok (.ifCond .eq 7, 3) := by decide +kernel
theorem dX11_bySight_101 : decode cX11_bySight 101 = .ok (.iconst 1, 1) := by decide +kernel
theorem dX11_bySight_102 : decode cX11_bySight 102 = .ok (.goto 4, 3) := by decide +kernel
theorem dX11_bySight_105 : decode cX11_bySight 105 = .ok (.iconst (-1), 1) := by decide +kernel
theorem dX11_bySight_106 : decode cX11_bySight 106 = .ok (.iadd, 1) := by decide +kernel
theorem dX11_bySight_107 : decode cX11_bySight 107 = .ok (.istore 4, 2) := by decide +kernel
theorem dX11_bySight_109 : decode cX11_bySight 109 = .ok (.goto (-46), 3) := by decide +kernel
theorem dX11_bySight_112 : decode cX11_bySight 112 = .ok (.iload 4, 2) := by decide +kernel
theorem dX11_bySight_114 : decode cX11_bySight 114 = .ok (.iconst 0, 1) := by decide +kernel
theorem dX11_bySight_115 : decode cX11_bySight 115 = .ok (.aload_n 0, 1) := by decide +kernel
theorem dX11_bySight_116 : decode cX11_bySight 116 = .ok (.getfield 19, 3) := by decide +kernel
theorem dX11_bySight_119 : decode cX11_bySight 119 = .ok (.iload_n 1, 1) := by decide +kernel
theorem dX11_bySight_120 : decode cX11_bySight 120 = .ok (.iaload, 1) := by decide +kernel
theorem dX11_bySight_121 : decode cX11_bySight 121 = .ok (.iconst 1, 1) := by decide +kernel
theorem dX11_bySight_122 : decode cX11_bySight 122 = .ok (.isub, 1) := by decide +kernel
theorem dX11_bySight_123 : decode cX11_bySight 123 = .ok (.invokestatic 111, 3) := by decide +kernel
theorem dX11_bySight_126 : decode cX11_bySight 126 = .ok (.ifCond .eq 13, 3) := by decide +kernel
theorem dX11_bySight_129 : decode cX11_bySight 129 = .ok (.aload_n 0, 1) := by decide +kernel
theorem dX11_bySight_130 : decode cX11_bySight 130 = .ok (.getfield 64, 3) := by decide +kernel
theorem dX11_bySight_133 : decode cX11_bySight 133 = .ok (.iload 4, 2) := by decide +kernel
theorem dX11_bySight_135 : decode cX11_bySight 135 = .ok (.iaload, 1) := by decide +kernel
theorem dX11_bySight_136 : decode cX11_bySight 136 = .ok (.goto 4, 3) := by decide +kernel
theorem dX11_bySight_139 : decode cX11_bySight 139 = .ok (.iconst (-1), 1) := by decide +kernel
theorem dX11_bySight_140 : decode cX11_bySight 140 = .ok (.ireturn, 1) := by decide +kernel
theorem dX11_kindAt_0 : decode cX11_kindAt 0 = .ok (.aload_n 0, 1) := by decide +kernel
theorem dX11_kindAt_1 : decode cX11_kindAt 1 = .ok (.aload_n 0, 1) := by decide +kernel
theorem dX11_kindAt_2 : decode cX11_kindAt 2 = .ok (.iload_n 1, 1) := by decide +kernel
theorem dX11_kindAt_3 : decode cX11_kindAt 3 = .ok (.iload_n 2, 1) := by decide +kernel
theorem dX11_kindAt_4 : decode cX11_kindAt 4 = .ok (.invokevirtual 148, 3) := by decide +kernel
theorem dX11_kindAt_7 : decode cX11_kindAt 7 = .ok (.iconst 2, 1) := by decide +kernel
theorem dX11_kindAt_8 : decode cX11_kindAt 8 = .ok (.invokevirtual 127, 3) := by decide +kernel
theorem dX11_kindAt_11 : decode cX11_kindAt 11 = .ok (.ireturn, 1) := by decide +kernel
theorem dX11_isCluster_0 : decode cX11_isCluster 0 = .ok (.iload_n 2, 1) := by decide +kernel
theorem dX11_isCluster_1 : decode cX11_isCluster 1 = .ok (.ifCond .eq 25, 3) := by decide +kernel
theorem dX11_isCluster_4 : decode cX11_isCluster 4 = .ok (.aload_n 0, 1) := by decide +kernel
theorem dX11_isCluster_5 : decode cX11_isCluster 5 = .ok (.iload_n 1, 1) := by decide +kernel
theorem dX11_isCluster_6 : decode cX11_isCluster 6 = .ok (.iload_n 2, 1) := by decide +kernel
theorem dX11_isCluster_7 : decode cX11_isCluster 7 = .ok (.invokevirtual 252, 3) := by decide +kernel
theorem dX11_isCluster_10 : decode cX11_isCluster 10 = .ok (.iconst 2, 1) := by decide +kernel
theorem dX11_isCluster_11 : decode cX11_isCluster 11 = .ok (.if_icmp .eq 19, 3) := by decide +kernel
theorem dX11_isCluster_14 : decode cX11_isCluster 14 = .ok (.aload_n 0, 1) := by decide +kernel
theorem dX11_isCluster_15 : decode cX11_isCluster 15 = .ok (.iload_n 1, 1) := by decide +kernel
theorem dX11_isCluster_16 : decode cX11_isCluster 16 = .ok (.iload_n 2, 1) := by decide +kernel
theorem dX11_isCluster_17 : decode cX11_isCluster 17 = .ok (.iconst 1, 1) := by decide +kernel
theorem dX11_isCluster_18 : decode cX11_isCluster 18 = .ok (.isub, 1) := by decide +kernel
theorem dX11_isCluster_19 : decode cX11_isCluster 19 = .ok (.invokevirtual 252, 3) := by decide +kernel
theorem dX11_isCluster_22 : decode cX11_isCluster 22 = .ok (.iconst 5, 1) := by decide +kernel
theorem dX11_isCluster_23 : decode cX11_isCluster 23 = .ok (.if_icmp .eq 7, 3) := by decide +kernel
theorem dX11_isCluster_26 : decode cX11_isCluster 26 = .ok (.iconst 1, 1) := by decide +kernel
theorem dX11_isCluster_27 : decode cX11_isCluster 27 = .ok (.goto 4, 3) := by decide +kernel
theorem dX11_isCluster_30 : decode cX11_isCluster 30 = .ok (.iconst 0, 1) := by decide +kernel
theorem dX11_isCluster_31 : decode cX11_isCluster 31 = .ok (.ireturn, 1) := by decide +kernel
theorem dX11_isEdge_0 : decode cX11_isEdge 0 = .ok (.iload_n 2, 1) := by decide +kernel
theorem dX11_isEdge_1 : decode cX11_isEdge 1 = .ok (.aload_n 0, 1) := by decide +kernel
theorem dX11_isEdge_2 : decode cX11_isEdge 2 = .ok (.getfield 19, 3) := by decide +kernel
theorem dX11_isEdge_5 : decode cX11_isEdge 5 = .ok (.iload_n 1, 1) := by decide +kernel
theorem dX11_isEdge_6 : decode cX11_isEdge 6 = .ok (.iaload, 1) := by decide +kernel
theorem dX11_isEdge_7 : decode cX11_isEdge 7 = .ok (.if_icmp .eq 12, 3) := by decide +kernel
theorem dX11_isEdge_10 : decode cX11_isEdge 10 = .ok (.aload_n 0, 1) := by decide +kernel
theorem dX11_isEdge_11 : decode cX11_isEdge 11 = .ok (.iload_n 1, 1) := by decide +kernel
theorem dX11_isEdge_12 : decode cX11_isEdge 12 = .ok (.iload_n 2, 1) := by decide +kernel
theorem dX11_isEdge_13 : decode cX11_isEdge 13 = .ok (.invokevirtual 249, 3) := by decide +kernel
theorem dX11_isEdge_16 : decode cX11_isEdge 16 = .ok (.ifCond .eq 7, 3) := by decide +kernel
theorem dX11_isEdge_19 : decode cX11_isEdge 19 = .ok (.iconst 1, 1) := by decide +kernel
theorem dX11_isEdge_20 : decode cX11_isEdge 20 = .ok (.goto 4, 3) := by decide +kernel
theorem dX11_isEdge_23 : decode cX11_isEdge 23 = .ok (.iconst 0, 1) := by decide +kernel
theorem dX11_isEdge_24 : decode cX11_isEdge 24 = .ok (.ireturn, 1) := by decide +kernel
theorem dX11_clusterAhead_0 : decode cX11_clusterAhead 0 = .ok (.iload_n 2, 1) := by decide +kernel
theorem dX11_clusterAhead_1 : decode cX11_clusterAhead 1 = .ok (.iconst 1, 1) := by decide +kernel
theorem dX11_clusterAhead_2 : decode cX11_clusterAhead 2 = .ok (.isub, 1) := by decide +kernel
theorem dX11_clusterAhead_3 : decode cX11_clusterAhead 3 = .ok (.istore_n 3, 1) := by decide +kernel
theorem dX11_clusterAhead_4 : decode cX11_clusterAhead 4 = .ok (.aload_n 0, 1) := by decide +kernel
theorem dX11_clusterAhead_5 : decode cX11_clusterAhead 5 = .ok (.iload_n 1, 1) := by decide +kernel
theorem dX11_clusterAhead_6 : decode cX11_clusterAhead 6 = .ok (.iload_n 3, 1) := by decide +kernel
theorem dX11_clusterAhead_7 : decode cX11_clusterAhead 7 = .ok (.invokevirtual 249, 3) := by decide +kernel
theorem dX11_clusterAhead_10 : decode cX11_clusterAhead 10 = .ok (.ifCond .ne 9, 3) := by decide +kernel
theorem dX11_clusterAhead_13 : decode cX11_clusterAhead 13 = .ok (.iinc 3 (-1), 3) := by decide +kernel
theorem dX11_clusterAhead_16 : decode cX11_clusterAhead 16 = .ok (.goto (-12), 3) := by decide +kernel
theorem dX11_clusterAhead_19 : decode cX11_clusterAhead 19 = .ok (.iload_n 3, 1) := by decide +kernel
theorem dX11_clusterAhead_20 : decode cX11_clusterAhead 20 = .ok (.ireturn, 1) := by decide +kernel
theorem dX11_isWordAt_0 : decode cX11_isWordAt 0 = .ok (.sipush 1503, 3) := by decide +kernel
theorem dX11_isWordAt_3 : decode cX11_isWordAt 3 = .ok (.bipush 9, 2) := by decide +kernel
theorem dX11_isWordAt_5 : decode cX11_isWordAt 5 = .ok (.iload_n 3, 1) := by decide +kernel
theorem dX11_isWordAt_6 : decode cX11_isWordAt 6 = .ok (.imul, 1) := by decide +kernel
theorem dX11_isWordAt_7 : decode cX11_isWordAt 7 = .ok (.iadd, 1) := by decide +kernel
theorem dX11_isWordAt_8 : decode cX11_isWordAt 8 = .ok (.istore 4, 2) := by decide +kernel
theorem dX11_isWordAt_10 : decode cX11_isWordAt 10 = .ok (.iload_n 2, 1) := by decide +kernel
theorem dX11_isWordAt_11 : decode cX11_isWordAt 11 = .ok (.aload_n 0, 1) := by decide +kernel
theorem dX11_isWordAt_12 : decode cX11_isWordAt 12 = .ok (.getfield 7, 3) := by decide +kernel
theorem dX11_isWordAt_15 : decode cX11_isWordAt 15 = .ok (.iload 4, 2) := by decide +kernel
theorem dX11_isWordAt_17 : decode cX11_isWordAt 17 = .ok (.iaload, 1) := by decide +kernel
theorem dX11_isWordAt_18 : decode cX11_isWordAt 18 = .ok (.iadd, 1) := by decide +kernel
theorem dX11_isWordAt_19 : decode cX11_isWordAt 19 = .ok (.aload_n 0, 1) := by decide +kernel
theorem dX11_isWordAt_20 : decode cX11_isWordAt 20 = .ok (.getfield 19, 3) := by decide +kernel
theorem dX11_isWordAt_23 : decode cX11_isWordAt 23 = .ok (.iload_n 1, 1) := by decide +kernel
theorem dX11_isWordAt_24 : decode cX11_isWordAt 24 = .ok (.iaload, 1) := by decide +kernel
theorem dX11_isWordAt_25 : decode cX11_isWordAt 25 = .ok (.if_icmp .gt 7, 3) := by decide +kernel
theorem dX11_isWordAt_28 : decode cX11_isWordAt 28 = .ok (.iconst 1, 1) := by decide +kernel
theorem dX11_isWordAt_29 : decode cX11_isWordAt 29 = .ok (.goto 4, 3) := by decide +kernel
theorem dX11_isWordAt_32 : decode cX11_isWordAt 32 = .ok (.iconst 0, 1) := by decide +kernel
theorem dX11_isWordAt_33 : decode cX11_isWordAt 33 = .ok (.istore 5, 2) := by decide +kernel
theorem dX11_isWordAt_35 : decode cX11_isWordAt 35 = .ok (.iconst 0, 1) := by decide +kernel
theorem dX11_isWordAt_36 : decode cX11_isWordAt 36 = .ok (.istore 6, 2) := by decide +kernel
theorem dX11_isWordAt_38 : decode cX11_isWordAt 38 = .ok (.iload 6, 2) := by decide +kernel
theorem dX11_isWordAt_40 : decode cX11_isWordAt 40 = .ok (.aload_n 0, 1) := by decide +kernel
theorem dX11_isWordAt_41 : decode cX11_isWordAt 41 = .ok (.getfield 7, 3) := by decide +kernel
theorem dX11_isWordAt_44 : decode cX11_isWordAt 44 = .ok (.iload 4, 2) := by decide +kernel
theorem dX11_isWordAt_46 : decode cX11_isWordAt 46 = .ok (.iaload, 1) := by decide +kernel
theorem dX11_isWordAt_47 : decode cX11_isWordAt 47 = .ok (.if_icmp .ge 45, 3) := by decide +kernel
theorem dX11_isWordAt_50 : decode cX11_isWordAt 50 = .ok (.iload 5, 2) := by decide +kernel
theorem dX11_isWordAt_52 : decode cX11_isWordAt 52 = .ok (.ifCond .eq 40, 3) := by decide +kernel
theorem dX11_isWordAt_55 : decode cX11_isWordAt 55 = .ok (.aload_n 0, 1) := by decide +kernel
theorem dX11_isWordAt_56 : decode cX11_isWordAt 56 = .ok (.iload_n 1, 1) := by decide +kernel
theorem dX11_isWordAt_57 : decode cX11_isWordAt 57 = .ok (.iload_n 2, 1) := by decide +kernel
theorem dX11_isWordAt_58 : decode cX11_isWordAt 58 = .ok (.iload 6, 2) := by decide +kernel
theorem dX11_isWordAt_60 : decode cX11_isWordAt 60 = .ok (.iadd, 1) := by decide +kernel
theorem dX11_isWordAt_61 : decode cX11_isWordAt 61 = .ok (.invokevirtual 148, 3) := by decide +kernel
theorem dX11_isWordAt_64 : decode cX11_isWordAt 64 = .ok (.aload_n 0, 1) := by decide +kernel
theorem dX11_isWordAt_65 : decode cX11_isWordAt 65 = .ok (.getfield 7, 3) := by decide +kernel
theorem dX11_isWordAt_68 : decode cX11_isWordAt 68 = .ok (.iload 4, 2) := by decide +kernel
theorem dX11_isWordAt_70 : decode cX11_isWordAt 70 = .ok (.iconst 1, 1) := by decide +kernel
theorem dX11_isWordAt_71 : decode cX11_isWordAt 71 = .ok (.iadd, 1) := by decide +kernel
theorem dX11_isWordAt_72 : decode cX11_isWordAt 72 = .ok (.iload 6, 2) := by decide +kernel
theorem dX11_isWordAt_74 : decode cX11_isWordAt 74 = .ok (.iadd, 1) := by decide +kernel
theorem dX11_isWordAt_75 : decode cX11_isWordAt 75 = .ok (.iaload, 1) := by decide +kernel
theorem dX11_isWordAt_76 : decode cX11_isWordAt 76 = .ok (.if_icmp .ne 7, 3) := by decide +kernel
theorem dX11_isWordAt_79 : decode cX11_isWordAt 79 = .ok (.iconst 1, 1) := by decide +kernel
theorem dX11_isWordAt_80 : decode cX11_isWordAt 80 = .ok (.goto 4, 3) := by decide +kernel
theorem dX11_isWordAt_83 : decode cX11_isWordAt 83 = .ok (.iconst 0, 1) := by decide +kernel
theorem dX11_isWordAt_84 : decode cX11_isWordAt 84 = .ok (.istore 5, 2) := by decide +kernel
theorem dX11_isWordAt_86 : decode cX11_isWordAt 86 = .ok (.iinc 6 1, 3) := by decide +kernel
theorem dX11_isWordAt_89 : decode cX11_isWordAt 89 = .ok (.goto (-51), 3) := by decide +kernel
theorem dX11_isWordAt_92 : decode cX11_isWordAt 92 = .ok (.iload 5, 2) := by decide +kernel
theorem dX11_isWordAt_94 : decode cX11_isWordAt 94 = .ok (.ireturn, 1) := by decide +kernel
theorem dX11_wordEnd_0 : decode cX11_wordEnd 0 = .ok (.iconst 0, 1) := by decide +kernel
theorem dX11_wordEnd_1 : decode cX11_wordEnd 1 = .ok (.istore 4, 2) := by decide +kernel
theorem dX11_wordEnd_3 : decode cX11_wordEnd 3 = .ok (.iconst 0, 1) := by decide +kernel
theorem dX11_wordEnd_4 : decode cX11_wordEnd 4 = .ok (.istore 5, 2) := by decide +kernel
theorem dX11_wordEnd_6 : decode cX11_wordEnd 6 = .ok (.iload 5, 2) := by decide +kernel
theorem dX11_wordEnd_8 : decode cX11_wordEnd 8 = .ok (.aload_n 0, 1) := by decide +kernel
theorem dX11_wordEnd_9 : decode cX11_wordEnd 9 = .ok (.getfield 7, 3) := by decide +kernel
theorem dX11_wordEnd_12 : decode cX11_wordEnd 12 = .ok (.sipush 1502, 3) := by decide +kernel
theorem dX11_wordEnd_15 : decode cX11_wordEnd 15 = .ok (.iaload, 1) := by decide +kernel
theorem dX11_wordEnd_16 : decode cX11_wordEnd 16 = .ok (.if_icmp .ge 84, 3) := by decide +kernel
theorem dX11_wordEnd_19 : decode cX11_wordEnd 19 = .ok (.aload_n 0, 1) := by decide +kernel
theorem dX11_wordEnd_20 : decode cX11_wordEnd 20 = .ok (.getfield 7, 3) := by decide +kernel
theorem dX11_wordEnd_23 : decode cX11_wordEnd 23 = .ok (.sipush 1503, 3) := by decide +kernel
theorem dX11_wordEnd_26 : decode cX11_wordEnd 26 = .ok (.bipush 9, 2) := by decide +kernel
theorem dX11_wordEnd_28 : decode cX11_wordEnd 28 = .ok (.iload 5, 2) := by decide +kernel
theorem dX11_wordEnd_30 : decode cX11_wordEnd 30 = .ok (.imul, 1) := by decide +kernel
theorem dX11_wordEnd_31 : decode cX11_wordEnd 31 = .ok (.iadd, 1) := by decide +kernel
theorem dX11_wordEnd_32 : decode cX11_wordEnd 32 = .ok (.iaload, 1) := by decide +kernel
theorem dX11_wordEnd_33 : decode cX11_wordEnd 33 = .ok (.istore 6, 2) := by decide +kernel
theorem dX11_wordEnd_35 : decode cX11_wordEnd 35 = .ok (.aload_n 0, 1) := by decide +kernel
theorem dX11_wordEnd_36 : decode cX11_wordEnd 36 = .ok (.iload_n 1, 1) := by decide +kernel
theorem dX11_wordEnd_37 : decode cX11_wordEnd 37 = .ok (.iload_n 2, 1) := by decide +kernel
theorem dX11_wordEnd_38 : decode cX11_wordEnd 38 = .ok (.iload 5, 2) := by decide +kernel
theorem dX11_wordEnd_40 : decode cX11_wordEnd 40 = .ok (.invokevirtual 255, 3) := by decide +kernel
theorem dX11_wordEnd_43 : decode cX11_wordEnd 43 = .ok (.ifCond .eq 27, 3) := by decide +kernel
theorem dX11_wordEnd_46 : decode cX11_wordEnd 46 = .ok (.iload_n 2, 1) := by decide +kernel
theorem dX11_wordEnd_47 : decode cX11_wordEnd 47 = .ok (.iload 6, 2) := by decide +kernel
theorem dX11_wordEnd_49 : decode cX11_wordEnd 49 = .ok (.iadd, 1) := by decide +kernel
theorem dX11_wordEnd_50 : decode cX11_wordEnd 50 = .ok (.iload_n 3, 1) := by decide +kernel
theorem dX11_wordEnd_51 : decode cX11_wordEnd 51 = .ok (.if_icmp .gt 19, 3) := by decide +kernel
theorem dX11_wordEnd_54 : decode cX11_wordEnd 54 = .ok (.aload_n 0, 1) := by decide +kernel
theorem dX11_wordEnd_55 : decode cX11_wordEnd 55 = .ok (.iload_n 1, 1) := by decide +kernel
theorem dX11_wordEnd_56 : decode cX11_wordEnd 56 = .ok (.iload_n 2, 1) := by decide +kernel
theorem dX11_wordEnd_57 : decode cX11_wordEnd 57 = .ok (.iload 6, 2) := by decide +kernel
theorem dX11_wordEnd_59 : decode cX11_wordEnd 59 = .ok (.iadd, 1) := by decide +kernel
theorem dX11_wordEnd_60 : decode cX11_wordEnd 60 = .ok (.invokevirtual 258, 3) := by decide +kernel
theorem dX11_wordEnd_63 : decode cX11_wordEnd 63 = .ok (.ifCond .eq 7, 3) := by decide +kernel
theorem dX11_wordEnd_66 : decode cX11_wordEnd 66 = .ok (.iconst 1, 1) := by decide +kernel
theorem dX11_wordEnd_67 : decode cX11_wordEnd 67 = .ok (.goto 4, 3) := by decide +kernel
theorem dX11_wordEnd_70 : decode cX11_wordEnd 70 = .ok (.iconst 0, 1) := by decide +kernel
theorem dX11_wordEnd_71 : decode cX11_wordEnd 71 = .ok (.istore 7, 2) := by decide +kernel
theorem dX11_wordEnd_73 : decode cX11_wordEnd 73 = .ok (.iload 7, 2) := by decide +kernel
theorem dX11_wordEnd_75 : decode cX11_wordEnd 75 = .ok (.ifCond .eq 15, 3) := by decide +kernel
theorem dX11_wordEnd_78 : decode cX11_wordEnd 78 = .ok (.iload 6, 2) := by decide +kernel
theorem dX11_wordEnd_80 : decode cX11_wordEnd 80 = .ok (.iload 4, 2) := by decide +kernel
theorem dX11_wordEnd_82 : decode cX11_wordEnd 82 = .ok (.if_icmp .le 8, 3) := by decide +kernel
theorem dX11_wordEnd_85 : decode cX11_wordEnd 85 = .ok (.iload 6, 2) := by decide +kernel
theorem dX11_wordEnd_87 : decode cX11_wordEnd 87 = .ok (.goto 5, 3) := by decide +kernel
theorem dX11_wordEnd_90 : decode cX11_wordEnd 90 = .ok (.iload 4, 2) := by decide +kernel
theorem dX11_wordEnd_92 : decode cX11_wordEnd 92 = .ok (.istore 4, 2) := by decide +kernel
theorem dX11_wordEnd_94 : decode cX11_wordEnd 94 = .ok (.iinc 5 1, 3) := by decide +kernel
theorem dX11_wordEnd_97 : decode cX11_wordEnd 97 = .ok (.goto (-91), 3) := by decide +kernel
theorem dX11_wordEnd_100 : decode cX11_wordEnd 100 = .ok (.iload_n 2, 1) := by decide +kernel
theorem dX11_wordEnd_101 : decode cX11_wordEnd 101 = .ok (.iconst 1, 1) := by decide +kernel
theorem dX11_wordEnd_102 : decode cX11_wordEnd 102 = .ok (.iadd, 1) := by decide +kernel
theorem dX11_wordEnd_103 : decode cX11_wordEnd 103 = .ok (.istore 5, 2) := by decide +kernel
theorem dX11_wordEnd_105 : decode cX11_wordEnd 105 = .ok (.aload_n 0, 1) := by decide +kernel
theorem dX11_wordEnd_106 : decode cX11_wordEnd 106 = .ok (.iload_n 1, 1) := by decide +kernel
theorem dX11_wordEnd_107 : decode cX11_wordEnd 107 = .ok (.iload 5, 2) := by decide +kernel
theorem dX11_wordEnd_109 : decode cX11_wordEnd 109 = .ok (.invokevirtual 258, 3) := by decide +kernel
theorem dX11_wordEnd_112 : decode cX11_wordEnd 112 = .ok (.ifCond .ne 9, 3) := by decide +kernel
theorem dX11_wordEnd_115 : decode cX11_wordEnd 115 = .ok (.iinc 5 1, 3) := by decide +kernel
theorem dX11_wordEnd_118 : decode cX11_wordEnd 118 = .ok (.goto (-13), 3) := by decide +kernel
theorem dX11_wordEnd_121 : decode cX11_wordEnd 121 = .ok (.iload 4, 2) := by decide +kernel
theorem dX11_wordEnd_123 : decode cX11_wordEnd 123 = .ok (.ifCond .le 10, 3) := by decide +kernel
theorem dX11_wordEnd_126 : decode cX11_wordEnd 126 = .ok (.iload_n 2, 1) := by decide +kernel
theorem dX11_wordEnd_127 : decode cX11_wordEnd 127 = .ok (.iload 4, 2) := by decide +kernel
theorem dX11_wordEnd_129 : decode cX11_wordEnd 129 = .ok (.iadd, 1) := by decide +kernel
theorem dX11_wordEnd_130 : decode cX11_wordEnd 130 = .ok (.goto 5, 3) := by decide +kernel
theorem dX11_wordEnd_133 : decode cX11_wordEnd 133 = .ok (.iload 5, 2) := by decide +kernel
theorem dX11_wordEnd_135 : decode cX11_wordEnd 135 = .ok (.ireturn, 1) := by decide +kernel
theorem dX11_laysWords_0 : decode cX11_laysWords 0 = .ok (.aload_n 0, 1) := by decide +kernel
theorem dX11_laysWords_1 : decode cX11_laysWords 1 = .ok (.getfield 19, 3) := by decide +kernel
theorem dX11_laysWords_4 : decode cX11_laysWords 4 = .ok (.iload_n 1, 1) := by decide +kernel
theorem dX11_laysWords_5 : decode cX11_laysWords 5 = .ok (.iaload, 1) := by decide +kernel
theorem dX11_laysWords_6 : decode cX11_laysWords 6 = .ok (.istore_n 2, 1) := by decide +kernel
theorem dX11_laysWords_7 : decode cX11_laysWords 7 = .ok (.iconst 0, 1) := by decide +kernel
theorem dX11_laysWords_8 : decode cX11_laysWords 8 = .ok (.istore_n 3, 1) := by decide +kernel
theorem dX11_laysWords_9 : decode cX11_laysWords 9 = .ok (.iload_n 3, 1) := by decide +kernel
theorem dX11_laysWords_10 : decode cX11_laysWords 10 = .ok (.iload_n 2, 1) := by decide +kernel
theorem dX11_laysWords_11 : decode cX11_laysWords 11 = .ok (.if_icmp .gt 16, 3) := by decide +kernel
theorem dX11_laysWords_14 : decode cX11_laysWords 14 = .ok (.aload_n 0, 1) := by decide +kernel
theorem dX11_laysWords_15 : decode cX11_laysWords 15 = .ok (.getfield 67, 3) := by decide +kernel
theorem dX11_laysWords_18 : decode cX11_laysWords 18 = .ok (.iload_n 3, 1) := by decide +kernel
theorem dX11_laysWords_19 : decode cX11_laysWords 19 = .ok (.iconst 0, 1) := by decide +kernel
theorem dX11_laysWords_20 : decode cX11_laysWords 20 = .ok (.bastore, 1) := by decide +kernel
theorem dX11_laysWords_21 : decode cX11_laysWords 21 = .ok (.iinc 3 1, 3) := by decide +kernel
theorem dX11_laysWords_24 : decode cX11_laysWords 24 = .ok (.goto (-15), 3) := by decide +kernel
theorem dX11_laysWords_27 : decode cX11_laysWords 27 = .ok (.iconst 0, 1) := by decide +kernel
theorem dX11_laysWords_28 : decode cX11_laysWords 28 = .ok (.istore_n 3, 1) := by decide +kernel
theorem dX11_laysWords_29 : decode cX11_laysWords 29 = .ok (.iload_n 3, 1) := by decide +kernel
theorem dX11_laysWords_30 : decode cX11_laysWords 30 = .ok (.iload_n 2, 1) := by decide +kernel
theorem dX11_laysWords_31 : decode cX11_laysWords 31 = .ok (.if_icmp .ge 91, 3) := by decide +kernel
theorem dX11_laysWords_34 : decode cX11_laysWords 34 = .ok (.iload_n 3, 1) := by decide +kernel
theorem dX11_laysWords_35 : decode cX11_laysWords 35 = .ok (.istore 4, 2) := by decide +kernel
theorem dX11_laysWords_37 : decode cX11_laysWords 37 = .ok (.iload 4, 2) := by decide +kernel
theorem dX11_laysWords_39 : decode cX11_laysWords 39 = .ok (.iload_n 2, 1) := by decide +kernel
theorem dX11_laysWords_40 : decode cX11_laysWords 40 = .ok (.if_icmp .ge 31, 3) := by decide +kernel
theorem dX11_laysWords_43 : decode cX11_laysWords 43 = .ok (.aload_n 0, 1) := by decide +kernel
theorem dX11_laysWords_44 : decode cX11_laysWords 44 = .ok (.iload_n 1, 1) := by decide +kernel
theorem dX11_laysWords_45 : decode cX11_laysWords 45 = .ok (.iload 4, 2) := by decide +kernel
theorem dX11_laysWords_47 : decode cX11_laysWords 47 = .ok (.invokevirtual 249, 3) := by decide +kernel
theorem dX11_laysWords_50 : decode cX11_laysWords 50 = .ok (.ifCond .eq 15, 3) := by decide +kernel
theorem dX11_laysWords_53 : decode cX11_laysWords 53 = .ok (.aload_n 0, 1) := by decide +kernel
theorem dX11_laysWords_54 : decode cX11_laysWords 54 = .ok (.iload_n 1, 1) := by decide +kernel
theorem dX11_laysWords_55 : decode cX11_laysWords 55 = .ok (.iload 4, 2) := by decide +kernel
theorem dX11_laysWords_57 : decode cX11_laysWords 57 = .ok (.invokevirtual 252, 3) := by decide +kernel
theorem dX11_laysWords_60 : decode cX11_laysWords 60 = .ok (.bipush 6, 2) := by decide +kernel
theorem dX11_laysWords_62 : decode cX11_laysWords 62 = .ok (.if_icmp .ne 9, 3) := by decide +kernel
theorem dX11_laysWords_65 : decode cX11_laysWords 65 = .ok (.iinc 4 1, 3) := by decide +kernel
theorem dX11_laysWords_68 : decode cX11_laysWords 68 = .ok (.goto (-31), 3) := by decide +kernel
theorem dX11_laysWords_71 : decode cX11_laysWords 71 = .ok (.iload_n 3, 1) := by decide +kernel
theorem dX11_laysWords_72 : decode cX11_laysWords 72 = .ok (.iload 4, 2) := by decide +kernel
theorem dX11_laysWords_74 : decode cX11_laysWords 74 = .ok (.if_icmp .ge 22, 3) := by decide +kernel
theorem dX11_laysWords_77 : decode cX11_laysWords 77 = .ok (.aload_n 0, 1) := by decide +kernel
theorem dX11_laysWords_78 : decode cX11_laysWords 78 = .ok (.iload_n 1, 1) := by decide +kernel
theorem dX11_laysWords_79 : decode cX11_laysWords 79 = .ok (.iload_n 3, 1) := by decide +kernel
theorem dX11_laysWords_80 : decode cX11_laysWords 80 = .ok (.iload 4, 2) := by decide +kernel
theorem dX11_laysWords_82 : decode cX11_laysWords 82 = .ok (.invokevirtual 261, 3) := by decide +kernel
theorem dX11_laysWords_85 : decode cX11_laysWords 85 = .ok (.istore_n 3, 1) := by decide +kernel
theorem dX11_laysWords_86 : decode cX11_laysWords 86 = .ok (.aload_n 0, 1) := by decide +kernel
theorem dX11_laysWords_87 : decode cX11_laysWords 87 = .ok (.getfield 67, 3) := by decide +kernel
theorem dX11_laysWords_90 : decode cX11_laysWords 90 = .ok (.iload_n 3, 1) := by decide +kernel
theorem dX11_laysWords_91 : decode cX11_laysWords 91 = .ok (.iconst 1, 1) := by decide +kernel
theorem dX11_laysWords_92 : decode cX11_laysWords 92 = .ok (.bastore, 1) := by decide +kernel
theorem dX11_laysWords_93 : decode cX11_laysWords 93 = .ok (.goto (-22), 3) := by decide +kernel
theorem dX11_laysWords_96 : decode cX11_laysWords 96 = .ok (.iinc 3 1, 3) := by decide +kernel
theorem dX11_laysWords_99 : decode cX11_laysWords 99 = .ok (.iload_n 3, 1) := by decide +kernel
theorem dX11_laysWords_100 : decode cX11_laysWords 100 = .ok (.iload_n 2, 1) := by decide +kernel
theorem dX11_laysWords_101 : decode cX11_laysWords 101 = .ok (.if_icmp .ge 18, 3) := by decide +kernel
theorem dX11_laysWords_104 : decode cX11_laysWords 104 = .ok (.aload_n 0, 1) := by decide +kernel
theorem dX11_laysWords_105 : decode cX11_laysWords 105 = .ok (.iload_n 1, 1) := by decide +kernel
theorem dX11_laysWords_106 : decode cX11_laysWords 106 = .ok (.iload_n 3, 1) := by decide +kernel
theorem dX11_laysWords_107 : decode cX11_laysWords 107 = .ok (.invokevirtual 249, 3) := by decide +kernel
theorem dX11_laysWords_110 : decode cX11_laysWords 110 = .ok (.ifCond .ne 9, 3) := by decide +kernel
theorem dX11_laysWords_113 : decode cX11_laysWords 113 = .ok (.iinc 3 1, 3) := by decide +kernel
theorem dX11_laysWords_116 : decode cX11_laysWords 116 = .ok (.goto (-17), 3) := by decide +kernel
theorem dX11_laysWords_119 : decode cX11_laysWords 119 = .ok (.goto (-90), 3) := by decide +kernel
theorem dX11_laysWords_122 : decode cX11_laysWords 122 = .ok (.return_, 1) := by decide +kernel
theorem dX11_isBreak_0 : decode cX11_isBreak 0 = .ok (.aload_n 0, 1) := by decide +kernel
theorem dX11_isBreak_1 : decode cX11_isBreak 1 = .ok (.iload_n 1, 1) := by decide +kernel
theorem dX11_isBreak_2 : decode cX11_isBreak 2 = .ok (.iload_n 2, 1) := by decide +kernel
theorem dX11_isBreak_3 : decode cX11_isBreak 3 = .ok (.invokevirtual 249, 3) := by decide +kernel
theorem dX11_isBreak_6 : decode cX11_isBreak 6 = .ok (.ifCond .ne 5, 3) := by decide +kernel
theorem dX11_isBreak_9 : decode cX11_isBreak 9 = .ok (.iconst 0, 1) := by decide +kernel
theorem dX11_isBreak_10 : decode cX11_isBreak 10 = .ok (.ireturn, 1) := by decide +kernel
theorem dX11_isBreak_11 : decode cX11_isBreak 11 = .ok (.aload_n 0, 1) := by decide +kernel
theorem dX11_isBreak_12 : decode cX11_isBreak 12 = .ok (.iload_n 1, 1) := by decide +kernel
theorem dX11_isBreak_13 : decode cX11_isBreak 13 = .ok (.aload_n 0, 1) := by decide +kernel
theorem dX11_isBreak_14 : decode cX11_isBreak 14 = .ok (.iload_n 1, 1) := by decide +kernel
theorem dX11_isBreak_15 : decode cX11_isBreak 15 = .ok (.iload_n 2, 1) := by decide +kernel
theorem dX11_isBreak_16 : decode cX11_isBreak 16 = .ok (.invokevirtual 264, 3) := by decide +kernel
theorem dX11_isBreak_19 : decode cX11_isBreak 19 = .ok (.invokevirtual 252, 3) := by decide +kernel
theorem dX11_isBreak_22 : decode cX11_isBreak 22 = .ok (.istore 4, 2) := by decide +kernel
theorem dX11_isBreak_24 : decode cX11_isBreak 24 = .ok (.aload_n 0, 1) := by decide +kernel
theorem dX11_isBreak_25 : decode cX11_isBreak 25 = .ok (.iload_n 1, 1) := by decide +kernel
theorem dX11_isBreak_26 : decode cX11_isBreak 26 = .ok (.iload_n 2, 1) := by decide +kernel
theorem dX11_isBreak_27 : decode cX11_isBreak 27 = .ok (.invokevirtual 252, 3) := by decide +kernel
theorem dX11_isBreak_30 : decode cX11_isBreak 30 = .ok (.istore 5, 2) := by decide +kernel
theorem dX11_isBreak_32 : decode cX11_isBreak 32 = .ok (.iload 4, 2) := by decide +kernel
theorem dX11_isBreak_34 : decode cX11_isBreak 34 = .ok (.iconst 1, 1) := by decide +kernel
theorem dX11_isBreak_35 : decode cX11_isBreak 35 = .ok (.if_icmp .eq 9, 3) := by decide +kernel
theorem dX11_isBreak_38 : decode cX11_isBreak 38 = .ok (.iload 4, 2) := by decide +kernel
theorem dX11_isBreak_40 : decode cX11_isBreak 40 = .ok (.iconst 4, 1) := by decide +kernel
theorem dX11_isBreak_41 : decode cX11_isBreak 41 = .ok (.if_icmp .ne 19, 3) := by decide +kernel
theorem dX11_isBreak_44 : decode cX11_isBreak 44 = .ok (.iload 5, 2) := by decide +kernel
theorem dX11_isBreak_46 : decode cX11_isBreak 46 = .ok (.iconst 1, 1) := by decide +kernel
theorem dX11_isBreak_47 : decode cX11_isBreak 47 = .ok (.if_icmp .eq 9, 3) := by decide +kernel
theorem dX11_isBreak_50 : decode cX11_isBreak 50 = .ok (.iload 5, 2) := by decide +kernel
theorem dX11_isBreak_52 : decode cX11_isBreak 52 = .ok (.iconst 4, 1) := by decide +kernel
theorem dX11_isBreak_53 : decode cX11_isBreak 53 = .ok (.if_icmp .ne 7, 3) := by decide +kernel
theorem dX11_isBreak_56 : decode cX11_isBreak 56 = .ok (.iconst 1, 1) := by decide +kernel
theorem dX11_isBreak_57 : decode cX11_isBreak 57 = .ok (.goto 4, 3) := by decide +kernel
theorem dX11_isBreak_60 : decode cX11_isBreak 60 = .ok (.iconst 0, 1) := by decide +kernel
theorem dX11_isBreak_61 : decode cX11_isBreak 61 = .ok (.istore 6, 2) := by decide +kernel
theorem dX11_isBreak_63 : decode cX11_isBreak 63 = .ok (.iload 4, 2) := by decide +kernel
theorem dX11_isBreak_65 : decode cX11_isBreak 65 = .ok (.bipush 6, 2) := by decide +kernel
theorem dX11_isBreak_67 : decode cX11_isBreak 67 = .ok (.if_icmp .ne 14, 3) := by decide +kernel
theorem dX11_isBreak_70 : decode cX11_isBreak 70 = .ok (.iload 5, 2) := by decide +kernel
theorem dX11_isBreak_72 : decode cX11_isBreak 72 = .ok (.bipush 6, 2) := by decide +kernel
theorem dX11_isBreak_74 : decode cX11_isBreak 74 = .ok (.if_icmp .ne 7, 3) := by decide +kernel
theorem dX11_isBreak_77 : decode cX11_isBreak 77 = .ok (.iconst 1, 1) := by decide +kernel
theorem dX11_isBreak_78 : decode cX11_isBreak 78 = .ok (.goto 4, 3) := by decide +kernel
theorem dX11_isBreak_81 : decode cX11_isBreak 81 = .ok (.iconst 0, 1) := by decide +kernel
theorem dX11_isBreak_82 : decode cX11_isBreak 82 = .ok (.istore 7, 2) := by decide +kernel
theorem dX11_isBreak_84 : decode cX11_isBreak 84 = .ok (.iload 6, 2) := by decide +kernel
theorem dX11_isBreak_86 : decode cX11_isBreak 86 = .ok (.ifCond .ne 33, 3) := by decide +kernel
theorem dX11_isBreak_89 : decode cX11_isBreak 89 = .ok (.iload 4, 2) := by decide +kernel
theorem dX11_isBreak_91 : decode cX11_isBreak 91 = .ok (.iconst 3, 1) := by decide +kernel
theorem dX11_isBreak_92 : decode cX11_isBreak 92 = .ok (.if_icmp .ne 9, 3) := by decide +kernel
theorem dX11_isBreak_95 : decode cX11_isBreak 95 = .ok (.iload 5, 2) := by decide +kernel
theorem dX11_isBreak_97 : decode cX11_isBreak 97 = .ok (.iconst 3, 1) := by decide +kernel
theorem dX11_isBreak_98 : decode cX11_isBreak 98 = .ok (.if_icmp .eq 21, 3) := by decide +kernel
theorem dX11_isBreak_101 : decode cX11_isBreak 101 = .ok (.iload 7, 2) := by decide +kernel
theorem dX11_isBreak_103 : decode cX11_isBreak 103 = .ok (.ifCond .eq 12, 3) := by decide +kernel
theorem dX11_isBreak_106 : decode cX11_isBreak 106 = .ok (.aload_n 0, 1) := by decide +kernel
theorem dX11_isBreak_107 : decode cX11_isBreak 107 = .ok (.getfield 67, 3) := by decide +kernel
theorem dX11_isBreak_110 : decode cX11_isBreak 110 = .ok (.iload_n 2, 1) := by decide +kernel
theorem dX11_isBreak_111 : decode cX11_isBreak 111 = .ok (.baload, 1) := by decide +kernel
theorem dX11_isBreak_112 : decode cX11_isBreak 112 = .ok (.ifCond .eq 7, 3) := by decide +kernel
theorem dX11_isBreak_115 : decode cX11_isBreak 115 = .ok (.iconst 1, 1) := by decide +kernel
theorem dX11_isBreak_116 : decode cX11_isBreak 116 = .ok (.goto 4, 3) := by decide +kernel
theorem dX11_isBreak_119 : decode cX11_isBreak 119 = .ok (.iconst 0, 1) := by decide +kernel
theorem dX11_isBreak_120 : decode cX11_isBreak 120 = .ok (.istore 8, 2) := by decide +kernel
theorem dX11_isBreak_122 : decode cX11_isBreak 122 = .ok (.iload_n 3, 1) := by decide +kernel
theorem dX11_isBreak_123 : decode cX11_isBreak 123 = .ok (.ifCond .eq 30, 3) := by decide +kernel
theorem dX11_isBreak_126 : decode cX11_isBreak 126 = .ok (.iload 8, 2) := by decide +kernel
theorem dX11_isBreak_128 : decode cX11_isBreak 128 = .ok (.ifCond .eq 29, 3) := by decide +kernel
theorem dX11_isBreak_131 : decode cX11_isBreak 131 = .ok (.iload_n 3, 1) := by decide +kernel
theorem dX11_isBreak_132 : decode cX11_isBreak 132 = .ok (.iconst 1, 1) := by decide +kernel
theorem dX11_isBreak_133 : decode cX11_isBreak 133 = .ok (.if_icmp .eq 20, 3) := by decide +kernel
theorem dX11_isBreak_136 : decode cX11_isBreak 136 = .ok (.iload 4, 2) := by decide +kernel
theorem dX11_isBreak_138 : decode cX11_isBreak 138 = .ok (.iconst 3, 1) := by decide +kernel
theorem dX11_isBreak_139 : decode cX11_isBreak 139 = .ok (.if_icmp .ne 9, 3) := by decide +kernel
theorem dX11_isBreak_142 : decode cX11_isBreak 142 = .ok (.iload 5, 2) := by decide +kernel
theorem dX11_isBreak_144 : decode cX11_isBreak 144 = .ok (.iconst 3, 1) := by decide +kernel
theorem dX11_isBreak_145 : decode cX11_isBreak 145 = .ok (.if_icmp .ne 8, 3) := by decide +kernel
theorem dX11_isBreak_148 : decode cX11_isBreak 148 = .ok (.iload 7, 2) := by decide +kernel
theorem dX11_isBreak_150 : decode cX11_isBreak 150 = .ok (.ifCond .eq 7, 3) := by decide +kernel
theorem dX11_isBreak_153 : decode cX11_isBreak 153 = .ok (.iconst 1, 1) := by decide +kernel
theorem dX11_isBreak_154 : decode cX11_isBreak 154 = .ok (.goto 4, 3) := by decide +kernel
theorem dX11_isBreak_157 : decode cX11_isBreak 157 = .ok (.iconst 0, 1) := by decide +kernel
theorem dX11_isBreak_158 : decode cX11_isBreak 158 = .ok (.ireturn, 1) := by decide +kernel
theorem dX11_breaks_0 : decode cX11_breaks 0 = .ok (.aload_n 0, 1) := by decide +kernel
theorem dX11_breaks_1 : decode cX11_breaks 1 = .ok (.iload_n 1, 1) := by decide +kernel
theorem dX11_breaks_2 : decode cX11_breaks 2 = .ok (.invokestatic 145, 3) := by decide +kernel
theorem dX11_breaks_5 : decode cX11_breaks 5 = .ok (.ifCond .ne 7, 3) := by decide +kernel
theorem dX11_breaks_8 : decode cX11_breaks 8 = .ok (.iconst 1, 1) := by decide +kernel
theorem dX11_breaks_9 : decode cX11_breaks 9 = .ok (.goto 17, 3) := by decide +kernel
theorem dX11_breaks_12 : decode cX11_breaks 12 = .ok (.iload_n 2, 1) := by decide +kernel
theorem dX11_breaks_13 : decode cX11_breaks 13 = .ok (.iconst 0, 1) := by decide +kernel
theorem dX11_breaks_14 : decode cX11_breaks 14 = .ok (.iconst 2, 1) := by decide +kernel
theorem dX11_breaks_15 : decode cX11_breaks 15 = .ok (.invokestatic 111, 3) := by decide +kernel
theorem dX11_breaks_18 : decode cX11_breaks 18 = .ok (.ifCond .eq 7, 3) := by decide +kernel
theorem dX11_breaks_21 : decode cX11_breaks 21 = .ok (.iconst 0, 1) := by decide +kernel
theorem dX11_breaks_22 : decode cX11_breaks 22 = .ok (.goto 4, 3) := by decide +kernel
theorem dX11_breaks_25 : decode cX11_breaks 25 = .ok (.iconst 2, 1) := by decide +kernel
theorem dX11_breaks_26 : decode cX11_breaks 26 = .ok (.invokevirtual 118, 3) := by decide +kernel
theorem dX11_breaks_29 : decode cX11_breaks 29 = .ok (.ifCond .ne 5, 3) := by decide +kernel
theorem dX11_breaks_32 : decode cX11_breaks 32 = .ok (.lconst 0, 1) := by decide +kernel
theorem dX11_breaks_33 : decode cX11_breaks 33 = .ok (.lreturn, 1) := by decide +kernel
theorem dX11_breaks_34 : decode cX11_breaks 34 = .ok (.aload_n 0, 1) := by decide +kernel
theorem dX11_breaks_35 : decode cX11_breaks 35 = .ok (.iload_n 1, 1) := by decide +kernel
theorem dX11_breaks_36 : decode cX11_breaks 36 = .ok (.invokevirtual 267, 3) := by decide +kernel
theorem dX11_breaks_39 : decode cX11_breaks 39 = .ok (.lconst 0, 1) := by decide +kernel
theorem dX11_breaks_40 : decode cX11_breaks 40 = .ok (.lstore_n 3, 1) := by decide +kernel
theorem dX11_breaks_41 : decode cX11_breaks 41 = .ok (.iconst 1, 1) := by decide +kernel
theorem dX11_breaks_42 : decode cX11_breaks 42 = .ok (.istore 5, 2) := by decide +kernel
theorem dX11_breaks_44 : decode cX11_breaks 44 = .ok (.iload 5, 2) := by decide +kernel
theorem dX11_breaks_46 : decode cX11_breaks 46 = .ok (.aload_n 0, 1) := by decide +kernel
theorem dX11_breaks_47 : decode cX11_breaks 47 = .ok (.getfield 19, 3) := by decide +kernel
theorem dX11_breaks_50 : decode cX11_breaks 50 = .ok (.iload_n 1, 1) := by decide +kernel
theorem dX11_breaks_51 : decode cX11_breaks 51 = .ok (.iaload, 1) := by decide +kernel
theorem dX11_breaks_52 : decode cX11_breaks 52 = .ok (.if_icmp .ge 31, 3) := by decide +kernel
theorem dX11_breaks_55 : decode cX11_breaks 55 = .ok (.lload_n 3, 1) := by decide +kernel
theorem dX11_breaks_56 : decode cX11_breaks 56 = .ok (.aload_n 0, 1) := by decide +kernel
theorem dX11_breaks_57 : decode cX11_breaks 57 = .ok (.iload_n 1, 1) := by decide +kernel
theorem dX11_breaks_58 : decode cX11_breaks 58 = .ok (.iload 5, 2) := by decide +kernel
theorem dX11_breaks_60 : decode cX11_breaks 60 = .ok (.iload_n 2, 1) := by decide +kernel
theorem dX11_breaks_61 : decode cX11_breaks 61 = .ok (.invokevirtual 270, 3) := by decide +kernel
theorem dX11_breaks_64 : decode cX11_breaks 64 = .ok (.ifCond .eq 10, 3) := by decide +kernel
theorem dX11_breaks_67 : decode cX11_breaks 67 = .ok (.lconst 1, 1) := by decide +kernel
theorem dX11_breaks_68 : decode cX11_breaks 68 = .ok (.iload 5, 2) := by decide +kernel
theorem dX11_breaks_70 : decode cX11_breaks 70 = .ok (.lshl, 1) := by decide +kernel
theorem dX11_breaks_71 : decode cX11_breaks 71 = .ok (.goto 4, 3) := by decide +kernel
theorem dX11_breaks_74 : decode cX11_breaks 74 = .ok (.lconst 0, 1) := by decide +kernel
theorem dX11_breaks_75 : decode cX11_breaks 75 = .ok (.lor, 1) := by decide +kernel
theorem dX11_breaks_76 : decode cX11_breaks 76 = .ok (.lstore_n 3, 1) := by decide +kernel
theorem dX11_breaks_77 : decode cX11_breaks 77 = .ok (.iinc 5 1, 3) := by decide +kernel
theorem dX11_breaks_80 : decode cX11_breaks 80 = .ok (.goto (-36), 3) := by decide +kernel
theorem dX11_breaks_83 : decode cX11_breaks 83 = .ok (.lload_n 3, 1) := by decide +kernel
theorem dX11_breaks_84 : decode cX11_breaks 84 = .ok (.lreturn, 1) := by decide +kernel
theorem dX11_bySense_0 : decode cX11_bySense 0 = .ok (.aload_n 0, 1) := by decide +kernel
theorem dX11_bySense_1 : decode cX11_bySense 1 = .ok (.iload_n 1, 1) := by decide +kernel
theorem dX11_bySense_2 : decode cX11_bySense 2 = .ok (.invokestatic 145, 3) := by decide +kernel
theorem dX11_bySense_5 : decode cX11_bySense 5 = .ok (.ifCond .eq 21, 3) := by decide +kernel
theorem dX11_bySense_8 : decode cX11_bySense 8 = .ok (.iload_n 2, 1) := by decide +kernel
theorem dX11_bySense_9 : decode cX11_bySense 9 = .ok (.iconst 0, 1) := by decide +kernel
theorem dX11_bySense_10 : decode cX11_bySense 10 = .ok (.aload_n 0, 1) := by decide +kernel
theorem dX11_bySense_11 : decode cX11_bySense 11 = .ok (.getfield 19, 3) := by decide +kernel
theorem dX11_bySense_14 : decode cX11_bySense 14 = .ok (.iload_n 1, 1) := by decide +kernel
theorem dX11_bySense_15 : decode cX11_bySense 15 = .ok (.iaload, 1) := by decide +kernel
theorem dX11_bySense_16 : decode cX11_bySense 16 = .ok (.invokestatic 111, 3) := by decide +kernel
theorem dX11_bySense_19 : decode cX11_bySense 19 = .ok (.ifCond .eq 7, 3) := by decide +kernel
theorem dX11_bySense_22 : decode cX11_bySense 22 = .ok (.iconst 0, 1) := by decide +kernel
theorem dX11_bySense_23 : decode cX11_bySense 23 = .ok (.goto 4, 3) := by decide +kernel
theorem dX11_bySense_26 : decode cX11_bySense 26 = .ok (.iconst 1, 1) := by decide +kernel
theorem dX11_bySense_27 : decode cX11_bySense 27 = .ok (.invokevirtual 118, 3) := by decide +kernel
theorem dX11_bySense_30 : decode cX11_bySense 30 = .ok (.ifCond .ne 5, 3) := by decide +kernel
theorem dX11_bySense_33 : decode cX11_bySense 33 = .ok (.iconst 0, 1) := by decide +kernel
theorem dX11_bySense_34 : decode cX11_bySense 34 = .ok (.ireturn, 1) := by decide +kernel
theorem dX11_bySense_35 : decode cX11_bySense 35 = .ok (.iload_n 3, 1) := by decide +kernel
theorem dX11_bySense_36 : decode cX11_bySense 36 = .ok (.ifCond .eq 9, 3) := by decide +kernel
theorem dX11_bySense_39 : decode cX11_bySense 39 = .ok (.iload_n 2, 1) := by decide +kernel
theorem dX11_bySense_40 : decode cX11_bySense 40 = .ok (.iconst 1, 1) := by decide +kernel
theorem dX11_bySense_41 : decode cX11_bySense 41 = .ok (.iadd, 1) := by decide +kernel
theorem dX11_bySense_42 : decode cX11_bySense 42 = .ok (.goto 6, 3) := by decide +kernel
theorem dX11_bySense_45 : decode cX11_bySense 45 = .ok (.iload_n 2, 1) := by decide +kernel
theorem dX11_bySense_46 : decode cX11_bySense 46 = .ok (.iconst 1, 1) := by decide +kernel
theorem dX11_bySense_47 : decode cX11_bySense 47 = .ok (.isub, 1) := by decide +kernel
theorem dX11_bySense_48 : decode cX11_bySense 48 = .ok (.istore 4, 2) := by decide +kernel
theorem dX11_bySense_50 : decode cX11_bySense 50 = .ok (.iload 4, 2) := by decide +kernel
theorem dX11_bySense_52 : decode cX11_bySense 52 = .ok (.iconst 0, 1) := by decide +kernel
theorem dX11_bySense_53 : decode cX11_bySense 53 = .ok (.aload_n 0, 1) := by decide +kernel
theorem dX11_bySense_54 : decode cX11_bySense 54 = .ok (.getfield 19, 3) := by decide +kernel
theorem dX11_bySense_57 : decode cX11_bySense 57 = .ok (.iload_n 1, 1) := by decide +kernel
theorem dX11_bySense_58 : decode cX11_bySense 58 = .ok (.iaload, 1) := by decide +kernel
theorem dX11_bySense_59 : decode cX11_bySense 59 = .ok (.invokestatic 111, 3) := by decide +kernel
theorem dX11_bySense_62 : decode cX11_bySense 62 = .ok (.ifCond .eq 30, 3) := by decide +kernel
theorem dX11_bySense_65 : decode cX11_bySense 65 = .ok (.aload_n 0, 1) := by decide +kernel
theorem dX11_bySense_66 : decode cX11_bySense 66 = .ok (.iload_n 1, 1) := by decide +kernel
theorem dX11_bySense_67 : decode cX11_bySense 67 = .ok (.iload 4, 2) := by decide +kernel
theorem dX11_bySense_69 : decode cX11_bySense 69 = .ok (.invokevirtual 258, 3) := by decide +kernel
theorem dX11_bySense_72 : decode cX11_bySense 72 = .ok (.ifCond .ne 20, 3) := by decide +kernel
theorem dX11_bySense_75 : decode cX11_bySense 75 = .ok (.iload 4, 2) := by decide +kernel
theorem dX11_bySense_77 : decode cX11_bySense 77 = .ok (.iload_n 3, 1) := by decide +kernel
theorem dX11_bySense_78 : decode cX11_bySense 78 = .ok (.ifCond .eq 7, 3) := by decide +kernel
theorem dX11_bySense_81 : decode cX11_bySense 81 = .ok (.iconst 1, 1) := by decide +kernel
theorem dX11_bySense_82 : decode cX11_bySense 82 = .ok (.goto 4, 3) := by decide +kernel
theorem dX11_bySense_85 : decode cX11_bySense 85 = .ok (.iconst (-1), 1) := by decide +kernel
theorem dX11_bySense_86 : decode cX11_bySense 86 = .ok (.iadd, 1) := by decide +kernel
theorem dX11_bySense_87 : decode cX11_bySense 87 = .ok (.istore 4, 2) := by decide +kernel
theorem dX11_bySense_89 : decode cX11_bySense 89 = .ok (.goto (-39), 3) := by decide +kernel
theorem dX11_bySense_92 : decode cX11_bySense 92 = .ok (.iload 4, 2) := by decide +kernel
theorem dX11_bySense_94 : decode cX11_bySense 94 = .ok (.iconst 0, 1) := by decide +kernel
theorem dX11_bySense_95 : decode cX11_bySense 95 = .ok (.aload_n 0, 1) := by decide +kernel
theorem dX11_bySense_96 : decode cX11_bySense 96 = .ok (.getfield 19, 3) := by decide +kernel
theorem dX11_bySense_99 : decode cX11_bySense 99 = .ok (.iload_n 1, 1) := by decide +kernel
theorem dX11_bySense_100 : decode cX11_bySense 100 = .ok (.iaload, 1) := by decide +kernel
theorem dX11_bySense_101 : decode cX11_bySense 101 = .ok (.invokestatic 111, 3) := by decide +kernel
theorem dX11_bySense_104 : decode cX11_bySense 104 = .ok (.ifCond .eq 8, 3) := by decide +kernel
theorem dX11_bySense_107 : decode cX11_bySense 107 = .ok (.iload 4, 2) := by decide +kernel
theorem dX11_bySense_109 : decode cX11_bySense 109 = .ok (.goto 4, 3) := by decide +kernel
theorem dX11_bySense_112 : decode cX11_bySense 112 = .ok (.iload_n 2, 1) := by decide +kernel
theorem dX11_bySense_113 : decode cX11_bySense 113 = .ok (.ireturn, 1) := by decide +kernel
theorem dX11_keyed_0 : decode cX11_keyed 0 = .ok (.aload_n 0, 1) := by decide +kernel
theorem dX11_keyed_1 : decode cX11_keyed 1 = .ok (.iload_n 2, 1) := by decide +kernel
theorem dX11_keyed_2 : decode cX11_keyed 2 = .ok (.iconst 0, 1) := by decide +kernel
theorem dX11_keyed_3 : decode cX11_keyed 3 = .ok (.invokevirtual 190, 3) := by decide +kernel
theorem dX11_keyed_6 : decode cX11_keyed 6 = .ok (.ifCond .ne 5, 3) := by decide +kernel
theorem dX11_keyed_9 : decode cX11_keyed 9 = .ok (.iconst 0, 1) := by decide +kernel
theorem dX11_keyed_10 : decode cX11_keyed 10 = .ok (.ireturn, 1) := by decide +kernel
theorem dX11_keyed_11 : decode cX11_keyed 11 = .ok (.aload_n 0, 1) := by decide +kernel
theorem dX11_keyed_12 : decode cX11_keyed 12 = .ok (.iconst 0, 1) := by decide +kernel
theorem dX11_keyed_13 : decode cX11_keyed 13 = .ok (.putfield 273, 3) := by decide +kernel
theorem dX11_keyed_16 : decode cX11_keyed 16 = .ok (.iconst 0, 1) := by decide +kernel
theorem dX11_keyed_17 : decode cX11_keyed 17 = .ok (.istore_n 3, 1) := by decide +kernel
theorem dX11_keyed_18 : decode cX11_keyed 18 = .ok (.iload_n 3, 1) := by decide +kernel
theorem dX11_keyed_19 : decode cX11_keyed 19 = .ok (.iconst 3, 1) := by decide +kernel
theorem dX11_keyed_20 : decode cX11_keyed 20 = .ok (.if_icmp .ge 179, 3) := by decide +kernel
theorem dX11_keyed_23 : decode cX11_keyed 23 = .ok (.iload_n 3, 1) := by decide +kernel
theorem dX11_keyed_24 : decode cX11_keyed 24 = .ok (.ifCond .le 23, 3) := by decide +kernel
theorem dX11_keyed_27 : decode cX11_keyed 27 = .ok (.aload_n 0, 1) := by decide +kernel
theorem dX11_keyed_28 : decode cX11_keyed 28 = .ok (.getfield 71, 3) := by decide +kernel
theorem dX11_keyed_31 : decode cX11_keyed 31 = .ok (.aload_n 0, 1) := by decide +kernel
theorem dX11_keyed_32 : decode cX11_keyed 32 = .ok (.getfield 273, 3) := by decide +kernel
theorem dX11_keyed_35 : decode cX11_keyed 35 = .ok (.iconst 0, 1) := by decide +kernel
theorem dX11_keyed_36 : decode cX11_keyed 36 = .ok (.iastore, 1) := by decide +kernel
theorem dX11_keyed_37 : decode cX11_keyed 37 = .ok (.aload_n 0, 1) := by decide +kernel
theorem dX11_keyed_38 : decode cX11_keyed 38 = .ok (.dup, 1) := by decide +kernel
theorem dX11_keyed_39 : decode cX11_keyed 39 = .ok (.getfield 273, 3) := by decide +kernel
theorem dX11_keyed_42 : decode cX11_keyed 42 = .ok (.iconst 1, 1) := by decide +kernel
theorem dX11_keyed_43 : decode cX11_keyed 43 = .ok (.iadd, 1) := by decide +kernel
theorem dX11_keyed_44 : decode cX11_keyed 44 = .ok (.putfield 273, 3) := by decide +kernel
theorem dX11_keyed_47 : decode cX11_keyed 47 = .ok (.iconst 0, 1) := by decide +kernel
theorem dX11_keyed_48 : decode cX11_keyed 48 = .ok (.istore 4, 2) := by decide +kernel
theorem dX11_keyed_50 : decode cX11_keyed 50 = .ok (.iload 4, 2) := by decide +kernel
theorem dX11_keyed_52 : decode cX11_keyed 52 = .ok (.aload_n 0, 1) := by decide +kernel
theorem dX11_keyed_53 : decode cX11_keyed 53 = .ok (.getfield 158, 3) := by decide +kernel
theorem dX11_keyed_56 : decode cX11_keyed 56 = .ok (.if_icmp .ge 137, 3) := by decide +kernel
theorem dX11_keyed_59 : decode cX11_keyed 59 = .ok (.iload 4, 2) := by decide +kernel
theorem dX11_keyed_61 : decode cX11_keyed 61 = .ok (.iconst 1, 1) := by decide +kernel
theorem dX11_keyed_62 : decode cX11_keyed 62 = .ok (.iadd, 1) := by decide +kernel
theorem dX11_keyed_63 : decode cX11_keyed 63 = .ok (.aload_n 0, 1) := by decide +kernel
theorem dX11_keyed_64 : decode cX11_keyed 64 = .ok (.getfield 158, 3) := by decide +kernel
theorem dX11_keyed_67 : decode cX11_keyed 67 = .ok (.if_icmp .ge 27, 3) := by decide +kernel
theorem dX11_keyed_70 : decode cX11_keyed 70 = .ok (.aload_n 0, 1) := by decide +kernel
theorem dX11_keyed_71 : decode cX11_keyed 71 = .ok (.iload_n 1, 1) := by decide +kernel
theorem dX11_keyed_72 : decode cX11_keyed 72 = .ok (.aload_n 0, 1) := by decide +kernel
theorem dX11_keyed_73 : decode cX11_keyed 73 = .ok (.getfield 28, 3) := by decide +kernel
theorem dX11_keyed_76 : decode cX11_keyed 76 = .ok (.iload 4, 2) := by decide +kernel
theorem dX11_keyed_78 : decode cX11_keyed 78 = .ok (.iaload, 1) := by decide +kernel
theorem dX11_keyed_79 : decode cX11_keyed 79 = .ok (.aload_n 0, 1) := by decide +kernel
theorem dX11_keyed_80 : decode cX11_keyed 80 = .ok (.getfield 28, 3) := by decide +kernel
theorem dX11_keyed_83 : decode cX11_keyed 83 = .ok (.iload 4, 2) := by decide +kernel
theorem dX11_keyed_85 : decode cX11_keyed 85 = .ok (.iconst 1, 1) := by decide +kernel
theorem dX11_keyed_86 : decode cX11_keyed 86 = .ok (.iadd, 1) := by decide +kernel
theorem dX11_keyed_87 : decode cX11_keyed 87 = .ok (.iaload, 1) := by decide +kernel
theorem dX11_keyed_88 : decode cX11_keyed 88 = .ok (.invokevirtual 141, 3) := by decide +kernel
theorem dX11_keyed_91 : decode cX11_keyed 91 = .ok (.goto 4, 3) := by decide +kernel
theorem dX11_keyed_94 : decode cX11_keyed 94 = .ok (.iconst (-1), 1) := by decide +kernel
theorem dX11_keyed_95 : decode cX11_keyed 95 = .ok (.istore 5, 2) := by decide +kernel
theorem dX11_keyed_97 : decode cX11_keyed 97 = .ok (.iload 5, 2) := by decide +kernel
theorem dX11_keyed_99 : decode cX11_keyed 99 = .ok (.iconst (-1), 1) := by decide +kernel
theorem dX11_keyed_100 : decode cX11_keyed 100 = .ok (.if_icmp .ne 31, 3) := by decide +kernel
theorem dX11_keyed_103 : decode cX11_keyed 103 = .ok (.aload_n 0, 1) := by decide +kernel
theorem dX11_keyed_104 : decode cX11_keyed 104 = .ok (.getfield 7, 3) := by decide +kernel
theorem dX11_keyed_107 : decode cX11_keyed 107 = .ok (.sipush 864, 3) := by decide +kernel
theorem dX11_keyed_110 : decode cX11_keyed 110 = .ok (.iconst 3, 1) := by decide +kernel
theorem dX11_keyed_111 : decode cX11_keyed 111 = .ok (.bipush 96, 2) := by decide +kernel
theorem dX11_keyed_113 : decode cX11_keyed 113 = .ok (.iload_n 1, 1) := by decide +kernel
theorem dX11_keyed_114 : decode cX11_keyed 114 = .ok (.imul, 1) := by decide +kernel
theorem dX11_keyed_115 : decode cX11_keyed 115 = .ok (.aload_n 0, 1) := by decide +kernel
theorem dX11_keyed_116 : decode cX11_keyed 116 = .ok (.getfield 28, 3) := by decide +kernel
theorem dX11_keyed_119 : decode cX11_keyed 119 = .ok (.iload 4, 2) := by decide +kernel
theorem dX11_keyed_121 : decode cX11_keyed 121 = .ok (.iaload, 1) := by decide +kernel
theorem dX11_keyed_122 : decode cX11_keyed 122 = .ok (.iadd, 1) := by decide +kernel
theorem dX11_keyed_123 : decode cX11_keyed 123 = .ok (.imul, 1) := by decide +kernel
theorem dX11_keyed_124 : decode cX11_keyed 124 = .ok (.iadd, 1) := by decide +kernel
theorem dX11_keyed_125 : decode cX11_keyed 125 = .ok (.iload_n 3, 1) := by decide +kernel
theorem dX11_keyed_126 : decode cX11_keyed 126 = .ok (.iadd, 1) := by decide +kernel
theorem dX11_keyed_127 : decode cX11_keyed 127 = .ok (.iaload, 1) := by decide +kernel
theorem dX11_keyed_128 : decode cX11_keyed 128 = .ok (.goto 14, 3) := by decide +kernel
theorem dX11_keyed_131 : decode cX11_keyed 131 = .ok (.aload_n 0, 1) := by decide +kernel
theorem dX11_keyed_132 : decode cX11_keyed 132 = .ok (.getfield 7, 3) := by decide +kernel
theorem dX11_keyed_135 : decode cX11_keyed 135 = .ok (.iload 5, 2) := by decide +kernel
theorem dX11_keyed_137 : decode cX11_keyed 137 = .ok (.iconst 2, 1) := by decide +kernel
theorem dX11_keyed_138 : decode cX11_keyed 138 = .ok (.iadd, 1) := by decide +kernel
theorem dX11_keyed_139 : decode cX11_keyed 139 = .ok (.iload_n 3, 1) := by decide +kernel
theorem dX11_keyed_140 : decode cX11_keyed 140 = .ok (.iadd, 1) := by decide +kernel
theorem dX11_keyed_141 : decode cX11_keyed 141 = .ok (.iaload, 1) := by decide +kernel
theorem dX11_keyed_142 : decode cX11_keyed 142 = .ok (.istore 6, 2) := by decide +kernel
theorem dX11_keyed_144 : decode cX11_keyed 144 = .ok (.aload_n 0, 1) := by decide +kernel
theorem dX11_keyed_145 : decode cX11_keyed 145 = .ok (.getfield 71, 3) := by decide +kernel
theorem dX11_keyed_148 : decode cX11_keyed 148 = .ok (.aload_n 0, 1) := by decide +kernel
theorem dX11_keyed_149 : decode cX11_keyed 149 = .ok (.getfield 273, 3) := by decide +kernel
theorem dX11_keyed_152 : decode cX11_keyed 152 = .ok (.iload 6, 2) := by decide +kernel
theorem dX11_keyed_154 : decode cX11_keyed 154 = .ok (.iastore, 1) := by decide +kernel
theorem dX11_keyed_155 : decode cX11_keyed 155 = .ok (.aload_n 0, 1) := by decide +kernel
theorem dX11_keyed_156 : decode cX11_keyed 156 = .ok (.dup, 1) := by decide +kernel
theorem dX11_keyed_157 : decode cX11_keyed 157 = .ok (.getfield 273, 3) := by decide +kernel
theorem dX11_keyed_160 : decode cX11_keyed 160 = .ok (.iload 6, 2) := by decide +kernel
theorem dX11_keyed_162 : decode cX11_keyed 162 = .ok (.ifCond .le 7, 3) := by decide +kernel
theorem dX11_keyed_165 : decode cX11_keyed 165 = .ok (.iconst 1, 1) := by decide +kernel
theorem dX11_keyed_166 : decode cX11_keyed 166 = .ok (.goto 4, 3) := by decide +kernel
theorem dX11_keyed_169 : decode cX11_keyed 169 = .ok (.iconst 0, 1) := by decide +kernel
theorem dX11_keyed_170 : decode cX11_keyed 170 = .ok (.iadd, 1) := by decide +kernel
theorem dX11_keyed_171 : decode cX11_keyed 171 = .ok (.putfield 273, 3) := by decide +kernel
theorem dX11_keyed_174 : decode cX11_keyed 174 = .ok (.iload 4, 2) := by decide +kernel
theorem dX11_keyed_176 : decode cX11_keyed 176 = .ok (.iload 5, 2) := by decide +kernel
theorem dX11_keyed_178 : decode cX11_keyed 178 = .ok (.iconst (-1), 1) := by decide +kernel
theorem dX11_keyed_179 : decode cX11_keyed 179 = .ok (.if_icmp .ne 7, 3) := by decide +kernel
theorem dX11_keyed_182 : decode cX11_keyed 182 = .ok (.iconst 1, 1) := by decide +kernel
theorem dX11_keyed_183 : decode cX11_keyed 183 = .ok (.goto 4, 3) := by decide +kernel
theorem dX11_keyed_186 : decode cX11_keyed 186 = .ok (.iconst 2, 1) := by decide +kernel
theorem dX11_keyed_187 : decode cX11_keyed 187 = .ok (.iadd, 1) := by decide +kernel
theorem dX11_keyed_188 : decode cX11_keyed 188 = .ok (.istore 4, 2) := by decide +kernel
theorem dX11_keyed_190 : decode cX11_keyed 190 = .ok (.goto (-140), 3) := by decide +kernel
theorem dX11_keyed_193 : decode cX11_keyed 193 = .ok (.iinc 3 1, 3) := by decide +kernel
theorem dX11_keyed_196 : decode cX11_keyed 196 = .ok (.goto (-178), 3) := by decide +kernel
theorem dX11_keyed_199 : decode cX11_keyed 199 = .ok (.iconst 1, 1) := by decide +kernel
theorem dX11_keyed_200 : decode cX11_keyed 200 = .ok (.ireturn, 1) := by decide +kernel
theorem dX11_compares_0 : decode cX11_compares 0 = .ok (.iconst 0, 1) := by decide +kernel
theorem dX11_compares_1 : decode cX11_compares 1 = .ok (.istore_n 2, 1) := by decide +kernel
theorem dX11_compares_2 : decode cX11_compares 2 = .ok (.iload_n 2, 1) := by decide +kernel
theorem dX11_compares_3 : decode cX11_compares 3 = .ok (.aload_n 0, 1) := by decide +kernel
theorem dX11_compares_4 : decode cX11_compares 4 = .ok (.getfield 273, 3) := by decide +kernel
theorem dX11_compares_7 : decode cX11_compares 7 = .ok (.if_icmp .ge 50, 3) := by decide +kernel
theorem dX11_compares_10 : decode cX11_compares 10 = .ok (.iload_n 2, 1) := by decide +kernel
theorem dX11_compares_11 : decode cX11_compares 11 = .ok (.iload_n 1, 1) := by decide +kernel
theorem dX11_compares_12 : decode cX11_compares 12 = .ok (.if_icmp .ge 45, 3) := by decide +kernel
theorem dX11_compares_15 : decode cX11_compares 15 = .ok (.aload_n 0, 1) := by decide +kernel
theorem dX11_compares_16 : decode cX11_compares 16 = .ok (.getfield 71, 3) := by decide +kernel
theorem dX11_compares_19 : decode cX11_compares 19 = .ok (.iload_n 2, 1) := by decide +kernel
theorem dX11_compares_20 : decode cX11_compares 20 = .ok (.iaload, 1) := by decide +kernel
theorem dX11_compares_21 : decode cX11_compares 21 = .ok (.aload_n 0, 1) := by decide +kernel
theorem dX11_compares_22 : decode cX11_compares 22 = .ok (.getfield 74, 3) := by decide +kernel
theorem dX11_compares_25 : decode cX11_compares 25 = .ok (.iload_n 2, 1) := by decide +kernel
theorem dX11_compares_26 : decode cX11_compares 26 = .ok (.iaload, 1) := by decide +kernel
theorem dX11_compares_27 : decode cX11_compares 27 = .ok (.if_icmp .eq 24, 3) := by decide +kernel
theorem dX11_compares_30 : decode cX11_compares 30 = .ok (.aload_n 0, 1) := by decide +kernel
theorem dX11_compares_31 : decode cX11_compares 31 = .ok (.getfield 74, 3) := by decide +kernel
theorem dX11_compares_34 : decode cX11_compares 34 = .ok (.iload_n 2, 1) := by decide +kernel
theorem dX11_compares_35 : decode cX11_compares 35 = .ok (.iaload, 1) := by decide +kernel
theorem dX11_compares_36 : decode cX11_compares 36 = .ok (.aload_n 0, 1) := by decide +kernel
theorem dX11_compares_37 : decode cX11_compares 37 = .ok (.getfield 71, 3) := by decide +kernel
theorem dX11_compares_40 : decode cX11_compares 40 = .ok (.iload_n 2, 1) := by decide +kernel
theorem dX11_compares_41 : decode cX11_compares 41 = .ok (.iaload, 1) := by decide +kernel
theorem dX11_compares_42 : decode cX11_compares 42 = .ok (.if_icmp .ge 7, 3) := by decide +kernel
theorem dX11_compares_45 : decode cX11_compares 45 = .ok (.iconst (-1), 1) := by decide +kernel
theorem dX11_compares_46 : decode cX11_compares 46 = .ok (.goto 4, 3) := by decide +kernel
theorem dX11_compares_49 : decode cX11_compares 49 = .ok (.iconst 1, 1) := by decide +kernel
theorem dX11_compares_50 : decode cX11_compares 50 = .ok (.ireturn, 1) := by decide +kernel
theorem dX11_compares_51 : decode cX11_compares 51 = .ok (.iinc 2 1, 3) := by decide +kernel
theorem dX11_compares_54 : decode cX11_compares 54 = .ok (.goto (-52), 3) := by decide +kernel
theorem dX11_compares_57 : decode cX11_compares 57 = .ok (.iload_n 1, 1) := by decide +kernel
theorem dX11_compares_58 : decode cX11_compares 58 = .ok (.aload_n 0, 1) := by decide +kernel
theorem dX11_compares_59 : decode cX11_compares 59 = .ok (.getfield 273, 3) := by decide +kernel
theorem dX11_compares_62 : decode cX11_compares 62 = .ok (.if_icmp .ge 7, 3) := by decide +kernel
theorem dX11_compares_65 : decode cX11_compares 65 = .ok (.iconst (-1), 1) := by decide +kernel
theorem dX11_compares_66 : decode cX11_compares 66 = .ok (.goto 16, 3) := by decide +kernel
theorem dX11_compares_69 : decode cX11_compares 69 = .ok (.iload_n 1, 1) := by decide +kernel
theorem dX11_compares_70 : decode cX11_compares 70 = .ok (.aload_n 0, 1) := by decide +kernel
theorem dX11_compares_71 : decode cX11_compares 71 = .ok (.getfield 273, 3) := by decide +kernel
theorem dX11_compares_74 : decode cX11_compares 74 = .ok (.if_icmp .le 7, 3) := by decide +kernel
theorem dX11_compares_77 : decode cX11_compares 77 = .ok (.iconst 1, 1) := by decide +kernel
theorem dX11_compares_78 : decode cX11_compares 78 = .ok (.goto 4, 3) := by decide +kernel
theorem dX11_compares_81 : decode cX11_compares 81 = .ok (.iconst 0, 1) := by decide +kernel
theorem dX11_compares_82 : decode cX11_compares 82 = .ok (.ireturn, 1) := by decide +kernel
theorem dX11_compare_0 : decode cX11_compare 0 = .ok (.iload_n 1, 1) := by decide +kernel
theorem dX11_compare_1 : decode cX11_compare 1 = .ok (.invokestatic 131, 3) := by decide +kernel
theorem dX11_compare_4 : decode cX11_compare 4 = .ok (.ifCond .eq 21, 3) := by decide +kernel
theorem dX11_compare_7 : decode cX11_compare 7 = .ok (.iload_n 2, 1) := by decide +kernel
theorem dX11_compare_8 : decode cX11_compare 8 = .ok (.invokestatic 145, 3) := by decide +kernel
theorem dX11_compare_11 : decode cX11_compare 11 = .ok (.ifCond .eq 14, 3) := by decide +kernel
theorem dX11_compare_14 : decode cX11_compare 14 = .ok (.iload_n 3, 1) := by decide +kernel
theorem dX11_compare_15 : decode cX11_compare 15 = .ok (.invokestatic 145, 3) := by decide +kernel
theorem dX11_compare_18 : decode cX11_compare 18 = .ok (.ifCond .eq 7, 3) := by decide +kernel
theorem dX11_compare_21 : decode cX11_compare 21 = .ok (.iconst 1, 1) := by decide +kernel
theorem dX11_compare_22 : decode cX11_compare 22 = .ok (.goto 4, 3) := by decide +kernel
theorem dX11_compare_25 : decode cX11_compare 25 = .ok (.iconst 0, 1) := by decide +kernel
theorem dX11_compare_26 : decode cX11_compare 26 = .ok (.istore 4, 2) := by decide +kernel
theorem dX11_compare_28 : decode cX11_compare 28 = .ok (.iload 4, 2) := by decide +kernel
theorem dX11_compare_30 : decode cX11_compare 30 = .ok (.ifCond .eq 16, 3) := by decide +kernel
theorem dX11_compare_33 : decode cX11_compare 33 = .ok (.aload_n 0, 1) := by decide +kernel
theorem dX11_compare_34 : decode cX11_compare 34 = .ok (.iload_n 1, 1) := by decide +kernel
theorem dX11_compare_35 : decode cX11_compare 35 = .ok (.iload_n 2, 1) := by decide +kernel
theorem dX11_compare_36 : decode cX11_compare 36 = .ok (.invokevirtual 276, 3) := by decide +kernel
theorem dX11_compare_39 : decode cX11_compare 39 = .ok (.ifCond .eq 7, 3) := by decide +kernel
theorem dX11_compare_42 : decode cX11_compare 42 = .ok (.iconst 1, 1) := by decide +kernel
theorem dX11_compare_43 : decode cX11_compare 43 = .ok (.goto 4, 3) := by decide +kernel
theorem dX11_compare_46 : decode cX11_compare 46 = .ok (.iconst 0, 1) := by decide +kernel
theorem dX11_compare_47 : decode cX11_compare 47 = .ok (.istore 5, 2) := by decide +kernel
theorem dX11_compare_49 : decode cX11_compare 49 = .ok (.aload_n 0, 1) := by decide +kernel
theorem dX11_compare_50 : decode cX11_compare 50 = .ok (.getfield 273, 3) := by decide +kernel
theorem dX11_compare_53 : decode cX11_compare 53 = .ok (.istore 6, 2) := by decide +kernel
theorem dX11_compare_55 : decode cX11_compare 55 = .ok (.iconst 0, 1) := by decide +kernel
theorem dX11_compare_56 : decode cX11_compare 56 = .ok (.istore 7, 2) := by decide +kernel
theorem dX11_compare_58 : decode cX11_compare 58 = .ok (.iload 7, 2) := by decide +kernel
theorem dX11_compare_60 : decode cX11_compare 60 = .ok (.iload 6, 2) := by decide +kernel
theorem dX11_compare_62 : decode cX11_compare 62 = .ok (.if_icmp .ge 28, 3) := by decide +kernel
theorem dX11_compare_65 : decode cX11_compare 65 = .ok (.iload 5, 2) := by decide +kernel
theorem dX11_compare_67 : decode cX11_compare 67 = .ok (.ifCond .eq 23, 3) := by decide +kernel
theorem dX11_compare_70 : decode cX11_compare 70 = .ok (.aload_n 0, 1) := by decide +kernel
theorem dX11_compare_71 : decode cX11_compare 71 = .ok (.getfield 74, 3) := by decide +kernel
theorem dX11_compare_74 : decode cX11_compare 74 = .ok (.iload 7, 2) := by decide +kernel
theorem dX11_compare_76 : decode cX11_compare 76 = .ok (.aload_n 0, 1) := by decide +kernel
theorem dX11_compare_77 : decode cX11_compare 77 = .ok (.getfield 71, 3) := by decide +kernel
theorem dX11_compare_80 : decode cX11_compare 80 = .ok (.iload 7, 2) := by decide +kernel
theorem dX11_compare_82 : decode cX11_compare 82 = .ok (.iaload, 1) := by decide +kernel
theorem dX11_compare_83 : decode cX11_compare 83 = .ok (.iastore, 1) := by decide +kernel
theorem dX11_compare_84 : decode cX11_compare 84 = .ok (.iinc 7 1, 3) := by decide +kernel
theorem dX11_compare_87 : decode cX11_compare 87 = .ok (.goto (-29), 3) := by decide +kernel
theorem dX11_compare_90 : decode cX11_compare 90 = .ok (.iload 5, 2) := by decide +kernel
theorem dX11_compare_92 : decode cX11_compare 92 = .ok (.ifCond .eq 16, 3) := by decide +kernel
theorem dX11_compare_95 : decode cX11_compare 95 = .ok (.aload_n 0, 1) := by decide +kernel
theorem dX11_compare_96 : decode cX11_compare 96 = .ok (.iload_n 1, 1) := by decide +kernel
theorem dX11_compare_97 : decode cX11_compare 97 = .ok (.iload_n 3, 1) := by decide +kernel
theorem dX11_compare_98 : decode cX11_compare 98 = .ok (.invokevirtual 276, 3) := by decide +kernel
theorem dX11_compare_101 : decode cX11_compare 101 = .ok (.ifCond .eq 7, 3) := by decide +kernel
theorem dX11_compare_104 : decode cX11_compare 104 = .ok (.iconst 1, 1) := by decide +kernel
theorem dX11_compare_105 : decode cX11_compare 105 = .ok (.goto 4, 3) := by decide +kernel
theorem dX11_compare_108 : decode cX11_compare 108 = .ok (.iconst 0, 1) := by decide +kernel
theorem dX11_compare_109 : decode cX11_compare 109 = .ok (.istore 5, 2) := by decide +kernel
theorem dX11_compare_111 : decode cX11_compare 111 = .ok (.aload_n 0, 1) := by decide +kernel
theorem dX11_compare_112 : decode cX11_compare 112 = .ok (.iload 4, 2) := by decide +kernel
theorem dX11_compare_114 : decode cX11_compare 114 = .ok (.ifCond .ne 7, 3) := by decide +kernel
theorem dX11_compare_117 : decode cX11_compare 117 = .ok (.iconst 1, 1) := by decide +kernel
theorem dX11_compare_118 : decode cX11_compare 118 = .ok (.goto 13, 3) := by decide +kernel
theorem dX11_compare_121 : decode cX11_compare 121 = .ok (.iload 5, 2) := by decide +kernel
theorem dX11_compare_123 : decode cX11_compare 123 = .ok (.ifCond .eq 7, 3) := by decide +kernel
theorem dX11_compare_126 : decode cX11_compare 126 = .ok (.iconst 0, 1) := by decide +kernel
theorem dX11_compare_127 : decode cX11_compare 127 = .ok (.goto 4, 3) := by decide +kernel
theorem dX11_compare_130 : decode cX11_compare 130 = .ok (.iconst 2, 1) := by decide +kernel
theorem dX11_compare_131 : decode cX11_compare 131 = .ok (.invokevirtual 118, 3) := by decide +kernel
theorem dX11_compare_134 : decode cX11_compare 134 = .ok (.ifCond .eq 12, 3) := by decide +kernel
theorem dX11_compare_137 : decode cX11_compare 137 = .ok (.aload_n 0, 1) := by decide +kernel
theorem dX11_compare_138 : decode cX11_compare 138 = .ok (.iload 6, 2) := by decide +kernel
theorem dX11_compare_140 : decode cX11_compare 140 = .ok (.invokevirtual 279, 3) := by decide +kernel
theorem dX11_compare_143 : decode cX11_compare 143 = .ok (.goto 4, 3) := by decide +kernel
theorem dX11_compare_146 : decode cX11_compare 146 = .ok (.iconst 0, 1) := by decide +kernel
theorem dX11_compare_147 : decode cX11_compare 147 = .ok (.ireturn, 1) := by decide +kernel
theorem dX11_key_0 : decode cX11_key 0 = .ok (.iload_n 1, 1) := by decide +kernel
theorem dX11_key_1 : decode cX11_key 1 = .ok (.invokestatic 131, 3) := by decide +kernel
theorem dX11_key_4 : decode cX11_key 4 = .ok (.ifCond .eq 14, 3) := by decide +kernel
theorem dX11_key_7 : decode cX11_key 7 = .ok (.iload_n 2, 1) := by decide +kernel
theorem dX11_key_8 : decode cX11_key 8 = .ok (.invokestatic 145, 3) := by decide +kernel
theorem dX11_key_11 : decode cX11_key 11 = .ok (.ifCond .eq 7, 3) := by decide +kernel
theorem dX11_key_14 : decode cX11_key 14 = .ok (.iconst 1, 1) := by decide +kernel
theorem dX11_key_15 : decode cX11_key 15 = .ok (.goto 4, 3) := by decide +kernel
theorem dX11_key_18 : decode cX11_key 18 = .ok (.iconst 0, 1) := by decide +kernel
theorem dX11_key_19 : decode cX11_key 19 = .ok (.istore 4, 2) := by decide +kernel
theorem dX11_key_21 : decode cX11_key 21 = .ok (.iload 4, 2) := by decide +kernel
theorem dX11_key_23 : decode cX11_key 23 = .ok (.ifCond .eq 16, 3) := by decide +kernel
theorem dX11_key_26 : decode cX11_key 26 = .ok (.aload_n 0, 1) := by decide +kernel
theorem dX11_key_27 : decode cX11_key 27 = .ok (.iload_n 1, 1) := by decide +kernel
theorem dX11_key_28 : decode cX11_key 28 = .ok (.iload_n 2, 1) := by decide +kernel
theorem dX11_key_29 : decode cX11_key 29 = .ok (.invokevirtual 276, 3) := by decide +kernel
theorem dX11_key_32 : decode cX11_key 32 = .ok (.ifCond .eq 7, 3) := by decide +kernel
theorem dX11_key_35 : decode cX11_key 35 = .ok (.iconst 1, 1) := by decide +kernel
theorem dX11_key_36 : decode cX11_key 36 = .ok (.goto 4, 3) := by decide +kernel
theorem dX11_key_39 : decode cX11_key 39 = .ok (.iconst 0, 1) := by decide +kernel
theorem dX11_key_40 : decode cX11_key 40 = .ok (.istore 5, 2) := by decide +kernel
theorem dX11_key_42 : decode cX11_key 42 = .ok (.aload_n 0, 1) := by decide +kernel
theorem dX11_key_43 : decode cX11_key 43 = .ok (.iload 4, 2) := by decide +kernel
theorem dX11_key_45 : decode cX11_key 45 = .ok (.ifCond .ne 7, 3) := by decide +kernel
theorem dX11_key_48 : decode cX11_key 48 = .ok (.iconst 1, 1) := by decide +kernel
theorem dX11_key_49 : decode cX11_key 49 = .ok (.goto 31, 3) := by decide +kernel
theorem dX11_key_52 : decode cX11_key 52 = .ok (.iload 5, 2) := by decide +kernel
theorem dX11_key_54 : decode cX11_key 54 = .ok (.ifCond .ne 7, 3) := by decide +kernel
theorem dX11_key_57 : decode cX11_key 57 = .ok (.iconst 2, 1) := by decide +kernel
theorem dX11_key_58 : decode cX11_key 58 = .ok (.goto 22, 3) := by decide +kernel
theorem dX11_key_61 : decode cX11_key 61 = .ok (.iload_n 3, 1) := by decide +kernel
theorem dX11_key_62 : decode cX11_key 62 = .ok (.iconst (-1), 1) := by decide +kernel
theorem dX11_key_63 : decode cX11_key 63 = .ok (.aload_n 0, 1) := by decide +kernel
theorem dX11_key_64 : decode cX11_key 64 = .ok (.getfield 273, 3) := by decide +kernel
theorem dX11_key_67 : decode cX11_key 67 = .ok (.iconst 1, 1) := by decide +kernel
theorem dX11_key_68 : decode cX11_key 68 = .ok (.isub, 1) := by decide +kernel
theorem dX11_key_69 : decode cX11_key 69 = .ok (.invokestatic 111, 3) := by decide +kernel
theorem dX11_key_72 : decode cX11_key 72 = .ok (.ifCond .eq 7, 3) := by decide +kernel
theorem dX11_key_75 : decode cX11_key 75 = .ok (.iconst 0, 1) := by decide +kernel
theorem dX11_key_76 : decode cX11_key 76 = .ok (.goto 4, 3) := by decide +kernel
theorem dX11_key_79 : decode cX11_key 79 = .ok (.iconst 1, 1) := by decide +kernel
theorem dX11_key_80 : decode cX11_key 80 = .ok (.invokevirtual 118, 3) := by decide +kernel
theorem dX11_key_83 : decode cX11_key 83 = .ok (.ifCond .ne 5, 3) := by decide +kernel
theorem dX11_key_86 : decode cX11_key 86 = .ok (.iconst 0, 1) := by decide +kernel
theorem dX11_key_87 : decode cX11_key 87 = .ok (.ireturn, 1) := by decide +kernel
theorem dX11_key_88 : decode cX11_key 88 = .ok (.iload_n 3, 1) := by decide +kernel
theorem dX11_key_89 : decode cX11_key 89 = .ok (.iconst (-1), 1) := by decide +kernel
theorem dX11_key_90 : decode cX11_key 90 = .ok (.if_icmp .ne 10, 3) := by decide +kernel
theorem dX11_key_93 : decode cX11_key 93 = .ok (.aload_n 0, 1) := by decide +kernel
theorem dX11_key_94 : decode cX11_key 94 = .ok (.getfield 273, 3) := by decide +kernel
theorem dX11_key_97 : decode cX11_key 97 = .ok (.goto 9, 3) := by decide +kernel
theorem dX11_key_100 : decode cX11_key 100 = .ok (.aload_n 0, 1) := by decide +kernel
theorem dX11_key_101 : decode cX11_key 101 = .ok (.getfield 71, 3) := by decide +kernel
theorem dX11_key_104 : decode cX11_key 104 = .ok (.iload_n 3, 1) := by decide +kernel
theorem dX11_key_105 : decode cX11_key 105 = .ok (.iaload, 1) := by decide +kernel
theorem dX11_key_106 : decode cX11_key 106 = .ok (.ireturn, 1) := by decide +kernel
theorem dX11_finds_0 : decode cX11_finds 0 = .ok (.iload_n 2, 1) := by decide +kernel
theorem dX11_finds_1 : decode cX11_finds 1 = .ok (.istore_n 3, 1) := by decide +kernel
theorem dX11_finds_2 : decode cX11_finds 2 = .ok (.iload_n 3, 1) := by decide +kernel
theorem dX11_finds_3 : decode cX11_finds 3 = .ok (.aload_n 0, 1) := by decide +kernel
theorem dX11_finds_4 : decode cX11_finds 4 = .ok (.getfield 19, 3) := by decide +kernel
theorem dX11_finds_7 : decode cX11_finds 7 = .ok (.iload_n 1, 1) := by decide +kernel
theorem dX11_finds_8 : decode cX11_finds 8 = .ok (.iaload, 1) := by decide +kernel
theorem dX11_finds_9 : decode cX11_finds 9 = .ok (.if_icmp .ge 77, 3) := by decide +kernel
theorem dX11_finds_12 : decode cX11_finds 12 = .ok (.iload_n 3, 1) := by decide +kernel
theorem dX11_finds_13 : decode cX11_finds 13 = .ok (.iconst 1, 1) := by decide +kernel
theorem dX11_finds_14 : decode cX11_finds 14 = .ok (.iadd, 1) := by decide +kernel
theorem dX11_finds_15 : decode cX11_finds 15 = .ok (.istore 4, 2) := by decide +kernel
theorem dX11_finds_17 : decode cX11_finds 17 = .ok (.iload 4, 2) := by decide +kernel
theorem dX11_finds_19 : decode cX11_finds 19 = .ok (.aload_n 0, 1) := by decide +kernel
theorem dX11_finds_20 : decode cX11_finds 20 = .ok (.getfield 19, 3) := by decide +kernel
theorem dX11_finds_23 : decode cX11_finds 23 = .ok (.iload_n 1, 1) := by decide +kernel
theorem dX11_finds_24 : decode cX11_finds 24 = .ok (.iaload, 1) := by decide +kernel
theorem dX11_finds_25 : decode cX11_finds 25 = .ok (.if_icmp .gt 55, 3) := by decide +kernel
theorem dX11_finds_28 : decode cX11_finds 28 = .ok (.aload_n 0, 1) := by decide +kernel
theorem dX11_finds_29 : decode cX11_finds 29 = .ok (.iload_n 1, 1) := by decide +kernel
theorem dX11_finds_30 : decode cX11_finds 30 = .ok (.iload_n 3, 1) := by decide +kernel
theorem dX11_finds_31 : decode cX11_finds 31 = .ok (.invokevirtual 249, 3) := by decide +kernel
theorem dX11_finds_34 : decode cX11_finds 34 = .ok (.ifCond .eq 46, 3) := by decide +kernel
theorem dX11_finds_37 : decode cX11_finds 37 = .ok (.aload_n 0, 1) := by decide +kernel
theorem dX11_finds_38 : decode cX11_finds 38 = .ok (.iload_n 1, 1) := by decide +kernel
theorem dX11_finds_39 : decode cX11_finds 39 = .ok (.iload 4, 2) := by decide +kernel
theorem dX11_finds_41 : decode cX11_finds 41 = .ok (.invokevirtual 258, 3) := by decide +kernel
theorem dX11_finds_44 : decode cX11_finds 44 = .ok (.ifCond .eq 30, 3) := by decide +kernel
theorem dX11_finds_47 : decode cX11_finds 47 = .ok (.aload_n 0, 1) := by decide +kernel
theorem dX11_finds_48 : decode cX11_finds 48 = .ok (.iload_n 1, 1) := by decide +kernel
theorem dX11_finds_49 : decode cX11_finds 49 = .ok (.iload_n 3, 1) := by decide +kernel
theorem dX11_finds_50 : decode cX11_finds 50 = .ok (.iload 4, 2) := by decide +kernel
theorem dX11_finds_52 : decode cX11_finds 52 = .ok (.invokevirtual 184, 3) := by decide +kernel
theorem dX11_finds_55 : decode cX11_finds 55 = .ok (.aload_n 0, 1) := by decide +kernel
theorem dX11_finds_56 : decode cX11_finds 56 = .ok (.invokevirtual 178, 3) := by decide +kernel
theorem dX11_finds_59 : decode cX11_finds 59 = .ok (.aload_n 0, 1) := by decide +kernel
theorem dX11_finds_60 : decode cX11_finds 60 = .ok (.invokevirtual 200, 3) := by decide +kernel
theorem dX11_finds_63 : decode cX11_finds 63 = .ok (.ifCond .eq 11, 3) := by decide +kernel
theorem dX11_finds_66 : decode cX11_finds 66 = .ok (.bipush 100, 2) := by decide +kernel
theorem dX11_finds_68 : decode cX11_finds 68 = .ok (.iload_n 3, 1) := by decide +kernel
theorem dX11_finds_69 : decode cX11_finds 69 = .ok (.imul, 1) := by decide +kernel
theorem dX11_finds_70 : decode cX11_finds 70 = .ok (.iload 4, 2) := by decide +kernel
theorem dX11_finds_72 : decode cX11_finds 72 = .ok (.iadd, 1) := by decide +kernel
theorem dX11_finds_73 : decode cX11_finds 73 = .ok (.ireturn, 1) := by decide +kernel
theorem dX11_finds_74 : decode cX11_finds 74 = .ok (.iinc 4 1, 3) := by decide +kernel
theorem dX11_finds_77 : decode cX11_finds 77 = .ok (.goto (-60), 3) := by decide +kernel
theorem dX11_finds_80 : decode cX11_finds 80 = .ok (.iinc 3 1, 3) := by decide +kernel
theorem dX11_finds_83 : decode cX11_finds 83 = .ok (.goto (-81), 3) := by decide +kernel
theorem dX11_finds_86 : decode cX11_finds 86 = .ok (.iconst (-1), 1) := by decide +kernel
theorem dX11_finds_87 : decode cX11_finds 87 = .ok (.ireturn, 1) := by decide +kernel
theorem dX11_find_0 : decode cX11_find 0 = .ok (.iload_n 1, 1) := by decide +kernel
theorem dX11_find_1 : decode cX11_find 1 = .ok (.invokestatic 145, 3) := by decide +kernel
theorem dX11_find_4 : decode cX11_find 4 = .ok (.ifCond .eq 14, 3) := by decide +kernel
theorem dX11_find_7 : decode cX11_find 7 = .ok (.iload_n 2, 1) := by decide +kernel
theorem dX11_find_8 : decode cX11_find 8 = .ok (.invokestatic 145, 3) := by decide +kernel
theorem dX11_find_11 : decode cX11_find 11 = .ok (.ifCond .eq 7, 3) := by decide +kernel
theorem dX11_find_14 : decode cX11_find 14 = .ok (.iconst 1, 1) := by decide +kernel
theorem dX11_find_15 : decode cX11_find 15 = .ok (.goto 4, 3) := by decide +kernel
theorem dX11_find_18 : decode cX11_find 18 = .ok (.iconst 0, 1) := by decide +kernel
theorem dX11_find_19 : decode cX11_find 19 = .ok (.istore 4, 2) := by decide +kernel
theorem dX11_find_21 : decode cX11_find 21 = .ok (.iload 4, 2) := by decide +kernel
theorem dX11_find_23 : decode cX11_find 23 = .ok (.ifCond .eq 17, 3) := by decide +kernel
theorem dX11_find_26 : decode cX11_find 26 = .ok (.iload_n 3, 1) := by decide +kernel
theorem dX11_find_27 : decode cX11_find 27 = .ok (.iconst 0, 1) := by decide +kernel
theorem dX11_find_28 : decode cX11_find 28 = .ok (.bipush 40, 2) := by decide +kernel
theorem dX11_find_30 : decode cX11_find 30 = .ok (.invokestatic 111, 3) := by decide +kernel
theorem dX11_find_33 : decode cX11_find 33 = .ok (.ifCond .eq 7, 3) := by decide +kernel
theorem dX11_find_36 : decode cX11_find 36 = .ok (.iconst 1, 1) := by decide +kernel
theorem dX11_find_37 : decode cX11_find 37 = .ok (.goto 4, 3) := by decide +kernel
theorem dX11_find_40 : decode cX11_find 40 = .ok (.iconst 0, 1) := by decide +kernel
theorem dX11_find_41 : decode cX11_find 41 = .ok (.istore 5, 2) := by decide +kernel
theorem dX11_find_43 : decode cX11_find 43 = .ok (.iload 5, 2) := by decide +kernel
theorem dX11_find_45 : decode cX11_find 45 = .ok (.ifCond .eq 25, 3) := by decide +kernel
theorem dX11_find_48 : decode cX11_find 48 = .ok (.aload_n 0, 1) := by decide +kernel
theorem dX11_find_49 : decode cX11_find 49 = .ok (.iload_n 1, 1) := by decide +kernel
theorem dX11_find_50 : decode cX11_find 50 = .ok (.iconst 2, 1) := by decide +kernel
theorem dX11_find_51 : decode cX11_find 51 = .ok (.invokevirtual 190, 3) := by decide +kernel
theorem dX11_find_54 : decode cX11_find 54 = .ok (.ifCond .eq 16, 3) := by decide +kernel
theorem dX11_find_57 : decode cX11_find 57 = .ok (.aload_n 0, 1) := by decide +kernel
theorem dX11_find_58 : decode cX11_find 58 = .ok (.iload_n 2, 1) := by decide +kernel
theorem dX11_find_59 : decode cX11_find 59 = .ok (.iconst 2, 1) := by decide +kernel
theorem dX11_find_60 : decode cX11_find 60 = .ok (.invokevirtual 190, 3) := by decide +kernel
theorem dX11_find_63 : decode cX11_find 63 = .ok (.ifCond .eq 7, 3) := by decide +kernel
theorem dX11_find_66 : decode cX11_find 66 = .ok (.iconst 1, 1) := by decide +kernel
theorem dX11_find_67 : decode cX11_find 67 = .ok (.goto 4, 3) := by decide +kernel
theorem dX11_find_70 : decode cX11_find 70 = .ok (.iconst 0, 1) := by decide +kernel
theorem dX11_find_71 : decode cX11_find 71 = .ok (.istore 6, 2) := by decide +kernel
theorem dX11_find_73 : decode cX11_find 73 = .ok (.aload_n 0, 1) := by decide +kernel
theorem dX11_find_74 : decode cX11_find 74 = .ok (.iload 4, 2) := by decide +kernel
theorem dX11_find_76 : decode cX11_find 76 = .ok (.ifCond .ne 7, 3) := by decide +kernel
theorem dX11_find_79 : decode cX11_find 79 = .ok (.iconst 1, 1) := by decide +kernel
theorem dX11_find_80 : decode cX11_find 80 = .ok (.goto 22, 3) := by decide +kernel
theorem dX11_find_83 : decode cX11_find 83 = .ok (.iload 5, 2) := by decide +kernel
theorem dX11_find_85 : decode cX11_find 85 = .ok (.ifCond .ne 7, 3) := by decide +kernel
theorem dX11_find_88 : decode cX11_find 88 = .ok (.iconst 2, 1) := by decide +kernel
theorem dX11_find_89 : decode cX11_find 89 = .ok (.goto 13, 3) := by decide +kernel
theorem dX11_find_92 : decode cX11_find 92 = .ok (.iload 6, 2) := by decide +kernel
theorem dX11_find_94 : decode cX11_find 94 = .ok (.ifCond .eq 7, 3) := by decide +kernel
theorem dX11_find_97 : decode cX11_find 97 = .ok (.iconst 0, 1) := by decide +kernel
theorem dX11_find_98 : decode cX11_find 98 = .ok (.goto 4, 3) := by decide +kernel
theorem dX11_find_101 : decode cX11_find 101 = .ok (.iconst 3, 1) := by decide +kernel
theorem dX11_find_102 : decode cX11_find 102 = .ok (.invokevirtual 118, 3) := by decide +kernel
theorem dX11_find_105 : decode cX11_find 105 = .ok (.ifCond .ne 5, 3) := by decide +kernel
theorem dX11_find_108 : decode cX11_find 108 = .ok (.iconst 0, 1) := by decide +kernel
theorem dX11_find_109 : decode cX11_find 109 = .ok (.ireturn, 1) := by decide +kernel
theorem dX11_find_110 : decode cX11_find 110 = .ok (.aload_n 0, 1) := by decide +kernel
theorem dX11_find_111 : decode cX11_find 111 = .ok (.invokevirtual 197, 3) := by decide +kernel
theorem dX11_find_114 : decode cX11_find 114 = .ok (.aload_n 0, 1) := by decide +kernel
theorem dX11_find_115 : decode cX11_find 115 = .ok (.getfield 194, 3) := by decide +kernel
theorem dX11_find_118 : decode cX11_find 118 = .ok (.ifCond .ne 7, 3) := by decide +kernel
theorem dX11_find_121 : decode cX11_find 121 = .ok (.iconst (-1), 1) := by decide +kernel
theorem dX11_find_122 : decode cX11_find 122 = .ok (.goto 9, 3) := by decide +kernel
theorem dX11_find_125 : decode cX11_find 125 = .ok (.aload_n 0, 1) := by decide +kernel
theorem dX11_find_126 : decode cX11_find 126 = .ok (.iload_n 1, 1) := by decide +kernel
theorem dX11_find_127 : decode cX11_find 127 = .ok (.iload_n 3, 1) := by decide +kernel
theorem dX11_find_128 : decode cX11_find 128 = .ok (.invokevirtual 282, 3) := by decide +kernel
theorem dX11_find_131 : decode cX11_find 131 = .ok (.ireturn, 1) := by decide +kernel
theorem dX11_taping_0 : decode cX11_taping 0 = .ok (.aload_n 0, 1) := by decide +kernel
theorem dX11_taping_1 : decode cX11_taping 1 = .ok (.getfield 285, 3) := by decide +kernel
theorem dX11_taping_4 : decode cX11_taping 4 = .ok (.aload_n 0, 1) := by decide +kernel
theorem dX11_taping_5 : decode cX11_taping 5 = .ok (.getfield 115, 3) := by decide +kernel
theorem dX11_taping_8 : decode cX11_taping 8 = .ok (.if_icmp .ge 15, 3) := by decide +kernel
theorem dX11_taping_11 : decode cX11_taping 11 = .ok (.aload_n 0, 1) := by decide +kernel
theorem dX11_taping_12 : decode cX11_taping 12 = .ok (.getfield 22, 3) := by decide +kernel
theorem dX11_taping_15 : decode cX11_taping 15 = .ok (.aload_n 0, 1) := by decide +kernel
theorem dX11_taping_16 : decode cX11_taping 16 = .ok (.getfield 285, 3) := by decide +kernel
theorem dX11_taping_19 : decode cX11_taping 19 = .ok (.iaload, 1) := by decide +kernel
theorem dX11_taping_20 : decode cX11_taping 20 = .ok (.goto 4, 3) := by decide +kernel
theorem dX11_taping_23 : decode cX11_taping 23 = .ok (.iconst (-1), 1) := by decide +kernel
theorem dX11_taping_24 : decode cX11_taping 24 = .ok (.ireturn, 1) := by decide +kernel
theorem dX11_readsSet_0 : decode cX11_readsSet 0 = .ok (.aload_n 0, 1) := by decide +kernel
theorem dX11_readsSet_1 : decode cX11_readsSet 1 = .ok (.invokevirtual 288, 3) := by decide +kernel
theorem dX11_readsSet_4 : decode cX11_readsSet 4 = .ok (.bipush 33, 2) := by decide +kernel
theorem dX11_readsSet_6 : decode cX11_readsSet 6 = .ok (.if_icmp .ne 7, 3) := by decide +kernel
theorem dX11_readsSet_9 : decode cX11_readsSet 9 = .ok (.iconst 1, 1) := by decide +kernel
theorem dX11_readsSet_10 : decode cX11_readsSet 10 = .ok (.goto 4, 3) := by decide +kernel
theorem dX11_readsSet_13 : decode cX11_readsSet 13 = .ok (.iconst 0, 1) := by decide +kernel
theorem dX11_readsSet_14 : decode cX11_readsSet 14 = .ok (.istore_n 1, 1) := by decide +kernel
theorem dX11_readsSet_15 : decode cX11_readsSet 15 = .ok (.aload_n 0, 1) := by decide +kernel
theorem dX11_readsSet_16 : decode cX11_readsSet 16 = .ok (.dup, 1) := by decide +kernel
theorem dX11_readsSet_17 : decode cX11_readsSet 17 = .ok (.getfield 285, 3) := by decide +kernel
theorem dX11_readsSet_20 : decode cX11_readsSet 20 = .ok (.iload_n 1, 1) := by decide +kernel
theorem dX11_readsSet_21 : decode cX11_readsSet 21 = .ok (.ifCond .eq 7, 3) := by decide +kernel
theorem dX11_readsSet_24 : decode cX11_readsSet 24 = .ok (.iconst 1, 1) := by decide +kernel
theorem dX11_readsSet_25 : decode cX11_readsSet 25 = .ok (.goto 4, 3) := by decide +kernel
theorem dX11_readsSet_28 : decode cX11_readsSet 28 = .ok (.iconst 0, 1) := by decide +kernel
theorem dX11_readsSet_29 : decode cX11_readsSet 29 = .ok (.iadd, 1) := by decide +kernel
theorem dX11_readsSet_30 : decode cX11_readsSet 30 = .ok (.putfield 285, 3) := by decide +kernel
theorem dX11_readsSet_33 : decode cX11_readsSet 33 = .ok (.aload_n 0, 1) := by decide +kernel
theorem dX11_readsSet_34 : decode cX11_readsSet 34 = .ok (.invokevirtual 288, 3) := by decide +kernel
theorem dX11_readsSet_37 : decode cX11_readsSet 37 = .ok (.istore_n 2, 1) := by decide +kernel
theorem dX11_readsSet_38 : decode cX11_readsSet 38 = .ok (.aload_n 0, 1) := by decide +kernel
theorem dX11_readsSet_39 : decode cX11_readsSet 39 = .ok (.dup, 1) := by decide +kernel
theorem dX11_readsSet_40 : decode cX11_readsSet 40 = .ok (.getfield 285, 3) := by decide +kernel
theorem dX11_readsSet_43 : decode cX11_readsSet 43 = .ok (.iconst 1, 1) := by decide +kernel
theorem dX11_readsSet_44 : decode cX11_readsSet 44 = .ok (.iadd, 1) := by decide +kernel
theorem dX11_readsSet_45 : decode cX11_readsSet 45 = .ok (.putfield 285, 3) := by decide +kernel
theorem dX11_readsSet_48 : decode cX11_readsSet 48 = .ok (.iload_n 2, 1) := by decide +kernel
theorem dX11_readsSet_49 : decode cX11_readsSet 49 = .ok (.bipush 46, 2) := by decide +kernel
theorem dX11_readsSet_51 : decode cX11_readsSet 51 = .ok (.if_icmp .ne 7, 3) := by decide +kernel
theorem dX11_readsSet_54 : decode cX11_readsSet 54 = .ok (.iconst 0, 1) := by decide +kernel
theorem dX11_readsSet_55 : decode cX11_readsSet 55 = .ok (.goto 67, 3) := by decide +kernel
theorem dX11_readsSet_58 : decode cX11_readsSet 58 = .ok (.iload_n 2, 1) := by decide +kernel
theorem dX11_readsSet_59 : decode cX11_readsSet 59 = .ok (.bipush 76, 2) := by decide +kernel
theorem dX11_readsSet_61 : decode cX11_readsSet 61 = .ok (.if_icmp .ne 7, 3) := by decide +kernel
theorem dX11_readsSet_64 : decode cX11_readsSet 64 = .ok (.iconst 1, 1) := by decide +kernel
theorem dX11_readsSet_65 : decode cX11_readsSet 65 = .ok (.goto 57, 3) := by decide +kernel
theorem dX11_readsSet_68 : decode cX11_readsSet 68 = .ok (.iload_n 2, 1) := by decide +kernel
theorem dX11_readsSet_69 : decode cX11_readsSet 69 = .ok (.bipush 77, 2) := by decide +kernel
theorem dX11_readsSet_71 : decode cX11_readsSet 71 = .ok (.if_icmp .ne 7, 3) := by decide +kernel
theorem dX11_readsSet_74 : decode cX11_readsSet 74 = .ok (.iconst 2, 1) := by decide +kernel
theorem dX11_readsSet_75 : decode cX11_readsSet 75 = .ok (.goto 47, 3) := by decide +kernel
theorem dX11_readsSet_78 : decode cX11_readsSet 78 = .ok (.iload_n 2, 1) := by decide +kernel
theorem dX11_readsSet_79 : decode cX11_readsSet 79 = .ok (.bipush 66, 2) := by decide +kernel
theorem dX11_readsSet_81 : decode cX11_readsSet 81 = .ok (.if_icmp .ne 7, 3) := by decide +kernel
theorem dX11_readsSet_84 : decode cX11_readsSet 84 = .ok (.iconst 3, 1) := by decide +kernel
theorem dX11_readsSet_85 : decode cX11_readsSet 85 = .ok (.goto 37, 3) := by decide +kernel
theorem dX11_readsSet_88 : decode cX11_readsSet 88 = .ok (.iload_n 2, 1) := by decide +kernel
theorem dX11_readsSet_89 : decode cX11_readsSet 89 = .ok (.bipush 68, 2) := by decide +kernel
theorem dX11_readsSet_91 : decode cX11_readsSet 91 = .ok (.if_icmp .ne 7, 3) := by decide +kernel
theorem dX11_readsSet_94 : decode cX11_readsSet 94 = .ok (.iconst 4, 1) := by decide +kernel
theorem dX11_readsSet_95 : decode cX11_readsSet 95 = .ok (.goto 27, 3) := by decide +kernel
theorem dX11_readsSet_98 : decode cX11_readsSet 98 = .ok (.iload_n 2, 1) := by decide +kernel
theorem dX11_readsSet_99 : decode cX11_readsSet 99 = .ok (.bipush 83, 2) := by decide +kernel
theorem dX11_readsSet_101 : decode cX11_readsSet 101 = .ok (.if_icmp .ne 7, 3) := by decide +kernel
theorem dX11_readsSet_104 : decode cX11_readsSet 104 = .ok (.iconst 5, 1) := by decide +kernel
theorem dX11_readsSet_105 : decode cX11_readsSet 105 = .ok (.goto 17, 3) := by decide +kernel
theorem dX11_readsSet_108 : decode cX11_readsSet 108 = .ok (.iload_n 2, 1) := by decide +kernel
theorem dX11_readsSet_109 : decode cX11_readsSet 109 = .ok (.bipush 67, 2) := by decide +kernel
theorem dX11_readsSet_111 : decode cX11_readsSet 111 = .ok (.if_icmp .ne 8, 3) := by decide +kernel
theorem dX11_readsSet_114 : decode cX11_readsSet 114 = .ok (.bipush 6, 2) := by decide +kernel
theorem dX11_readsSet_116 : decode cX11_readsSet 116 = .ok (.goto 6, 3) := by decide +kernel
theorem dX11_readsSet_119 : decode cX11_readsSet 119 = .ok (.sipush (-1000), 3) := by decide +kernel
theorem dX11_readsSet_122 : decode cX11_readsSet 122 = .ok (.istore_n 3, 1) := by decide +kernel
theorem dX11_readsSet_123 : decode cX11_readsSet 123 = .ok (.iload_n 2, 1) := by decide +kernel
theorem dX11_readsSet_124 : decode cX11_readsSet 124 = .ok (.bipush 35, 2) := by decide +kernel
theorem dX11_readsSet_126 : decode cX11_readsSet 126 = .ok (.if_icmp .ne 95, 3) := by decide +kernel
theorem dX11_readsSet_129 : decode cX11_readsSet 129 = .ok (.aload_n 0, 1) := by decide +kernel
theorem dX11_readsSet_130 : decode cX11_readsSet 130 = .ok (.invokevirtual 288, 3) := by decide +kernel
theorem dX11_readsSet_133 : decode cX11_readsSet 133 = .ok (.istore 4, 2) := by decide +kernel
theorem dX11_readsSet_135 : decode cX11_readsSet 135 = .ok (.aload_n 0, 1) := by decide +kernel
theorem dX11_readsSet_136 : decode cX11_readsSet 136 = .ok (.dup, 1) := by decide +kernel
theorem dX11_readsSet_137 : decode cX11_readsSet 137 = .ok (.getfield 285, 3) := by decide +kernel
theorem dX11_readsSet_140 : decode cX11_readsSet 140 = .ok (.iconst 1, 1) := by decide +kernel
theorem dX11_readsSet_141 : decode cX11_readsSet 141 = .ok (.iadd, 1) := by decide +kernel
theorem dX11_readsSet_142 : decode cX11_readsSet 142 = .ok (.putfield 285, 3) := by decide +kernel
theorem dX11_readsSet_145 : decode cX11_readsSet 145 = .ok (.aload_n 0, 1) := by decide +kernel
theorem dX11_readsSet_146 : decode cX11_readsSet 146 = .ok (.invokevirtual 288, 3) := by decide +kernel
theorem dX11_readsSet_149 : decode cX11_readsSet 149 = .ok (.istore 5, 2) := by decide +kernel
theorem dX11_readsSet_151 : decode cX11_readsSet 151 = .ok (.aload_n 0, 1) := by decide +kernel
theorem dX11_readsSet_152 : decode cX11_readsSet 152 = .ok (.dup, 1) := by decide +kernel
theorem dX11_readsSet_153 : decode cX11_readsSet 153 = .ok (.getfield 285, 3) := by decide +kernel
theorem dX11_readsSet_156 : decode cX11_readsSet 156 = .ok (.iconst 1, 1) := by decide +kernel
theorem dX11_readsSet_157 : decode cX11_readsSet 157 = .ok (.iadd, 1) := by decide +kernel
theorem dX11_readsSet_158 : decode cX11_readsSet 158 = .ok (.putfield 285, 3) := by decide +kernel
theorem dX11_readsSet_161 : decode cX11_readsSet 161 = .ok (.bipush 10, 2) := by decide +kernel
theorem dX11_readsSet_163 : decode cX11_readsSet 163 = .ok (.iload 4, 2) := by decide +kernel
theorem dX11_readsSet_165 : decode cX11_readsSet 165 = .ok (.bipush 48, 2) := by decide +kernel
theorem dX11_readsSet_167 : decode cX11_readsSet 167 = .ok (.isub, 1) := by decide +kernel
theorem dX11_readsSet_168 : decode cX11_readsSet 168 = .ok (.imul, 1) := by decide +kernel
theorem dX11_readsSet_169 : decode cX11_readsSet 169 = .ok (.iload 5, 2) := by decide +kernel
theorem dX11_readsSet_171 : decode cX11_readsSet 171 = .ok (.iadd, 1) := by decide +kernel
theorem dX11_readsSet_172 : decode cX11_readsSet 172 = .ok (.bipush 48, 2) := by decide +kernel
theorem dX11_readsSet_174 : decode cX11_readsSet 174 = .ok (.isub, 1) := by decide +kernel
theorem dX11_readsSet_175 : decode cX11_readsSet 175 = .ok (.istore 6, 2) := by decide +kernel
theorem dX11_readsSet_177 : decode cX11_readsSet 177 = .ok (.iload 4, 2) := by decide +kernel
theorem dX11_readsSet_179 : decode cX11_readsSet 179 = .ok (.bipush 48, 2) := by decide +kernel
theorem dX11_readsSet_181 : decode cX11_readsSet 181 = .ok (.bipush 57, 2) := by decide +kernel
theorem dX11_readsSet_183 : decode cX11_readsSet 183 = .ok (.invokestatic 111, 3) := by decide +kernel
theorem dX11_readsSet_186 : decode cX11_readsSet 186 = .ok (.ifCond .eq 31, 3) := by decide +kernel
theorem dX11_readsSet_189 : decode cX11_readsSet 189 = .ok (.iload 5, 2) := by decide +kernel
theorem dX11_readsSet_191 : decode cX11_readsSet 191 = .ok (.bipush 48, 2) := by decide +kernel
theorem dX11_readsSet_193 : decode cX11_readsSet 193 = .ok (.bipush 57, 2) := by decide +kernel
theorem dX11_readsSet_195 : decode cX11_readsSet 195 = .ok (.invokestatic 111, 3) := by decide +kernel
theorem dX11_readsSet_198 : decode cX11_readsSet 198 = .ok (.ifCond .eq 19, 3) := by decide +kernel
theorem dX11_readsSet_201 : decode cX11_readsSet 201 = .ok (.iload 6, 2) := by decide +kernel
theorem dX11_readsSet_203 : decode cX11_readsSet 203 = .ok (.invokestatic 124, 3) := by decide +kernel
theorem dX11_readsSet_206 : decode cX11_readsSet 206 = .ok (.ifCond .eq 11, 3) := by decide +kernel
theorem dX11_readsSet_209 : decode cX11_readsSet 209 = .ok (.bipush 100, 2) := by decide +kernel
theorem dX11_readsSet_211 : decode cX11_readsSet 211 = .ok (.iload 6, 2) := by decide +kernel
theorem dX11_readsSet_213 : decode cX11_readsSet 213 = .ok (.iadd, 1) := by decide +kernel
theorem dX11_readsSet_214 : decode cX11_readsSet 214 = .ok (.goto 6, 3) := by decide +kernel
theorem dX11_readsSet_217 : decode cX11_readsSet 217 = .ok (.sipush (-1000), 3) := by decide +kernel
theorem dX11_readsSet_220 : decode cX11_readsSet 220 = .ok (.istore_n 3, 1) := by decide +kernel
theorem dX11_readsSet_221 : decode cX11_readsSet 221 = .ok (.iload_n 3, 1) := by decide +kernel
theorem dX11_readsSet_222 : decode cX11_readsSet 222 = .ok (.sipush (-1000), 3) := by decide +kernel
theorem dX11_readsSet_225 : decode cX11_readsSet 225 = .ok (.if_icmp .ne 7, 3) := by decide +kernel
theorem dX11_readsSet_228 : decode cX11_readsSet 228 = .ok (.iload_n 3, 1) := by decide +kernel
theorem dX11_readsSet_229 : decode cX11_readsSet 229 = .ok (.goto 14, 3) := by decide +kernel
theorem dX11_readsSet_232 : decode cX11_readsSet 232 = .ok (.iload_n 1, 1) := by decide +kernel
theorem dX11_readsSet_233 : decode cX11_readsSet 233 = .ok (.ifCond .eq 9, 3) := by decide +kernel
theorem dX11_readsSet_236 : decode cX11_readsSet 236 = .ok (.iconst (-1), 1) := by decide +kernel
theorem dX11_readsSet_237 : decode cX11_readsSet 237 = .ok (.iload_n 3, 1) := by decide +kernel
theorem dX11_readsSet_238 : decode cX11_readsSet 238 = .ok (.isub, 1) := by decide +kernel
theorem dX11_readsSet_239 : decode cX11_readsSet 239 = .ok (.goto 4, 3) := by decide +kernel
theorem dX11_readsSet_242 : decode cX11_readsSet 242 = .ok (.iload_n 3, 1) := by decide +kernel
theorem dX11_readsSet_243 : decode cX11_readsSet 243 = .ok (.ireturn, 1) := by decide +kernel
theorem dX11_readsPattern_0 : decode cX11_readsPattern 0 = .ok (.iconst 0, 1) := by decide +kernel
theorem dX11_readsPattern_1 : decode cX11_readsPattern 1 = .ok (.istore_n 2, 1) := by decide +kernel
theorem dX11_readsPattern_2 : decode cX11_readsPattern 2 = .ok (.aload_n 0, 1) := by decide +kernel
theorem dX11_readsPattern_3 : decode cX11_readsPattern 3 = .ok (.iconst 0, 1) := by decide +kernel
theorem dX11_readsPattern_4 : decode cX11_readsPattern 4 = .ok (.putfield 285, 3) := by decide +kernel
theorem dX11_readsPattern_7 : decode cX11_readsPattern 7 = .ok (.aload_n 0, 1) := by decide +kernel
theorem dX11_readsPattern_8 : decode cX11_readsPattern 8 = .ok (.getfield 285, 3) := by decide +kernel
theorem dX11_readsPattern_11 : decode cX11_readsPattern 11 = .ok (.aload_n 0, 1) := by decide +kernel
theorem dX11_readsPattern_12 : decode cX11_readsPattern 12 = .ok (.getfield 115, 3) := by decide +kernel
theorem dX11_readsPattern_15 : decode cX11_readsPattern 15 = .ok (.if_icmp .ge 164, 3) := by decide +kernel
theorem dX11_readsPattern_18 : decode cX11_readsPattern 18 = .ok (.aload_n 0, 1) := by decide +kernel
theorem dX11_readsPattern_19 : decode cX11_readsPattern 19 = .ok (.invokevirtual 288, 3) := by decide +kernel
theorem dX11_readsPattern_22 : decode cX11_readsPattern 22 = .ok (.bipush 60, 2) := by decide +kernel
theorem dX11_readsPattern_24 : decode cX11_readsPattern 24 = .ok (.if_icmp .ne 7, 3) := by decide +kernel
theorem dX11_readsPattern_27 : decode cX11_readsPattern 27 = .ok (.iconst 1, 1) := by decide +kernel
theorem dX11_readsPattern_28 : decode cX11_readsPattern 28 = .ok (.goto 4, 3) := by decide +kernel
theorem dX11_readsPattern_31 : decode cX11_readsPattern 31 = .ok (.iconst 0, 1) := by decide +kernel
theorem dX11_readsPattern_32 : decode cX11_readsPattern 32 = .ok (.istore_n 3, 1) := by decide +kernel
theorem dX11_readsPattern_33 : decode cX11_readsPattern 33 = .ok (.aload_n 0, 1) := by decide +kernel
theorem dX11_readsPattern_34 : decode cX11_readsPattern 34 = .ok (.dup, 1) := by decide +kernel
theorem dX11_readsPattern_35 : decode cX11_readsPattern 35 = .ok (.getfield 285, 3) := by decide +kernel
theorem dX11_readsPattern_38 : decode cX11_readsPattern 38 = .ok (.iload_n 3, 1) := by decide +kernel
theorem dX11_readsPattern_39 : decode cX11_readsPattern 39 = .ok (.ifCond .eq 7, 3) := by decide +kernel
theorem dX11_readsPattern_42 : decode cX11_readsPattern 42 = .ok (.iconst 1, 1) := by decide +kernel
theorem dX11_readsPattern_43 : decode cX11_readsPattern 43 = .ok (.goto 4, 3) := by decide +kernel
theorem dX11_readsPattern_46 : decode cX11_readsPattern 46 = .ok (.iconst 0, 1) := by decide +kernel
theorem dX11_readsPattern_47 : decode cX11_readsPattern 47 = .ok (.iadd, 1) := by decide +kernel
theorem dX11_readsPattern_48 : decode cX11_readsPattern 48 = .ok (.putfield 285, 3) := by decide +kernel
theorem dX11_readsPattern_51 : decode cX11_readsPattern 51 = .ok (.iload_n 3, 1) := by decide +kernel
theorem dX11_readsPattern_52 : decode cX11_readsPattern 52 = .ok (.ifCond .eq 10, 3) := by decide +kernel
theorem dX11_readsPattern_55 : decode cX11_readsPattern 55 = .ok (.aload_n 0, 1) := by decide +kernel
theorem dX11_readsPattern_56 : decode cX11_readsPattern 56 = .ok (.invokevirtual 292, 3) := by decide +kernel
theorem dX11_readsPattern_59 : decode cX11_readsPattern 59 = .ok (.goto 6, 3) := by decide +kernel
theorem dX11_readsPattern_62 : decode cX11_readsPattern 62 = .ok (.sipush 999, 3) := by decide +kernel
theorem dX11_readsPattern_65 : decode cX11_readsPattern 65 = .ok (.istore 4, 2) := by decide +kernel
theorem dX11_readsPattern_67 : decode cX11_readsPattern 67 = .ok (.aload_n 0, 1) := by decide +kernel
theorem dX11_readsPattern_68 : decode cX11_readsPattern 68 = .ok (.invokevirtual 292, 3) := by decide +kernel
theorem dX11_readsPattern_71 : decode cX11_readsPattern 71 = .ok (.istore 5, 2) := by decide +kernel
theorem dX11_readsPattern_73 : decode cX11_readsPattern 73 = .ok (.aload_n 0, 1) := by decide +kernel
theorem dX11_readsPattern_74 : decode cX11_readsPattern 74 = .ok (.invokevirtual 288, 3) := by decide +kernel
theorem dX11_readsPattern_77 : decode cX11_readsPattern 77 = .ok (.bipush 42, 2) := by decide +kernel
theorem dX11_readsPattern_79 : decode cX11_readsPattern 79 = .ok (.if_icmp .ne 7, 3) := by decide +kernel
theorem dX11_readsPattern_82 : decode cX11_readsPattern 82 = .ok (.iconst 2, 1) := by decide +kernel
theorem dX11_readsPattern_83 : decode cX11_readsPattern 83 = .ok (.goto 17, 3) := by decide +kernel
theorem dX11_readsPattern_86 : decode cX11_readsPattern 86 = .ok (.aload_n 0, 1) := by decide +kernel
theorem dX11_readsPattern_87 : decode cX11_readsPattern 87 = .ok (.invokevirtual 288, 3) := by decide +kernel
theorem dX11_readsPattern_90 : decode cX11_readsPattern 90 = .ok (.bipush 63, 2) := by decide +kernel
theorem dX11_readsPattern_92 : decode cX11_readsPattern 92 = .ok (.if_icmp .ne 7, 3) := by decide +kernel
theorem dX11_readsPattern_95 : decode cX11_readsPattern 95 = .ok (.iconst 1, 1) := by decide +kernel
theorem dX11_readsPattern_96 : decode cX11_readsPattern 96 = .ok (.goto 4, 3) := by decide +kernel
theorem dX11_readsPattern_99 : decode cX11_readsPattern 99 = .ok (.iconst 0, 1) := by decide +kernel
theorem dX11_readsPattern_100 : decode cX11_readsPattern 100 = .ok (.istore 6, 2) := by decide +kernel
theorem dX11_readsPattern_102 : decode cX11_readsPattern 102 = .ok (.aload_n 0, 1) := by decide +kernel
theorem dX11_readsPattern_103 : decode cX11_readsPattern 103 = .ok (.dup, 1) := by decide +kernel
theorem dX11_readsPattern_104 : decode cX11_readsPattern 104 = .ok (.getfield 285, 3) := by decide +kernel
theorem dX11_readsPattern_107 : decode cX11_readsPattern 107 = .ok (.iload 6, 2) := by decide +kernel
theorem dX11_readsPattern_109 : decode cX11_readsPattern 109 = .ok (.ifCond .le 7, 3) := by decide +kernel
theorem dX11_readsPattern_112 : decode cX11_readsPattern 112 = .ok (.iconst 1, 1) := by decide +kernel
theorem dX11_readsPattern_113 : decode cX11_readsPattern 113 = .ok (.goto 4, 3) := by decide +kernel
theorem dX11_readsPattern_116 : decode cX11_readsPattern 116 = .ok (.iconst 0, 1) := by decide +kernel
theorem dX11_readsPattern_117 : decode cX11_readsPattern 117 = .ok (.iadd, 1) := by decide +kernel
theorem dX11_readsPattern_118 : decode cX11_readsPattern 118 = .ok (.putfield 285, 3) := by decide +kernel
theorem dX11_readsPattern_121 : decode cX11_readsPattern 121 = .ok (.iload 4, 2) := by decide +kernel
theorem dX11_readsPattern_123 : decode cX11_readsPattern 123 = .ok (.sipush (-1000), 3) := by decide +kernel
theorem dX11_readsPattern_126 : decode cX11_readsPattern 126 = .ok (.if_icmp .eq 17, 3) := by decide +kernel
theorem dX11_readsPattern_129 : decode cX11_readsPattern 129 = .ok (.iload 5, 2) := by decide +kernel
theorem dX11_readsPattern_131 : decode cX11_readsPattern 131 = .ok (.sipush (-1000), 3) := by decide +kernel
theorem dX11_readsPattern_134 : decode cX11_readsPattern 134 = .ok (.if_icmp .eq 9, 3) := by decide +kernel
theorem dX11_readsPattern_137 : decode cX11_readsPattern 137 = .ok (.iload_n 2, 1) := by decide +kernel
theorem dX11_readsPattern_138 : decode cX11_readsPattern 138 = .ok (.bipush 8, 2) := by decide +kernel
theorem dX11_readsPattern_140 : decode cX11_readsPattern 140 = .ok (.if_icmp .ne 5, 3) := by decide +kernel
theorem dX11_readsPattern_143 : decode cX11_readsPattern 143 = .ok (.iconst (-1), 1) := by decide +kernel
theorem dX11_readsPattern_144 : decode cX11_readsPattern 144 = .ok (.ireturn, 1) := by decide +kernel
theorem dX11_readsPattern_145 : decode cX11_readsPattern 145 = .ok (.iload_n 1, 1) := by decide +kernel
theorem dX11_readsPattern_146 : decode cX11_readsPattern 146 = .ok (.ifCond .eq 27, 3) := by decide +kernel
theorem dX11_readsPattern_149 : decode cX11_readsPattern 149 = .ok (.aload_n 0, 1) := by decide +kernel
theorem dX11_readsPattern_150 : decode cX11_readsPattern 150 = .ok (.getfield 80, 3) := by decide +kernel
theorem dX11_readsPattern_153 : decode cX11_readsPattern 153 = .ok (.iload_n 2, 1) := by decide +kernel
theorem dX11_readsPattern_154 : decode cX11_readsPattern 154 = .ok (.iload 4, 2) := by decide +kernel
theorem dX11_readsPattern_156 : decode cX11_readsPattern 156 = .ok (.iastore, 1) := by decide +kernel
theorem dX11_readsPattern_157 : decode cX11_readsPattern 157 = .ok (.aload_n 0, 1) := by decide +kernel
theorem dX11_readsPattern_158 : decode cX11_readsPattern 158 = .ok (.getfield 77, 3) := by decide +kernel
theorem dX11_readsPattern_161 : decode cX11_readsPattern 161 = .ok (.iload_n 2, 1) := by decide +kernel
theorem dX11_readsPattern_162 : decode cX11_readsPattern 162 = .ok (.iload 5, 2) := by decide +kernel
theorem dX11_readsPattern_164 : decode cX11_readsPattern 164 = .ok (.iastore, 1) := by decide +kernel
theorem dX11_readsPattern_165 : decode cX11_readsPattern 165 = .ok (.aload_n 0, 1) := by decide +kernel
theorem dX11_readsPattern_166 : decode cX11_readsPattern 166 = .ok (.getfield 83, 3) := by decide +kernel
theorem dX11_readsPattern_169 : decode cX11_readsPattern 169 = .ok (.iload_n 2, 1) := by decide +kernel
theorem dX11_readsPattern_170 : decode cX11_readsPattern 170 = .ok (.iload 6, 2) := by decide +kernel
theorem dX11_readsPattern_172 : decode cX11_readsPattern 172 = .ok (.iastore, 1) := by decide +kernel
theorem dX11_readsPattern_173 : decode cX11_readsPattern 173 = .ok (.iinc 2 1, 3) := by decide +kernel
theorem dX11_readsPattern_176 : decode cX11_readsPattern 176 = .ok (.goto (-169), 3) := by decide +kernel
theorem dX11_readsPattern_179 : decode cX11_readsPattern 179 = .ok (.iload_n 2, 1) := by decide +kernel
theorem dX11_readsPattern_180 : decode cX11_readsPattern 180 = .ok (.ireturn, 1) := by decide +kernel
theorem dX11_pattern_0 : decode cX11_pattern 0 = .ok (.aload_n 0, 1) := by decide +kernel
theorem dX11_pattern_1 : decode cX11_pattern 1 = .ok (.iconst 0, 1) := by decide +kernel
theorem dX11_pattern_2 : decode cX11_pattern 2 = .ok (.invokevirtual 295, 3) := by decide +kernel
theorem dX11_pattern_5 : decode cX11_pattern 5 = .ok (.istore_n 1, 1) := by decide +kernel
theorem dX11_pattern_6 : decode cX11_pattern 6 = .ok (.aload_n 0, 1) := by decide +kernel
theorem dX11_pattern_7 : decode cX11_pattern 7 = .ok (.iload_n 1, 1) := by decide +kernel
theorem dX11_pattern_8 : decode cX11_pattern 8 = .ok (.iconst (-1), 1) := by decide +kernel
theorem dX11_pattern_9 : decode cX11_pattern 9 = .ok (.if_icmp .ne 7, 3) := by decide +kernel
theorem dX11_pattern_12 : decode cX11_pattern 12 = .ok (.iconst 1, 1) := by decide +kernel
theorem dX11_pattern_13 : decode cX11_pattern 13 = .ok (.goto 4, 3) := by decide +kernel
theorem dX11_pattern_16 : decode cX11_pattern 16 = .ok (.iconst 0, 1) := by decide +kernel
theorem dX11_pattern_17 : decode cX11_pattern 17 = .ok (.invokevirtual 118, 3) := by decide +kernel
theorem dX11_pattern_20 : decode cX11_pattern 20 = .ok (.ifCond .eq 17, 3) := by decide +kernel
theorem dX11_pattern_23 : decode cX11_pattern 23 = .ok (.aload_n 0, 1) := by decide +kernel
theorem dX11_pattern_24 : decode cX11_pattern 24 = .ok (.iconst 1, 1) := by decide +kernel
theorem dX11_pattern_25 : decode cX11_pattern 25 = .ok (.putfield 299, 3) := by decide +kernel
theorem dX11_pattern_28 : decode cX11_pattern 28 = .ok (.aload_n 0, 1) := by decide +kernel
theorem dX11_pattern_29 : decode cX11_pattern 29 = .ok (.aload_n 0, 1) := by decide +kernel
theorem dX11_pattern_30 : decode cX11_pattern 30 = .ok (.iconst 1, 1) := by decide +kernel
theorem dX11_pattern_31 : decode cX11_pattern 31 = .ok (.invokevirtual 295, 3) := by decide +kernel
theorem dX11_pattern_34 : decode cX11_pattern 34 = .ok (.putfield 302, 3) := by decide +kernel
theorem dX11_pattern_37 : decode cX11_pattern 37 = .ok (.aload_n 0, 1) := by decide +kernel
theorem dX11_pattern_38 : decode cX11_pattern 38 = .ok (.iconst 0, 1) := by decide +kernel
theorem dX11_pattern_39 : decode cX11_pattern 39 = .ok (.putfield 115, 3) := by decide +kernel
theorem dX11_pattern_42 : decode cX11_pattern 42 = .ok (.iload_n 1, 1) := by decide +kernel
theorem dX11_pattern_43 : decode cX11_pattern 43 = .ok (.iconst (-1), 1) := by decide +kernel
theorem dX11_pattern_44 : decode cX11_pattern 44 = .ok (.if_icmp .ne 7, 3) := by decide +kernel
theorem dX11_pattern_47 : decode cX11_pattern 47 = .ok (.iconst 0, 1) := by decide +kernel
theorem dX11_pattern_48 : decode cX11_pattern 48 = .ok (.goto 4, 3) := by decide +kernel
theorem dX11_pattern_51 : decode cX11_pattern 51 = .ok (.iload_n 1, 1) := by decide +kernel
theorem dX11_pattern_52 : decode cX11_pattern 52 = .ok (.ireturn, 1) := by decide +kernel
theorem dX11_isCapital_0 : decode cX11_isCapital 0 = .ok (.iconst 0, 1) := by decide +kernel
theorem dX11_isCapital_1 : decode cX11_isCapital 1 = .ok (.istore_n 2, 1) := by decide +kernel
theorem dX11_isCapital_2 : decode cX11_isCapital 2 = .ok (.iconst 0, 1) := by decide +kernel
theorem dX11_isCapital_3 : decode cX11_isCapital 3 = .ok (.istore_n 3, 1) := by decide +kernel
theorem dX11_isCapital_4 : decode cX11_isCapital 4 = .ok (.iload_n 3, 1) := by decide +kernel
theorem dX11_isCapital_5 : decode cX11_isCapital 5 = .ok (.bipush 96, 2) := by decide +kernel
theorem dX11_isCapital_7 : decode cX11_isCapital 7 = .ok (.if_icmp .ge 50, 3) := by decide +kernel
theorem dX11_isCapital_10 : decode cX11_isCapital 10 = .ok (.iload_n 2, 1) := by decide +kernel
theorem dX11_isCapital_11 : decode cX11_isCapital 11 = .ok (.ifCond .ne 34, 3) := by decide +kernel
theorem dX11_isCapital_14 : decode cX11_isCapital 14 = .ok (.iload_n 3, 1) := by decide +kernel
theorem dX11_isCapital_15 : decode cX11_isCapital 15 = .ok (.iload_n 1, 1) := by decide +kernel
theorem dX11_isCapital_16 : decode cX11_isCapital 16 = .ok (.if_icmp .eq 33, 3) := by decide +kernel
theorem dX11_isCapital_19 : decode cX11_isCapital 19 = .ok (.aload_n 0, 1) := by decide +kernel
theorem dX11_isCapital_20 : decode cX11_isCapital 20 = .ok (.iload_n 3, 1) := by decide +kernel
theorem dX11_isCapital_21 : decode cX11_isCapital 21 = .ok (.bipush 6, 2) := by decide +kernel
theorem dX11_isCapital_23 : decode cX11_isCapital 23 = .ok (.invokevirtual 127, 3) := by decide +kernel
theorem dX11_isCapital_26 : decode cX11_isCapital 26 = .ok (.iload_n 1, 1) := by decide +kernel
theorem dX11_isCapital_27 : decode cX11_isCapital 27 = .ok (.iconst 1, 1) := by decide +kernel
theorem dX11_isCapital_28 : decode cX11_isCapital 28 = .ok (.iadd, 1) := by decide +kernel
theorem dX11_isCapital_29 : decode cX11_isCapital 29 = .ok (.if_icmp .eq 16, 3) := by decide +kernel
theorem dX11_isCapital_32 : decode cX11_isCapital 32 = .ok (.aload_n 0, 1) := by decide +kernel
theorem dX11_isCapital_33 : decode cX11_isCapital 33 = .ok (.iload_n 3, 1) := by decide +kernel
theorem dX11_isCapital_34 : decode cX11_isCapital 34 = .ok (.bipush 7, 2) := by decide +kernel
theorem dX11_isCapital_36 : decode cX11_isCapital 36 = .ok (.invokevirtual 127, 3) := by decide +kernel
theorem dX11_isCapital_39 : decode cX11_isCapital 39 = .ok (.iload_n 1, 1) := by decide +kernel
theorem dX11_isCapital_40 : decode cX11_isCapital 40 = .ok (.iconst 1, 1) := by decide +kernel
theorem dX11_isCapital_41 : decode cX11_isCapital 41 = .ok (.iadd, 1) := by decide +kernel
theorem dX11_isCapital_42 : decode cX11_isCapital 42 = .ok (.if_icmp .ne 7, 3) := by decide +kernel
theorem dX11_isCapital_45 : decode cX11_isCapital 45 = .ok (.iconst 1, 1) := by decide +kernel
theorem dX11_isCapital_46 : decode cX11_isCapital 46 = .ok (.goto 4, 3) := by decide +kernel
theorem dX11_isCapital_49 : decode cX11_isCapital 49 = .ok (.iconst 0, 1) := by decide +kernel
theorem dX11_isCapital_50 : decode cX11_isCapital 50 = .ok (.istore_n 2, 1) := by decide +kernel
theorem dX11_isCapital_51 : decode cX11_isCapital 51 = .ok (.iinc 3 1, 3) := by decide +kernel
theorem dX11_isCapital_54 : decode cX11_isCapital 54 = .ok (.goto (-50), 3) := by decide +kernel
theorem dX11_isCapital_57 : decode cX11_isCapital 57 = .ok (.iload_n 2, 1) := by decide +kernel
theorem dX11_isCapital_58 : decode cX11_isCapital 58 = .ok (.ireturn, 1) := by decide +kernel
theorem dX11_hasLetter_0 : decode cX11_hasLetter 0 = .ok (.iload_n 1, 1) := by decide +kernel
theorem dX11_hasLetter_1 : decode cX11_hasLetter 1 = .ok (.ifCond .ge 9, 3) := by decide +kernel
theorem dX11_hasLetter_4 : decode cX11_hasLetter 4 = .ok (.iconst (-1), 1) := by decide +kernel
theorem dX11_hasLetter_5 : decode cX11_hasLetter 5 = .ok (.iload_n 1, 1) := by decide +kernel
theorem dX11_hasLetter_6 : decode cX11_hasLetter 6 = .ok (.isub, 1) := by decide +kernel
theorem dX11_hasLetter_7 : decode cX11_hasLetter 7 = .ok (.goto 4, 3) := by decide +kernel
theorem dX11_hasLetter_10 : decode cX11_hasLetter 10 = .ok (.iload_n 1, 1) := by decide +kernel
theorem dX11_hasLetter_11 : decode cX11_hasLetter 11 = .ok (.istore_n 3, 1) := by decide +kernel
theorem dX11_hasLetter_12 : decode cX11_hasLetter 12 = .ok (.aload_n 0, 1) := by decide +kernel
theorem dX11_hasLetter_13 : decode cX11_hasLetter 13 = .ok (.iload_n 2, 1) := by decide +kernel
theorem dX11_hasLetter_14 : decode cX11_hasLetter 14 = .ok (.iconst 2, 1) := by decide +kernel
theorem dX11_hasLetter_15 : decode cX11_hasLetter 15 = .ok (.invokevirtual 127, 3) := by decide +kernel
theorem dX11_hasLetter_18 : decode cX11_hasLetter 18 = .ok (.istore 4, 2) := by decide +kernel
theorem dX11_hasLetter_20 : decode cX11_hasLetter 20 = .ok (.iload_n 3, 1) := by decide +kernel
theorem dX11_hasLetter_21 : decode cX11_hasLetter 21 = .ok (.bipush 100, 2) := by decide +kernel
theorem dX11_hasLetter_23 : decode cX11_hasLetter 23 = .ok (.if_icmp .lt 19, 3) := by decide +kernel
theorem dX11_hasLetter_26 : decode cX11_hasLetter 26 = .ok (.iload_n 2, 1) := by decide +kernel
theorem dX11_hasLetter_27 : decode cX11_hasLetter 27 = .ok (.iload_n 3, 1) := by decide +kernel
theorem dX11_hasLetter_28 : decode cX11_hasLetter 28 = .ok (.bipush 100, 2) := by decide +kernel
theorem dX11_hasLetter_30 : decode cX11_hasLetter 30 = .ok (.isub, 1) := by decide +kernel
theorem dX11_hasLetter_31 : decode cX11_hasLetter 31 = .ok (.if_icmp .ne 7, 3) := by decide +kernel
theorem dX11_hasLetter_34 : decode cX11_hasLetter 34 = .ok (.iconst 1, 1) := by decide +kernel
theorem dX11_hasLetter_35 : decode cX11_hasLetter 35 = .ok (.goto 46, 3) := by decide +kernel
theorem dX11_hasLetter_38 : decode cX11_hasLetter 38 = .ok (.iconst 0, 1) := by decide +kernel
theorem dX11_hasLetter_39 : decode cX11_hasLetter 39 = .ok (.goto 42, 3) := by decide +kernel
theorem dX11_hasLetter_42 : decode cX11_hasLetter 42 = .ok (.iload_n 3, 1) := by decide +kernel
theorem dX11_hasLetter_43 : decode cX11_hasLetter 43 = .ok (.bipush 6, 2) := by decide +kernel
theorem dX11_hasLetter_45 : decode cX11_hasLetter 45 = .ok (.if_icmp .ne 11, 3) := by decide +kernel
theorem dX11_hasLetter_48 : decode cX11_hasLetter 48 = .ok (.aload_n 0, 1) := by decide +kernel
theorem dX11_hasLetter_49 : decode cX11_hasLetter 49 = .ok (.iload_n 2, 1) := by decide +kernel
theorem dX11_hasLetter_50 : decode cX11_hasLetter 50 = .ok (.invokevirtual 305, 3) := by decide +kernel
theorem dX11_hasLetter_53 : decode cX11_hasLetter 53 = .ok (.goto 28, 3) := by decide +kernel
theorem dX11_hasLetter_56 : decode cX11_hasLetter 56 = .ok (.iload_n 3, 1) := by decide +kernel
theorem dX11_hasLetter_57 : decode cX11_hasLetter 57 = .ok (.ifCond .eq 19, 3) := by decide +kernel
theorem dX11_hasLetter_60 : decode cX11_hasLetter 60 = .ok (.iload 4, 2) := by decide +kernel
theorem dX11_hasLetter_62 : decode cX11_hasLetter 62 = .ok (.iload_n 3, 1) := by decide +kernel
theorem dX11_hasLetter_63 : decode cX11_hasLetter 63 = .ok (.iconst 5, 1) := by decide +kernel
theorem dX11_hasLetter_64 : decode cX11_hasLetter 64 = .ok (.if_icmp .ne 8, 3) := by decide +kernel
theorem dX11_hasLetter_67 : decode cX11_hasLetter 67 = .ok (.bipush 6, 2) := by decide +kernel
theorem dX11_hasLetter_69 : decode cX11_hasLetter 69 = .ok (.goto 4, 3) := by decide +kernel
theorem dX11_hasLetter_72 : decode cX11_hasLetter 72 = .ok (.iload_n 3, 1) := by decide +kernel
theorem dX11_hasLetter_73 : decode cX11_hasLetter 73 = .ok (.if_icmp .ne 7, 3) := by decide +kernel
theorem dX11_hasLetter_76 : decode cX11_hasLetter 76 = .ok (.iconst 1, 1) := by decide +kernel
theorem dX11_hasLetter_77 : decode cX11_hasLetter 77 = .ok (.goto 4, 3) := by decide +kernel
theorem dX11_hasLetter_80 : decode cX11_hasLetter 80 = .ok (.iconst 0, 1) := by decide +kernel
theorem dX11_hasLetter_81 : decode cX11_hasLetter 81 = .ok (.istore 5, 2) := by decide +kernel
theorem dX11_hasLetter_83 : decode cX11_hasLetter 83 = .ok (.iload 5, 2) := by decide +kernel
theorem dX11_hasLetter_85 : decode cX11_hasLetter 85 = .ok (.iload_n 1, 1) := by decide +kernel
theorem dX11_hasLetter_86 : decode cX11_hasLetter 86 = .ok (.ifCond .ge 7, 3) := by decide +kernel
theorem dX11_hasLetter_89 : decode cX11_hasLetter 89 = .ok (.iconst 1, 1) := by decide +kernel
theorem dX11_hasLetter_90 : decode cX11_hasLetter 90 = .ok (.goto 4, 3) := by decide +kernel
theorem dX11_hasLetter_93 : decode cX11_hasLetter 93 = .ok (.iconst 0, 1) := by decide +kernel
theorem dX11_hasLetter_94 : decode cX11_hasLetter 94 = .ok (.if_icmp .eq 7, 3) := by decide +kernel
theorem dX11_hasLetter_97 : decode cX11_hasLetter 97 = .ok (.iconst 1, 1) := by decide +kernel
theorem dX11_hasLetter_98 : decode cX11_hasLetter 98 = .ok (.goto 4, 3) := by decide +kernel
theorem dX11_hasLetter_101 : decode cX11_hasLetter 101 = .ok (.iconst 0, 1) := by decide +kernel
theorem dX11_hasLetter_102 : decode cX11_hasLetter 102 = .ok (.ireturn, 1) := by decide +kernel
theorem dX11_takes_0 : decode cX11_takes 0 = .ok (.iload_n 2, 1) := by decide +kernel
theorem dX11_takes_1 : decode cX11_takes 1 = .ok (.aload_n 0, 1) := by decide +kernel
theorem dX11_takes_2 : decode cX11_takes 2 = .ok (.getfield 19, 3) := by decide +kernel
theorem dX11_takes_5 : decode cX11_takes 5 = .ok (.iload_n 1, 1) := by decide +kernel
theorem dX11_takes_6 : decode cX11_takes 6 = .ok (.iaload, 1) := by decide +kernel
theorem dX11_takes_7 : decode cX11_takes 7 = .ok (.if_icmp .ge 22, 3) := by decide +kernel
theorem dX11_takes_10 : decode cX11_takes 10 = .ok (.aload_n 0, 1) := by decide +kernel
theorem dX11_takes_11 : decode cX11_takes 11 = .ok (.aload_n 0, 1) := by decide +kernel
theorem dX11_takes_12 : decode cX11_takes 12 = .ok (.getfield 77, 3) := by decide +kernel
theorem dX11_takes_15 : decode cX11_takes 15 = .ok (.iload_n 3, 1) := by decide +kernel
theorem dX11_takes_16 : decode cX11_takes 16 = .ok (.iaload, 1) := by decide +kernel
theorem dX11_takes_17 : decode cX11_takes 17 = .ok (.aload_n 0, 1) := by decide +kernel
theorem dX11_takes_18 : decode cX11_takes 18 = .ok (.iload_n 1, 1) := by decide +kernel
theorem dX11_takes_19 : decode cX11_takes 19 = .ok (.iload_n 2, 1) := by decide +kernel
theorem dX11_takes_20 : decode cX11_takes 20 = .ok (.invokevirtual 148, 3) := by decide +kernel
theorem dX11_takes_23 : decode cX11_takes 23 = .ok (.invokevirtual 308, 3) := by decide +kernel
theorem dX11_takes_26 : decode cX11_takes 26 = .ok (.ifCond .ne 5, 3) := by decide +kernel
theorem dX11_takes_29 : decode cX11_takes 29 = .ok (.iconst 0, 1) := by decide +kernel
theorem dX11_takes_30 : decode cX11_takes 30 = .ok (.ireturn, 1) := by decide +kernel
theorem dX11_takes_31 : decode cX11_takes 31 = .ok (.aload_n 0, 1) := by decide +kernel
theorem dX11_takes_32 : decode cX11_takes 32 = .ok (.getfield 80, 3) := by decide +kernel
theorem dX11_takes_35 : decode cX11_takes 35 = .ok (.iload_n 3, 1) := by decide +kernel
theorem dX11_takes_36 : decode cX11_takes 36 = .ok (.iaload, 1) := by decide +kernel
theorem dX11_takes_37 : decode cX11_takes 37 = .ok (.sipush 999, 3) := by decide +kernel
theorem dX11_takes_40 : decode cX11_takes 40 = .ok (.if_icmp .eq 28, 3) := by decide +kernel
theorem dX11_takes_43 : decode cX11_takes 43 = .ok (.iload_n 2, 1) := by decide +kernel
theorem dX11_takes_44 : decode cX11_takes 44 = .ok (.ifCond .le 28, 3) := by decide +kernel
theorem dX11_takes_47 : decode cX11_takes 47 = .ok (.aload_n 0, 1) := by decide +kernel
theorem dX11_takes_48 : decode cX11_takes 48 = .ok (.aload_n 0, 1) := by decide +kernel
theorem dX11_takes_49 : decode cX11_takes 49 = .ok (.getfield 80, 3) := by decide +kernel
theorem dX11_takes_52 : decode cX11_takes 52 = .ok (.iload_n 3, 1) := by decide +kernel
theorem dX11_takes_53 : decode cX11_takes 53 = .ok (.iaload, 1) := by decide +kernel
theorem dX11_takes_54 : decode cX11_takes 54 = .ok (.aload_n 0, 1) := by decide +kernel
theorem dX11_takes_55 : decode cX11_takes 55 = .ok (.iload_n 1, 1) := by decide +kernel
theorem dX11_takes_56 : decode cX11_takes 56 = .ok (.iload_n 2, 1) := by decide +kernel
theorem dX11_takes_57 : decode cX11_takes 57 = .ok (.iconst 1, 1) := by decide +kernel
theorem dX11_takes_58 : decode cX11_takes 58 = .ok (.isub, 1) := by decide +kernel
theorem dX11_takes_59 : decode cX11_takes 59 = .ok (.invokevirtual 148, 3) := by decide +kernel
theorem dX11_takes_62 : decode cX11_takes 62 = .ok (.invokevirtual 308, 3) := by decide +kernel
theorem dX11_takes_65 : decode cX11_takes 65 = .ok (.ifCond .eq 7, 3) := by decide +kernel
theorem dX11_takes_68 : decode cX11_takes 68 = .ok (.iconst 1, 1) := by decide +kernel
theorem dX11_takes_69 : decode cX11_takes 69 = .ok (.goto 4, 3) := by decide +kernel
theorem dX11_takes_72 : decode cX11_takes 72 = .ok (.iconst 0, 1) := by decide +kernel
theorem dX11_takes_73 : decode cX11_takes 73 = .ok (.ireturn, 1) := by decide +kernel
theorem dX11_matches_0 : decode cX11_matches 0 = .ok (.iconst 0, 1) := by decide +kernel
theorem dX11_matches_1 : decode cX11_matches 1 = .ok (.istore_n 3, 1) := by decide +kernel
theorem dX11_matches_2 : decode cX11_matches 2 = .ok (.iload_n 3, 1) := by decide +kernel
theorem dX11_matches_3 : decode cX11_matches 3 = .ok (.bipush 40, 2) := by decide +kernel
theorem dX11_matches_5 : decode cX11_matches 5 = .ok (.if_icmp .gt 25, 3) := by decide +kernel
theorem dX11_matches_8 : decode cX11_matches 8 = .ok (.aload_n 0, 1) := by decide +kernel
theorem dX11_matches_9 : decode cX11_matches 9 = .ok (.getfield 86, 3) := by decide +kernel
theorem dX11_matches_12 : decode cX11_matches 12 = .ok (.iload_n 3, 1) := by decide +kernel
theorem dX11_matches_13 : decode cX11_matches 13 = .ok (.iload_n 3, 1) := by decide +kernel
theorem dX11_matches_14 : decode cX11_matches 14 = .ok (.iload_n 2, 1) := by decide +kernel
theorem dX11_matches_15 : decode cX11_matches 15 = .ok (.if_icmp .ne 7, 3) := by decide +kernel
theorem dX11_matches_18 : decode cX11_matches 18 = .ok (.iconst 1, 1) := by decide +kernel
theorem dX11_matches_19 : decode cX11_matches 19 = .ok (.goto 4, 3) := by decide +kernel
theorem dX11_matches_22 : decode cX11_matches 22 = .ok (.iconst 0, 1) := by decide +kernel
theorem dX11_matches_23 : decode cX11_matches 23 = .ok (.bastore, 1) := by decide +kernel
theorem dX11_matches_24 : decode cX11_matches 24 = .ok (.iinc 3 1, 3) := by decide +kernel
theorem dX11_matches_27 : decode cX11_matches 27 = .ok (.goto (-25), 3) := by decide +kernel
theorem dX11_matches_30 : decode cX11_matches 30 = .ok (.iconst 0, 1) := by decide +kernel
theorem dX11_matches_31 : decode cX11_matches 31 = .ok (.istore_n 3, 1) := by decide +kernel
theorem dX11_matches_32 : decode cX11_matches 32 = .ok (.iload_n 3, 1) := by decide +kernel
theorem dX11_matches_33 : decode cX11_matches 33 = .ok (.aload_n 0, 1) := by decide +kernel
theorem dX11_matches_34 : decode cX11_matches 34 = .ok (.getfield 302, 3) := by decide +kernel
theorem dX11_matches_37 : decode cX11_matches 37 = .ok (.if_icmp .ge 181, 3) := by decide +kernel
theorem dX11_matches_40 : decode cX11_matches 40 = .ok (.iconst 0, 1) := by decide +kernel
theorem dX11_matches_41 : decode cX11_matches 41 = .ok (.istore 4, 2) := by decide +kernel
theorem dX11_matches_43 : decode cX11_matches 43 = .ok (.iload 4, 2) := by decide +kernel
theorem dX11_matches_45 : decode cX11_matches 45 = .ok (.bipush 40, 2) := by decide +kernel
theorem dX11_matches_47 : decode cX11_matches 47 = .ok (.if_icmp .gt 40, 3) := by decide +kernel
theorem dX11_matches_50 : decode cX11_matches 50 = .ok (.aload_n 0, 1) := by decide +kernel
theorem dX11_matches_51 : decode cX11_matches 51 = .ok (.getfield 89, 3) := by decide +kernel
theorem dX11_matches_54 : decode cX11_matches 54 = .ok (.iload 4, 2) := by decide +kernel
theorem dX11_matches_56 : decode cX11_matches 56 = .ok (.aload_n 0, 1) := by decide +kernel
theorem dX11_matches_57 : decode cX11_matches 57 = .ok (.getfield 83, 3) := by decide +kernel
theorem dX11_matches_60 : decode cX11_matches 60 = .ok (.iload_n 3, 1) := by decide +kernel
theorem dX11_matches_61 : decode cX11_matches 61 = .ok (.iaload, 1) := by decide +kernel
theorem dX11_matches_62 : decode cX11_matches 62 = .ok (.ifCond .le 17, 3) := by decide +kernel
theorem dX11_matches_65 : decode cX11_matches 65 = .ok (.aload_n 0, 1) := by decide +kernel
theorem dX11_matches_66 : decode cX11_matches 66 = .ok (.getfield 86, 3) := by decide +kernel
theorem dX11_matches_69 : decode cX11_matches 69 = .ok (.iload 4, 2) := by decide +kernel
theorem dX11_matches_71 : decode cX11_matches 71 = .ok (.baload, 1) := by decide +kernel
theorem dX11_matches_72 : decode cX11_matches 72 = .ok (.ifCond .eq 7, 3) := by decide +kernel
theorem dX11_matches_75 : decode cX11_matches 75 = .ok (.iconst 1, 1) := by decide +kernel
theorem dX11_matches_76 : decode cX11_matches 76 = .ok (.goto 4, 3) := by decide +kernel
theorem dX11_matches_79 : decode cX11_matches 79 = .ok (.iconst 0, 1) := by decide +kernel
theorem dX11_matches_80 : decode cX11_matches 80 = .ok (.bastore, 1) := by decide +kernel
theorem dX11_matches_81 : decode cX11_matches 81 = .ok (.iinc 4 1, 3) := by decide +kernel
theorem dX11_matches_84 : decode cX11_matches 84 = .ok (.goto (-41), 3) := by decide +kernel
theorem dX11_matches_87 : decode cX11_matches 87 = .ok (.iconst 0, 1) := by decide +kernel
theorem dX11_matches_88 : decode cX11_matches 88 = .ok (.istore 4, 2) := by decide +kernel
theorem dX11_matches_90 : decode cX11_matches 90 = .ok (.iload 4, 2) := by decide +kernel
theorem dX11_matches_92 : decode cX11_matches 92 = .ok (.bipush 40, 2) := by decide +kernel
theorem dX11_matches_94 : decode cX11_matches 94 = .ok (.if_icmp .ge 88, 3) := by decide +kernel
theorem dX11_matches_97 : decode cX11_matches 97 = .ok (.aload_n 0, 1) := by decide +kernel
theorem dX11_matches_98 : decode cX11_matches 98 = .ok (.getfield 86, 3) := by decide +kernel
theorem dX11_matches_101 : decode cX11_matches 101 = .ok (.iload 4, 2) := by decide +kernel
theorem dX11_matches_103 : decode cX11_matches 103 = .ok (.baload, 1) := by decide +kernel
theorem dX11_matches_104 : decode cX11_matches 104 = .ok (.ifCond .ne 23, 3) := by decide +kernel
theorem dX11_matches_107 : decode cX11_matches 107 = .ok (.aload_n 0, 1) := by decide +kernel
theorem dX11_matches_108 : decode cX11_matches 108 = .ok (.getfield 83, 3) := by decide +kernel
theorem dX11_matches_111 : decode cX11_matches 111 = .ok (.iload_n 3, 1) := by decide +kernel
theorem dX11_matches_112 : decode cX11_matches 112 = .ok (.iaload, 1) := by decide +kernel
theorem dX11_matches_113 : decode cX11_matches 113 = .ok (.iconst 2, 1) := by decide +kernel
theorem dX11_matches_114 : decode cX11_matches 114 = .ok (.if_icmp .ne 17, 3) := by decide +kernel
theorem dX11_matches_117 : decode cX11_matches 117 = .ok (.aload_n 0, 1) := by decide +kernel
theorem dX11_matches_118 : decode cX11_matches 118 = .ok (.getfield 89, 3) := by decide +kernel
theorem dX11_matches_121 : decode cX11_matches 121 = .ok (.iload 4, 2) := by decide +kernel
theorem dX11_matches_123 : decode cX11_matches 123 = .ok (.baload, 1) := by decide +kernel
theorem dX11_matches_124 : decode cX11_matches 124 = .ok (.ifCond .eq 7, 3) := by decide +kernel
theorem dX11_matches_127 : decode cX11_matches 127 = .ok (.iconst 1, 1) := by decide +kernel
theorem dX11_matches_128 : decode cX11_matches 128 = .ok (.goto 4, 3) := by decide +kernel
theorem dX11_matches_131 : decode cX11_matches 131 = .ok (.iconst 0, 1) := by decide +kernel
theorem dX11_matches_132 : decode cX11_matches 132 = .ok (.istore 5, 2) := by decide +kernel
theorem dX11_matches_134 : decode cX11_matches 134 = .ok (.aload_n 0, 1) := by decide +kernel
theorem dX11_matches_135 : decode cX11_matches 135 = .ok (.getfield 89, 3) := by decide +kernel
theorem dX11_matches_138 : decode cX11_matches 138 = .ok (.iload 4, 2) := by decide +kernel
theorem dX11_matches_140 : decode cX11_matches 140 = .ok (.iconst 1, 1) := by decide +kernel
theorem dX11_matches_141 : decode cX11_matches 141 = .ok (.iadd, 1) := by decide +kernel
theorem dX11_matches_142 : decode cX11_matches 142 = .ok (.aload_n 0, 1) := by decide +kernel
theorem dX11_matches_143 : decode cX11_matches 143 = .ok (.getfield 89, 3) := by decide +kernel
theorem dX11_matches_146 : decode cX11_matches 146 = .ok (.iload 4, 2) := by decide +kernel
theorem dX11_matches_148 : decode cX11_matches 148 = .ok (.iconst 1, 1) := by decide +kernel
theorem dX11_matches_149 : decode cX11_matches 149 = .ok (.iadd, 1) := by decide +kernel
theorem dX11_matches_150 : decode cX11_matches 150 = .ok (.baload, 1) := by decide +kernel
theorem dX11_matches_151 : decode cX11_matches 151 = .ok (.ifCond .ne 19, 3) := by decide +kernel
theorem dX11_matches_154 : decode cX11_matches 154 = .ok (.iload 5, 2) := by decide +kernel
theorem dX11_matches_156 : decode cX11_matches 156 = .ok (.ifCond .eq 18, 3) := by decide +kernel
theorem dX11_matches_159 : decode cX11_matches 159 = .ok (.aload_n 0, 1) := by decide +kernel
theorem dX11_matches_160 : decode cX11_matches 160 = .ok (.iload_n 1, 1) := by decide +kernel
theorem dX11_matches_161 : decode cX11_matches 161 = .ok (.iload 4, 2) := by decide +kernel
theorem dX11_matches_163 : decode cX11_matches 163 = .ok (.iload_n 3, 1) := by decide +kernel
theorem dX11_matches_164 : decode cX11_matches 164 = .ok (.invokevirtual 311, 3) := by decide +kernel
theorem dX11_matches_167 : decode cX11_matches 167 = .ok (.ifCond .eq 7, 3) := by decide +kernel
theorem dX11_matches_170 : decode cX11_matches 170 = .ok (.iconst 1, 1) := by decide +kernel
theorem dX11_matches_171 : decode cX11_matches 171 = .ok (.goto 4, 3) := by decide +kernel
theorem dX11_matches_174 : decode cX11_matches 174 = .ok (.iconst 0, 1) := by decide +kernel
theorem dX11_matches_175 : decode cX11_matches 175 = .ok (.bastore, 1) := by decide +kernel
theorem dX11_matches_176 : decode cX11_matches 176 = .ok (.iinc 4 1, 3) := by decide +kernel
theorem dX11_matches_179 : decode cX11_matches 179 = .ok (.goto (-89), 3) := by decide +kernel
theorem dX11_matches_182 : decode cX11_matches 182 = .ok (.iconst 0, 1) := by decide +kernel
theorem dX11_matches_183 : decode cX11_matches 183 = .ok (.istore 4, 2) := by decide +kernel
theorem dX11_matches_185 : decode cX11_matches 185 = .ok (.iload 4, 2) := by decide +kernel
theorem dX11_matches_187 : decode cX11_matches 187 = .ok (.bipush 40, 2) := by decide +kernel
theorem dX11_matches_189 : decode cX11_matches 189 = .ok (.if_icmp .gt 23, 3) := by decide +kernel
theorem dX11_matches_192 : decode cX11_matches 192 = .ok (.aload_n 0, 1) := by decide +kernel
theorem dX11_matches_193 : decode cX11_matches 193 = .ok (.getfield 86, 3) := by decide +kernel
theorem dX11_matches_196 : decode cX11_matches 196 = .ok (.iload 4, 2) := by decide +kernel
theorem dX11_matches_198 : decode cX11_matches 198 = .ok (.aload_n 0, 1) := by decide +kernel
theorem dX11_matches_199 : decode cX11_matches 199 = .ok (.getfield 89, 3) := by decide +kernel
theorem dX11_matches_202 : decode cX11_matches 202 = .ok (.iload 4, 2) := by decide +kernel
theorem dX11_matches_204 : decode cX11_matches 204 = .ok (.baload, 1) := by decide +kernel
theorem dX11_matches_205 : decode cX11_matches 205 = .ok (.bastore, 1) := by decide +kernel
theorem dX11_matches_206 : decode cX11_matches 206 = .ok (.iinc 4 1, 3) := by decide +kernel
theorem dX11_matches_209 : decode cX11_matches 209 = .ok (.goto (-24), 3) := by decide +kernel
theorem dX11_matches_212 : decode cX11_matches 212 = .ok (.iinc 3 1, 3) := by decide +kernel
theorem dX11_matches_215 : decode cX11_matches 215 = .ok (.goto (-183), 3) := by decide +kernel
theorem dX11_matches_218 : decode cX11_matches 218 = .ok (.iconst (-1), 1) := by decide +kernel
theorem dX11_matches_219 : decode cX11_matches 219 = .ok (.istore_n 3, 1) := by decide +kernel
theorem dX11_matches_220 : decode cX11_matches 220 = .ok (.iconst 0, 1) := by decide +kernel
theorem dX11_matches_221 : decode cX11_matches 221 = .ok (.istore 4, 2) := by decide +kernel
theorem dX11_matches_223 : decode cX11_matches 223 = .ok (.iload 4, 2) := by decide +kernel
theorem dX11_matches_225 : decode cX11_matches 225 = .ok (.bipush 40, 2) := by decide +kernel
theorem dX11_matches_227 : decode cX11_matches 227 = .ok (.if_icmp .gt 26, 3) := by decide +kernel
theorem dX11_matches_230 : decode cX11_matches 230 = .ok (.aload_n 0, 1) := by decide +kernel
theorem dX11_matches_231 : decode cX11_matches 231 = .ok (.getfield 86, 3) := by decide +kernel
theorem dX11_matches_234 : decode cX11_matches 234 = .ok (.iload 4, 2) := by decide +kernel
theorem dX11_matches_236 : decode cX11_matches 236 = .ok (.baload, 1) := by decide +kernel
theorem dX11_matches_237 : decode cX11_matches 237 = .ok (.ifCond .eq 8, 3) := by decide +kernel
theorem dX11_matches_240 : decode cX11_matches 240 = .ok (.iload 4, 2) := by decide +kernel
theorem dX11_matches_242 : decode cX11_matches 242 = .ok (.goto 4, 3) := by decide +kernel
theorem dX11_matches_245 : decode cX11_matches 245 = .ok (.iload_n 3, 1) := by decide +kernel
theorem dX11_matches_246 : decode cX11_matches 246 = .ok (.istore_n 3, 1) := by decide +kernel
theorem dX11_matches_247 : decode cX11_matches 247 = .ok (.iinc 4 1, 3) := by decide +kernel
theorem dX11_matches_250 : decode cX11_matches 250 = .ok (.goto (-27), 3) := by decide +kernel
theorem dX11_matches_253 : decode cX11_matches 253 = .ok (.iload_n 3, 1) := by decide +kernel
theorem dX11_matches_254 : decode cX11_matches 254 = .ok (.ireturn, 1) := by decide +kernel
theorem dX11_match_0 : decode cX11_match 0 = .ok (.iload_n 1, 1) := by decide +kernel
theorem dX11_match_1 : decode cX11_match 1 = .ok (.invokestatic 145, 3) := by decide +kernel
theorem dX11_match_4 : decode cX11_match 4 = .ok (.ifCond .eq 21, 3) := by decide +kernel
theorem dX11_match_7 : decode cX11_match 7 = .ok (.iload_n 2, 1) := by decide +kernel
theorem dX11_match_8 : decode cX11_match 8 = .ok (.iconst 0, 1) := by decide +kernel
theorem dX11_match_9 : decode cX11_match 9 = .ok (.aload_n 0, 1) := by decide +kernel
theorem dX11_match_10 : decode cX11_match 10 = .ok (.getfield 19, 3) := by decide +kernel
theorem dX11_match_13 : decode cX11_match 13 = .ok (.iload_n 1, 1) := by decide +kernel
theorem dX11_match_14 : decode cX11_match 14 = .ok (.iaload, 1) := by decide +kernel
theorem dX11_match_15 : decode cX11_match 15 = .ok (.invokestatic 111, 3) := by decide +kernel
theorem dX11_match_18 : decode cX11_match 18 = .ok (.ifCond .eq 7, 3) := by decide +kernel
theorem dX11_match_21 : decode cX11_match 21 = .ok (.iconst 1, 1) := by decide +kernel
theorem dX11_match_22 : decode cX11_match 22 = .ok (.goto 4, 3) := by decide +kernel
theorem dX11_match_25 : decode cX11_match 25 = .ok (.iconst 0, 1) := by decide +kernel
theorem dX11_match_26 : decode cX11_match 26 = .ok (.istore_n 3, 1) := by decide +kernel
theorem dX11_match_27 : decode cX11_match 27 = .ok (.aload_n 0, 1) := by decide +kernel
theorem dX11_match_28 : decode cX11_match 28 = .ok (.iload_n 3, 1) := by decide +kernel
theorem dX11_match_29 : decode cX11_match 29 = .ok (.ifCond .ne 7, 3) := by decide +kernel
theorem dX11_match_32 : decode cX11_match 32 = .ok (.iconst 1, 1) := by decide +kernel
theorem dX11_match_33 : decode cX11_match 33 = .ok (.goto 15, 3) := by decide +kernel
theorem dX11_match_36 : decode cX11_match 36 = .ok (.aload_n 0, 1) := by decide +kernel
theorem dX11_match_37 : decode cX11_match 37 = .ok (.getfield 299, 3) := by decide +kernel
theorem dX11_match_40 : decode cX11_match 40 = .ok (.ifCond .eq 7, 3) := by decide +kernel
theorem dX11_match_43 : decode cX11_match 43 = .ok (.iconst 0, 1) := by decide +kernel
theorem dX11_match_44 : decode cX11_match 44 = .ok (.goto 4, 3) := by decide +kernel
theorem dX11_match_47 : decode cX11_match 47 = .ok (.iconst 2, 1) := by decide +kernel
theorem dX11_match_48 : decode cX11_match 48 = .ok (.invokevirtual 118, 3) := by decide +kernel
theorem dX11_match_51 : decode cX11_match 51 = .ok (.ifCond .eq 12, 3) := by decide +kernel
theorem dX11_match_54 : decode cX11_match 54 = .ok (.aload_n 0, 1) := by decide +kernel
theorem dX11_match_55 : decode cX11_match 55 = .ok (.iload_n 1, 1) := by decide +kernel
theorem dX11_match_56 : decode cX11_match 56 = .ok (.iload_n 2, 1) := by decide +kernel
theorem dX11_match_57 : decode cX11_match 57 = .ok (.invokevirtual 314, 3) := by decide +kernel
theorem dX11_match_60 : decode cX11_match 60 = .ok (.goto 4, 3) := by decide +kernel
theorem dX11_match_63 : decode cX11_match 63 = .ok (.iconst 0, 1) := by decide +kernel
theorem dX11_match_64 : decode cX11_match 64 = .ok (.ireturn, 1) := by decide +kernel
theorem dX11_stand_0 : decode cX11_stand 0 = .ok (.iload_n 3, 1) := by decide +kernel
theorem dX11_stand_1 : decode cX11_stand 1 = .ok (.ifCond .lt 15, 3) := by decide +kernel
theorem dX11_stand_4 : decode cX11_stand 4 = .ok (.iload_n 3, 1) := by decide +kernel
theorem dX11_stand_5 : decode cX11_stand 5 = .ok (.iload 5, 2) := by decide +kernel
theorem dX11_stand_7 : decode cX11_stand 7 = .ok (.iadd, 1) := by decide +kernel
theorem dX11_stand_8 : decode cX11_stand 8 = .ok (.iload_n 2, 1) := by decide +kernel
theorem dX11_stand_9 : decode cX11_stand 9 = .ok (.if_icmp .gt 7, 3) := by decide +kernel
theorem dX11_stand_12 : decode cX11_stand 12 = .ok (.iconst 1, 1) := by decide +kernel
theorem dX11_stand_13 : decode cX11_stand 13 = .ok (.goto 4, 3) := by decide +kernel
theorem dX11_stand_16 : decode cX11_stand 16 = .ok (.iconst 0, 1) := by decide +kernel
theorem dX11_stand_17 : decode cX11_stand 17 = .ok (.istore 6, 2) := by decide +kernel
theorem dX11_stand_19 : decode cX11_stand 19 = .ok (.iconst 0, 1) := by decide +kernel
theorem dX11_stand_20 : decode cX11_stand 20 = .ok (.istore 7, 2) := by decide +kernel
theorem dX11_stand_22 : decode cX11_stand 22 = .ok (.iload 7, 2) := by decide +kernel
theorem dX11_stand_24 : decode cX11_stand 24 = .ok (.iload 5, 2) := by decide +kernel
theorem dX11_stand_26 : decode cX11_stand 26 = .ok (.if_icmp .ge 40, 3) := by decide +kernel
theorem dX11_stand_29 : decode cX11_stand 29 = .ok (.iload 6, 2) := by decide +kernel
theorem dX11_stand_31 : decode cX11_stand 31 = .ok (.ifCond .eq 35, 3) := by decide +kernel
theorem dX11_stand_34 : decode cX11_stand 34 = .ok (.aload_n 1, 1) := by decide +kernel
theorem dX11_stand_35 : decode cX11_stand 35 = .ok (.iload_n 3, 1) := by decide +kernel
theorem dX11_stand_36 : decode cX11_stand 36 = .ok (.iload 7, 2) := by decide +kernel
theorem dX11_stand_38 : decode cX11_stand 38 = .ok (.iadd, 1) := by decide +kernel
theorem dX11_stand_39 : decode cX11_stand 39 = .ok (.iaload, 1) := by decide +kernel
theorem dX11_stand_40 : decode cX11_stand 40 = .ok (.aload_n 0, 1) := by decide +kernel
theorem dX11_stand_41 : decode cX11_stand 41 = .ok (.getfield 7, 3) := by decide +kernel
theorem dX11_stand_44 : decode cX11_stand 44 = .ok (.iload 4, 2) := by decide +kernel
theorem dX11_stand_46 : decode cX11_stand 46 = .ok (.iload 7, 2) := by decide +kernel
theorem dX11_stand_48 : decode cX11_stand 48 = .ok (.iadd, 1) := by decide +kernel
theorem dX11_stand_49 : decode cX11_stand 49 = .ok (.iaload, 1) := by decide +kernel
theorem dX11_stand_50 : decode cX11_stand 50 = .ok (.if_icmp .ne 7, 3) := by decide +kernel
theorem dX11_stand_53 : decode cX11_stand 53 = .ok (.iconst 1, 1) := by decide +kernel
theorem dX11_stand_54 : decode cX11_stand 54 = .ok (.goto 4, 3) := by decide +kernel
theorem dX11_stand_57 : decode cX11_stand 57 = .ok (.iconst 0, 1) := by decide +kernel
theorem dX11_stand_58 : decode cX11_stand 58 = .ok (.istore 6, 2) := by decide +kernel
theorem dX11_stand_60 : decode cX11_stand 60 = .ok (.iinc 7 1, 3) := by decide +kernel
theorem dX11_stand_63 : decode cX11_stand 63 = .ok (.goto (-41), 3) := by decide +kernel
theorem dX11_stand_66 : decode cX11_stand 66 = .ok (.iload 6, 2) := by decide +kernel
theorem dX11_stand_68 : decode cX11_stand 68 = .ok (.ireturn, 1) := by decide +kernel
theorem dX11_ruleFor_0 : decode cX11_ruleFor 0 = .ok (.iconst 0, 1) := by decide +kernel
theorem dX11_ruleFor_1 : decode cX11_ruleFor 1 = .ok (.istore 4, 2) := by decide +kernel
theorem dX11_ruleFor_3 : decode cX11_ruleFor 3 = .ok (.iload 4, 2) := by decide +kernel
theorem dX11_ruleFor_5 : decode cX11_ruleFor 5 = .ok (.aload_n 0, 1) := by decide +kernel
theorem dX11_ruleFor_6 : decode cX11_ruleFor 6 = .ok (.getfield 7, 3) := by decide +kernel
theorem dX11_ruleFor_9 : decode cX11_ruleFor 9 = .ok (.sipush 1557, 3) := by decide +kernel
theorem dX11_ruleFor_12 : decode cX11_ruleFor 12 = .ok (.iaload, 1) := by decide +kernel
theorem dX11_ruleFor_13 : decode cX11_ruleFor 13 = .ok (.if_icmp .ge 200, 3) := by decide +kernel
theorem dX11_ruleFor_16 : decode cX11_ruleFor 16 = .ok (.sipush 1558, 3) := by decide +kernel
theorem dX11_ruleFor_19 : decode cX11_ruleFor 19 = .ok (.bipush 15, 2) := by decide +kernel
theorem dX11_ruleFor_21 : decode cX11_ruleFor 21 = .ok (.iload 4, 2) := by decide +kernel
theorem dX11_ruleFor_23 : decode cX11_ruleFor 23 = .ok (.imul, 1) := by decide +kernel
theorem dX11_ruleFor_24 : decode cX11_ruleFor 24 = .ok (.iadd, 1) := by decide +kernel
theorem dX11_ruleFor_25 : decode cX11_ruleFor 25 = .ok (.istore 5, 2) := by decide +kernel
theorem dX11_ruleFor_27 : decode cX11_ruleFor 27 = .ok (.iload_n 3, 1) := by decide +kernel
theorem dX11_ruleFor_28 : decode cX11_ruleFor 28 = .ok (.ifCond .eq 15, 3) := by decide +kernel
theorem dX11_ruleFor_31 : decode cX11_ruleFor 31 = .ok (.aload_n 0, 1) := by decide +kernel
theorem dX11_ruleFor_32 : decode cX11_ruleFor 32 = .ok (.getfield 7, 3) := by decide +kernel
theorem dX11_ruleFor_35 : decode cX11_ruleFor 35 = .ok (.iload 5, 2) := by decide +kernel
theorem dX11_ruleFor_37 : decode cX11_ruleFor 37 = .ok (.iconst 4, 1) := by decide +kernel
theorem dX11_ruleFor_38 : decode cX11_ruleFor 38 = .ok (.iadd, 1) := by decide +kernel
theorem dX11_ruleFor_39 : decode cX11_ruleFor 39 = .ok (.iaload, 1) := by decide +kernel
theorem dX11_ruleFor_40 : decode cX11_ruleFor 40 = .ok (.goto 12, 3) := by decide +kernel
theorem dX11_ruleFor_43 : decode cX11_ruleFor 43 = .ok (.aload_n 0, 1) := by decide +kernel
theorem dX11_ruleFor_44 : decode cX11_ruleFor 44 = .ok (.getfield 7, 3) := by decide +kernel
theorem dX11_ruleFor_47 : decode cX11_ruleFor 47 = .ok (.iload 5, 2) := by decide +kernel
theorem dX11_ruleFor_49 : decode cX11_ruleFor 49 = .ok (.iconst 2, 1) := by decide +kernel
theorem dX11_ruleFor_50 : decode cX11_ruleFor 50 = .ok (.iadd, 1) := by decide +kernel
theorem dX11_ruleFor_51 : decode cX11_ruleFor 51 = .ok (.iaload, 1) := by decide +kernel
theorem dX11_ruleFor_52 : decode cX11_ruleFor 52 = .ok (.istore 6, 2) := by decide +kernel
theorem dX11_ruleFor_54 : decode cX11_ruleFor 54 = .ok (.aload_n 0, 1) := by decide +kernel
theorem dX11_ruleFor_55 : decode cX11_ruleFor 55 = .ok (.getfield 7, 3) := by decide +kernel
theorem dX11_ruleFor_58 : decode cX11_ruleFor 58 = .ok (.iload 5, 2) := by decide +kernel
theorem dX11_ruleFor_60 : decode cX11_ruleFor 60 = .ok (.iaload, 1) := by decide +kernel
theorem dX11_ruleFor_61 : decode cX11_ruleFor 61 = .ok (.iload_n 1, 1) := by decide +kernel
theorem dX11_ruleFor_62 : decode cX11_ruleFor 62 = .ok (.if_icmp .ne 47, 3) := by decide +kernel
theorem dX11_ruleFor_65 : decode cX11_ruleFor 65 = .ok (.iload 6, 2) := by decide +kernel
theorem dX11_ruleFor_67 : decode cX11_ruleFor 67 = .ok (.ifCond .le 42, 3) := by decide +kernel
theorem dX11_ruleFor_70 : decode cX11_ruleFor 70 = .ok (.aload_n 0, 1) := by decide +kernel
theorem dX11_ruleFor_71 : decode cX11_ruleFor 71 = .ok (.aload_n 0, 1) := by decide +kernel
theorem dX11_ruleFor_72 : decode cX11_ruleFor 72 = .ok (.getfield 28, 3) := by decide +kernel
theorem dX11_ruleFor_75 : decode cX11_ruleFor 75 = .ok (.aload_n 0, 1) := by decide +kernel
theorem dX11_ruleFor_76 : decode cX11_ruleFor 76 = .ok (.getfield 158, 3) := by decide +kernel
theorem dX11_ruleFor_79 : decode cX11_ruleFor 79 = .ok (.iload_n 2, 1) := by decide +kernel
theorem dX11_ruleFor_80 : decode cX11_ruleFor 80 = .ok (.iload_n 3, 1) := by decide +kernel
theorem dX11_ruleFor_81 : decode cX11_ruleFor 81 = .ok (.ifCond .eq 11, 3) := by decide +kernel
theorem dX11_ruleFor_84 : decode cX11_ruleFor 84 = .ok (.iload 5, 2) := by decide +kernel
theorem dX11_ruleFor_86 : decode cX11_ruleFor 86 = .ok (.bipush 12, 2) := by decide +kernel
theorem dX11_ruleFor_88 : decode cX11_ruleFor 88 = .ok (.iadd, 1) := by decide +kernel
theorem dX11_ruleFor_89 : decode cX11_ruleFor 89 = .ok (.goto 8, 3) := by decide +kernel
theorem dX11_ruleFor_92 : decode cX11_ruleFor 92 = .ok (.iload 5, 2) := by decide +kernel
theorem dX11_ruleFor_94 : decode cX11_ruleFor 94 = .ok (.bipush 7, 2) := by decide +kernel
theorem dX11_ruleFor_96 : decode cX11_ruleFor 96 = .ok (.iadd, 1) := by decide +kernel
theorem dX11_ruleFor_97 : decode cX11_ruleFor 97 = .ok (.iload 6, 2) := by decide +kernel
theorem dX11_ruleFor_99 : decode cX11_ruleFor 99 = .ok (.invokevirtual 317, 3) := by decide +kernel
theorem dX11_ruleFor_102 : decode cX11_ruleFor 102 = .ok (.ifCond .eq 7, 3) := by decide +kernel
theorem dX11_ruleFor_105 : decode cX11_ruleFor 105 = .ok (.iconst 1, 1) := by decide +kernel
theorem dX11_ruleFor_106 : decode cX11_ruleFor 106 = .ok (.goto 4, 3) := by decide +kernel
theorem dX11_ruleFor_109 : decode cX11_ruleFor 109 = .ok (.iconst 0, 1) := by decide +kernel
theorem dX11_ruleFor_110 : decode cX11_ruleFor 110 = .ok (.istore 7, 2) := by decide +kernel
theorem dX11_ruleFor_112 : decode cX11_ruleFor 112 = .ok (.iload 7, 2) := by decide +kernel
theorem dX11_ruleFor_114 : decode cX11_ruleFor 114 = .ok (.ifCond .eq 82, 3) := by decide +kernel
theorem dX11_ruleFor_117 : decode cX11_ruleFor 117 = .ok (.aload_n 0, 1) := by decide +kernel
theorem dX11_ruleFor_118 : decode cX11_ruleFor 118 = .ok (.aload_n 0, 1) := by decide +kernel
theorem dX11_ruleFor_119 : decode cX11_ruleFor 119 = .ok (.getfield 92, 3) := by decide +kernel
theorem dX11_ruleFor_122 : decode cX11_ruleFor 122 = .ok (.aload_n 0, 1) := by decide +kernel
theorem dX11_ruleFor_123 : decode cX11_ruleFor 123 = .ok (.getfield 321, 3) := by decide +kernel
theorem dX11_ruleFor_126 : decode cX11_ruleFor 126 = .ok (.aload_n 0, 1) := by decide +kernel
theorem dX11_ruleFor_127 : decode cX11_ruleFor 127 = .ok (.getfield 321, 3) := by decide +kernel
theorem dX11_ruleFor_130 : decode cX11_ruleFor 130 = .ok (.aload_n 0, 1) := by decide +kernel
theorem dX11_ruleFor_131 : decode cX11_ruleFor 131 = .ok (.getfield 7, 3) := by decide +kernel
theorem dX11_ruleFor_134 : decode cX11_ruleFor 134 = .ok (.iload 5, 2) := by decide +kernel
theorem dX11_ruleFor_136 : decode cX11_ruleFor 136 = .ok (.iconst 1, 1) := by decide +kernel
theorem dX11_ruleFor_137 : decode cX11_ruleFor 137 = .ok (.iadd, 1) := by decide +kernel
theorem dX11_ruleFor_138 : decode cX11_ruleFor 138 = .ok (.iaload, 1) := by decide +kernel
theorem dX11_ruleFor_139 : decode cX11_ruleFor 139 = .ok (.isub, 1) := by decide +kernel
theorem dX11_ruleFor_140 : decode cX11_ruleFor 140 = .ok (.iload 5, 2) := by decide +kernel
theorem dX11_ruleFor_142 : decode cX11_ruleFor 142 = .ok (.iconst 5, 1) := by decide +kernel
theorem dX11_ruleFor_143 : decode cX11_ruleFor 143 = .ok (.iadd, 1) := by decide +kernel
theorem dX11_ruleFor_144 : decode cX11_ruleFor 144 = .ok (.aload_n 0, 1) := by decide +kernel
theorem dX11_ruleFor_145 : decode cX11_ruleFor 145 = .ok (.getfield 7, 3) := by decide +kernel
theorem dX11_ruleFor_148 : decode cX11_ruleFor 148 = .ok (.iload 5, 2) := by decide +kernel
theorem dX11_ruleFor_150 : decode cX11_ruleFor 150 = .ok (.iconst 1, 1) := by decide +kernel
theorem dX11_ruleFor_151 : decode cX11_ruleFor 151 = .ok (.iadd, 1) := by decide +kernel
theorem dX11_ruleFor_152 : decode cX11_ruleFor 152 = .ok (.iaload, 1) := by decide +kernel
theorem dX11_ruleFor_153 : decode cX11_ruleFor 153 = .ok (.invokevirtual 317, 3) := by decide +kernel
theorem dX11_ruleFor_156 : decode cX11_ruleFor 156 = .ok (.ifCond .eq 40, 3) := by decide +kernel
theorem dX11_ruleFor_159 : decode cX11_ruleFor 159 = .ok (.aload_n 0, 1) := by decide +kernel
theorem dX11_ruleFor_160 : decode cX11_ruleFor 160 = .ok (.aload_n 0, 1) := by decide +kernel
theorem dX11_ruleFor_161 : decode cX11_ruleFor 161 = .ok (.getfield 28, 3) := by decide +kernel
theorem dX11_ruleFor_164 : decode cX11_ruleFor 164 = .ok (.aload_n 0, 1) := by decide +kernel
theorem dX11_ruleFor_165 : decode cX11_ruleFor 165 = .ok (.getfield 158, 3) := by decide +kernel
theorem dX11_ruleFor_168 : decode cX11_ruleFor 168 = .ok (.iload_n 2, 1) := by decide +kernel
theorem dX11_ruleFor_169 : decode cX11_ruleFor 169 = .ok (.iload 6, 2) := by decide +kernel
theorem dX11_ruleFor_171 : decode cX11_ruleFor 171 = .ok (.iadd, 1) := by decide +kernel
theorem dX11_ruleFor_172 : decode cX11_ruleFor 172 = .ok (.iload 5, 2) := by decide +kernel
theorem dX11_ruleFor_174 : decode cX11_ruleFor 174 = .ok (.bipush 10, 2) := by decide +kernel
theorem dX11_ruleFor_176 : decode cX11_ruleFor 176 = .ok (.iadd, 1) := by decide +kernel
theorem dX11_ruleFor_177 : decode cX11_ruleFor 177 = .ok (.aload_n 0, 1) := by decide +kernel
theorem dX11_ruleFor_178 : decode cX11_ruleFor 178 = .ok (.getfield 7, 3) := by decide +kernel
theorem dX11_ruleFor_181 : decode cX11_ruleFor 181 = .ok (.iload 5, 2) := by decide +kernel
theorem dX11_ruleFor_183 : decode cX11_ruleFor 183 = .ok (.iconst 3, 1) := by decide +kernel
theorem dX11_ruleFor_184 : decode cX11_ruleFor 184 = .ok (.iadd, 1) := by decide +kernel
theorem dX11_ruleFor_185 : decode cX11_ruleFor 185 = .ok (.iaload, 1) := by decide +kernel
theorem dX11_ruleFor_186 : decode cX11_ruleFor 186 = .ok (.invokevirtual 317, 3) := by decide +kernel
theorem dX11_ruleFor_189 : decode cX11_ruleFor 189 = .ok (.ifCond .eq 7, 3) := by decide +kernel
theorem dX11_ruleFor_192 : decode cX11_ruleFor 192 = .ok (.iconst 1, 1) := by decide +kernel
theorem dX11_ruleFor_193 : decode cX11_ruleFor 193 = .ok (.goto 4, 3) := by decide +kernel
theorem dX11_ruleFor_196 : decode cX11_ruleFor 196 = .ok (.iconst 0, 1) := by decide +kernel
theorem dX11_ruleFor_197 : decode cX11_ruleFor 197 = .ok (.istore 7, 2) := by decide +kernel
theorem dX11_ruleFor_199 : decode cX11_ruleFor 199 = .ok (.iload 7, 2) := by decide +kernel
theorem dX11_ruleFor_201 : decode cX11_ruleFor 201 = .ok (.ifCond .eq 6, 3) := by decide +kernel
theorem dX11_ruleFor_204 : decode cX11_ruleFor 204 = .ok (.iload 5, 2) := by decide +kernel
theorem dX11_ruleFor_206 : decode cX11_ruleFor 206 = .ok (.ireturn, 1) := by decide +kernel
theorem dX11_ruleFor_207 : decode cX11_ruleFor 207 = .ok (.iinc 4 1, 3) := by decide +kernel
theorem dX11_ruleFor_210 : decode cX11_ruleFor 210 = .ok (.goto (-207), 3) := by decide +kernel
theorem dX11_ruleFor_213 : decode cX11_ruleFor 213 = .ok (.iconst (-1), 1) := by decide +kernel
theorem dX11_ruleFor_214 : decode cX11_ruleFor 214 = .ok (.ireturn, 1) := by decide +kernel
theorem dX11_passes_0 : decode cX11_passes 0 = .ok (.iconst 0, 1) := by decide +kernel
theorem dX11_passes_1 : decode cX11_passes 1 = .ok (.istore_n 3, 1) := by decide +kernel
theorem dX11_passes_2 : decode cX11_passes 2 = .ok (.aload_n 0, 1) := by decide +kernel
theorem dX11_passes_3 : decode cX11_passes 3 = .ok (.iconst 0, 1) := by decide +kernel
theorem dX11_passes_4 : decode cX11_passes 4 = .ok (.putfield 321, 3) := by decide +kernel
theorem dX11_passes_7 : decode cX11_passes 7 = .ok (.iload_n 3, 1) := by decide +kernel
theorem dX11_passes_8 : decode cX11_passes 8 = .ok (.aload_n 0, 1) := by decide +kernel
theorem dX11_passes_9 : decode cX11_passes 9 = .ok (.getfield 158, 3) := by decide +kernel
theorem dX11_passes_12 : decode cX11_passes 12 = .ok (.if_icmp .ge 179, 3) := by decide +kernel
theorem dX11_passes_15 : decode cX11_passes 15 = .ok (.aload_n 0, 1) := by decide +kernel
theorem dX11_passes_16 : decode cX11_passes 16 = .ok (.iload_n 1, 1) := by decide +kernel
theorem dX11_passes_17 : decode cX11_passes 17 = .ok (.iload_n 3, 1) := by decide +kernel
theorem dX11_passes_18 : decode cX11_passes 18 = .ok (.iload_n 2, 1) := by decide +kernel
theorem dX11_passes_19 : decode cX11_passes 19 = .ok (.invokevirtual 324, 3) := by decide +kernel
theorem dX11_passes_22 : decode cX11_passes 22 = .ok (.istore 4, 2) := by decide +kernel
theorem dX11_passes_24 : decode cX11_passes 24 = .ok (.iload 4, 2) := by decide +kernel
theorem dX11_passes_26 : decode cX11_passes 26 = .ok (.iconst (-1), 1) := by decide +kernel
theorem dX11_passes_27 : decode cX11_passes 27 = .ok (.if_icmp .ne 7, 3) := by decide +kernel
theorem dX11_passes_30 : decode cX11_passes 30 = .ok (.iconst 1, 1) := by decide +kernel
theorem dX11_passes_31 : decode cX11_passes 31 = .ok (.goto 28, 3) := by decide +kernel
theorem dX11_passes_34 : decode cX11_passes 34 = .ok (.iload_n 2, 1) := by decide +kernel
theorem dX11_passes_35 : decode cX11_passes 35 = .ok (.ifCond .eq 15, 3) := by decide +kernel
theorem dX11_passes_38 : decode cX11_passes 38 = .ok (.aload_n 0, 1) := by decide +kernel
theorem dX11_passes_39 : decode cX11_passes 39 = .ok (.getfield 7, 3) := by decide +kernel
theorem dX11_passes_42 : decode cX11_passes 42 = .ok (.iload 4, 2) := by decide +kernel
theorem dX11_passes_44 : decode cX11_passes 44 = .ok (.iconst 2, 1) := by decide +kernel
theorem dX11_passes_45 : decode cX11_passes 45 = .ok (.iadd, 1) := by decide +kernel
theorem dX11_passes_46 : decode cX11_passes 46 = .ok (.iaload, 1) := by decide +kernel
theorem dX11_passes_47 : decode cX11_passes 47 = .ok (.goto 12, 3) := by decide +kernel
theorem dX11_passes_50 : decode cX11_passes 50 = .ok (.aload_n 0, 1) := by decide +kernel
theorem dX11_passes_51 : decode cX11_passes 51 = .ok (.getfield 7, 3) := by decide +kernel
theorem dX11_passes_54 : decode cX11_passes 54 = .ok (.iload 4, 2) := by decide +kernel
theorem dX11_passes_56 : decode cX11_passes 56 = .ok (.iconst 4, 1) := by decide +kernel
theorem dX11_passes_57 : decode cX11_passes 57 = .ok (.iadd, 1) := by decide +kernel
theorem dX11_passes_58 : decode cX11_passes 58 = .ok (.iaload, 1) := by decide +kernel
theorem dX11_passes_59 : decode cX11_passes 59 = .ok (.istore 5, 2) := by decide +kernel
theorem dX11_passes_61 : decode cX11_passes 61 = .ok (.aload_n 0, 1) := by decide +kernel
theorem dX11_passes_62 : decode cX11_passes 62 = .ok (.getfield 321, 3) := by decide +kernel
theorem dX11_passes_65 : decode cX11_passes 65 = .ok (.iload 5, 2) := by decide +kernel
theorem dX11_passes_67 : decode cX11_passes 67 = .ok (.iadd, 1) := by decide +kernel
theorem dX11_passes_68 : decode cX11_passes 68 = .ok (.bipush 40, 2) := by decide +kernel
theorem dX11_passes_70 : decode cX11_passes 70 = .ok (.if_icmp .le 5, 3) := by decide +kernel
theorem dX11_passes_73 : decode cX11_passes 73 = .ok (.iconst 0, 1) := by decide +kernel
theorem dX11_passes_74 : decode cX11_passes 74 = .ok (.ireturn, 1) := by decide +kernel
theorem dX11_passes_75 : decode cX11_passes 75 = .ok (.iconst 0, 1) := by decide +kernel
theorem dX11_passes_76 : decode cX11_passes 76 = .ok (.istore 6, 2) := by decide +kernel
theorem dX11_passes_78 : decode cX11_passes 78 = .ok (.iload 6, 2) := by decide +kernel
theorem dX11_passes_80 : decode cX11_passes 80 = .ok (.iload 5, 2) := by decide +kernel
theorem dX11_passes_82 : decode cX11_passes 82 = .ok (.if_icmp .ge 68, 3) := by decide +kernel
theorem dX11_passes_85 : decode cX11_passes 85 = .ok (.aload_n 0, 1) := by decide +kernel
theorem dX11_passes_86 : decode cX11_passes 86 = .ok (.getfield 92, 3) := by decide +kernel
theorem dX11_passes_89 : decode cX11_passes 89 = .ok (.aload_n 0, 1) := by decide +kernel
theorem dX11_passes_90 : decode cX11_passes 90 = .ok (.getfield 321, 3) := by decide +kernel
theorem dX11_passes_93 : decode cX11_passes 93 = .ok (.iload 4, 2) := by decide +kernel
theorem dX11_passes_95 : decode cX11_passes 95 = .ok (.iconst (-1), 1) := by decide +kernel
theorem dX11_passes_96 : decode cX11_passes 96 = .ok (.if_icmp .ne 12, 3) := by decide +kernel
theorem dX11_passes_99 : decode cX11_passes 99 = .ok (.aload_n 0, 1) := by decide +kernel
theorem dX11_passes_100 : decode cX11_passes 100 = .ok (.getfield 28, 3) := by decide +kernel
theorem dX11_passes_103 : decode cX11_passes 103 = .ok (.iload_n 3, 1) := by decide +kernel
theorem dX11_passes_104 : decode cX11_passes 104 = .ok (.iaload, 1) := by decide +kernel
theorem dX11_passes_105 : decode cX11_passes 105 = .ok (.goto 28, 3) := by decide +kernel
theorem dX11_passes_108 : decode cX11_passes 108 = .ok (.aload_n 0, 1) := by decide +kernel
theorem dX11_passes_109 : decode cX11_passes 109 = .ok (.getfield 7, 3) := by decide +kernel
theorem dX11_passes_112 : decode cX11_passes 112 = .ok (.iload_n 2, 1) := by decide +kernel
theorem dX11_passes_113 : decode cX11_passes 113 = .ok (.ifCond .eq 11, 3) := by decide +kernel
theorem dX11_passes_116 : decode cX11_passes 116 = .ok (.iload 4, 2) := by decide +kernel
theorem dX11_passes_118 : decode cX11_passes 118 = .ok (.bipush 7, 2) := by decide +kernel
theorem dX11_passes_120 : decode cX11_passes 120 = .ok (.iadd, 1) := by decide +kernel
theorem dX11_passes_121 : decode cX11_passes 121 = .ok (.goto 8, 3) := by decide +kernel
theorem dX11_passes_124 : decode cX11_passes 124 = .ok (.iload 4, 2) := by decide +kernel
theorem dX11_passes_126 : decode cX11_passes 126 = .ok (.bipush 12, 2) := by decide +kernel
theorem dX11_passes_128 : decode cX11_passes 128 = .ok (.iadd, 1) := by decide +kernel
theorem dX11_passes_129 : decode cX11_passes 129 = .ok (.iload 6, 2) := by decide +kernel
theorem dX11_passes_131 : decode cX11_passes 131 = .ok (.iadd, 1) := by decide +kernel
theorem dX11_passes_132 : decode cX11_passes 132 = .ok (.iaload, 1) := by decide +kernel
theorem dX11_passes_133 : decode cX11_passes 133 = .ok (.iastore, 1) := by decide +kernel
theorem dX11_passes_134 : decode cX11_passes 134 = .ok (.aload_n 0, 1) := by decide +kernel
theorem dX11_passes_135 : decode cX11_passes 135 = .ok (.dup, 1) := by decide +kernel
theorem dX11_passes_136 : decode cX11_passes 136 = .ok (.getfield 321, 3) := by decide +kernel
theorem dX11_passes_139 : decode cX11_passes 139 = .ok (.iconst 1, 1) := by decide +kernel
theorem dX11_passes_140 : decode cX11_passes 140 = .ok (.iadd, 1) := by decide +kernel
theorem dX11_passes_141 : decode cX11_passes 141 = .ok (.putfield 321, 3) := by decide +kernel
theorem dX11_passes_144 : decode cX11_passes 144 = .ok (.iinc 6 1, 3) := by decide +kernel
theorem dX11_passes_147 : decode cX11_passes 147 = .ok (.goto (-69), 3) := by decide +kernel
theorem dX11_passes_150 : decode cX11_passes 150 = .ok (.iload_n 3, 1) := by decide +kernel
theorem dX11_passes_151 : decode cX11_passes 151 = .ok (.iload 4, 2) := by decide +kernel
theorem dX11_passes_153 : decode cX11_passes 153 = .ok (.iconst (-1), 1) := by decide +kernel
theorem dX11_passes_154 : decode cX11_passes 154 = .ok (.if_icmp .ne 7, 3) := by decide +kernel
theorem dX11_passes_157 : decode cX11_passes 157 = .ok (.iconst 1, 1) := by decide +kernel
theorem dX11_passes_158 : decode cX11_passes 158 = .ok (.goto 28, 3) := by decide +kernel
theorem dX11_passes_161 : decode cX11_passes 161 = .ok (.iload_n 2, 1) := by decide +kernel
theorem dX11_passes_162 : decode cX11_passes 162 = .ok (.ifCond .eq 15, 3) := by decide +kernel
theorem dX11_passes_165 : decode cX11_passes 165 = .ok (.aload_n 0, 1) := by decide +kernel
theorem dX11_passes_166 : decode cX11_passes 166 = .ok (.getfield 7, 3) := by decide +kernel
theorem dX11_passes_169 : decode cX11_passes 169 = .ok (.iload 4, 2) := by decide +kernel
theorem dX11_passes_171 : decode cX11_passes 171 = .ok (.iconst 4, 1) := by decide +kernel
theorem dX11_passes_172 : decode cX11_passes 172 = .ok (.iadd, 1) := by decide +kernel
theorem dX11_passes_173 : decode cX11_passes 173 = .ok (.iaload, 1) := by decide +kernel
theorem dX11_passes_174 : decode cX11_passes 174 = .ok (.goto 12, 3) := by decide +kernel
theorem dX11_passes_177 : decode cX11_passes 177 = .ok (.aload_n 0, 1) := by decide +kernel
theorem dX11_passes_178 : decode cX11_passes 178 = .ok (.getfield 7, 3) := by decide +kernel
theorem dX11_passes_181 : decode cX11_passes 181 = .ok (.iload 4, 2) := by decide +kernel
theorem dX11_passes_183 : decode cX11_passes 183 = .ok (.iconst 2, 1) := by decide +kernel
theorem dX11_passes_184 : decode cX11_passes 184 = .ok (.iadd, 1) := by decide +kernel
theorem dX11_passes_185 : decode cX11_passes 185 = .ok (.iaload, 1) := by decide +kernel
theorem dX11_passes_186 : decode cX11_passes 186 = .ok (.iadd, 1) := by decide +kernel
theorem dX11_passes_187 : decode cX11_passes 187 = .ok (.istore_n 3, 1) := by decide +kernel
theorem dX11_passes_188 : decode cX11_passes 188 = .ok (.goto (-181), 3) := by decide +kernel
theorem dX11_passes_191 : decode cX11_passes 191 = .ok (.aload_n 0, 1) := by decide +kernel
theorem dX11_passes_192 : decode cX11_passes 192 = .ok (.aload_n 0, 1) := by decide +kernel
theorem dX11_passes_193 : decode cX11_passes 193 = .ok (.getfield 321, 3) := by decide +kernel
theorem dX11_passes_196 : decode cX11_passes 196 = .ok (.putfield 158, 3) := by decide +kernel
theorem dX11_passes_199 : decode cX11_passes 199 = .ok (.iconst 0, 1) := by decide +kernel
theorem dX11_passes_200 : decode cX11_passes 200 = .ok (.istore 4, 2) := by decide +kernel
theorem dX11_passes_202 : decode cX11_passes 202 = .ok (.iload 4, 2) := by decide +kernel
theorem dX11_passes_204 : decode cX11_passes 204 = .ok (.aload_n 0, 1) := by decide +kernel
theorem dX11_passes_205 : decode cX11_passes 205 = .ok (.getfield 158, 3) := by decide +kernel
theorem dX11_passes_208 : decode cX11_passes 208 = .ok (.if_icmp .ge 23, 3) := by decide +kernel
theorem dX11_passes_211 : decode cX11_passes 211 = .ok (.aload_n 0, 1) := by decide +kernel
theorem dX11_passes_212 : decode cX11_passes 212 = .ok (.getfield 28, 3) := by decide +kernel
theorem dX11_passes_215 : decode cX11_passes 215 = .ok (.iload 4, 2) := by decide +kernel
theorem dX11_passes_217 : decode cX11_passes 217 = .ok (.aload_n 0, 1) := by decide +kernel
theorem dX11_passes_218 : decode cX11_passes 218 = .ok (.getfield 92, 3) := by decide +kernel
theorem dX11_passes_221 : decode cX11_passes 221 = .ok (.iload 4, 2) := by decide +kernel
theorem dX11_passes_223 : decode cX11_passes 223 = .ok (.iaload, 1) := by decide +kernel
theorem dX11_passes_224 : decode cX11_passes 224 = .ok (.iastore, 1) := by decide +kernel
theorem dX11_passes_225 : decode cX11_passes 225 = .ok (.iinc 4 1, 3) := by decide +kernel
theorem dX11_passes_228 : decode cX11_passes 228 = .ok (.goto (-26), 3) := by decide +kernel
theorem dX11_passes_231 : decode cX11_passes 231 = .ok (.iconst 1, 1) := by decide +kernel
theorem dX11_passes_232 : decode cX11_passes 232 = .ok (.ireturn, 1) := by decide +kernel
theorem dX11_transliterated_0 : decode cX11_transliterated 0 = .ok (.aload_n 0, 1) := by decide +kernel
theorem dX11_transliterated_1 : decode cX11_transliterated 1 = .ok (.iload_n 1, 1) := by decide +kernel
theorem dX11_transliterated_2 : decode cX11_transliterated 2 = .ok (.iconst 0, 1) := by decide +kernel
theorem dX11_transliterated_3 : decode cX11_transliterated 3 = .ok (.aload_n 0, 1) := by decide +kernel
theorem dX11_transliterated_4 : decode cX11_transliterated 4 = .ok (.getfield 19, 3) := by decide +kernel
theorem dX11_transliterated_7 : decode cX11_transliterated 7 = .ok (.iload_n 1, 1) := by decide +kernel
theorem dX11_transliterated_8 : decode cX11_transliterated 8 = .ok (.iaload, 1) := by decide +kernel
theorem dX11_transliterated_9 : decode cX11_transliterated 9 = .ok (.invokevirtual 184, 3) := by decide +kernel
theorem dX11_transliterated_12 : decode cX11_transliterated 12 = .ok (.aload_n 0, 1) := by decide +kernel
theorem dX11_transliterated_13 : decode cX11_transliterated 13 = .ok (.iload_n 2, 1) := by decide +kernel
theorem dX11_transliterated_14 : decode cX11_transliterated 14 = .ok (.ifCond .eq 7, 3) := by decide +kernel
theorem dX11_transliterated_17 : decode cX11_transliterated 17 = .ok (.iconst 1, 1) := by decide +kernel
theorem dX11_transliterated_18 : decode cX11_transliterated 18 = .ok (.goto 4, 3) := by decide +kernel
theorem dX11_transliterated_21 : decode cX11_transliterated 21 = .ok (.iconst 0, 1) := by decide +kernel
theorem dX11_transliterated_22 : decode cX11_transliterated 22 = .ok (.iload_n 2, 1) := by decide +kernel
theorem dX11_transliterated_23 : decode cX11_transliterated 23 = .ok (.invokevirtual 327, 3) := by decide +kernel
theorem dX11_transliterated_26 : decode cX11_transliterated 26 = .ok (.ifCond .eq 24, 3) := by decide +kernel
theorem dX11_transliterated_29 : decode cX11_transliterated 29 = .ok (.aload_n 0, 1) := by decide +kernel
theorem dX11_transliterated_30 : decode cX11_transliterated 30 = .ok (.iload_n 2, 1) := by decide +kernel
theorem dX11_transliterated_31 : decode cX11_transliterated 31 = .ok (.ifCond .eq 7, 3) := by decide +kernel
theorem dX11_transliterated_34 : decode cX11_transliterated 34 = .ok (.iconst 0, 1) := by decide +kernel
theorem dX11_transliterated_35 : decode cX11_transliterated 35 = .ok (.goto 4, 3) := by decide +kernel
theorem dX11_transliterated_38 : decode cX11_transliterated 38 = .ok (.iconst 1, 1) := by decide +kernel
theorem dX11_transliterated_39 : decode cX11_transliterated 39 = .ok (.iload_n 2, 1) := by decide +kernel
theorem dX11_transliterated_40 : decode cX11_transliterated 40 = .ok (.invokevirtual 327, 3) := by decide +kernel
theorem dX11_transliterated_43 : decode cX11_transliterated 43 = .ok (.ifCond .eq 7, 3) := by decide +kernel
theorem dX11_transliterated_46 : decode cX11_transliterated 46 = .ok (.iconst 1, 1) := by decide +kernel
theorem dX11_transliterated_47 : decode cX11_transliterated 47 = .ok (.goto 4, 3) := by decide +kernel
theorem dX11_transliterated_50 : decode cX11_transliterated 50 = .ok (.iconst 0, 1) := by decide +kernel
theorem dX11_transliterated_51 : decode cX11_transliterated 51 = .ok (.ireturn, 1) := by decide +kernel
theorem dX11_transliterate_0 : decode cX11_transliterate 0 = .ok (.iload_n 1, 1) := by decide +kernel
theorem dX11_transliterate_1 : decode cX11_transliterate 1 = .ok (.invokestatic 145, 3) := by decide +kernel
theorem dX11_transliterate_4 : decode cX11_transliterate 4 = .ok (.ifCond .eq 14, 3) := by decide +kernel
theorem dX11_transliterate_7 : decode cX11_transliterate 7 = .ok (.iload_n 2, 1) := by decide +kernel
theorem dX11_transliterate_8 : decode cX11_transliterate 8 = .ok (.invokestatic 145, 3) := by decide +kernel
theorem dX11_transliterate_11 : decode cX11_transliterate 11 = .ok (.ifCond .eq 7, 3) := by decide +kernel
theorem dX11_transliterate_14 : decode cX11_transliterate 14 = .ok (.iconst 1, 1) := by decide +kernel
theorem dX11_transliterate_15 : decode cX11_transliterate 15 = .ok (.goto 4, 3) := by decide +kernel
theorem dX11_transliterate_18 : decode cX11_transliterate 18 = .ok (.iconst 0, 1) := by decide +kernel
theorem dX11_transliterate_19 : decode cX11_transliterate 19 = .ok (.istore 4, 2) := by decide +kernel
theorem dX11_transliterate_21 : decode cX11_transliterate 21 = .ok (.iload 4, 2) := by decide +kernel
theorem dX11_transliterate_23 : decode cX11_transliterate 23 = .ok (.ifCond .eq 16, 3) := by decide +kernel
theorem dX11_transliterate_26 : decode cX11_transliterate 26 = .ok (.aload_n 0, 1) := by decide +kernel
theorem dX11_transliterate_27 : decode cX11_transliterate 27 = .ok (.iload_n 1, 1) := by decide +kernel
theorem dX11_transliterate_28 : decode cX11_transliterate 28 = .ok (.iload_n 3, 1) := by decide +kernel
theorem dX11_transliterate_29 : decode cX11_transliterate 29 = .ok (.invokevirtual 331, 3) := by decide +kernel
theorem dX11_transliterate_32 : decode cX11_transliterate 32 = .ok (.ifCond .eq 7, 3) := by decide +kernel
theorem dX11_transliterate_35 : decode cX11_transliterate 35 = .ok (.iconst 1, 1) := by decide +kernel
theorem dX11_transliterate_36 : decode cX11_transliterate 36 = .ok (.goto 4, 3) := by decide +kernel
theorem dX11_transliterate_39 : decode cX11_transliterate 39 = .ok (.iconst 0, 1) := by decide +kernel
theorem dX11_transliterate_40 : decode cX11_transliterate 40 = .ok (.istore 5, 2) := by decide +kernel
theorem dX11_transliterate_42 : decode cX11_transliterate 42 = .ok (.aload_n 0, 1) := by decide +kernel
theorem dX11_transliterate_43 : decode cX11_transliterate 43 = .ok (.iload 4, 2) := by decide +kernel
theorem dX11_transliterate_45 : decode cX11_transliterate 45 = .ok (.ifCond .ne 7, 3) := by decide +kernel
theorem dX11_transliterate_48 : decode cX11_transliterate 48 = .ok (.iconst 1, 1) := by decide +kernel
theorem dX11_transliterate_49 : decode cX11_transliterate 49 = .ok (.goto 13, 3) := by decide +kernel
theorem dX11_transliterate_52 : decode cX11_transliterate 52 = .ok (.iload 5, 2) := by decide +kernel
theorem dX11_transliterate_54 : decode cX11_transliterate 54 = .ok (.ifCond .eq 7, 3) := by decide +kernel
theorem dX11_transliterate_57 : decode cX11_transliterate 57 = .ok (.iconst 0, 1) := by decide +kernel
theorem dX11_transliterate_58 : decode cX11_transliterate 58 = .ok (.goto 4, 3) := by decide +kernel
theorem dX11_transliterate_61 : decode cX11_transliterate 61 = .ok (.iconst 2, 1) := by decide +kernel
theorem dX11_transliterate_62 : decode cX11_transliterate 62 = .ok (.invokevirtual 118, 3) := by decide +kernel
theorem dX11_transliterate_65 : decode cX11_transliterate 65 = .ok (.ifCond .ne 5, 3) := by decide +kernel
theorem dX11_transliterate_68 : decode cX11_transliterate 68 = .ok (.iconst 0, 1) := by decide +kernel
theorem dX11_transliterate_69 : decode cX11_transliterate 69 = .ok (.ireturn, 1) := by decide +kernel
theorem dX11_transliterate_70 : decode cX11_transliterate 70 = .ok (.aload_n 0, 1) := by decide +kernel
theorem dX11_transliterate_71 : decode cX11_transliterate 71 = .ok (.getfield 19, 3) := by decide +kernel
theorem dX11_transliterate_74 : decode cX11_transliterate 74 = .ok (.iload_n 2, 1) := by decide +kernel
theorem dX11_transliterate_75 : decode cX11_transliterate 75 = .ok (.aload_n 0, 1) := by decide +kernel
theorem dX11_transliterate_76 : decode cX11_transliterate 76 = .ok (.getfield 158, 3) := by decide +kernel
theorem dX11_transliterate_79 : decode cX11_transliterate 79 = .ok (.iastore, 1) := by decide +kernel
theorem dX11_transliterate_80 : decode cX11_transliterate 80 = .ok (.iconst 0, 1) := by decide +kernel
theorem dX11_transliterate_81 : decode cX11_transliterate 81 = .ok (.istore 6, 2) := by decide +kernel
theorem dX11_transliterate_83 : decode cX11_transliterate 83 = .ok (.iload 6, 2) := by decide +kernel
theorem dX11_transliterate_85 : decode cX11_transliterate 85 = .ok (.aload_n 0, 1) := by decide +kernel
theorem dX11_transliterate_86 : decode cX11_transliterate 86 = .ok (.getfield 158, 3) := by decide +kernel
theorem dX11_transliterate_89 : decode cX11_transliterate 89 = .ok (.if_icmp .ge 28, 3) := by decide +kernel
theorem dX11_transliterate_92 : decode cX11_transliterate 92 = .ok (.aload_n 0, 1) := by decide +kernel
theorem dX11_transliterate_93 : decode cX11_transliterate 93 = .ok (.getfield 16, 3) := by decide +kernel
theorem dX11_transliterate_96 : decode cX11_transliterate 96 = .ok (.bipush 40, 2) := by decide +kernel
theorem dX11_transliterate_98 : decode cX11_transliterate 98 = .ok (.iload_n 2, 1) := by decide +kernel
theorem dX11_transliterate_99 : decode cX11_transliterate 99 = .ok (.imul, 1) := by decide +kernel
theorem dX11_transliterate_100 : decode cX11_transliterate 100 = .ok (.iload 6, 2) := by decide +kernel
theorem dX11_transliterate_102 : decode cX11_transliterate 102 = .ok (.iadd, 1) := by decide +kernel
theorem dX11_transliterate_103 : decode cX11_transliterate 103 = .ok (.aload_n 0, 1) := by decide +kernel
theorem dX11_transliterate_104 : decode cX11_transliterate 104 = .ok (.getfield 28, 3) := by decide +kernel
theorem dX11_transliterate_107 : decode cX11_transliterate 107 = .ok (.iload 6, 2) := by decide +kernel
theorem dX11_transliterate_109 : decode cX11_transliterate 109 = .ok (.iaload, 1) := by decide +kernel
theorem dX11_transliterate_110 : decode cX11_transliterate 110 = .ok (.iastore, 1) := by decide +kernel
theorem dX11_transliterate_111 : decode cX11_transliterate 111 = .ok (.iinc 6 1, 3) := by decide +kernel
theorem dX11_transliterate_114 : decode cX11_transliterate 114 = .ok (.goto (-31), 3) := by decide +kernel
theorem dX11_transliterate_117 : decode cX11_transliterate 117 = .ok (.aload_n 0, 1) := by decide +kernel
theorem dX11_transliterate_118 : decode cX11_transliterate 118 = .ok (.getfield 158, 3) := by decide +kernel
theorem dX11_transliterate_121 : decode cX11_transliterate 121 = .ok (.ireturn, 1) := by decide +kernel
theorem dX11_classFor_0 : decode cX11_classFor 0 = .ok (.iconst 0, 1) := by decide +kernel
theorem dX11_classFor_1 : decode cX11_classFor 1 = .ok (.istore_n 3, 1) := by decide +kernel
theorem dX11_classFor_2 : decode cX11_classFor 2 = .ok (.iload_n 3, 1) := by decide +kernel
theorem dX11_classFor_3 : decode cX11_classFor 3 = .ok (.aload_n 0, 1) := by decide +kernel
theorem dX11_classFor_4 : decode cX11_classFor 4 = .ok (.getfield 7, 3) := by decide +kernel
theorem dX11_classFor_7 : decode cX11_classFor 7 = .ok (.sipush 1678, 3) := by decide +kernel
theorem dX11_classFor_10 : decode cX11_classFor 10 = .ok (.iload_n 1, 1) := by decide +kernel
theorem dX11_classFor_11 : decode cX11_classFor 11 = .ok (.iadd, 1) := by decide +kernel
theorem dX11_classFor_12 : decode cX11_classFor 12 = .ok (.iaload, 1) := by decide +kernel
theorem dX11_classFor_13 : decode cX11_classFor 13 = .ok (.if_icmp .ge 126, 3) := by decide +kernel
theorem dX11_classFor_16 : decode cX11_classFor 16 = .ok (.sipush 1680, 3) := by decide +kernel
theorem dX11_classFor_19 : decode cX11_classFor 19 = .ok (.bipush 7, 2) := by decide +kernel
theorem dX11_classFor_21 : decode cX11_classFor 21 = .ok (.iconst 4, 1) := by decide +kernel
theorem dX11_classFor_22 : decode cX11_classFor 22 = .ok (.iload_n 1, 1) := by decide +kernel
theorem dX11_classFor_23 : decode cX11_classFor 23 = .ok (.imul, 1) := by decide +kernel
theorem dX11_classFor_24 : decode cX11_classFor 24 = .ok (.iload_n 3, 1) := by decide +kernel
theorem dX11_classFor_25 : decode cX11_classFor 25 = .ok (.iadd, 1) := by decide +kernel
theorem dX11_classFor_26 : decode cX11_classFor 26 = .ok (.imul, 1) := by decide +kernel
theorem dX11_classFor_27 : decode cX11_classFor 27 = .ok (.iadd, 1) := by decide +kernel
theorem dX11_classFor_28 : decode cX11_classFor 28 = .ok (.istore 4, 2) := by decide +kernel
theorem dX11_classFor_30 : decode cX11_classFor 30 = .ok (.aload_n 0, 1) := by decide +kernel
theorem dX11_classFor_31 : decode cX11_classFor 31 = .ok (.getfield 7, 3) := by decide +kernel
theorem dX11_classFor_34 : decode cX11_classFor 34 = .ok (.iload 4, 2) := by decide +kernel
theorem dX11_classFor_36 : decode cX11_classFor 36 = .ok (.iconst 4, 1) := by decide +kernel
theorem dX11_classFor_37 : decode cX11_classFor 37 = .ok (.iadd, 1) := by decide +kernel
theorem dX11_classFor_38 : decode cX11_classFor 38 = .ok (.iaload, 1) := by decide +kernel
theorem dX11_classFor_39 : decode cX11_classFor 39 = .ok (.ifCond .le 43, 3) := by decide +kernel
theorem dX11_classFor_42 : decode cX11_classFor 42 = .ok (.iload_n 2, 1) := by decide +kernel
theorem dX11_classFor_43 : decode cX11_classFor 43 = .ok (.aload_n 0, 1) := by decide +kernel
theorem dX11_classFor_44 : decode cX11_classFor 44 = .ok (.getfield 7, 3) := by decide +kernel
theorem dX11_classFor_47 : decode cX11_classFor 47 = .ok (.iload 4, 2) := by decide +kernel
theorem dX11_classFor_49 : decode cX11_classFor 49 = .ok (.iconst 4, 1) := by decide +kernel
theorem dX11_classFor_50 : decode cX11_classFor 50 = .ok (.iadd, 1) := by decide +kernel
theorem dX11_classFor_51 : decode cX11_classFor 51 = .ok (.iaload, 1) := by decide +kernel
theorem dX11_classFor_52 : decode cX11_classFor 52 = .ok (.irem, 1) := by decide +kernel
theorem dX11_classFor_53 : decode cX11_classFor 53 = .ok (.aload_n 0, 1) := by decide +kernel
theorem dX11_classFor_54 : decode cX11_classFor 54 = .ok (.getfield 7, 3) := by decide +kernel
theorem dX11_classFor_57 : decode cX11_classFor 57 = .ok (.iload 4, 2) := by decide +kernel
theorem dX11_classFor_59 : decode cX11_classFor 59 = .ok (.iconst 5, 1) := by decide +kernel
theorem dX11_classFor_60 : decode cX11_classFor 60 = .ok (.iadd, 1) := by decide +kernel
theorem dX11_classFor_61 : decode cX11_classFor 61 = .ok (.iaload, 1) := by decide +kernel
theorem dX11_classFor_62 : decode cX11_classFor 62 = .ok (.aload_n 0, 1) := by decide +kernel
theorem dX11_classFor_63 : decode cX11_classFor 63 = .ok (.getfield 7, 3) := by decide +kernel
theorem dX11_classFor_66 : decode cX11_classFor 66 = .ok (.iload 4, 2) := by decide +kernel
theorem dX11_classFor_68 : decode cX11_classFor 68 = .ok (.bipush 6, 2) := by decide +kernel
theorem dX11_classFor_70 : decode cX11_classFor 70 = .ok (.iadd, 1) := by decide +kernel
theorem dX11_classFor_71 : decode cX11_classFor 71 = .ok (.iaload, 1) := by decide +kernel
theorem dX11_classFor_72 : decode cX11_classFor 72 = .ok (.invokestatic 111, 3) := by decide +kernel
theorem dX11_classFor_75 : decode cX11_classFor 75 = .ok (.ifCond .eq 7, 3) := by decide +kernel
theorem dX11_classFor_78 : decode cX11_classFor 78 = .ok (.iconst 1, 1) := by decide +kernel
theorem dX11_classFor_79 : decode cX11_classFor 79 = .ok (.goto 4, 3) := by decide +kernel
theorem dX11_classFor_82 : decode cX11_classFor 82 = .ok (.iconst 0, 1) := by decide +kernel
theorem dX11_classFor_83 : decode cX11_classFor 83 = .ok (.istore 5, 2) := by decide +kernel
theorem dX11_classFor_85 : decode cX11_classFor 85 = .ok (.iload_n 2, 1) := by decide +kernel
theorem dX11_classFor_86 : decode cX11_classFor 86 = .ok (.aload_n 0, 1) := by decide +kernel
theorem dX11_classFor_87 : decode cX11_classFor 87 = .ok (.getfield 7, 3) := by decide +kernel
theorem dX11_classFor_90 : decode cX11_classFor 90 = .ok (.iload 4, 2) := by decide +kernel
theorem dX11_classFor_92 : decode cX11_classFor 92 = .ok (.iconst 1, 1) := by decide +kernel
theorem dX11_classFor_93 : decode cX11_classFor 93 = .ok (.iadd, 1) := by decide +kernel
theorem dX11_classFor_94 : decode cX11_classFor 94 = .ok (.iaload, 1) := by decide +kernel
theorem dX11_classFor_95 : decode cX11_classFor 95 = .ok (.irem, 1) := by decide +kernel
theorem dX11_classFor_96 : decode cX11_classFor 96 = .ok (.aload_n 0, 1) := by decide +kernel
theorem dX11_classFor_97 : decode cX11_classFor 97 = .ok (.getfield 7, 3) := by decide +kernel
theorem dX11_classFor_100 : decode cX11_classFor 100 = .ok (.iload 4, 2) := by decide +kernel
theorem dX11_classFor_102 : decode cX11_classFor 102 = .ok (.iconst 2, 1) := by decide +kernel
theorem dX11_classFor_103 : decode cX11_classFor 103 = .ok (.iadd, 1) := by decide +kernel
theorem dX11_classFor_104 : decode cX11_classFor 104 = .ok (.iaload, 1) := by decide +kernel
theorem dX11_classFor_105 : decode cX11_classFor 105 = .ok (.aload_n 0, 1) := by decide +kernel
theorem dX11_classFor_106 : decode cX11_classFor 106 = .ok (.getfield 7, 3) := by decide +kernel
theorem dX11_classFor_109 : decode cX11_classFor 109 = .ok (.iload 4, 2) := by decide +kernel
theorem dX11_classFor_111 : decode cX11_classFor 111 = .ok (.iconst 3, 1) := by decide +kernel
theorem dX11_classFor_112 : decode cX11_classFor 112 = .ok (.iadd, 1) := by decide +kernel
theorem dX11_classFor_113 : decode cX11_classFor 113 = .ok (.iaload, 1) := by decide +kernel
theorem dX11_classFor_114 : decode cX11_classFor 114 = .ok (.invokestatic 111, 3) := by decide +kernel
theorem dX11_classFor_117 : decode cX11_classFor 117 = .ok (.ifCond .eq 16, 3) := by decide +kernel
theorem dX11_classFor_120 : decode cX11_classFor 120 = .ok (.iload 5, 2) := by decide +kernel
theorem dX11_classFor_122 : decode cX11_classFor 122 = .ok (.ifCond .ne 11, 3) := by decide +kernel
theorem dX11_classFor_125 : decode cX11_classFor 125 = .ok (.aload_n 0, 1) := by decide +kernel
theorem dX11_classFor_126 : decode cX11_classFor 126 = .ok (.getfield 7, 3) := by decide +kernel
theorem dX11_classFor_129 : decode cX11_classFor 129 = .ok (.iload 4, 2) := by decide +kernel
theorem dX11_classFor_131 : decode cX11_classFor 131 = .ok (.iaload, 1) := by decide +kernel
theorem dX11_classFor_132 : decode cX11_classFor 132 = .ok (.ireturn, 1) := by decide +kernel
theorem dX11_classFor_133 : decode cX11_classFor 133 = .ok (.iinc 3 1, 3) := by decide +kernel
theorem dX11_classFor_136 : decode cX11_classFor 136 = .ok (.goto (-134), 3) := by decide +kernel
theorem dX11_classFor_139 : decode cX11_classFor 139 = .ok (.iconst (-1), 1) := by decide +kernel
theorem dX11_classFor_140 : decode cX11_classFor 140 = .ok (.ireturn, 1) := by decide +kernel
theorem dX11_classOf_0 : decode cX11_classOf 0 = .ok (.aload_n 0, 1) := by decide +kernel
theorem dX11_classOf_1 : decode cX11_classOf 1 = .ok (.iload_n 1, 1) := by decide +kernel
theorem dX11_classOf_2 : decode cX11_classOf 2 = .ok (.invokestatic 131, 3) := by decide +kernel
theorem dX11_classOf_5 : decode cX11_classOf 5 = .ok (.ifCond .ne 7, 3) := by decide +kernel
theorem dX11_classOf_8 : decode cX11_classOf 8 = .ok (.iconst 1, 1) := by decide +kernel
theorem dX11_classOf_9 : decode cX11_classOf 9 = .ok (.goto 19, 3) := by decide +kernel
theorem dX11_classOf_12 : decode cX11_classOf 12 = .ok (.iload_n 2, 1) := by decide +kernel
theorem dX11_classOf_13 : decode cX11_classOf 13 = .ok (.iconst 0, 1) := by decide +kernel
theorem dX11_classOf_14 : decode cX11_classOf 14 = .ok (.ldc_w 334, 3) := by decide +kernel
theorem dX11_classOf_17 : decode cX11_classOf 17 = .ok (.invokestatic 111, 3) := by decide +kernel
theorem dX11_classOf_20 : decode cX11_classOf 20 = .ok (.ifCond .eq 7, 3) := by decide +kernel
theorem dX11_classOf_23 : decode cX11_classOf 23 = .ok (.iconst 0, 1) := by decide +kernel
theorem dX11_classOf_24 : decode cX11_classOf 24 = .ok (.goto 4, 3) := by decide +kernel
theorem dX11_classOf_27 : decode cX11_classOf 27 = .ok (.iconst 2, 1) := by decide +kernel
theorem dX11_classOf_28 : decode cX11_classOf 28 = .ok (.invokevirtual 118, 3) := by decide +kernel
theorem dX11_classOf_31 : decode cX11_classOf 31 = .ok (.ifCond .eq 12, 3) := by decide +kernel
theorem dX11_classOf_34 : decode cX11_classOf 34 = .ok (.aload_n 0, 1) := by decide +kernel
theorem dX11_classOf_35 : decode cX11_classOf 35 = .ok (.iload_n 1, 1) := by decide +kernel
theorem dX11_classOf_36 : decode cX11_classOf 36 = .ok (.iload_n 2, 1) := by decide +kernel
theorem dX11_classOf_37 : decode cX11_classOf 37 = .ok (.invokevirtual 335, 3) := by decide +kernel
theorem dX11_classOf_40 : decode cX11_classOf 40 = .ok (.goto 4, 3) := by decide +kernel
theorem dX11_classOf_43 : decode cX11_classOf 43 = .ok (.iconst 0, 1) := by decide +kernel
theorem dX11_classOf_44 : decode cX11_classOf 44 = .ok (.ireturn, 1) := by decide +kernel
theorem dX11_puts_0 : decode cX11_puts 0 = .ok (.aload_n 0, 1) := by decide +kernel
theorem dX11_puts_1 : decode cX11_puts 1 = .ok (.getfield 338, 3) := by decide +kernel
theorem dX11_puts_4 : decode cX11_puts 4 = .ok (.sipush 200, 3) := by decide +kernel
theorem dX11_puts_7 : decode cX11_puts 7 = .ok (.if_icmp .ge 23, 3) := by decide +kernel
theorem dX11_puts_10 : decode cX11_puts 10 = .ok (.aload_n 0, 1) := by decide +kernel
theorem dX11_puts_11 : decode cX11_puts 11 = .ok (.getfield 25, 3) := by decide +kernel
theorem dX11_puts_14 : decode cX11_puts 14 = .ok (.aload_n 0, 1) := by decide +kernel
theorem dX11_puts_15 : decode cX11_puts 15 = .ok (.getfield 338, 3) := by decide +kernel
theorem dX11_puts_18 : decode cX11_puts 18 = .ok (.iload_n 1, 1) := by decide +kernel
theorem dX11_puts_19 : decode cX11_puts 19 = .ok (.iastore, 1) := by decide +kernel
theorem dX11_puts_20 : decode cX11_puts 20 = .ok (.aload_n 0, 1) := by decide +kernel
theorem dX11_puts_21 : decode cX11_puts 21 = .ok (.dup, 1) := by decide +kernel
theorem dX11_puts_22 : decode cX11_puts 22 = .ok (.getfield 338, 3) := by decide +kernel
theorem dX11_puts_25 : decode cX11_puts 25 = .ok (.iconst 1, 1) := by decide +kernel
theorem dX11_puts_26 : decode cX11_puts 26 = .ok (.iadd, 1) := by decide +kernel
theorem dX11_puts_27 : decode cX11_puts 27 = .ok (.putfield 338, 3) := by decide +kernel
theorem dX11_puts_30 : decode cX11_puts 30 = .ok (.return_, 1) := by decide +kernel
theorem dX11_putsNumber_0 : decode cX11_putsNumber 0 = .ok (.iconst 1, 1) := by decide +kernel
theorem dX11_putsNumber_1 : decode cX11_putsNumber 1 = .ok (.istore_n 2, 1) := by decide +kernel
theorem dX11_putsNumber_2 : decode cX11_putsNumber 2 = .ok (.iload_n 1, 1) := by decide +kernel
theorem dX11_putsNumber_3 : decode cX11_putsNumber 3 = .ok (.iload_n 2, 1) := by decide +kernel
theorem dX11_putsNumber_4 : decode cX11_putsNumber 4 = .ok (.idiv, 1) := by decide +kernel
theorem dX11_putsNumber_5 : decode cX11_putsNumber 5 = .ok (.bipush 9, 2) := by decide +kernel
theorem dX11_putsNumber_7 : decode cX11_putsNumber 7 = .ok (.if_icmp .le 11, 3) := by decide +kernel
theorem dX11_putsNumber_10 : decode cX11_putsNumber 10 = .ok (.iload_n 2, 1) := by decide +kernel
theorem dX11_putsNumber_11 : decode cX11_putsNumber 11 = .ok (.bipush 10, 2) := by decide +kernel
theorem dX11_putsNumber_13 : decode cX11_putsNumber 13 = .ok (.imul, 1) := by decide +kernel
theorem dX11_putsNumber_14 : decode cX11_putsNumber 14 = .ok (.istore_n 2, 1) := by decide +kernel
theorem dX11_putsNumber_15 : decode cX11_putsNumber 15 = .ok (.goto (-13), 3) := by decide +kernel
theorem dX11_putsNumber_18 : decode cX11_putsNumber 18 = .ok (.iload_n 2, 1) := by decide +kernel
theorem dX11_putsNumber_19 : decode cX11_putsNumber 19 = .ok (.ifCond .le 24, 3) := by decide +kernel
theorem dX11_putsNumber_22 : decode cX11_putsNumber 22 = .ok (.aload_n 0, 1) := by decide +kernel
theorem dX11_putsNumber_23 : decode cX11_putsNumber 23 = .ok (.bipush 48, 2) := by decide +kernel
theorem dX11_putsNumber_25 : decode cX11_putsNumber 25 = .ok (.iload_n 1, 1) := by decide +kernel
theorem dX11_putsNumber_26 : decode cX11_putsNumber 26 = .ok (.iload_n 2, 1) := by decide +kernel
theorem dX11_putsNumber_27 : decode cX11_putsNumber 27 = .ok (.idiv, 1) := by decide +kernel
theorem dX11_putsNumber_28 : decode cX11_putsNumber 28 = .ok (.bipush 10, 2) := by decide +kernel
theorem dX11_putsNumber_30 : decode cX11_putsNumber 30 = .ok (.irem, 1) := by decide +kernel
theorem dX11_putsNumber_31 : decode cX11_putsNumber 31 = .ok (.iadd, 1) := by decide +kernel
theorem dX11_putsNumber_32 : decode cX11_putsNumber 32 = .ok (.invokevirtual 341, 3) := by decide +kernel
theorem dX11_putsNumber_35 : decode cX11_putsNumber 35 = .ok (.iload_n 2, 1) := by decide +kernel
theorem dX11_putsNumber_36 : decode cX11_putsNumber 36 = .ok (.bipush 10, 2) := by decide +kernel
theorem dX11_putsNumber_38 : decode cX11_putsNumber 38 = .ok (.idiv, 1) := by decide +kernel
theorem dX11_putsNumber_39 : decode cX11_putsNumber 39 = .ok (.istore_n 2, 1) := by decide +kernel
theorem dX11_putsNumber_40 : decode cX11_putsNumber 40 = .ok (.goto (-22), 3) := by decide +kernel
theorem dX11_putsNumber_43 : decode cX11_putsNumber 43 = .ok (.return_, 1) := by decide +kernel
theorem dX11_readsCase_0 : decode cX11_readsCase 0 = .ok (.aload_n 0, 1) := by decide +kernel
theorem dX11_readsCase_1 : decode cX11_readsCase 1 = .ok (.invokevirtual 288, 3) := by decide +kernel
theorem dX11_readsCase_4 : decode cX11_readsCase 4 = .ok (.istore_n 3, 1) := by decide +kernel
theorem dX11_readsCase_5 : decode cX11_readsCase 5 = .ok (.aload_n 0, 1) := by decide +kernel
theorem dX11_readsCase_6 : decode cX11_readsCase 6 = .ok (.dup, 1) := by decide +kernel
theorem dX11_readsCase_7 : decode cX11_readsCase 7 = .ok (.getfield 285, 3) := by decide +kernel
theorem dX11_readsCase_10 : decode cX11_readsCase 10 = .ok (.iconst 1, 1) := by decide +kernel
theorem dX11_readsCase_11 : decode cX11_readsCase 11 = .ok (.iadd, 1) := by decide +kernel
theorem dX11_readsCase_12 : decode cX11_readsCase 12 = .ok (.putfield 285, 3) := by decide +kernel
theorem dX11_readsCase_15 : decode cX11_readsCase 15 = .ok (.iload_n 3, 1) := by decide +kernel
theorem dX11_readsCase_16 : decode cX11_readsCase 16 = .ok (.bipush 111, 2) := by decide +kernel
theorem dX11_readsCase_18 : decode cX11_readsCase 18 = .ok (.if_icmp .eq 21, 3) := by decide +kernel
theorem dX11_readsCase_21 : decode cX11_readsCase 21 = .ok (.iload_n 3, 1) := by decide +kernel
theorem dX11_readsCase_22 : decode cX11_readsCase 22 = .ok (.bipush 102, 2) := by decide +kernel
theorem dX11_readsCase_24 : decode cX11_readsCase 24 = .ok (.if_icmp .eq 15, 3) := by decide +kernel
theorem dX11_readsCase_27 : decode cX11_readsCase 27 = .ok (.iload_n 3, 1) := by decide +kernel
theorem dX11_readsCase_28 : decode cX11_readsCase 28 = .ok (.bipush 109, 2) := by decide +kernel
theorem dX11_readsCase_30 : decode cX11_readsCase 30 = .ok (.if_icmp .eq 9, 3) := by decide +kernel
theorem dX11_readsCase_33 : decode cX11_readsCase 33 = .ok (.iload_n 3, 1) := by decide +kernel
theorem dX11_readsCase_34 : decode cX11_readsCase 34 = .ok (.bipush 120, 2) := by decide +kernel
theorem dX11_readsCase_36 : decode cX11_readsCase 36 = .ok (.if_icmp .ne 7, 3) := by decide +kernel
theorem dX11_readsCase_39 : decode cX11_readsCase 39 = .ok (.iconst 1, 1) := by decide +kernel
theorem dX11_readsCase_40 : decode cX11_readsCase 40 = .ok (.goto 4, 3) := by decide +kernel
theorem dX11_readsCase_43 : decode cX11_readsCase 43 = .ok (.iconst 0, 1) := by decide +kernel
theorem dX11_readsCase_44 : decode cX11_readsCase 44 = .ok (.istore 4, 2) := by decide +kernel
theorem dX11_readsCase_46 : decode cX11_readsCase 46 = .ok (.aload_n 0, 1) := by decide +kernel
theorem dX11_readsCase_47 : decode cX11_readsCase 47 = .ok (.getfield 104, 3) := by decide +kernel
theorem dX11_readsCase_50 : decode cX11_readsCase 50 = .ok (.aload_n 0, 1) := by decide +kernel
theorem dX11_readsCase_51 : decode cX11_readsCase 51 = .ok (.getfield 95, 3) := by decide +kernel
theorem dX11_readsCase_54 : decode cX11_readsCase 54 = .ok (.iload_n 2, 1) := by decide +kernel
theorem dX11_readsCase_55 : decode cX11_readsCase 55 = .ok (.iaload, 1) := by decide +kernel
theorem dX11_readsCase_56 : decode cX11_readsCase 56 = .ok (.iaload, 1) := by decide +kernel
theorem dX11_readsCase_57 : decode cX11_readsCase 57 = .ok (.istore 5, 2) := by decide +kernel
theorem dX11_readsCase_59 : decode cX11_readsCase 59 = .ok (.aload_n 0, 1) := by decide +kernel
theorem dX11_readsCase_60 : decode cX11_readsCase 60 = .ok (.iload_n 1, 1) := by decide +kernel
theorem dX11_readsCase_61 : decode cX11_readsCase 61 = .ok (.iload 5, 2) := by decide +kernel
theorem dX11_readsCase_63 : decode cX11_readsCase 63 = .ok (.invokevirtual 335, 3) := by decide +kernel
theorem dX11_readsCase_66 : decode cX11_readsCase 66 = .ok (.istore 6, 2) := by decide +kernel
theorem dX11_readsCase_68 : decode cX11_readsCase 68 = .ok (.iload_n 3, 1) := by decide +kernel
theorem dX11_readsCase_69 : decode cX11_readsCase 69 = .ok (.bipush 120, 2) := by decide +kernel
theorem dX11_readsCase_71 : decode cX11_readsCase 71 = .ok (.if_icmp .eq 38, 3) := by decide +kernel
theorem dX11_readsCase_74 : decode cX11_readsCase 74 = .ok (.iload_n 3, 1) := by decide +kernel
theorem dX11_readsCase_75 : decode cX11_readsCase 75 = .ok (.bipush 111, 2) := by decide +kernel
theorem dX11_readsCase_77 : decode cX11_readsCase 77 = .ok (.if_icmp .ne 8, 3) := by decide +kernel
theorem dX11_readsCase_80 : decode cX11_readsCase 80 = .ok (.iload 6, 2) := by decide +kernel
theorem dX11_readsCase_82 : decode cX11_readsCase 82 = .ok (.ifCond .eq 27, 3) := by decide +kernel
theorem dX11_readsCase_85 : decode cX11_readsCase 85 = .ok (.iload_n 3, 1) := by decide +kernel
theorem dX11_readsCase_86 : decode cX11_readsCase 86 = .ok (.bipush 102, 2) := by decide +kernel
theorem dX11_readsCase_88 : decode cX11_readsCase 88 = .ok (.if_icmp .ne 9, 3) := by decide +kernel
theorem dX11_readsCase_91 : decode cX11_readsCase 91 = .ok (.iload 6, 2) := by decide +kernel
theorem dX11_readsCase_93 : decode cX11_readsCase 93 = .ok (.iconst 1, 1) := by decide +kernel
theorem dX11_readsCase_94 : decode cX11_readsCase 94 = .ok (.if_icmp .eq 15, 3) := by decide +kernel
theorem dX11_readsCase_97 : decode cX11_readsCase 97 = .ok (.iload_n 3, 1) := by decide +kernel
theorem dX11_readsCase_98 : decode cX11_readsCase 98 = .ok (.bipush 109, 2) := by decide +kernel
theorem dX11_readsCase_100 : decode cX11_readsCase 100 = .ok (.if_icmp .ne 13, 3) := by decide +kernel
theorem dX11_readsCase_103 : decode cX11_readsCase 103 = .ok (.iload 6, 2) := by decide +kernel
theorem dX11_readsCase_105 : decode cX11_readsCase 105 = .ok (.iconst 2, 1) := by decide +kernel
theorem dX11_readsCase_106 : decode cX11_readsCase 106 = .ok (.if_icmp .ne 7, 3) := by decide +kernel
theorem dX11_readsCase_109 : decode cX11_readsCase 109 = .ok (.iconst 1, 1) := by decide +kernel
theorem dX11_readsCase_110 : decode cX11_readsCase 110 = .ok (.goto 4, 3) := by decide +kernel
theorem dX11_readsCase_113 : decode cX11_readsCase 113 = .ok (.iconst 0, 1) := by decide +kernel
theorem dX11_readsCase_114 : decode cX11_readsCase 114 = .ok (.istore 7, 2) := by decide +kernel
theorem dX11_readsCase_116 : decode cX11_readsCase 116 = .ok (.iload_n 3, 1) := by decide +kernel
theorem dX11_readsCase_117 : decode cX11_readsCase 117 = .ok (.bipush 35, 2) := by decide +kernel
theorem dX11_readsCase_119 : decode cX11_readsCase 119 = .ok (.if_icmp .ne 45, 3) := by decide +kernel
theorem dX11_readsCase_122 : decode cX11_readsCase 122 = .ok (.aload_n 0, 1) := by decide +kernel
theorem dX11_readsCase_123 : decode cX11_readsCase 123 = .ok (.invokevirtual 288, 3) := by decide +kernel
theorem dX11_readsCase_126 : decode cX11_readsCase 126 = .ok (.bipush 48, 2) := by decide +kernel
theorem dX11_readsCase_128 : decode cX11_readsCase 128 = .ok (.bipush 51, 2) := by decide +kernel
theorem dX11_readsCase_130 : decode cX11_readsCase 130 = .ok (.invokestatic 111, 3) := by decide +kernel
theorem dX11_readsCase_133 : decode cX11_readsCase 133 = .ok (.istore 4, 2) := by decide +kernel
theorem dX11_readsCase_135 : decode cX11_readsCase 135 = .ok (.iload 5, 2) := by decide +kernel
theorem dX11_readsCase_137 : decode cX11_readsCase 137 = .ok (.aload_n 0, 1) := by decide +kernel
theorem dX11_readsCase_138 : decode cX11_readsCase 138 = .ok (.invokevirtual 288, 3) := by decide +kernel
theorem dX11_readsCase_141 : decode cX11_readsCase 141 = .ok (.bipush 48, 2) := by decide +kernel
theorem dX11_readsCase_143 : decode cX11_readsCase 143 = .ok (.isub, 1) := by decide +kernel
theorem dX11_readsCase_144 : decode cX11_readsCase 144 = .ok (.if_icmp .ne 7, 3) := by decide +kernel
theorem dX11_readsCase_147 : decode cX11_readsCase 147 = .ok (.iconst 1, 1) := by decide +kernel
theorem dX11_readsCase_148 : decode cX11_readsCase 148 = .ok (.goto 4, 3) := by decide +kernel
theorem dX11_readsCase_151 : decode cX11_readsCase 151 = .ok (.iconst 0, 1) := by decide +kernel
theorem dX11_readsCase_152 : decode cX11_readsCase 152 = .ok (.istore 7, 2) := by decide +kernel
theorem dX11_readsCase_154 : decode cX11_readsCase 154 = .ok (.aload_n 0, 1) := by decide +kernel
theorem dX11_readsCase_155 : decode cX11_readsCase 155 = .ok (.dup, 1) := by decide +kernel
theorem dX11_readsCase_156 : decode cX11_readsCase 156 = .ok (.getfield 285, 3) := by decide +kernel
theorem dX11_readsCase_159 : decode cX11_readsCase 159 = .ok (.iconst 1, 1) := by decide +kernel
theorem dX11_readsCase_160 : decode cX11_readsCase 160 = .ok (.iadd, 1) := by decide +kernel
theorem dX11_readsCase_161 : decode cX11_readsCase 161 = .ok (.putfield 285, 3) := by decide +kernel
theorem dX11_readsCase_164 : decode cX11_readsCase 164 = .ok (.aload_n 0, 1) := by decide +kernel
theorem dX11_readsCase_165 : decode cX11_readsCase 165 = .ok (.getfield 101, 3) := by decide +kernel
theorem dX11_readsCase_168 : decode cX11_readsCase 168 = .ok (.iload_n 2, 1) := by decide +kernel
theorem dX11_readsCase_169 : decode cX11_readsCase 169 = .ok (.iload 7, 2) := by decide +kernel
theorem dX11_readsCase_171 : decode cX11_readsCase 171 = .ok (.ifCond .eq 16, 3) := by decide +kernel
theorem dX11_readsCase_174 : decode cX11_readsCase 174 = .ok (.aload_n 0, 1) := by decide +kernel
theorem dX11_readsCase_175 : decode cX11_readsCase 175 = .ok (.getfield 98, 3) := by decide +kernel
theorem dX11_readsCase_178 : decode cX11_readsCase 178 = .ok (.iload_n 2, 1) := by decide +kernel
theorem dX11_readsCase_179 : decode cX11_readsCase 179 = .ok (.baload, 1) := by decide +kernel
theorem dX11_readsCase_180 : decode cX11_readsCase 180 = .ok (.ifCond .ne 7, 3) := by decide +kernel
theorem dX11_readsCase_183 : decode cX11_readsCase 183 = .ok (.iconst 1, 1) := by decide +kernel
theorem dX11_readsCase_184 : decode cX11_readsCase 184 = .ok (.goto 4, 3) := by decide +kernel
theorem dX11_readsCase_187 : decode cX11_readsCase 187 = .ok (.iconst 0, 1) := by decide +kernel
theorem dX11_readsCase_188 : decode cX11_readsCase 188 = .ok (.bastore, 1) := by decide +kernel
theorem dX11_readsCase_189 : decode cX11_readsCase 189 = .ok (.aload_n 0, 1) := by decide +kernel
theorem dX11_readsCase_190 : decode cX11_readsCase 190 = .ok (.getfield 98, 3) := by decide +kernel
theorem dX11_readsCase_193 : decode cX11_readsCase 193 = .ok (.iload_n 2, 1) := by decide +kernel
theorem dX11_readsCase_194 : decode cX11_readsCase 194 = .ok (.aload_n 0, 1) := by decide +kernel
theorem dX11_readsCase_195 : decode cX11_readsCase 195 = .ok (.getfield 98, 3) := by decide +kernel
theorem dX11_readsCase_198 : decode cX11_readsCase 198 = .ok (.iload_n 2, 1) := by decide +kernel
theorem dX11_readsCase_199 : decode cX11_readsCase 199 = .ok (.baload, 1) := by decide +kernel
theorem dX11_readsCase_200 : decode cX11_readsCase 200 = .ok (.ifCond .ne 8, 3) := by decide +kernel
theorem dX11_readsCase_203 : decode cX11_readsCase 203 = .ok (.iload 7, 2) := by decide +kernel
theorem dX11_readsCase_205 : decode cX11_readsCase 205 = .ok (.ifCond .eq 7, 3) := by decide +kernel
theorem dX11_readsCase_208 : decode cX11_readsCase 208 = .ok (.iconst 1, 1) := by decide +kernel
theorem dX11_readsCase_209 : decode cX11_readsCase 209 = .ok (.goto 4, 3) := by decide +kernel
theorem dX11_readsCase_212 : decode cX11_readsCase 212 = .ok (.iconst 0, 1) := by decide +kernel
theorem dX11_readsCase_213 : decode cX11_readsCase 213 = .ok (.bastore, 1) := by decide +kernel
theorem dX11_readsCase_214 : decode cX11_readsCase 214 = .ok (.iload 4, 2) := by decide +kernel
theorem dX11_readsCase_216 : decode cX11_readsCase 216 = .ok (.ifCond .eq 16, 3) := by decide +kernel
theorem dX11_readsCase_219 : decode cX11_readsCase 219 = .ok (.aload_n 0, 1) := by decide +kernel
theorem dX11_readsCase_220 : decode cX11_readsCase 220 = .ok (.invokevirtual 288, 3) := by decide +kernel
theorem dX11_readsCase_223 : decode cX11_readsCase 223 = .ok (.bipush 61, 2) := by decide +kernel
theorem dX11_readsCase_225 : decode cX11_readsCase 225 = .ok (.if_icmp .ne 7, 3) := by decide +kernel
theorem dX11_readsCase_228 : decode cX11_readsCase 228 = .ok (.iconst 1, 1) := by decide +kernel
theorem dX11_readsCase_229 : decode cX11_readsCase 229 = .ok (.goto 4, 3) := by decide +kernel
theorem dX11_readsCase_232 : decode cX11_readsCase 232 = .ok (.iconst 0, 1) := by decide +kernel
theorem dX11_readsCase_233 : decode cX11_readsCase 233 = .ok (.istore 4, 2) := by decide +kernel
theorem dX11_readsCase_235 : decode cX11_readsCase 235 = .ok (.aload_n 0, 1) := by decide +kernel
theorem dX11_readsCase_236 : decode cX11_readsCase 236 = .ok (.dup, 1) := by decide +kernel
theorem dX11_readsCase_237 : decode cX11_readsCase 237 = .ok (.getfield 285, 3) := by decide +kernel
theorem dX11_readsCase_240 : decode cX11_readsCase 240 = .ok (.iconst 1, 1) := by decide +kernel
theorem dX11_readsCase_241 : decode cX11_readsCase 241 = .ok (.iadd, 1) := by decide +kernel
theorem dX11_readsCase_242 : decode cX11_readsCase 242 = .ok (.putfield 285, 3) := by decide +kernel
theorem dX11_readsCase_245 : decode cX11_readsCase 245 = .ok (.iload 4, 2) := by decide +kernel
theorem dX11_readsCase_247 : decode cX11_readsCase 247 = .ok (.ireturn, 1) := by decide +kernel
theorem dX11_isHeard_0 : decode cX11_isHeard 0 = .ok (.iconst 1, 1) := by decide +kernel
theorem dX11_isHeard_1 : decode cX11_isHeard 1 = .ok (.istore_n 2, 1) := by decide +kernel
theorem dX11_isHeard_2 : decode cX11_isHeard 2 = .ok (.iconst 1, 1) := by decide +kernel
theorem dX11_isHeard_3 : decode cX11_isHeard 3 = .ok (.istore_n 3, 1) := by decide +kernel
theorem dX11_isHeard_4 : decode cX11_isHeard 4 = .ok (.iload_n 3, 1) := by decide +kernel
theorem dX11_isHeard_5 : decode cX11_isHeard 5 = .ok (.iload_n 1, 1) := by decide +kernel
theorem dX11_isHeard_6 : decode cX11_isHeard 6 = .ok (.if_icmp .gt 28, 3) := by decide +kernel
theorem dX11_isHeard_9 : decode cX11_isHeard 9 = .ok (.iload_n 2, 1) := by decide +kernel
theorem dX11_isHeard_10 : decode cX11_isHeard 10 = .ok (.ifCond .eq 16, 3) := by decide +kernel
theorem dX11_isHeard_13 : decode cX11_isHeard 13 = .ok (.aload_n 0, 1) := by decide +kernel
theorem dX11_isHeard_14 : decode cX11_isHeard 14 = .ok (.getfield 101, 3) := by decide +kernel
theorem dX11_isHeard_17 : decode cX11_isHeard 17 = .ok (.iload_n 3, 1) := by decide +kernel
theorem dX11_isHeard_18 : decode cX11_isHeard 18 = .ok (.baload, 1) := by decide +kernel
theorem dX11_isHeard_19 : decode cX11_isHeard 19 = .ok (.ifCond .eq 7, 3) := by decide +kernel
theorem dX11_isHeard_22 : decode cX11_isHeard 22 = .ok (.iconst 1, 1) := by decide +kernel
theorem dX11_isHeard_23 : decode cX11_isHeard 23 = .ok (.goto 4, 3) := by decide +kernel
theorem dX11_isHeard_26 : decode cX11_isHeard 26 = .ok (.iconst 0, 1) := by decide +kernel
theorem dX11_isHeard_27 : decode cX11_isHeard 27 = .ok (.istore_n 2, 1) := by decide +kernel
theorem dX11_isHeard_28 : decode cX11_isHeard 28 = .ok (.iinc 3 1, 3) := by decide +kernel
theorem dX11_isHeard_31 : decode cX11_isHeard 31 = .ok (.goto (-27), 3) := by decide +kernel
theorem dX11_isHeard_34 : decode cX11_isHeard 34 = .ok (.iload_n 2, 1) := by decide +kernel
theorem dX11_isHeard_35 : decode cX11_isHeard 35 = .ok (.ireturn, 1) := by decide +kernel
theorem dX11_readsMessage_0 : decode cX11_readsMessage 0 = .ok (.iconst 0, 1) := by decide +kernel
theorem dX11_readsMessage_1 : decode cX11_readsMessage 1 = .ok (.istore_n 3, 1) := by decide +kernel
theorem dX11_readsMessage_2 : decode cX11_readsMessage 2 = .ok (.aload_n 0, 1) := by decide +kernel
theorem dX11_readsMessage_3 : decode cX11_readsMessage 3 = .ok (.iconst 0, 1) := by decide +kernel
theorem dX11_readsMessage_4 : decode cX11_readsMessage 4 = .ok (.putfield 285, 3) := by decide +kernel
theorem dX11_readsMessage_7 : decode cX11_readsMessage 7 = .ok (.aload_n 0, 1) := by decide +kernel
theorem dX11_readsMessage_8 : decode cX11_readsMessage 8 = .ok (.getfield 285, 3) := by decide +kernel
theorem dX11_readsMessage_11 : decode cX11_readsMessage 11 = .ok (.aload_n 0, 1) := by decide +kernel
theorem dX11_readsMessage_12 : decode cX11_readsMessage 12 = .ok (.getfield 115, 3) := by decide +kernel
theorem dX11_readsMessage_15 : decode cX11_readsMessage 15 = .ok (.if_icmp .ge 244, 3) := by decide +kernel
theorem dX11_readsMessage_18 : decode cX11_readsMessage 18 = .ok (.aload_n 0, 1) := by decide +kernel
theorem dX11_readsMessage_19 : decode cX11_readsMessage 19 = .ok (.invokevirtual 288, 3) := by decide +kernel
theorem dX11_readsMessage_22 : decode cX11_readsMessage 22 = .ok (.istore 4, 2) := by decide +kernel
theorem dX11_readsMessage_24 : decode cX11_readsMessage 24 = .ok (.aload_n 0, 1) := by decide +kernel
theorem dX11_readsMessage_25 : decode cX11_readsMessage 25 = .ok (.dup, 1) := by decide +kernel
theorem dX11_readsMessage_26 : decode cX11_readsMessage 26 = .ok (.getfield 285, 3) := by decide +kernel
theorem dX11_readsMessage_29 : decode cX11_readsMessage 29 = .ok (.iconst 1, 1) := by decide +kernel
theorem dX11_readsMessage_30 : decode cX11_readsMessage 30 = .ok (.iadd, 1) := by decide +kernel
theorem dX11_readsMessage_31 : decode cX11_readsMessage 31 = .ok (.putfield 285, 3) := by decide +kernel
theorem dX11_readsMessage_34 : decode cX11_readsMessage 34 = .ok (.iload 4, 2) := by decide +kernel
theorem dX11_readsMessage_36 : decode cX11_readsMessage 36 = .ok (.bipush 123, 2) := by decide +kernel
theorem dX11_readsMessage_38 : decode cX11_readsMessage 38 = .ok (.if_icmp .ne 132, 3) := by decide +kernel
theorem dX11_readsMessage_41 : decode cX11_readsMessage 41 = .ok (.aload_n 0, 1) := by decide +kernel
theorem dX11_readsMessage_42 : decode cX11_readsMessage 42 = .ok (.invokevirtual 288, 3) := by decide +kernel
theorem dX11_readsMessage_45 : decode cX11_readsMessage 45 = .ok (.bipush 48, 2) := by decide +kernel
theorem dX11_readsMessage_47 : decode cX11_readsMessage 47 = .ok (.isub, 1) := by decide +kernel
theorem dX11_readsMessage_48 : decode cX11_readsMessage 48 = .ok (.istore 5, 2) := by decide +kernel
theorem dX11_readsMessage_50 : decode cX11_readsMessage 50 = .ok (.aload_n 0, 1) := by decide +kernel
theorem dX11_readsMessage_51 : decode cX11_readsMessage 51 = .ok (.dup, 1) := by decide +kernel
theorem dX11_readsMessage_52 : decode cX11_readsMessage 52 = .ok (.getfield 285, 3) := by decide +kernel
theorem dX11_readsMessage_55 : decode cX11_readsMessage 55 = .ok (.iconst 1, 1) := by decide +kernel
theorem dX11_readsMessage_56 : decode cX11_readsMessage 56 = .ok (.iadd, 1) := by decide +kernel
theorem dX11_readsMessage_57 : decode cX11_readsMessage 57 = .ok (.putfield 285, 3) := by decide +kernel
theorem dX11_readsMessage_60 : decode cX11_readsMessage 60 = .ok (.aload_n 0, 1) := by decide +kernel
theorem dX11_readsMessage_61 : decode cX11_readsMessage 61 = .ok (.invokevirtual 288, 3) := by decide +kernel
theorem dX11_readsMessage_64 : decode cX11_readsMessage 64 = .ok (.istore 6, 2) := by decide +kernel
theorem dX11_readsMessage_66 : decode cX11_readsMessage 66 = .ok (.aload_n 0, 1) := by decide +kernel
theorem dX11_readsMessage_67 : decode cX11_readsMessage 67 = .ok (.dup, 1) := by decide +kernel
theorem dX11_readsMessage_68 : decode cX11_readsMessage 68 = .ok (.getfield 285, 3) := by decide +kernel
theorem dX11_readsMessage_71 : decode cX11_readsMessage 71 = .ok (.iconst 1, 1) := by decide +kernel
theorem dX11_readsMessage_72 : decode cX11_readsMessage 72 = .ok (.iadd, 1) := by decide +kernel
theorem dX11_readsMessage_73 : decode cX11_readsMessage 73 = .ok (.putfield 285, 3) := by decide +kernel
theorem dX11_readsMessage_76 : decode cX11_readsMessage 76 = .ok (.iload 5, 2) := by decide +kernel
theorem dX11_readsMessage_78 : decode cX11_readsMessage 78 = .ok (.iconst 0, 1) := by decide +kernel
theorem dX11_readsMessage_79 : decode cX11_readsMessage 79 = .ok (.iconst 3, 1) := by decide +kernel
theorem dX11_readsMessage_80 : decode cX11_readsMessage 80 = .ok (.invokestatic 111, 3) := by decide +kernel
theorem dX11_readsMessage_83 : decode cX11_readsMessage 83 = .ok (.ifCond .eq 23, 3) := by decide +kernel
theorem dX11_readsMessage_86 : decode cX11_readsMessage 86 = .ok (.iload 6, 2) := by decide +kernel
theorem dX11_readsMessage_88 : decode cX11_readsMessage 88 = .ok (.bipush 125, 2) := by decide +kernel
theorem dX11_readsMessage_90 : decode cX11_readsMessage 90 = .ok (.if_icmp .eq 18, 3) := by decide +kernel
theorem dX11_readsMessage_93 : decode cX11_readsMessage 93 = .ok (.iload 6, 2) := by decide +kernel
theorem dX11_readsMessage_95 : decode cX11_readsMessage 95 = .ok (.bipush 58, 2) := by decide +kernel
theorem dX11_readsMessage_97 : decode cX11_readsMessage 97 = .ok (.if_icmp .ne 9, 3) := by decide +kernel
theorem dX11_readsMessage_100 : decode cX11_readsMessage 100 = .ok (.iload_n 3, 1) := by decide +kernel
theorem dX11_readsMessage_101 : decode cX11_readsMessage 101 = .ok (.bipush 6, 2) := by decide +kernel
theorem dX11_readsMessage_103 : decode cX11_readsMessage 103 = .ok (.if_icmp .ne 5, 3) := by decide +kernel
theorem dX11_readsMessage_106 : decode cX11_readsMessage 106 = .ok (.iconst 0, 1) := by decide +kernel
theorem dX11_readsMessage_107 : decode cX11_readsMessage 107 = .ok (.ireturn, 1) := by decide +kernel
theorem dX11_readsMessage_108 : decode cX11_readsMessage 108 = .ok (.iload 6, 2) := by decide +kernel
theorem dX11_readsMessage_110 : decode cX11_readsMessage 110 = .ok (.bipush 58, 2) := by decide +kernel
theorem dX11_readsMessage_112 : decode cX11_readsMessage 112 = .ok (.if_icmp .ne 32, 3) := by decide +kernel
theorem dX11_readsMessage_115 : decode cX11_readsMessage 115 = .ok (.iinc 3 1, 3) := by decide +kernel
theorem dX11_readsMessage_118 : decode cX11_readsMessage 118 = .ok (.aload_n 0, 1) := by decide +kernel
theorem dX11_readsMessage_119 : decode cX11_readsMessage 119 = .ok (.getfield 95, 3) := by decide +kernel
theorem dX11_readsMessage_122 : decode cX11_readsMessage 122 = .ok (.iload_n 3, 1) := by decide +kernel
theorem dX11_readsMessage_123 : decode cX11_readsMessage 123 = .ok (.iload 5, 2) := by decide +kernel
theorem dX11_readsMessage_125 : decode cX11_readsMessage 125 = .ok (.iastore, 1) := by decide +kernel
theorem dX11_readsMessage_126 : decode cX11_readsMessage 126 = .ok (.aload_n 0, 1) := by decide +kernel
theorem dX11_readsMessage_127 : decode cX11_readsMessage 127 = .ok (.getfield 98, 3) := by decide +kernel
theorem dX11_readsMessage_130 : decode cX11_readsMessage 130 = .ok (.iload_n 3, 1) := by decide +kernel
theorem dX11_readsMessage_131 : decode cX11_readsMessage 131 = .ok (.iconst 0, 1) := by decide +kernel
theorem dX11_readsMessage_132 : decode cX11_readsMessage 132 = .ok (.bastore, 1) := by decide +kernel
theorem dX11_readsMessage_133 : decode cX11_readsMessage 133 = .ok (.aload_n 0, 1) := by decide +kernel
theorem dX11_readsMessage_134 : decode cX11_readsMessage 134 = .ok (.iload_n 1, 1) := by decide +kernel
theorem dX11_readsMessage_135 : decode cX11_readsMessage 135 = .ok (.iload_n 3, 1) := by decide +kernel
theorem dX11_readsMessage_136 : decode cX11_readsMessage 136 = .ok (.invokevirtual 344, 3) := by decide +kernel
theorem dX11_readsMessage_139 : decode cX11_readsMessage 139 = .ok (.ifCond .ne 28, 3) := by decide +kernel
theorem dX11_readsMessage_142 : decode cX11_readsMessage 142 = .ok (.iconst 0, 1) := by decide +kernel
theorem dX11_readsMessage_143 : decode cX11_readsMessage 143 = .ok (.ireturn, 1) := by decide +kernel
theorem dX11_readsMessage_144 : decode cX11_readsMessage 144 = .ok (.iload_n 2, 1) := by decide +kernel
theorem dX11_readsMessage_145 : decode cX11_readsMessage 145 = .ok (.ifCond .eq 22, 3) := by decide +kernel
theorem dX11_readsMessage_148 : decode cX11_readsMessage 148 = .ok (.aload_n 0, 1) := by decide +kernel
theorem dX11_readsMessage_149 : decode cX11_readsMessage 149 = .ok (.iload_n 3, 1) := by decide +kernel
theorem dX11_readsMessage_150 : decode cX11_readsMessage 150 = .ok (.invokevirtual 347, 3) := by decide +kernel
theorem dX11_readsMessage_153 : decode cX11_readsMessage 153 = .ok (.ifCond .eq 14, 3) := by decide +kernel
theorem dX11_readsMessage_156 : decode cX11_readsMessage 156 = .ok (.aload_n 0, 1) := by decide +kernel
theorem dX11_readsMessage_157 : decode cX11_readsMessage 157 = .ok (.aload_n 0, 1) := by decide +kernel
theorem dX11_readsMessage_158 : decode cX11_readsMessage 158 = .ok (.getfield 104, 3) := by decide +kernel
theorem dX11_readsMessage_161 : decode cX11_readsMessage 161 = .ok (.iload 5, 2) := by decide +kernel
theorem dX11_readsMessage_163 : decode cX11_readsMessage 163 = .ok (.iaload, 1) := by decide +kernel
theorem dX11_readsMessage_164 : decode cX11_readsMessage 164 = .ok (.invokevirtual 350, 3) := by decide +kernel
theorem dX11_readsMessage_167 : decode cX11_readsMessage 167 = .ok (.goto 89, 3) := by decide +kernel
theorem dX11_readsMessage_170 : decode cX11_readsMessage 170 = .ok (.iload 4, 2) := by decide +kernel
theorem dX11_readsMessage_172 : decode cX11_readsMessage 172 = .ok (.bipush 124, 2) := by decide +kernel
theorem dX11_readsMessage_174 : decode cX11_readsMessage 174 = .ok (.if_icmp .eq 10, 3) := by decide +kernel
theorem dX11_readsMessage_177 : decode cX11_readsMessage 177 = .ok (.iload 4, 2) := by decide +kernel
theorem dX11_readsMessage_179 : decode cX11_readsMessage 179 = .ok (.bipush 125, 2) := by decide +kernel
theorem dX11_readsMessage_181 : decode cX11_readsMessage 181 = .ok (.if_icmp .ne 43, 3) := by decide +kernel
theorem dX11_readsMessage_184 : decode cX11_readsMessage 184 = .ok (.iload_n 3, 1) := by decide +kernel
theorem dX11_readsMessage_185 : decode cX11_readsMessage 185 = .ok (.ifCond .eq 19, 3) := by decide +kernel
theorem dX11_readsMessage_188 : decode cX11_readsMessage 188 = .ok (.iload 4, 2) := by decide +kernel
theorem dX11_readsMessage_190 : decode cX11_readsMessage 190 = .ok (.bipush 124, 2) := by decide +kernel
theorem dX11_readsMessage_192 : decode cX11_readsMessage 192 = .ok (.if_icmp .ne 14, 3) := by decide +kernel
theorem dX11_readsMessage_195 : decode cX11_readsMessage 195 = .ok (.aload_n 0, 1) := by decide +kernel
theorem dX11_readsMessage_196 : decode cX11_readsMessage 196 = .ok (.iload_n 1, 1) := by decide +kernel
theorem dX11_readsMessage_197 : decode cX11_readsMessage 197 = .ok (.iload_n 3, 1) := by decide +kernel
theorem dX11_readsMessage_198 : decode cX11_readsMessage 198 = .ok (.invokevirtual 344, 3) := by decide +kernel
theorem dX11_readsMessage_201 : decode cX11_readsMessage 201 = .ok (.ifCond .ne 5, 3) := by decide +kernel
theorem dX11_readsMessage_204 : decode cX11_readsMessage 204 = .ok (.iconst 0, 1) := by decide +kernel
theorem dX11_readsMessage_205 : decode cX11_readsMessage 205 = .ok (.ireturn, 1) := by decide +kernel
theorem dX11_readsMessage_206 : decode cX11_readsMessage 206 = .ok (.iload_n 3, 1) := by decide +kernel
theorem dX11_readsMessage_207 : decode cX11_readsMessage 207 = .ok (.iload 4, 2) := by decide +kernel
theorem dX11_readsMessage_209 : decode cX11_readsMessage 209 = .ok (.bipush 125, 2) := by decide +kernel
theorem dX11_readsMessage_211 : decode cX11_readsMessage 211 = .ok (.if_icmp .ne 7, 3) := by decide +kernel
theorem dX11_readsMessage_214 : decode cX11_readsMessage 214 = .ok (.iconst 1, 1) := by decide +kernel
theorem dX11_readsMessage_215 : decode cX11_readsMessage 215 = .ok (.goto 4, 3) := by decide +kernel
theorem dX11_readsMessage_218 : decode cX11_readsMessage 218 = .ok (.iconst 0, 1) := by decide +kernel
theorem dX11_readsMessage_219 : decode cX11_readsMessage 219 = .ok (.isub, 1) := by decide +kernel
theorem dX11_readsMessage_220 : decode cX11_readsMessage 220 = .ok (.istore_n 3, 1) := by decide +kernel
theorem dX11_readsMessage_221 : decode cX11_readsMessage 221 = .ok (.goto 35, 3) := by decide +kernel
theorem dX11_readsMessage_224 : decode cX11_readsMessage 224 = .ok (.iload 4, 2) := by decide +kernel
theorem dX11_readsMessage_226 : decode cX11_readsMessage 226 = .ok (.bipush 32, 2) := by decide +kernel
theorem dX11_readsMessage_228 : decode cX11_readsMessage 228 = .ok (.bipush 126, 2) := by decide +kernel
theorem dX11_readsMessage_230 : decode cX11_readsMessage 230 = .ok (.invokestatic 111, 3) := by decide +kernel
theorem dX11_readsMessage_233 : decode cX11_readsMessage 233 = .ok (.ifCond .ne 5, 3) := by decide +kernel
theorem dX11_readsMessage_236 : decode cX11_readsMessage 236 = .ok (.iconst 0, 1) := by decide +kernel
theorem dX11_readsMessage_237 : decode cX11_readsMessage 237 = .ok (.ireturn, 1) := by decide +kernel
theorem dX11_readsMessage_238 : decode cX11_readsMessage 238 = .ok (.iload_n 2, 1) := by decide +kernel
theorem dX11_readsMessage_239 : decode cX11_readsMessage 239 = .ok (.ifCond .eq 17, 3) := by decide +kernel
theorem dX11_readsMessage_242 : decode cX11_readsMessage 242 = .ok (.aload_n 0, 1) := by decide +kernel
theorem dX11_readsMessage_243 : decode cX11_readsMessage 243 = .ok (.iload_n 3, 1) := by decide +kernel
theorem dX11_readsMessage_244 : decode cX11_readsMessage 244 = .ok (.invokevirtual 347, 3) := by decide +kernel
theorem dX11_readsMessage_247 : decode cX11_readsMessage 247 = .ok (.ifCond .eq 9, 3) := by decide +kernel
theorem dX11_readsMessage_250 : decode cX11_readsMessage 250 = .ok (.aload_n 0, 1) := by decide +kernel
theorem dX11_readsMessage_251 : decode cX11_readsMessage 251 = .ok (.iload 4, 2) := by decide +kernel
theorem dX11_readsMessage_253 : decode cX11_readsMessage 253 = .ok (.invokevirtual 341, 3) := by decide +kernel
theorem dX11_readsMessage_256 : decode cX11_readsMessage 256 = .ok (.goto (-249), 3) := by decide +kernel
theorem dX11_readsMessage_259 : decode cX11_readsMessage 259 = .ok (.iload_n 3, 1) := by decide +kernel
theorem dX11_readsMessage_260 : decode cX11_readsMessage 260 = .ok (.ifCond .ne 7, 3) := by decide +kernel
theorem dX11_readsMessage_263 : decode cX11_readsMessage 263 = .ok (.iconst 1, 1) := by decide +kernel
theorem dX11_readsMessage_264 : decode cX11_readsMessage 264 = .ok (.goto 4, 3) := by decide +kernel
theorem dX11_readsMessage_267 : decode cX11_readsMessage 267 = .ok (.iconst 0, 1) := by decide +kernel
theorem dX11_readsMessage_268 : decode cX11_readsMessage 268 = .ok (.ireturn, 1) := by decide +kernel
theorem dX11_message_0 : decode cX11_message 0 = .ok (.iload_n 2, 1) := by decide +kernel
theorem dX11_message_1 : decode cX11_message 1 = .ok (.iconst 0, 1) := by decide +kernel
theorem dX11_message_2 : decode cX11_message 2 = .ok (.ldc_w 334, 3) := by decide +kernel
theorem dX11_message_5 : decode cX11_message 5 = .ok (.invokestatic 111, 3) := by decide +kernel
theorem dX11_message_8 : decode cX11_message 8 = .ok (.ifCond .eq 42, 3) := by decide +kernel
theorem dX11_message_11 : decode cX11_message 11 = .ok (.iload_n 3, 1) := by decide +kernel
theorem dX11_message_12 : decode cX11_message 12 = .ok (.iconst 0, 1) := by decide +kernel
theorem dX11_message_13 : decode cX11_message 13 = .ok (.ldc_w 334, 3) := by decide +kernel
theorem dX11_message_16 : decode cX11_message 16 = .ok (.invokestatic 111, 3) := by decide +kernel
theorem dX11_message_19 : decode cX11_message 19 = .ok (.ifCond .eq 31, 3) := by decide +kernel
theorem dX11_message_22 : decode cX11_message 22 = .ok (.iload 4, 2) := by decide +kernel
theorem dX11_message_24 : decode cX11_message 24 = .ok (.iconst 0, 1) := by decide +kernel
theorem dX11_message_25 : decode cX11_message 25 = .ok (.ldc_w 334, 3) := by decide +kernel
theorem dX11_message_28 : decode cX11_message 28 = .ok (.invokestatic 111, 3) := by decide +kernel
theorem dX11_message_31 : decode cX11_message 31 = .ok (.ifCond .eq 19, 3) := by decide +kernel
theorem dX11_message_34 : decode cX11_message 34 = .ok (.iload 5, 2) := by decide +kernel
theorem dX11_message_36 : decode cX11_message 36 = .ok (.iconst 0, 1) := by decide +kernel
theorem dX11_message_37 : decode cX11_message 37 = .ok (.ldc_w 334, 3) := by decide +kernel
theorem dX11_message_40 : decode cX11_message 40 = .ok (.invokestatic 111, 3) := by decide +kernel
theorem dX11_message_43 : decode cX11_message 43 = .ok (.ifCond .eq 7, 3) := by decide +kernel
theorem dX11_message_46 : decode cX11_message 46 = .ok (.iconst 1, 1) := by decide +kernel
theorem dX11_message_47 : decode cX11_message 47 = .ok (.goto 4, 3) := by decide +kernel
theorem dX11_message_50 : decode cX11_message 50 = .ok (.iconst 0, 1) := by decide +kernel
theorem dX11_message_51 : decode cX11_message 51 = .ok (.istore 6, 2) := by decide +kernel
theorem dX11_message_53 : decode cX11_message 53 = .ok (.aload_n 0, 1) := by decide +kernel
theorem dX11_message_54 : decode cX11_message 54 = .ok (.iload_n 1, 1) := by decide +kernel
theorem dX11_message_55 : decode cX11_message 55 = .ok (.invokestatic 131, 3) := by decide +kernel
theorem dX11_message_58 : decode cX11_message 58 = .ok (.ifCond .ne 7, 3) := by decide +kernel
theorem dX11_message_61 : decode cX11_message 61 = .ok (.iconst 1, 1) := by decide +kernel
theorem dX11_message_62 : decode cX11_message 62 = .ok (.goto 13, 3) := by decide +kernel
theorem dX11_message_65 : decode cX11_message 65 = .ok (.iload 6, 2) := by decide +kernel
theorem dX11_message_67 : decode cX11_message 67 = .ok (.ifCond .eq 7, 3) := by decide +kernel
theorem dX11_message_70 : decode cX11_message 70 = .ok (.iconst 0, 1) := by decide +kernel
theorem dX11_message_71 : decode cX11_message 71 = .ok (.goto 4, 3) := by decide +kernel
theorem dX11_message_74 : decode cX11_message 74 = .ok (.iconst 2, 1) := by decide +kernel
theorem dX11_message_75 : decode cX11_message 75 = .ok (.invokevirtual 118, 3) := by decide +kernel
theorem dX11_message_78 : decode cX11_message 78 = .ok (.ifCond .ne 5, 3) := by decide +kernel
theorem dX11_message_81 : decode cX11_message 81 = .ok (.iconst 0, 1) := by decide +kernel
theorem dX11_message_82 : decode cX11_message 82 = .ok (.ireturn, 1) := by decide +kernel
theorem dX11_message_83 : decode cX11_message 83 = .ok (.aload_n 0, 1) := by decide +kernel
theorem dX11_message_84 : decode cX11_message 84 = .ok (.getfield 104, 3) := by decide +kernel
theorem dX11_message_87 : decode cX11_message 87 = .ok (.iconst 0, 1) := by decide +kernel
theorem dX11_message_88 : decode cX11_message 88 = .ok (.iload_n 2, 1) := by decide +kernel
theorem dX11_message_89 : decode cX11_message 89 = .ok (.iastore, 1) := by decide +kernel
theorem dX11_message_90 : decode cX11_message 90 = .ok (.aload_n 0, 1) := by decide +kernel
theorem dX11_message_91 : decode cX11_message 91 = .ok (.getfield 104, 3) := by decide +kernel
theorem dX11_message_94 : decode cX11_message 94 = .ok (.iconst 1, 1) := by decide +kernel
theorem dX11_message_95 : decode cX11_message 95 = .ok (.iload_n 3, 1) := by decide +kernel
theorem dX11_message_96 : decode cX11_message 96 = .ok (.iastore, 1) := by decide +kernel
theorem dX11_message_97 : decode cX11_message 97 = .ok (.aload_n 0, 1) := by decide +kernel
theorem dX11_message_98 : decode cX11_message 98 = .ok (.getfield 104, 3) := by decide +kernel
theorem dX11_message_101 : decode cX11_message 101 = .ok (.iconst 2, 1) := by decide +kernel
theorem dX11_message_102 : decode cX11_message 102 = .ok (.iload 4, 2) := by decide +kernel
theorem dX11_message_104 : decode cX11_message 104 = .ok (.iastore, 1) := by decide +kernel
theorem dX11_message_105 : decode cX11_message 105 = .ok (.aload_n 0, 1) := by decide +kernel
theorem dX11_message_106 : decode cX11_message 106 = .ok (.getfield 104, 3) := by decide +kernel
theorem dX11_message_109 : decode cX11_message 109 = .ok (.iconst 3, 1) := by decide +kernel
theorem dX11_message_110 : decode cX11_message 110 = .ok (.iload 5, 2) := by decide +kernel
theorem dX11_message_112 : decode cX11_message 112 = .ok (.iastore, 1) := by decide +kernel
theorem dX11_message_113 : decode cX11_message 113 = .ok (.aload_n 0, 1) := by decide +kernel
theorem dX11_message_114 : decode cX11_message 114 = .ok (.iload_n 1, 1) := by decide +kernel
theorem dX11_message_115 : decode cX11_message 115 = .ok (.iconst 0, 1) := by decide +kernel
theorem dX11_message_116 : decode cX11_message 116 = .ok (.invokevirtual 353, 3) := by decide +kernel
theorem dX11_message_119 : decode cX11_message 119 = .ok (.istore 7, 2) := by decide +kernel
theorem dX11_message_121 : decode cX11_message 121 = .ok (.iload 7, 2) := by decide +kernel
theorem dX11_message_123 : decode cX11_message 123 = .ok (.ifCond .eq 16, 3) := by decide +kernel
theorem dX11_message_126 : decode cX11_message 126 = .ok (.aload_n 0, 1) := by decide +kernel
theorem dX11_message_127 : decode cX11_message 127 = .ok (.iconst 0, 1) := by decide +kernel
theorem dX11_message_128 : decode cX11_message 128 = .ok (.putfield 338, 3) := by decide +kernel
theorem dX11_message_131 : decode cX11_message 131 = .ok (.aload_n 0, 1) := by decide +kernel
theorem dX11_message_132 : decode cX11_message 132 = .ok (.iload_n 1, 1) := by decide +kernel
theorem dX11_message_133 : decode cX11_message 133 = .ok (.iconst 1, 1) := by decide +kernel
theorem dX11_message_134 : decode cX11_message 134 = .ok (.invokevirtual 353, 3) := by decide +kernel
theorem dX11_message_137 : decode cX11_message 137 = .ok (.istore 7, 2) := by decide +kernel
theorem dX11_message_139 : decode cX11_message 139 = .ok (.aload_n 0, 1) := by decide +kernel
theorem dX11_message_140 : decode cX11_message 140 = .ok (.iconst 0, 1) := by decide +kernel
theorem dX11_message_141 : decode cX11_message 141 = .ok (.putfield 115, 3) := by decide +kernel
theorem dX11_message_144 : decode cX11_message 144 = .ok (.aload_n 0, 1) := by decide +kernel
theorem dX11_message_145 : decode cX11_message 145 = .ok (.iload 7, 2) := by decide +kernel
theorem dX11_message_147 : decode cX11_message 147 = .ok (.ifCond .eq 7, 3) := by decide +kernel
theorem dX11_message_150 : decode cX11_message 150 = .ok (.iconst 0, 1) := by decide +kernel
theorem dX11_message_151 : decode cX11_message 151 = .ok (.goto 4, 3) := by decide +kernel
theorem dX11_message_154 : decode cX11_message 154 = .ok (.iconst 3, 1) := by decide +kernel
theorem dX11_message_155 : decode cX11_message 155 = .ok (.invokevirtual 118, 3) := by decide +kernel
theorem dX11_message_158 : decode cX11_message 158 = .ok (.ifCond .eq 10, 3) := by decide +kernel
theorem dX11_message_161 : decode cX11_message 161 = .ok (.aload_n 0, 1) := by decide +kernel
theorem dX11_message_162 : decode cX11_message 162 = .ok (.getfield 338, 3) := by decide +kernel
theorem dX11_message_165 : decode cX11_message 165 = .ok (.goto 4, 3) := by decide +kernel
theorem dX11_message_168 : decode cX11_message 168 = .ok (.iconst 0, 1) := by decide +kernel
theorem dX11_message_169 : decode cX11_message 169 = .ok (.ireturn, 1) := by decide +kernel
theorem dX11_word_0 : decode cX11_word 0 = .ok (.aload_n 0, 1) := by decide +kernel
theorem dX11_word_1 : decode cX11_word 1 = .ok (.iconst 0, 1) := by decide +kernel
theorem dX11_word_2 : decode cX11_word 2 = .ok (.putfield 107, 3) := by decide +kernel
theorem dX11_word_5 : decode cX11_word 5 = .ok (.lconst 0, 1) := by decide +kernel
theorem dX11_word_6 : decode cX11_word 6 = .ok (.lstore_n 2, 1) := by decide +kernel
theorem dX11_word_7 : decode cX11_word 7 = .ok (.iconst 0, 1) := by decide +kernel
theorem dX11_word_8 : decode cX11_word 8 = .ok (.istore 4, 2) := by decide +kernel
theorem dX11_word_10 : decode cX11_word 10 = .ok (.iload 4, 2) := by decide +kernel
theorem dX11_word_12 : decode cX11_word 12 = .ok (.bipush 8, 2) := by decide +kernel
theorem dX11_word_14 : decode cX11_word 14 = .ok (.if_icmp .ge 58, 3) := by decide +kernel
theorem dX11_word_17 : decode cX11_word 17 = .ok (.iload_n 1, 1) := by decide +kernel
theorem dX11_word_18 : decode cX11_word 18 = .ok (.iconst 0, 1) := by decide +kernel
theorem dX11_word_19 : decode cX11_word 19 = .ok (.bipush 25, 2) := by decide +kernel
theorem dX11_word_21 : decode cX11_word 21 = .ok (.invokestatic 111, 3) := by decide +kernel
theorem dX11_word_24 : decode cX11_word 24 = .ok (.ifCond .eq 48, 3) := by decide +kernel
theorem dX11_word_27 : decode cX11_word 27 = .ok (.bipush 8, 2) := by decide +kernel
theorem dX11_word_29 : decode cX11_word 29 = .ok (.iload_n 1, 1) := by decide +kernel
theorem dX11_word_30 : decode cX11_word 30 = .ok (.imul, 1) := by decide +kernel
