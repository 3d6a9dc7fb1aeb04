theorem dL_cell_0 : decode cL_cell 0 = .ok (.iload_n 1, 1) := by decide +kernel
theorem dL_cell_1 : decode cL_cell 1 = .ok (.aload_n 0, 1) := by decide +kernel
theorem dL_cell_2 : decode cL_cell 2 = .ok (.arraylength, 1) := by decide +kernel
theorem dL_cell_3 : decode cL_cell 3 = .ok (.if_icmp .ge 9, 3) := by decide +kernel
theorem dL_cell_6 : decode cL_cell 6 = .ok (.aload_n 0, 1) := by decide +kernel
theorem dL_cell_7 : decode cL_cell 7 = .ok (.iload_n 1, 1) := by decide +kernel
theorem dL_cell_8 : decode cL_cell 8 = .ok (.iaload, 1) := by decide +kernel
theorem dL_cell_9 : decode cL_cell 9 = .ok (.goto 9, 3) := by decide +kernel
theorem dL_cell_12 : decode cL_cell 12 = .ok (.ldc 7, 2) := by decide +kernel
theorem dL_cell_14 : decode cL_cell 14 = .ok (.iload_n 1, 1) := by decide +kernel
theorem dL_cell_15 : decode cL_cell 15 = .ok (.iconst 3, 1) := by decide +kernel
theorem dL_cell_16 : decode cL_cell 16 = .ok (.iadd, 1) := by decide +kernel
theorem dL_cell_17 : decode cL_cell 17 = .ok (.imul, 1) := by decide +kernel
theorem dL_cell_18 : decode cL_cell 18 = .ok (.ireturn, 1) := by decide +kernel
theorem dL_low_0 : decode cL_low 0 = .ok (.iload_n 0, 1) := by decide +kernel
theorem dL_low_1 : decode cL_low 1 = .ok (.ldc 8, 2) := by decide +kernel
theorem dL_low_3 : decode cL_low 3 = .ok (.iand, 1) := by decide +kernel
theorem dL_low_4 : decode cL_low 4 = .ok (.iload_n 1, 1) := by decide +kernel
theorem dL_low_5 : decode cL_low 5 = .ok (.irem, 1) := by decide +kernel
theorem dL_low_6 : decode cL_low 6 = .ok (.ireturn, 1) := by decide +kernel
theorem dL_all_0 : decode cL_all 0 = .ok (.iconst 1, 1) := by decide +kernel
theorem dL_all_1 : decode cL_all 1 = .ok (.aload_n 0, 1) := by decide +kernel
theorem dL_all_2 : decode cL_all 2 = .ok (.iconst 0, 1) := by decide +kernel
theorem dL_all_3 : decode cL_all 3 = .ok (.iaload, 1) := by decide +kernel
theorem dL_all_4 : decode cL_all 4 = .ok (.ishl, 1) := by decide +kernel
theorem dL_all_5 : decode cL_all 5 = .ok (.iconst 1, 1) := by decide +kernel
theorem dL_all_6 : decode cL_all 6 = .ok (.isub, 1) := by decide +kernel
theorem dL_all_7 : decode cL_all 7 = .ok (.ireturn, 1) := by decide +kernel
theorem dL_ones_0 : decode cL_ones 0 = .ok (.iconst 0, 1) := by decide +kernel
theorem dL_ones_1 : decode cL_ones 1 = .ok (.istore_n 1, 1) := by decide +kernel
theorem dL_ones_2 : decode cL_ones 2 = .ok (.iload_n 0, 1) := by decide +kernel
theorem dL_ones_3 : decode cL_ones 3 = .ok (.istore_n 2, 1) := by decide +kernel
theorem dL_ones_4 : decode cL_ones 4 = .ok (.iload_n 2, 1) := by decide +kernel
theorem dL_ones_5 : decode cL_ones 5 = .ok (.ifCond .eq 15, 3) := by decide +kernel
theorem dL_ones_8 : decode cL_ones 8 = .ok (.iinc 1 1, 3) := by decide +kernel
theorem dL_ones_11 : decode cL_ones 11 = .ok (.iload_n 2, 1) := by decide +kernel
theorem dL_ones_12 : decode cL_ones 12 = .ok (.iload_n 2, 1) := by decide +kernel
theorem dL_ones_13 : decode cL_ones 13 = .ok (.iconst 1, 1) := by decide +kernel
theorem dL_ones_14 : decode cL_ones 14 = .ok (.isub, 1) := by decide +kernel
theorem dL_ones_15 : decode cL_ones 15 = .ok (.iand, 1) := by decide +kernel
theorem dL_ones_16 : decode cL_ones 16 = .ok (.istore_n 2, 1) := by decide +kernel
theorem dL_ones_17 : decode cL_ones 17 = .ok (.goto (-13), 3) := by decide +kernel
theorem dL_ones_20 : decode cL_ones 20 = .ok (.iload_n 1, 1) := by decide +kernel
theorem dL_ones_21 : decode cL_ones 21 = .ok (.ireturn, 1) := by decide +kernel
theorem dL_next_0 : decode cL_next 0 = .ok (.iconst 0, 1) := by decide +kernel
theorem dL_next_1 : decode cL_next 1 = .ok (.istore 5, 2) := by decide +kernel
theorem dL_next_3 : decode cL_next 3 = .ok (.iconst 0, 1) := by decide +kernel
theorem dL_next_4 : decode cL_next 4 = .ok (.istore 6, 2) := by decide +kernel
theorem dL_next_6 : decode cL_next 6 = .ok (.iload 6, 2) := by decide +kernel
theorem dL_next_8 : decode cL_next 8 = .ok (.aload_n 0, 1) := by decide +kernel
theorem dL_next_9 : decode cL_next 9 = .ok (.iconst 0, 1) := by decide +kernel
theorem dL_next_10 : decode cL_next 10 = .ok (.iaload, 1) := by decide +kernel
theorem dL_next_11 : decode cL_next 11 = .ok (.if_icmp .ge 80, 3) := by decide +kernel
theorem dL_next_14 : decode cL_next 14 = .ok (.aload 4, 2) := by decide +kernel
theorem dL_next_16 : decode cL_next 16 = .ok (.aload_n 2, 1) := by decide +kernel
theorem dL_next_17 : decode cL_next 17 = .ok (.iload 6, 2) := by decide +kernel
theorem dL_next_19 : decode cL_next 19 = .ok (.iaload, 1) := by decide +kernel
theorem dL_next_20 : decode cL_next 20 = .ok (.iaload, 1) := by decide +kernel
theorem dL_next_21 : decode cL_next 21 = .ok (.istore 7, 2) := by decide +kernel
theorem dL_next_23 : decode cL_next 23 = .ok (.aload_n 1, 1) := by decide +kernel
theorem dL_next_24 : decode cL_next 24 = .ok (.iload 6, 2) := by decide +kernel
theorem dL_next_26 : decode cL_next 26 = .ok (.iaload, 1) := by decide +kernel
theorem dL_next_27 : decode cL_next 27 = .ok (.ifCond .ne 21, 3) := by decide +kernel
theorem dL_next_30 : decode cL_next 30 = .ok (.aload_n 3, 1) := by decide +kernel
theorem dL_next_31 : decode cL_next 31 = .ok (.iload 6, 2) := by decide +kernel
theorem dL_next_33 : decode cL_next 33 = .ok (.iaload, 1) := by decide +kernel
theorem dL_next_34 : decode cL_next 34 = .ok (.iload 7, 2) := by decide +kernel
theorem dL_next_36 : decode cL_next 36 = .ok (.iand, 1) := by decide +kernel
theorem dL_next_37 : decode cL_next 37 = .ok (.ifCond .eq 7, 3) := by decide +kernel
theorem dL_next_40 : decode cL_next 40 = .ok (.iconst 1, 1) := by decide +kernel
theorem dL_next_41 : decode cL_next 41 = .ok (.goto 24, 3) := by decide +kernel
theorem dL_next_44 : decode cL_next 44 = .ok (.iconst 0, 1) := by decide +kernel
theorem dL_next_45 : decode cL_next 45 = .ok (.goto 20, 3) := by decide +kernel
theorem dL_next_48 : decode cL_next 48 = .ok (.aload_n 3, 1) := by decide +kernel
theorem dL_next_49 : decode cL_next 49 = .ok (.iload 6, 2) := by decide +kernel
theorem dL_next_51 : decode cL_next 51 = .ok (.iaload, 1) := by decide +kernel
theorem dL_next_52 : decode cL_next 52 = .ok (.iload 7, 2) := by decide +kernel
theorem dL_next_54 : decode cL_next 54 = .ok (.iconst (-1), 1) := by decide +kernel
theorem dL_next_55 : decode cL_next 55 = .ok (.ixor, 1) := by decide +kernel
theorem dL_next_56 : decode cL_next 56 = .ok (.iand, 1) := by decide +kernel
theorem dL_next_57 : decode cL_next 57 = .ok (.ifCond .ne 7, 3) := by decide +kernel
theorem dL_next_60 : decode cL_next 60 = .ok (.iconst 1, 1) := by decide +kernel
theorem dL_next_61 : decode cL_next 61 = .ok (.goto 4, 3) := by decide +kernel
theorem dL_next_64 : decode cL_next 64 = .ok (.iconst 0, 1) := by decide +kernel
theorem dL_next_65 : decode cL_next 65 = .ok (.istore 8, 2) := by decide +kernel
theorem dL_next_67 : decode cL_next 67 = .ok (.iload 5, 2) := by decide +kernel
theorem dL_next_69 : decode cL_next 69 = .ok (.iload 8, 2) := by decide +kernel
theorem dL_next_71 : decode cL_next 71 = .ok (.ifCond .eq 10, 3) := by decide +kernel
theorem dL_next_74 : decode cL_next 74 = .ok (.iconst 1, 1) := by decide +kernel
theorem dL_next_75 : decode cL_next 75 = .ok (.iload 6, 2) := by decide +kernel
theorem dL_next_77 : decode cL_next 77 = .ok (.ishl, 1) := by decide +kernel
theorem dL_next_78 : decode cL_next 78 = .ok (.goto 4, 3) := by decide +kernel
theorem dL_next_81 : decode cL_next 81 = .ok (.iconst 0, 1) := by decide +kernel
theorem dL_next_82 : decode cL_next 82 = .ok (.ior, 1) := by decide +kernel
theorem dL_next_83 : decode cL_next 83 = .ok (.istore 5, 2) := by decide +kernel
theorem dL_next_85 : decode cL_next 85 = .ok (.iinc 6 1, 3) := by decide +kernel
theorem dL_next_88 : decode cL_next 88 = .ok (.goto (-82), 3) := by decide +kernel
theorem dL_next_91 : decode cL_next 91 = .ok (.iload 5, 2) := by decide +kernel
theorem dL_next_93 : decode cL_next 93 = .ok (.ireturn, 1) := by decide +kernel
theorem dL_won_0 : decode cL_won 0 = .ok (.bipush 6, 2) := by decide +kernel
theorem dL_won_2 : decode cL_won 2 = .ok (.newarray .int, 2) := by decide +kernel
theorem dL_won_4 : decode cL_won 4 = .ok (.astore 4, 2) := by decide +kernel
theorem dL_won_6 : decode cL_won 6 = .ok (.iconst 0, 1) := by decide +kernel
theorem dL_won_7 : decode cL_won 7 = .ok (.istore 5, 2) := by decide +kernel
theorem dL_won_9 : decode cL_won 9 = .ok (.aload_n 0, 1) := by decide +kernel
theorem dL_won_10 : decode cL_won 10 = .ok (.invokestatic 9, 3) := by decide +kernel
theorem dL_won_13 : decode cL_won 13 = .ok (.istore 6, 2) := by decide +kernel
theorem dL_won_15 : decode cL_won 15 = .ok (.aload 4, 2) := by decide +kernel
theorem dL_won_17 : decode cL_won 17 = .ok (.iconst 5, 1) := by decide +kernel
theorem dL_won_18 : decode cL_won 18 = .ok (.iload 5, 2) := by decide +kernel
theorem dL_won_20 : decode cL_won 20 = .ok (.iastore, 1) := by decide +kernel
theorem dL_won_21 : decode cL_won 21 = .ok (.iconst 0, 1) := by decide +kernel
theorem dL_won_22 : decode cL_won 22 = .ok (.istore 7, 2) := by decide +kernel
theorem dL_won_24 : decode cL_won 24 = .ok (.iload 7, 2) := by decide +kernel
theorem dL_won_26 : decode cL_won 26 = .ok (.aload_n 0, 1) := by decide +kernel
theorem dL_won_27 : decode cL_won 27 = .ok (.iconst 0, 1) := by decide +kernel
theorem dL_won_28 : decode cL_won 28 = .ok (.iaload, 1) := by decide +kernel
theorem dL_won_29 : decode cL_won 29 = .ok (.if_icmp .gt 286, 3) := by decide +kernel
theorem dL_won_32 : decode cL_won 32 = .ok (.aload 4, 2) := by decide +kernel
theorem dL_won_34 : decode cL_won 34 = .ok (.iconst 4, 1) := by decide +kernel
theorem dL_won_35 : decode cL_won 35 = .ok (.iload 6, 2) := by decide +kernel
theorem dL_won_37 : decode cL_won 37 = .ok (.iastore, 1) := by decide +kernel
theorem dL_won_38 : decode cL_won 38 = .ok (.iconst 0, 1) := by decide +kernel
theorem dL_won_39 : decode cL_won 39 = .ok (.istore 8, 2) := by decide +kernel
theorem dL_won_41 : decode cL_won 41 = .ok (.iload 8, 2) := by decide +kernel
theorem dL_won_43 : decode cL_won 43 = .ok (.aload_n 0, 1) := by decide +kernel
theorem dL_won_44 : decode cL_won 44 = .ok (.iconst 0, 1) := by decide +kernel
theorem dL_won_45 : decode cL_won 45 = .ok (.iaload, 1) := by decide +kernel
theorem dL_won_46 : decode cL_won 46 = .ok (.if_icmp .gt 234, 3) := by decide +kernel
theorem dL_won_49 : decode cL_won 49 = .ok (.aload 4, 2) := by decide +kernel
theorem dL_won_51 : decode cL_won 51 = .ok (.iconst 3, 1) := by decide +kernel
theorem dL_won_52 : decode cL_won 52 = .ok (.iload 5, 2) := by decide +kernel
theorem dL_won_54 : decode cL_won 54 = .ok (.iastore, 1) := by decide +kernel
theorem dL_won_55 : decode cL_won 55 = .ok (.iconst 0, 1) := by decide +kernel
theorem dL_won_56 : decode cL_won 56 = .ok (.istore 9, 2) := by decide +kernel
theorem dL_won_58 : decode cL_won 58 = .ok (.iload 9, 2) := by decide +kernel
theorem dL_won_60 : decode cL_won 60 = .ok (.aload_n 0, 1) := by decide +kernel
theorem dL_won_61 : decode cL_won 61 = .ok (.iconst 0, 1) := by decide +kernel
theorem dL_won_62 : decode cL_won 62 = .ok (.iaload, 1) := by decide +kernel
theorem dL_won_63 : decode cL_won 63 = .ok (.if_icmp .gt 182, 3) := by decide +kernel
theorem dL_won_66 : decode cL_won 66 = .ok (.aload 4, 2) := by decide +kernel
theorem dL_won_68 : decode cL_won 68 = .ok (.iconst 2, 1) := by decide +kernel
theorem dL_won_69 : decode cL_won 69 = .ok (.iload 6, 2) := by decide +kernel
theorem dL_won_71 : decode cL_won 71 = .ok (.iastore, 1) := by decide +kernel
theorem dL_won_72 : decode cL_won 72 = .ok (.iconst 0, 1) := by decide +kernel
theorem dL_won_73 : decode cL_won 73 = .ok (.istore 10, 2) := by decide +kernel
theorem dL_won_75 : decode cL_won 75 = .ok (.iload 10, 2) := by decide +kernel
theorem dL_won_77 : decode cL_won 77 = .ok (.aload_n 0, 1) := by decide +kernel
theorem dL_won_78 : decode cL_won 78 = .ok (.iconst 0, 1) := by decide +kernel
theorem dL_won_79 : decode cL_won 79 = .ok (.iaload, 1) := by decide +kernel
theorem dL_won_80 : decode cL_won 80 = .ok (.if_icmp .gt 130, 3) := by decide +kernel
theorem dL_won_83 : decode cL_won 83 = .ok (.aload 4, 2) := by decide +kernel
theorem dL_won_85 : decode cL_won 85 = .ok (.iconst 1, 1) := by decide +kernel
theorem dL_won_86 : decode cL_won 86 = .ok (.iload 5, 2) := by decide +kernel
theorem dL_won_88 : decode cL_won 88 = .ok (.iastore, 1) := by decide +kernel
theorem dL_won_89 : decode cL_won 89 = .ok (.iconst 0, 1) := by decide +kernel
theorem dL_won_90 : decode cL_won 90 = .ok (.istore 11, 2) := by decide +kernel
theorem dL_won_92 : decode cL_won 92 = .ok (.iload 11, 2) := by decide +kernel
theorem dL_won_94 : decode cL_won 94 = .ok (.aload_n 0, 1) := by decide +kernel
theorem dL_won_95 : decode cL_won 95 = .ok (.iconst 0, 1) := by decide +kernel
theorem dL_won_96 : decode cL_won 96 = .ok (.iaload, 1) := by decide +kernel
theorem dL_won_97 : decode cL_won 97 = .ok (.if_icmp .gt 78, 3) := by decide +kernel
theorem dL_won_100 : decode cL_won 100 = .ok (.aload 4, 2) := by decide +kernel
theorem dL_won_102 : decode cL_won 102 = .ok (.iconst 0, 1) := by decide +kernel
theorem dL_won_103 : decode cL_won 103 = .ok (.iload 6, 2) := by decide +kernel
theorem dL_won_105 : decode cL_won 105 = .ok (.iastore, 1) := by decide +kernel
theorem dL_won_106 : decode cL_won 106 = .ok (.iconst (-1), 1) := by decide +kernel
theorem dL_won_107 : decode cL_won 107 = .ok (.istore 12, 2) := by decide +kernel
theorem dL_won_109 : decode cL_won 109 = .ok (.iload 12, 2) := by decide +kernel
theorem dL_won_111 : decode cL_won 111 = .ok (.aload 4, 2) := by decide +kernel
theorem dL_won_113 : decode cL_won 113 = .ok (.iconst 0, 1) := by decide +kernel
theorem dL_won_114 : decode cL_won 114 = .ok (.iaload, 1) := by decide +kernel
theorem dL_won_115 : decode cL_won 115 = .ok (.if_icmp .eq 25, 3) := by decide +kernel
theorem dL_won_118 : decode cL_won 118 = .ok (.aload 4, 2) := by decide +kernel
theorem dL_won_120 : decode cL_won 120 = .ok (.iconst 0, 1) := by decide +kernel
theorem dL_won_121 : decode cL_won 121 = .ok (.iaload, 1) := by decide +kernel
theorem dL_won_122 : decode cL_won 122 = .ok (.istore 12, 2) := by decide +kernel
theorem dL_won_124 : decode cL_won 124 = .ok (.aload 4, 2) := by decide +kernel
theorem dL_won_126 : decode cL_won 126 = .ok (.iconst 0, 1) := by decide +kernel
theorem dL_won_127 : decode cL_won 127 = .ok (.aload_n 0, 1) := by decide +kernel
theorem dL_won_128 : decode cL_won 128 = .ok (.aload_n 1, 1) := by decide +kernel
theorem dL_won_129 : decode cL_won 129 = .ok (.aload_n 2, 1) := by decide +kernel
theorem dL_won_130 : decode cL_won 130 = .ok (.aload_n 3, 1) := by decide +kernel
theorem dL_won_131 : decode cL_won 131 = .ok (.aload 4, 2) := by decide +kernel
theorem dL_won_133 : decode cL_won 133 = .ok (.invokestatic 15, 3) := by decide +kernel
theorem dL_won_136 : decode cL_won 136 = .ok (.iastore, 1) := by decide +kernel
theorem dL_won_137 : decode cL_won 137 = .ok (.goto (-28), 3) := by decide +kernel
theorem dL_won_140 : decode cL_won 140 = .ok (.aload 4, 2) := by decide +kernel
theorem dL_won_142 : decode cL_won 142 = .ok (.iconst 1, 1) := by decide +kernel
theorem dL_won_143 : decode cL_won 143 = .ok (.iaload, 1) := by decide +kernel
theorem dL_won_144 : decode cL_won 144 = .ok (.aload 4, 2) := by decide +kernel
theorem dL_won_146 : decode cL_won 146 = .ok (.iconst 0, 1) := by decide +kernel
theorem dL_won_147 : decode cL_won 147 = .ok (.iaload, 1) := by decide +kernel
theorem dL_won_148 : decode cL_won 148 = .ok (.if_icmp .ne 9, 3) := by decide +kernel
theorem dL_won_151 : decode cL_won 151 = .ok (.aload_n 0, 1) := by decide +kernel
theorem dL_won_152 : decode cL_won 152 = .ok (.iconst 0, 1) := by decide +kernel
theorem dL_won_153 : decode cL_won 153 = .ok (.iaload, 1) := by decide +kernel
theorem dL_won_154 : decode cL_won 154 = .ok (.goto 5, 3) := by decide +kernel
theorem dL_won_157 : decode cL_won 157 = .ok (.iload 11, 2) := by decide +kernel
theorem dL_won_159 : decode cL_won 159 = .ok (.istore 11, 2) := by decide +kernel
theorem dL_won_161 : decode cL_won 161 = .ok (.aload 4, 2) := by decide +kernel
theorem dL_won_163 : decode cL_won 163 = .ok (.iconst 1, 1) := by decide +kernel
theorem dL_won_164 : decode cL_won 164 = .ok (.aload 4, 2) := by decide +kernel
theorem dL_won_166 : decode cL_won 166 = .ok (.iconst 0, 1) := by decide +kernel
theorem dL_won_167 : decode cL_won 167 = .ok (.iaload, 1) := by decide +kernel
theorem dL_won_168 : decode cL_won 168 = .ok (.iastore, 1) := by decide +kernel
theorem dL_won_169 : decode cL_won 169 = .ok (.iinc 11 1, 3) := by decide +kernel
theorem dL_won_172 : decode cL_won 172 = .ok (.goto (-80), 3) := by decide +kernel
theorem dL_won_175 : decode cL_won 175 = .ok (.aload 4, 2) := by decide +kernel
theorem dL_won_177 : decode cL_won 177 = .ok (.iconst 2, 1) := by decide +kernel
theorem dL_won_178 : decode cL_won 178 = .ok (.iaload, 1) := by decide +kernel
theorem dL_won_179 : decode cL_won 179 = .ok (.aload 4, 2) := by decide +kernel
theorem dL_won_181 : decode cL_won 181 = .ok (.iconst 1, 1) := by decide +kernel
theorem dL_won_182 : decode cL_won 182 = .ok (.iaload, 1) := by decide +kernel
theorem dL_won_183 : decode cL_won 183 = .ok (.if_icmp .ne 9, 3) := by decide +kernel
theorem dL_won_186 : decode cL_won 186 = .ok (.aload_n 0, 1) := by decide +kernel
theorem dL_won_187 : decode cL_won 187 = .ok (.iconst 0, 1) := by decide +kernel
theorem dL_won_188 : decode cL_won 188 = .ok (.iaload, 1) := by decide +kernel
theorem dL_won_189 : decode cL_won 189 = .ok (.goto 5, 3) := by decide +kernel
theorem dL_won_192 : decode cL_won 192 = .ok (.iload 10, 2) := by decide +kernel
theorem dL_won_194 : decode cL_won 194 = .ok (.istore 10, 2) := by decide +kernel
theorem dL_won_196 : decode cL_won 196 = .ok (.aload 4, 2) := by decide +kernel
theorem dL_won_198 : decode cL_won 198 = .ok (.iconst 2, 1) := by decide +kernel
theorem dL_won_199 : decode cL_won 199 = .ok (.aload 4, 2) := by decide +kernel
theorem dL_won_201 : decode cL_won 201 = .ok (.iconst 1, 1) := by decide +kernel
theorem dL_won_202 : decode cL_won 202 = .ok (.iaload, 1) := by decide +kernel
theorem dL_won_203 : decode cL_won 203 = .ok (.iastore, 1) := by decide +kernel
theorem dL_won_204 : decode cL_won 204 = .ok (.iinc 10 1, 3) := by decide +kernel
theorem dL_won_207 : decode cL_won 207 = .ok (.goto (-132), 3) := by decide +kernel
theorem dL_won_210 : decode cL_won 210 = .ok (.aload 4, 2) := by decide +kernel
theorem dL_won_212 : decode cL_won 212 = .ok (.iconst 3, 1) := by decide +kernel
theorem dL_won_213 : decode cL_won 213 = .ok (.iaload, 1) := by decide +kernel
theorem dL_won_214 : decode cL_won 214 = .ok (.aload 4, 2) := by decide +kernel
theorem dL_won_216 : decode cL_won 216 = .ok (.iconst 2, 1) := by decide +kernel
theorem dL_won_217 : decode cL_won 217 = .ok (.iaload, 1) := by decide +kernel
theorem dL_won_218 : decode cL_won 218 = .ok (.if_icmp .ne 9, 3) := by decide +kernel
theorem dL_won_221 : decode cL_won 221 = .ok (.aload_n 0, 1) := by decide +kernel
theorem dL_won_222 : decode cL_won 222 = .ok (.iconst 0, 1) := by decide +kernel
theorem dL_won_223 : decode cL_won 223 = .ok (.iaload, 1) := by decide +kernel
theorem dL_won_224 : decode cL_won 224 = .ok (.goto 5, 3) := by decide +kernel
theorem dL_won_227 : decode cL_won 227 = .ok (.iload 9, 2) := by decide +kernel
theorem dL_won_229 : decode cL_won 229 = .ok (.istore 9, 2) := by decide +kernel
theorem dL_won_231 : decode cL_won 231 = .ok (.aload 4, 2) := by decide +kernel
theorem dL_won_233 : decode cL_won 233 = .ok (.iconst 3, 1) := by decide +kernel
theorem dL_won_234 : decode cL_won 234 = .ok (.aload 4, 2) := by decide +kernel
theorem dL_won_236 : decode cL_won 236 = .ok (.iconst 2, 1) := by decide +kernel
theorem dL_won_237 : decode cL_won 237 = .ok (.iaload, 1) := by decide +kernel
theorem dL_won_238 : decode cL_won 238 = .ok (.iastore, 1) := by decide +kernel
theorem dL_won_239 : decode cL_won 239 = .ok (.iinc 9 1, 3) := by decide +kernel
theorem dL_won_242 : decode cL_won 242 = .ok (.goto (-184), 3) := by decide +kernel
theorem dL_won_245 : decode cL_won 245 = .ok (.aload 4, 2) := by decide +kernel
theorem dL_won_247 : decode cL_won 247 = .ok (.iconst 4, 1) := by decide +kernel
theorem dL_won_248 : decode cL_won 248 = .ok (.iaload, 1) := by decide +kernel
theorem dL_won_249 : decode cL_won 249 = .ok (.aload 4, 2) := by decide +kernel
theorem dL_won_251 : decode cL_won 251 = .ok (.iconst 3, 1) := by decide +kernel
theorem dL_won_252 : decode cL_won 252 = .ok (.iaload, 1) := by decide +kernel
theorem dL_won_253 : decode cL_won 253 = .ok (.if_icmp .ne 9, 3) := by decide +kernel
theorem dL_won_256 : decode cL_won 256 = .ok (.aload_n 0, 1) := by decide +kernel
theorem dL_won_257 : decode cL_won 257 = .ok (.iconst 0, 1) := by decide +kernel
theorem dL_won_258 : decode cL_won 258 = .ok (.iaload, 1) := by decide +kernel
theorem dL_won_259 : decode cL_won 259 = .ok (.goto 5, 3) := by decide +kernel
theorem dL_won_262 : decode cL_won 262 = .ok (.iload 8, 2) := by decide +kernel
theorem dL_won_264 : decode cL_won 264 = .ok (.istore 8, 2) := by decide +kernel
theorem dL_won_266 : decode cL_won 266 = .ok (.aload 4, 2) := by decide +kernel
theorem dL_won_268 : decode cL_won 268 = .ok (.iconst 4, 1) := by decide +kernel
theorem dL_won_269 : decode cL_won 269 = .ok (.aload 4, 2) := by decide +kernel
theorem dL_won_271 : decode cL_won 271 = .ok (.iconst 3, 1) := by decide +kernel
theorem dL_won_272 : decode cL_won 272 = .ok (.iaload, 1) := by decide +kernel
theorem dL_won_273 : decode cL_won 273 = .ok (.iastore, 1) := by decide +kernel
theorem dL_won_274 : decode cL_won 274 = .ok (.iinc 8 1, 3) := by decide +kernel
theorem dL_won_277 : decode cL_won 277 = .ok (.goto (-236), 3) := by decide +kernel
theorem dL_won_280 : decode cL_won 280 = .ok (.aload 4, 2) := by decide +kernel
theorem dL_won_282 : decode cL_won 282 = .ok (.iconst 5, 1) := by decide +kernel
theorem dL_won_283 : decode cL_won 283 = .ok (.iaload, 1) := by decide +kernel
theorem dL_won_284 : decode cL_won 284 = .ok (.aload 4, 2) := by decide +kernel
theorem dL_won_286 : decode cL_won 286 = .ok (.iconst 4, 1) := by decide +kernel
theorem dL_won_287 : decode cL_won 287 = .ok (.iaload, 1) := by decide +kernel
theorem dL_won_288 : decode cL_won 288 = .ok (.if_icmp .ne 9, 3) := by decide +kernel
theorem dL_won_291 : decode cL_won 291 = .ok (.aload_n 0, 1) := by decide +kernel
theorem dL_won_292 : decode cL_won 292 = .ok (.iconst 0, 1) := by decide +kernel
theorem dL_won_293 : decode cL_won 293 = .ok (.iaload, 1) := by decide +kernel
theorem dL_won_294 : decode cL_won 294 = .ok (.goto 5, 3) := by decide +kernel
theorem dL_won_297 : decode cL_won 297 = .ok (.iload 7, 2) := by decide +kernel
theorem dL_won_299 : decode cL_won 299 = .ok (.istore 7, 2) := by decide +kernel
theorem dL_won_301 : decode cL_won 301 = .ok (.aload 4, 2) := by decide +kernel
theorem dL_won_303 : decode cL_won 303 = .ok (.iconst 5, 1) := by decide +kernel
theorem dL_won_304 : decode cL_won 304 = .ok (.aload 4, 2) := by decide +kernel
theorem dL_won_306 : decode cL_won 306 = .ok (.iconst 4, 1) := by decide +kernel
theorem dL_won_307 : decode cL_won 307 = .ok (.iaload, 1) := by decide +kernel
theorem dL_won_308 : decode cL_won 308 = .ok (.iastore, 1) := by decide +kernel
theorem dL_won_309 : decode cL_won 309 = .ok (.iinc 7 1, 3) := by decide +kernel
theorem dL_won_312 : decode cL_won 312 = .ok (.goto (-288), 3) := by decide +kernel
theorem dL_won_315 : decode cL_won 315 = .ok (.aload 4, 2) := by decide +kernel
theorem dL_won_317 : decode cL_won 317 = .ok (.iconst 5, 1) := by decide +kernel
theorem dL_won_318 : decode cL_won 318 = .ok (.iaload, 1) := by decide +kernel
theorem dL_won_319 : decode cL_won 319 = .ok (.ireturn, 1) := by decide +kernel
theorem dL_acts_0 : decode cL_acts 0 = .ok (.iload 5, 2) := by decide +kernel
theorem dL_acts_2 : decode cL_acts 2 = .ok (.iconst 5, 1) := by decide +kernel
theorem dL_acts_3 : decode cL_acts 3 = .ok (.ishr, 1) := by decide +kernel
theorem dL_acts_4 : decode cL_acts 4 = .ok (.ldc 19, 2) := by decide +kernel
theorem dL_acts_6 : decode cL_acts 6 = .ok (.invokestatic 20, 3) := by decide +kernel
theorem dL_acts_9 : decode cL_acts 9 = .ok (.istore 6, 2) := by decide +kernel
theorem dL_acts_11 : decode cL_acts 11 = .ok (.iload 5, 2) := by decide +kernel
theorem dL_acts_13 : decode cL_acts 13 = .ok (.bipush 20, 2) := by decide +kernel
theorem dL_acts_15 : decode cL_acts 15 = .ok (.invokestatic 20, 3) := by decide +kernel
theorem dL_acts_18 : decode cL_acts 18 = .ok (.istore 7, 2) := by decide +kernel
theorem dL_acts_20 : decode cL_acts 20 = .ok (.iload 7, 2) := by decide +kernel
theorem dL_acts_22 : decode cL_acts 22 = .ok (.iconst 4, 1) := by decide +kernel
theorem dL_acts_23 : decode cL_acts 23 = .ok (.if_icmp .lt 9, 3) := by decide +kernel
theorem dL_acts_26 : decode cL_acts 26 = .ok (.aload_n 1, 1) := by decide +kernel
theorem dL_acts_27 : decode cL_acts 27 = .ok (.iconst 0, 1) := by decide +kernel
theorem dL_acts_28 : decode cL_acts 28 = .ok (.iaload, 1) := by decide +kernel
theorem dL_acts_29 : decode cL_acts 29 = .ok (.ifCond .ne 71, 3) := by decide +kernel
theorem dL_acts_32 : decode cL_acts 32 = .ok (.aload_n 1, 1) := by decide +kernel
theorem dL_acts_33 : decode cL_acts 33 = .ok (.iconst 0, 1) := by decide +kernel
theorem dL_acts_34 : decode cL_acts 34 = .ok (.iaload, 1) := by decide +kernel
theorem dL_acts_35 : decode cL_acts 35 = .ok (.bipush 8, 2) := by decide +kernel
theorem dL_acts_37 : decode cL_acts 37 = .ok (.if_icmp .ge 63, 3) := by decide +kernel
theorem dL_acts_40 : decode cL_acts 40 = .ok (.aload_n 1, 1) := by decide +kernel
theorem dL_acts_41 : decode cL_acts 41 = .ok (.iconst 0, 1) := by decide +kernel
theorem dL_acts_42 : decode cL_acts 42 = .ok (.iaload, 1) := by decide +kernel
theorem dL_acts_43 : decode cL_acts 43 = .ok (.istore 8, 2) := by decide +kernel
theorem dL_acts_45 : decode cL_acts 45 = .ok (.aload_n 2, 1) := by decide +kernel
theorem dL_acts_46 : decode cL_acts 46 = .ok (.iload 8, 2) := by decide +kernel
theorem dL_acts_48 : decode cL_acts 48 = .ok (.iload 6, 2) := by decide +kernel
theorem dL_acts_50 : decode cL_acts 50 = .ok (.iconst 2, 1) := by decide +kernel
theorem dL_acts_51 : decode cL_acts 51 = .ok (.irem, 1) := by decide +kernel
theorem dL_acts_52 : decode cL_acts 52 = .ok (.iastore, 1) := by decide +kernel
theorem dL_acts_53 : decode cL_acts 53 = .ok (.aload_n 3, 1) := by decide +kernel
theorem dL_acts_54 : decode cL_acts 54 = .ok (.iload 8, 2) := by decide +kernel
theorem dL_acts_56 : decode cL_acts 56 = .ok (.iload 6, 2) := by decide +kernel
theorem dL_acts_58 : decode cL_acts 58 = .ok (.iconst 2, 1) := by decide +kernel
theorem dL_acts_59 : decode cL_acts 59 = .ok (.idiv, 1) := by decide +kernel
theorem dL_acts_60 : decode cL_acts 60 = .ok (.bipush 6, 2) := by decide +kernel
theorem dL_acts_62 : decode cL_acts 62 = .ok (.irem, 1) := by decide +kernel
theorem dL_acts_63 : decode cL_acts 63 = .ok (.iastore, 1) := by decide +kernel
theorem dL_acts_64 : decode cL_acts 64 = .ok (.aload 4, 2) := by decide +kernel
theorem dL_acts_66 : decode cL_acts 66 = .ok (.iload 8, 2) := by decide +kernel
theorem dL_acts_68 : decode cL_acts 68 = .ok (.iconst 0, 1) := by decide +kernel
theorem dL_acts_69 : decode cL_acts 69 = .ok (.iastore, 1) := by decide +kernel
theorem dL_acts_70 : decode cL_acts 70 = .ok (.aload_n 1, 1) := by decide +kernel
theorem dL_acts_71 : decode cL_acts 71 = .ok (.iconst 0, 1) := by decide +kernel
theorem dL_acts_72 : decode cL_acts 72 = .ok (.dup2, 1) := by decide +kernel
theorem dL_acts_73 : decode cL_acts 73 = .ok (.iaload, 1) := by decide +kernel
theorem dL_acts_74 : decode cL_acts 74 = .ok (.iconst 1, 1) := by decide +kernel
theorem dL_acts_75 : decode cL_acts 75 = .ok (.iadd, 1) := by decide +kernel
theorem dL_acts_76 : decode cL_acts 76 = .ok (.iastore, 1) := by decide +kernel
theorem dL_acts_77 : decode cL_acts 77 = .ok (.aload_n 0, 1) := by decide +kernel
theorem dL_acts_78 : decode cL_acts 78 = .ok (.aload_n 2, 1) := by decide +kernel
theorem dL_acts_79 : decode cL_acts 79 = .ok (.iload 8, 2) := by decide +kernel
theorem dL_acts_81 : decode cL_acts 81 = .ok (.iaload, 1) := by decide +kernel
theorem dL_acts_82 : decode cL_acts 82 = .ok (.aload_n 3, 1) := by decide +kernel
theorem dL_acts_83 : decode cL_acts 83 = .ok (.iload 8, 2) := by decide +kernel
theorem dL_acts_85 : decode cL_acts 85 = .ok (.iaload, 1) := by decide +kernel
theorem dL_acts_86 : decode cL_acts 86 = .ok (.invokevirtual 24, 3) := by decide +kernel
theorem dL_acts_89 : decode cL_acts 89 = .ok (.iload 8, 2) := by decide +kernel
theorem dL_acts_91 : decode cL_acts 91 = .ok (.if_icmp .ne 7, 3) := by decide +kernel
theorem dL_acts_94 : decode cL_acts 94 = .ok (.iconst 1, 1) := by decide +kernel
theorem dL_acts_95 : decode cL_acts 95 = .ok (.goto 4, 3) := by decide +kernel
theorem dL_acts_98 : decode cL_acts 98 = .ok (.iconst 0, 1) := by decide +kernel
theorem dL_acts_99 : decode cL_acts 99 = .ok (.ireturn, 1) := by decide +kernel
theorem dL_acts_100 : decode cL_acts 100 = .ok (.iload 6, 2) := by decide +kernel
theorem dL_acts_102 : decode cL_acts 102 = .ok (.aload_n 1, 1) := by decide +kernel
theorem dL_acts_103 : decode cL_acts 103 = .ok (.iconst 0, 1) := by decide +kernel
theorem dL_acts_104 : decode cL_acts 104 = .ok (.iaload, 1) := by decide +kernel
theorem dL_acts_105 : decode cL_acts 105 = .ok (.irem, 1) := by decide +kernel
theorem dL_acts_106 : decode cL_acts 106 = .ok (.istore 8, 2) := by decide +kernel
theorem dL_acts_108 : decode cL_acts 108 = .ok (.iload 6, 2) := by decide +kernel
theorem dL_acts_110 : decode cL_acts 110 = .ok (.bipush 12, 2) := by decide +kernel
theorem dL_acts_112 : decode cL_acts 112 = .ok (.idiv, 1) := by decide +kernel
theorem dL_acts_113 : decode cL_acts 113 = .ok (.aload_n 1, 1) := by decide +kernel
theorem dL_acts_114 : decode cL_acts 114 = .ok (.iconst 0, 1) := by decide +kernel
theorem dL_acts_115 : decode cL_acts 115 = .ok (.iaload, 1) := by decide +kernel
theorem dL_acts_116 : decode cL_acts 116 = .ok (.irem, 1) := by decide +kernel
theorem dL_acts_117 : decode cL_acts 117 = .ok (.istore 9, 2) := by decide +kernel
theorem dL_acts_119 : decode cL_acts 119 = .ok (.iload 7, 2) := by decide +kernel
theorem dL_acts_121 : decode cL_acts 121 = .ok (.bipush 13, 2) := by decide +kernel
theorem dL_acts_123 : decode cL_acts 123 = .ok (.if_icmp .ge 89, 3) := by decide +kernel
theorem dL_acts_126 : decode cL_acts 126 = .ok (.aload 4, 2) := by decide +kernel
theorem dL_acts_128 : decode cL_acts 128 = .ok (.iload 8, 2) := by decide +kernel
theorem dL_acts_130 : decode cL_acts 130 = .ok (.iaload, 1) := by decide +kernel
theorem dL_acts_131 : decode cL_acts 131 = .ok (.iload 9, 2) := by decide +kernel
theorem dL_acts_133 : decode cL_acts 133 = .ok (.ishr, 1) := by decide +kernel
theorem dL_acts_134 : decode cL_acts 134 = .ok (.iconst 1, 1) := by decide +kernel
theorem dL_acts_135 : decode cL_acts 135 = .ok (.iand, 1) := by decide +kernel
theorem dL_acts_136 : decode cL_acts 136 = .ok (.istore 10, 2) := by decide +kernel
theorem dL_acts_138 : decode cL_acts 138 = .ok (.iload 10, 2) := by decide +kernel
theorem dL_acts_140 : decode cL_acts 140 = .ok (.iconst 1, 1) := by decide +kernel
theorem dL_acts_141 : decode cL_acts 141 = .ok (.if_icmp .ne 30, 3) := by decide +kernel
theorem dL_acts_144 : decode cL_acts 144 = .ok (.iload 6, 2) := by decide +kernel
theorem dL_acts_146 : decode cL_acts 146 = .ok (.iconst 5, 1) := by decide +kernel
theorem dL_acts_147 : decode cL_acts 147 = .ok (.irem, 1) := by decide +kernel
theorem dL_acts_148 : decode cL_acts 148 = .ok (.ifCond .le 23, 3) := by decide +kernel
theorem dL_acts_151 : decode cL_acts 151 = .ok (.aload_n 0, 1) := by decide +kernel
theorem dL_acts_152 : decode cL_acts 152 = .ok (.iload 8, 2) := by decide +kernel
theorem dL_acts_154 : decode cL_acts 154 = .ok (.iload 9, 2) := by decide +kernel
theorem dL_acts_156 : decode cL_acts 156 = .ok (.iconst 1, 1) := by decide +kernel
theorem dL_acts_157 : decode cL_acts 157 = .ok (.invokevirtual 29, 3) := by decide +kernel
theorem dL_acts_160 : decode cL_acts 160 = .ok (.bipush (-2), 2) := by decide +kernel
theorem dL_acts_162 : decode cL_acts 162 = .ok (.if_icmp .ne 7, 3) := by decide +kernel
theorem dL_acts_165 : decode cL_acts 165 = .ok (.iconst 1, 1) := by decide +kernel
theorem dL_acts_166 : decode cL_acts 166 = .ok (.goto 4, 3) := by decide +kernel
theorem dL_acts_169 : decode cL_acts 169 = .ok (.iconst 0, 1) := by decide +kernel
theorem dL_acts_170 : decode cL_acts 170 = .ok (.ireturn, 1) := by decide +kernel
theorem dL_acts_171 : decode cL_acts 171 = .ok (.aload 4, 2) := by decide +kernel
theorem dL_acts_173 : decode cL_acts 173 = .ok (.iload 8, 2) := by decide +kernel
theorem dL_acts_175 : decode cL_acts 175 = .ok (.dup2, 1) := by decide +kernel
theorem dL_acts_176 : decode cL_acts 176 = .ok (.iaload, 1) := by decide +kernel
theorem dL_acts_177 : decode cL_acts 177 = .ok (.iconst 1, 1) := by decide +kernel
theorem dL_acts_178 : decode cL_acts 178 = .ok (.iload 9, 2) := by decide +kernel
theorem dL_acts_180 : decode cL_acts 180 = .ok (.ishl, 1) := by decide +kernel
theorem dL_acts_181 : decode cL_acts 181 = .ok (.ixor, 1) := by decide +kernel
theorem dL_acts_182 : decode cL_acts 182 = .ok (.iastore, 1) := by decide +kernel
theorem dL_acts_183 : decode cL_acts 183 = .ok (.aload_n 0, 1) := by decide +kernel
theorem dL_acts_184 : decode cL_acts 184 = .ok (.iload 8, 2) := by decide +kernel
theorem dL_acts_186 : decode cL_acts 186 = .ok (.iload 9, 2) := by decide +kernel
theorem dL_acts_188 : decode cL_acts 188 = .ok (.iconst 1, 1) := by decide +kernel
theorem dL_acts_189 : decode cL_acts 189 = .ok (.iload 10, 2) := by decide +kernel
theorem dL_acts_191 : decode cL_acts 191 = .ok (.isub, 1) := by decide +kernel
theorem dL_acts_192 : decode cL_acts 192 = .ok (.invokevirtual 29, 3) := by decide +kernel
theorem dL_acts_195 : decode cL_acts 195 = .ok (.aload 4, 2) := by decide +kernel
theorem dL_acts_197 : decode cL_acts 197 = .ok (.iload 8, 2) := by decide +kernel
theorem dL_acts_199 : decode cL_acts 199 = .ok (.iaload, 1) := by decide +kernel
theorem dL_acts_200 : decode cL_acts 200 = .ok (.invokestatic 33, 3) := by decide +kernel
theorem dL_acts_203 : decode cL_acts 203 = .ok (.if_icmp .ne 7, 3) := by decide +kernel
theorem dL_acts_206 : decode cL_acts 206 = .ok (.iconst 1, 1) := by decide +kernel
theorem dL_acts_207 : decode cL_acts 207 = .ok (.goto 4, 3) := by decide +kernel
theorem dL_acts_210 : decode cL_acts 210 = .ok (.iconst 0, 1) := by decide +kernel
theorem dL_acts_211 : decode cL_acts 211 = .ok (.ireturn, 1) := by decide +kernel
theorem dL_acts_212 : decode cL_acts 212 = .ok (.iload 7, 2) := by decide +kernel
theorem dL_acts_214 : decode cL_acts 214 = .ok (.bipush 15, 2) := by decide +kernel
theorem dL_acts_216 : decode cL_acts 216 = .ok (.if_icmp .ge 41, 3) := by decide +kernel
theorem dL_acts_219 : decode cL_acts 219 = .ok (.aload_n 2, 1) := by decide +kernel
theorem dL_acts_220 : decode cL_acts 220 = .ok (.iload 8, 2) := by decide +kernel
theorem dL_acts_222 : decode cL_acts 222 = .ok (.iaload, 1) := by decide +kernel
theorem dL_acts_223 : decode cL_acts 223 = .ok (.istore 10, 2) := by decide +kernel
theorem dL_acts_225 : decode cL_acts 225 = .ok (.aload_n 2, 1) := by decide +kernel
theorem dL_acts_226 : decode cL_acts 226 = .ok (.iload 8, 2) := by decide +kernel
theorem dL_acts_228 : decode cL_acts 228 = .ok (.iload 6, 2) := by decide +kernel
theorem dL_acts_230 : decode cL_acts 230 = .ok (.bipush 12, 2) := by decide +kernel
theorem dL_acts_232 : decode cL_acts 232 = .ok (.idiv, 1) := by decide +kernel
theorem dL_acts_233 : decode cL_acts 233 = .ok (.iconst 2, 1) := by decide +kernel
theorem dL_acts_234 : decode cL_acts 234 = .ok (.irem, 1) := by decide +kernel
theorem dL_acts_235 : decode cL_acts 235 = .ok (.iastore, 1) := by decide +kernel
theorem dL_acts_236 : decode cL_acts 236 = .ok (.aload_n 0, 1) := by decide +kernel
theorem dL_acts_237 : decode cL_acts 237 = .ok (.iload 8, 2) := by decide +kernel
theorem dL_acts_239 : decode cL_acts 239 = .ok (.aload_n 2, 1) := by decide +kernel
theorem dL_acts_240 : decode cL_acts 240 = .ok (.iload 8, 2) := by decide +kernel
theorem dL_acts_242 : decode cL_acts 242 = .ok (.iaload, 1) := by decide +kernel
theorem dL_acts_243 : decode cL_acts 243 = .ok (.invokevirtual 37, 3) := by decide +kernel
theorem dL_acts_246 : decode cL_acts 246 = .ok (.iload 10, 2) := by decide +kernel
theorem dL_acts_248 : decode cL_acts 248 = .ok (.if_icmp .ne 7, 3) := by decide +kernel
theorem dL_acts_251 : decode cL_acts 251 = .ok (.iconst 1, 1) := by decide +kernel
theorem dL_acts_252 : decode cL_acts 252 = .ok (.goto 4, 3) := by decide +kernel
theorem dL_acts_255 : decode cL_acts 255 = .ok (.iconst 0, 1) := by decide +kernel
theorem dL_acts_256 : decode cL_acts 256 = .ok (.ireturn, 1) := by decide +kernel
theorem dL_acts_257 : decode cL_acts 257 = .ok (.iload 7, 2) := by decide +kernel
theorem dL_acts_259 : decode cL_acts 259 = .ok (.bipush 18, 2) := by decide +kernel
theorem dL_acts_261 : decode cL_acts 261 = .ok (.if_icmp .ge 42, 3) := by decide +kernel
theorem dL_acts_264 : decode cL_acts 264 = .ok (.aload_n 3, 1) := by decide +kernel
theorem dL_acts_265 : decode cL_acts 265 = .ok (.iload 8, 2) := by decide +kernel
theorem dL_acts_267 : decode cL_acts 267 = .ok (.iaload, 1) := by decide +kernel
theorem dL_acts_268 : decode cL_acts 268 = .ok (.istore 10, 2) := by decide +kernel
theorem dL_acts_270 : decode cL_acts 270 = .ok (.aload_n 3, 1) := by decide +kernel
theorem dL_acts_271 : decode cL_acts 271 = .ok (.iload 8, 2) := by decide +kernel
theorem dL_acts_273 : decode cL_acts 273 = .ok (.iload 6, 2) := by decide +kernel
theorem dL_acts_275 : decode cL_acts 275 = .ok (.bipush 12, 2) := by decide +kernel
theorem dL_acts_277 : decode cL_acts 277 = .ok (.idiv, 1) := by decide +kernel
theorem dL_acts_278 : decode cL_acts 278 = .ok (.bipush 6, 2) := by decide +kernel
theorem dL_acts_280 : decode cL_acts 280 = .ok (.irem, 1) := by decide +kernel
theorem dL_acts_281 : decode cL_acts 281 = .ok (.iastore, 1) := by decide +kernel
theorem dL_acts_282 : decode cL_acts 282 = .ok (.aload_n 0, 1) := by decide +kernel
theorem dL_acts_283 : decode cL_acts 283 = .ok (.iload 8, 2) := by decide +kernel
theorem dL_acts_285 : decode cL_acts 285 = .ok (.aload_n 3, 1) := by decide +kernel
theorem dL_acts_286 : decode cL_acts 286 = .ok (.iload 8, 2) := by decide +kernel
theorem dL_acts_288 : decode cL_acts 288 = .ok (.iaload, 1) := by decide +kernel
theorem dL_acts_289 : decode cL_acts 289 = .ok (.invokevirtual 40, 3) := by decide +kernel
theorem dL_acts_292 : decode cL_acts 292 = .ok (.iload 10, 2) := by decide +kernel
theorem dL_acts_294 : decode cL_acts 294 = .ok (.if_icmp .ne 7, 3) := by decide +kernel
theorem dL_acts_297 : decode cL_acts 297 = .ok (.iconst 1, 1) := by decide +kernel
theorem dL_acts_298 : decode cL_acts 298 = .ok (.goto 4, 3) := by decide +kernel
theorem dL_acts_301 : decode cL_acts 301 = .ok (.iconst 0, 1) := by decide +kernel
theorem dL_acts_302 : decode cL_acts 302 = .ok (.ireturn, 1) := by decide +kernel
theorem dL_acts_303 : decode cL_acts 303 = .ok (.iload 7, 2) := by decide +kernel
theorem dL_acts_305 : decode cL_acts 305 = .ok (.bipush 18, 2) := by decide +kernel
theorem dL_acts_307 : decode cL_acts 307 = .ok (.if_icmp .ne 12, 3) := by decide +kernel
theorem dL_acts_310 : decode cL_acts 310 = .ok (.iload 6, 2) := by decide +kernel
theorem dL_acts_312 : decode cL_acts 312 = .ok (.iconst 3, 1) := by decide +kernel
theorem dL_acts_313 : decode cL_acts 313 = .ok (.irem, 1) := by decide +kernel
theorem dL_acts_314 : decode cL_acts 314 = .ok (.ifCond .le 5, 3) := by decide +kernel
theorem dL_acts_317 : decode cL_acts 317 = .ok (.iconst 1, 1) := by decide +kernel
theorem dL_acts_318 : decode cL_acts 318 = .ok (.ireturn, 1) := by decide +kernel
theorem dL_acts_319 : decode cL_acts 319 = .ok (.iload 7, 2) := by decide +kernel
theorem dL_acts_321 : decode cL_acts 321 = .ok (.bipush 18, 2) := by decide +kernel
theorem dL_acts_323 : decode cL_acts 323 = .ok (.if_icmp .ne 141, 3) := by decide +kernel
theorem dL_acts_326 : decode cL_acts 326 = .ok (.aload_n 1, 1) := by decide +kernel
theorem dL_acts_327 : decode cL_acts 327 = .ok (.iconst 0, 1) := by decide +kernel
theorem dL_acts_328 : decode cL_acts 328 = .ok (.dup2, 1) := by decide +kernel
theorem dL_acts_329 : decode cL_acts 329 = .ok (.iaload, 1) := by decide +kernel
theorem dL_acts_330 : decode cL_acts 330 = .ok (.iconst 1, 1) := by decide +kernel
theorem dL_acts_331 : decode cL_acts 331 = .ok (.isub, 1) := by decide +kernel
theorem dL_acts_332 : decode cL_acts 332 = .ok (.iastore, 1) := by decide +kernel
theorem dL_acts_333 : decode cL_acts 333 = .ok (.iconst 0, 1) := by decide +kernel
theorem dL_acts_334 : decode cL_acts 334 = .ok (.istore 10, 2) := by decide +kernel
theorem dL_acts_336 : decode cL_acts 336 = .ok (.iload 10, 2) := by decide +kernel
theorem dL_acts_338 : decode cL_acts 338 = .ok (.aload_n 1, 1) := by decide +kernel
theorem dL_acts_339 : decode cL_acts 339 = .ok (.iconst 0, 1) := by decide +kernel
theorem dL_acts_340 : decode cL_acts 340 = .ok (.iaload, 1) := by decide +kernel
theorem dL_acts_341 : decode cL_acts 341 = .ok (.if_icmp .ge 53, 3) := by decide +kernel
theorem dL_acts_344 : decode cL_acts 344 = .ok (.iload 10, 2) := by decide +kernel
theorem dL_acts_346 : decode cL_acts 346 = .ok (.iload 8, 2) := by decide +kernel
theorem dL_acts_348 : decode cL_acts 348 = .ok (.if_icmp .ge 8, 3) := by decide +kernel
theorem dL_acts_351 : decode cL_acts 351 = .ok (.iload 10, 2) := by decide +kernel
theorem dL_acts_353 : decode cL_acts 353 = .ok (.goto 7, 3) := by decide +kernel
theorem dL_acts_356 : decode cL_acts 356 = .ok (.iload 10, 2) := by decide +kernel
theorem dL_acts_358 : decode cL_acts 358 = .ok (.iconst 1, 1) := by decide +kernel
theorem dL_acts_359 : decode cL_acts 359 = .ok (.iadd, 1) := by decide +kernel
theorem dL_acts_360 : decode cL_acts 360 = .ok (.istore 11, 2) := by decide +kernel
theorem dL_acts_362 : decode cL_acts 362 = .ok (.aload_n 2, 1) := by decide +kernel
theorem dL_acts_363 : decode cL_acts 363 = .ok (.iload 10, 2) := by decide +kernel
theorem dL_acts_365 : decode cL_acts 365 = .ok (.aload_n 2, 1) := by decide +kernel
theorem dL_acts_366 : decode cL_acts 366 = .ok (.iload 11, 2) := by decide +kernel
theorem dL_acts_368 : decode cL_acts 368 = .ok (.iaload, 1) := by decide +kernel
theorem dL_acts_369 : decode cL_acts 369 = .ok (.iastore, 1) := by decide +kernel
theorem dL_acts_370 : decode cL_acts 370 = .ok (.aload_n 3, 1) := by decide +kernel
theorem dL_acts_371 : decode cL_acts 371 = .ok (.iload 10, 2) := by decide +kernel
theorem dL_acts_373 : decode cL_acts 373 = .ok (.aload_n 3, 1) := by decide +kernel
theorem dL_acts_374 : decode cL_acts 374 = .ok (.iload 11, 2) := by decide +kernel
theorem dL_acts_376 : decode cL_acts 376 = .ok (.iaload, 1) := by decide +kernel
theorem dL_acts_377 : decode cL_acts 377 = .ok (.iastore, 1) := by decide +kernel
theorem dL_acts_378 : decode cL_acts 378 = .ok (.aload 4, 2) := by decide +kernel
theorem dL_acts_380 : decode cL_acts 380 = .ok (.iload 10, 2) := by decide +kernel
theorem dL_acts_382 : decode cL_acts 382 = .ok (.aload 4, 2) := by decide +kernel
theorem dL_acts_384 : decode cL_acts 384 = .ok (.iload 11, 2) := by decide +kernel
theorem dL_acts_386 : decode cL_acts 386 = .ok (.iaload, 1) := by decide +kernel
theorem dL_acts_387 : decode cL_acts 387 = .ok (.iastore, 1) := by decide +kernel
theorem dL_acts_388 : decode cL_acts 388 = .ok (.iinc 10 1, 3) := by decide +kernel
theorem dL_acts_391 : decode cL_acts 391 = .ok (.goto (-55), 3) := by decide +kernel
theorem dL_acts_394 : decode cL_acts 394 = .ok (.iconst 0, 1) := by decide +kernel
theorem dL_acts_395 : decode cL_acts 395 = .ok (.istore 10, 2) := by decide +kernel
theorem dL_acts_397 : decode cL_acts 397 = .ok (.iload 10, 2) := by decide +kernel
theorem dL_acts_399 : decode cL_acts 399 = .ok (.aload_n 1, 1) := by decide +kernel
theorem dL_acts_400 : decode cL_acts 400 = .ok (.iconst 0, 1) := by decide +kernel
theorem dL_acts_401 : decode cL_acts 401 = .ok (.iaload, 1) := by decide +kernel
theorem dL_acts_402 : decode cL_acts 402 = .ok (.if_icmp .ge 44, 3) := by decide +kernel
theorem dL_acts_405 : decode cL_acts 405 = .ok (.aload 4, 2) := by decide +kernel
theorem dL_acts_407 : decode cL_acts 407 = .ok (.iload 10, 2) := by decide +kernel
theorem dL_acts_409 : decode cL_acts 409 = .ok (.iaload, 1) := by decide +kernel
theorem dL_acts_410 : decode cL_acts 410 = .ok (.iload 8, 2) := by decide +kernel
theorem dL_acts_412 : decode cL_acts 412 = .ok (.iconst 1, 1) := by decide +kernel
theorem dL_acts_413 : decode cL_acts 413 = .ok (.iadd, 1) := by decide +kernel
theorem dL_acts_414 : decode cL_acts 414 = .ok (.ishr, 1) := by decide +kernel
theorem dL_acts_415 : decode cL_acts 415 = .ok (.istore 11, 2) := by decide +kernel
theorem dL_acts_417 : decode cL_acts 417 = .ok (.aload 4, 2) := by decide +kernel
theorem dL_acts_419 : decode cL_acts 419 = .ok (.iload 10, 2) := by decide +kernel
theorem dL_acts_421 : decode cL_acts 421 = .ok (.aload 4, 2) := by decide +kernel
theorem dL_acts_423 : decode cL_acts 423 = .ok (.iload 10, 2) := by decide +kernel
theorem dL_acts_425 : decode cL_acts 425 = .ok (.iaload, 1) := by decide +kernel
theorem dL_acts_426 : decode cL_acts 426 = .ok (.iconst 1, 1) := by decide +kernel
theorem dL_acts_427 : decode cL_acts 427 = .ok (.iload 8, 2) := by decide +kernel
theorem dL_acts_429 : decode cL_acts 429 = .ok (.ishl, 1) := by decide +kernel
theorem dL_acts_430 : decode cL_acts 430 = .ok (.iconst 1, 1) := by decide +kernel
theorem dL_acts_431 : decode cL_acts 431 = .ok (.isub, 1) := by decide +kernel
theorem dL_acts_432 : decode cL_acts 432 = .ok (.iand, 1) := by decide +kernel
theorem dL_acts_433 : decode cL_acts 433 = .ok (.iload 11, 2) := by decide +kernel
theorem dL_acts_435 : decode cL_acts 435 = .ok (.iload 8, 2) := by decide +kernel
theorem dL_acts_437 : decode cL_acts 437 = .ok (.ishl, 1) := by decide +kernel
theorem dL_acts_438 : decode cL_acts 438 = .ok (.ior, 1) := by decide +kernel
theorem dL_acts_439 : decode cL_acts 439 = .ok (.iastore, 1) := by decide +kernel
theorem dL_acts_440 : decode cL_acts 440 = .ok (.iinc 10 1, 3) := by decide +kernel
theorem dL_acts_443 : decode cL_acts 443 = .ok (.goto (-46), 3) := by decide +kernel
theorem dL_acts_446 : decode cL_acts 446 = .ok (.aload_n 0, 1) := by decide +kernel
theorem dL_acts_447 : decode cL_acts 447 = .ok (.iload 8, 2) := by decide +kernel
theorem dL_acts_449 : decode cL_acts 449 = .ok (.invokevirtual 43, 3) := by decide +kernel
theorem dL_acts_452 : decode cL_acts 452 = .ok (.aload_n 1, 1) := by decide +kernel
theorem dL_acts_453 : decode cL_acts 453 = .ok (.iconst 0, 1) := by decide +kernel
theorem dL_acts_454 : decode cL_acts 454 = .ok (.iaload, 1) := by decide +kernel
theorem dL_acts_455 : decode cL_acts 455 = .ok (.if_icmp .ne 7, 3) := by decide +kernel
theorem dL_acts_458 : decode cL_acts 458 = .ok (.iconst 1, 1) := by decide +kernel
theorem dL_acts_459 : decode cL_acts 459 = .ok (.goto 4, 3) := by decide +kernel
theorem dL_acts_462 : decode cL_acts 462 = .ok (.iconst 0, 1) := by decide +kernel
theorem dL_acts_463 : decode cL_acts 463 = .ok (.ireturn, 1) := by decide +kernel
theorem dL_acts_464 : decode cL_acts 464 = .ok (.aload_n 0, 1) := by decide +kernel
theorem dL_acts_465 : decode cL_acts 465 = .ok (.aload_n 1, 1) := by decide +kernel
theorem dL_acts_466 : decode cL_acts 466 = .ok (.aload_n 2, 1) := by decide +kernel
theorem dL_acts_467 : decode cL_acts 467 = .ok (.aload_n 3, 1) := by decide +kernel
theorem dL_acts_468 : decode cL_acts 468 = .ok (.aload 4, 2) := by decide +kernel
theorem dL_acts_470 : decode cL_acts 470 = .ok (.iload 6, 2) := by decide +kernel
theorem dL_acts_472 : decode cL_acts 472 = .ok (.invokestatic 46, 3) := by decide +kernel
theorem dL_acts_475 : decode cL_acts 475 = .ok (.ireturn, 1) := by decide +kernel
theorem dL_reads_0 : decode cL_reads 0 = .ok (.iconst 1, 1) := by decide +kernel
theorem dL_reads_1 : decode cL_reads 1 = .ok (.iload 5, 2) := by decide +kernel
theorem dL_reads_3 : decode cL_reads 3 = .ok (.iconst 5, 1) := by decide +kernel
theorem dL_reads_4 : decode cL_reads 4 = .ok (.irem, 1) := by decide +kernel
theorem dL_reads_5 : decode cL_reads 5 = .ok (.iadd, 1) := by decide +kernel
theorem dL_reads_6 : decode cL_reads 6 = .ok (.istore 6, 2) := by decide +kernel
theorem dL_reads_8 : decode cL_reads 8 = .ok (.aload_n 0, 1) := by decide +kernel
theorem dL_reads_9 : decode cL_reads 9 = .ok (.invokevirtual 50, 3) := by decide +kernel
theorem dL_reads_12 : decode cL_reads 12 = .ok (.ifCond .lt 7, 3) := by decide +kernel
theorem dL_reads_15 : decode cL_reads 15 = .ok (.iconst 1, 1) := by decide +kernel
theorem dL_reads_16 : decode cL_reads 16 = .ok (.goto 4, 3) := by decide +kernel
theorem dL_reads_19 : decode cL_reads 19 = .ok (.iconst 0, 1) := by decide +kernel
theorem dL_reads_20 : decode cL_reads 20 = .ok (.istore 7, 2) := by decide +kernel
theorem dL_reads_22 : decode cL_reads 22 = .ok (.aload_n 1, 1) := by decide +kernel
theorem dL_reads_23 : decode cL_reads 23 = .ok (.iconst 0, 1) := by decide +kernel
theorem dL_reads_24 : decode cL_reads 24 = .ok (.iload 6, 2) := by decide +kernel
theorem dL_reads_26 : decode cL_reads 26 = .ok (.iastore, 1) := by decide +kernel
theorem dL_reads_27 : decode cL_reads 27 = .ok (.iconst 0, 1) := by decide +kernel
theorem dL_reads_28 : decode cL_reads 28 = .ok (.istore 8, 2) := by decide +kernel
theorem dL_reads_30 : decode cL_reads 30 = .ok (.iload 8, 2) := by decide +kernel
theorem dL_reads_32 : decode cL_reads 32 = .ok (.iload 6, 2) := by decide +kernel
theorem dL_reads_34 : decode cL_reads 34 = .ok (.if_icmp .ge 210, 3) := by decide +kernel
theorem dL_reads_37 : decode cL_reads 37 = .ok (.aload_n 2, 1) := by decide +kernel
theorem dL_reads_38 : decode cL_reads 38 = .ok (.iload 8, 2) := by decide +kernel
theorem dL_reads_40 : decode cL_reads 40 = .ok (.iload 5, 2) := by decide +kernel
theorem dL_reads_42 : decode cL_reads 42 = .ok (.iconst 2, 1) := by decide +kernel
theorem dL_reads_43 : decode cL_reads 43 = .ok (.iload 8, 2) := by decide +kernel
theorem dL_reads_45 : decode cL_reads 45 = .ok (.iadd, 1) := by decide +kernel
theorem dL_reads_46 : decode cL_reads 46 = .ok (.idiv, 1) := by decide +kernel
theorem dL_reads_47 : decode cL_reads 47 = .ok (.iconst 2, 1) := by decide +kernel
theorem dL_reads_48 : decode cL_reads 48 = .ok (.irem, 1) := by decide +kernel
theorem dL_reads_49 : decode cL_reads 49 = .ok (.iastore, 1) := by decide +kernel
theorem dL_reads_50 : decode cL_reads 50 = .ok (.aload_n 3, 1) := by decide +kernel
theorem dL_reads_51 : decode cL_reads 51 = .ok (.iload 8, 2) := by decide +kernel
theorem dL_reads_53 : decode cL_reads 53 = .ok (.iload 5, 2) := by decide +kernel
theorem dL_reads_55 : decode cL_reads 55 = .ok (.iconst 3, 1) := by decide +kernel
theorem dL_reads_56 : decode cL_reads 56 = .ok (.iconst 2, 1) := by decide +kernel
theorem dL_reads_57 : decode cL_reads 57 = .ok (.iload 8, 2) := by decide +kernel
theorem dL_reads_59 : decode cL_reads 59 = .ok (.imul, 1) := by decide +kernel
theorem dL_reads_60 : decode cL_reads 60 = .ok (.iadd, 1) := by decide +kernel
theorem dL_reads_61 : decode cL_reads 61 = .ok (.idiv, 1) := by decide +kernel
theorem dL_reads_62 : decode cL_reads 62 = .ok (.bipush 6, 2) := by decide +kernel
theorem dL_reads_64 : decode cL_reads 64 = .ok (.irem, 1) := by decide +kernel
theorem dL_reads_65 : decode cL_reads 65 = .ok (.iastore, 1) := by decide +kernel
theorem dL_reads_66 : decode cL_reads 66 = .ok (.iload 5, 2) := by decide +kernel
theorem dL_reads_68 : decode cL_reads 68 = .ok (.iconst 5, 1) := by decide +kernel
theorem dL_reads_69 : decode cL_reads 69 = .ok (.iconst 3, 1) := by decide +kernel
theorem dL_reads_70 : decode cL_reads 70 = .ok (.iload 8, 2) := by decide +kernel
theorem dL_reads_72 : decode cL_reads 72 = .ok (.imul, 1) := by decide +kernel
theorem dL_reads_73 : decode cL_reads 73 = .ok (.iadd, 1) := by decide +kernel
theorem dL_reads_74 : decode cL_reads 74 = .ok (.idiv, 1) := by decide +kernel
theorem dL_reads_75 : decode cL_reads 75 = .ok (.iconst 1, 1) := by decide +kernel
theorem dL_reads_76 : decode cL_reads 76 = .ok (.iload 6, 2) := by decide +kernel
theorem dL_reads_78 : decode cL_reads 78 = .ok (.ishl, 1) := by decide +kernel
theorem dL_reads_79 : decode cL_reads 79 = .ok (.iconst 1, 1) := by decide +kernel
theorem dL_reads_80 : decode cL_reads 80 = .ok (.isub, 1) := by decide +kernel
theorem dL_reads_81 : decode cL_reads 81 = .ok (.iand, 1) := by decide +kernel
theorem dL_reads_82 : decode cL_reads 82 = .ok (.istore 9, 2) := by decide +kernel
theorem dL_reads_84 : decode cL_reads 84 = .ok (.aload 4, 2) := by decide +kernel
theorem dL_reads_86 : decode cL_reads 86 = .ok (.iload 8, 2) := by decide +kernel
theorem dL_reads_88 : decode cL_reads 88 = .ok (.iconst 0, 1) := by decide +kernel
theorem dL_reads_89 : decode cL_reads 89 = .ok (.iastore, 1) := by decide +kernel
theorem dL_reads_90 : decode cL_reads 90 = .ok (.iload 7, 2) := by decide +kernel
theorem dL_reads_92 : decode cL_reads 92 = .ok (.ifCond .eq 57, 3) := by decide +kernel
theorem dL_reads_95 : decode cL_reads 95 = .ok (.iload 8, 2) := by decide +kernel
theorem dL_reads_97 : decode cL_reads 97 = .ok (.ifCond .eq 12, 3) := by decide +kernel
theorem dL_reads_100 : decode cL_reads 100 = .ok (.aload_n 0, 1) := by decide +kernel
theorem dL_reads_101 : decode cL_reads 101 = .ok (.bipush 59, 2) := by decide +kernel
theorem dL_reads_103 : decode cL_reads 103 = .ok (.invokevirtual 54, 3) := by decide +kernel
theorem dL_reads_106 : decode cL_reads 106 = .ok (.ifCond .le 43, 3) := by decide +kernel
theorem dL_reads_109 : decode cL_reads 109 = .ok (.aload_n 0, 1) := by decide +kernel
theorem dL_reads_110 : decode cL_reads 110 = .ok (.aload_n 2, 1) := by decide +kernel
theorem dL_reads_111 : decode cL_reads 111 = .ok (.iload 8, 2) := by decide +kernel
theorem dL_reads_113 : decode cL_reads 113 = .ok (.iaload, 1) := by decide +kernel
theorem dL_reads_114 : decode cL_reads 114 = .ok (.iconst 1, 1) := by decide +kernel
theorem dL_reads_115 : decode cL_reads 115 = .ok (.if_icmp .ne 8, 3) := by decide +kernel
theorem dL_reads_118 : decode cL_reads 118 = .ok (.bipush 111, 2) := by decide +kernel
theorem dL_reads_120 : decode cL_reads 120 = .ok (.goto 5, 3) := by decide +kernel
theorem dL_reads_123 : decode cL_reads 123 = .ok (.bipush 101, 2) := by decide +kernel
theorem dL_reads_125 : decode cL_reads 125 = .ok (.invokevirtual 54, 3) := by decide +kernel
theorem dL_reads_128 : decode cL_reads 128 = .ok (.ifCond .le 21, 3) := by decide +kernel
theorem dL_reads_131 : decode cL_reads 131 = .ok (.aload_n 0, 1) := by decide +kernel
theorem dL_reads_132 : decode cL_reads 132 = .ok (.bipush 48, 2) := by decide +kernel
theorem dL_reads_134 : decode cL_reads 134 = .ok (.aload_n 3, 1) := by decide +kernel
theorem dL_reads_135 : decode cL_reads 135 = .ok (.iload 8, 2) := by decide +kernel
theorem dL_reads_137 : decode cL_reads 137 = .ok (.iaload, 1) := by decide +kernel
theorem dL_reads_138 : decode cL_reads 138 = .ok (.iadd, 1) := by decide +kernel
theorem dL_reads_139 : decode cL_reads 139 = .ok (.invokevirtual 54, 3) := by decide +kernel
theorem dL_reads_142 : decode cL_reads 142 = .ok (.ifCond .le 7, 3) := by decide +kernel
theorem dL_reads_145 : decode cL_reads 145 = .ok (.iconst 1, 1) := by decide +kernel
theorem dL_reads_146 : decode cL_reads 146 = .ok (.goto 4, 3) := by decide +kernel
theorem dL_reads_149 : decode cL_reads 149 = .ok (.iconst 0, 1) := by decide +kernel
theorem dL_reads_150 : decode cL_reads 150 = .ok (.istore 7, 2) := by decide +kernel
theorem dL_reads_152 : decode cL_reads 152 = .ok (.iload 6, 2) := by decide +kernel
theorem dL_reads_154 : decode cL_reads 154 = .ok (.iconst 1, 1) := by decide +kernel
theorem dL_reads_155 : decode cL_reads 155 = .ok (.isub, 1) := by decide +kernel
theorem dL_reads_156 : decode cL_reads 156 = .ok (.istore 10, 2) := by decide +kernel
theorem dL_reads_158 : decode cL_reads 158 = .ok (.iload 10, 2) := by decide +kernel
theorem dL_reads_160 : decode cL_reads 160 = .ok (.ifCond .lt 78, 3) := by decide +kernel
theorem dL_reads_163 : decode cL_reads 163 = .ok (.iload 9, 2) := by decide +kernel
theorem dL_reads_165 : decode cL_reads 165 = .ok (.iload 10, 2) := by decide +kernel
theorem dL_reads_167 : decode cL_reads 167 = .ok (.ishr, 1) := by decide +kernel
theorem dL_reads_168 : decode cL_reads 168 = .ok (.iconst 1, 1) := by decide +kernel
theorem dL_reads_169 : decode cL_reads 169 = .ok (.iand, 1) := by decide +kernel
theorem dL_reads_170 : decode cL_reads 170 = .ok (.iconst 1, 1) := by decide +kernel
theorem dL_reads_171 : decode cL_reads 171 = .ok (.if_icmp .ne 61, 3) := by decide +kernel
theorem dL_reads_174 : decode cL_reads 174 = .ok (.iload 7, 2) := by decide +kernel
theorem dL_reads_176 : decode cL_reads 176 = .ok (.ifCond .eq 41, 3) := by decide +kernel
theorem dL_reads_179 : decode cL_reads 179 = .ok (.aload_n 0, 1) := by decide +kernel
theorem dL_reads_180 : decode cL_reads 180 = .ok (.aload 4, 2) := by decide +kernel
theorem dL_reads_182 : decode cL_reads 182 = .ok (.iload 8, 2) := by decide +kernel
theorem dL_reads_184 : decode cL_reads 184 = .ok (.iaload, 1) := by decide +kernel
theorem dL_reads_185 : decode cL_reads 185 = .ok (.ifCond .ne 8, 3) := by decide +kernel
theorem dL_reads_188 : decode cL_reads 188 = .ok (.bipush 58, 2) := by decide +kernel
theorem dL_reads_190 : decode cL_reads 190 = .ok (.goto 5, 3) := by decide +kernel
theorem dL_reads_193 : decode cL_reads 193 = .ok (.bipush 44, 2) := by decide +kernel
theorem dL_reads_195 : decode cL_reads 195 = .ok (.invokevirtual 54, 3) := by decide +kernel
theorem dL_reads_198 : decode cL_reads 198 = .ok (.ifCond .le 19, 3) := by decide +kernel
theorem dL_reads_201 : decode cL_reads 201 = .ok (.aload_n 0, 1) := by decide +kernel
theorem dL_reads_202 : decode cL_reads 202 = .ok (.bipush 48, 2) := by decide +kernel
theorem dL_reads_204 : decode cL_reads 204 = .ok (.iload 10, 2) := by decide +kernel
theorem dL_reads_206 : decode cL_reads 206 = .ok (.iadd, 1) := by decide +kernel
theorem dL_reads_207 : decode cL_reads 207 = .ok (.invokevirtual 54, 3) := by decide +kernel
theorem dL_reads_210 : decode cL_reads 210 = .ok (.ifCond .le 7, 3) := by decide +kernel
theorem dL_reads_213 : decode cL_reads 213 = .ok (.iconst 1, 1) := by decide +kernel
theorem dL_reads_214 : decode cL_reads 214 = .ok (.goto 4, 3) := by decide +kernel
theorem dL_reads_217 : decode cL_reads 217 = .ok (.iconst 0, 1) := by decide +kernel
theorem dL_reads_218 : decode cL_reads 218 = .ok (.istore 7, 2) := by decide +kernel
theorem dL_reads_220 : decode cL_reads 220 = .ok (.aload 4, 2) := by decide +kernel
theorem dL_reads_222 : decode cL_reads 222 = .ok (.iload 8, 2) := by decide +kernel
theorem dL_reads_224 : decode cL_reads 224 = .ok (.dup2, 1) := by decide +kernel
theorem dL_reads_225 : decode cL_reads 225 = .ok (.iaload, 1) := by decide +kernel
theorem dL_reads_226 : decode cL_reads 226 = .ok (.iconst 1, 1) := by decide +kernel
theorem dL_reads_227 : decode cL_reads 227 = .ok (.iload 10, 2) := by decide +kernel
theorem dL_reads_229 : decode cL_reads 229 = .ok (.ishl, 1) := by decide +kernel
theorem dL_reads_230 : decode cL_reads 230 = .ok (.ior, 1) := by decide +kernel
theorem dL_reads_231 : decode cL_reads 231 = .ok (.iastore, 1) := by decide +kernel
theorem dL_reads_232 : decode cL_reads 232 = .ok (.iinc 10 (-1), 3) := by decide +kernel
theorem dL_reads_235 : decode cL_reads 235 = .ok (.goto (-77), 3) := by decide +kernel
theorem dL_reads_238 : decode cL_reads 238 = .ok (.iinc 8 1, 3) := by decide +kernel
theorem dL_reads_241 : decode cL_reads 241 = .ok (.goto (-211), 3) := by decide +kernel
theorem dL_reads_244 : decode cL_reads 244 = .ok (.iload 7, 2) := by decide +kernel
theorem dL_reads_246 : decode cL_reads 246 = .ok (.ifCond .eq 33, 3) := by decide +kernel
theorem dL_reads_249 : decode cL_reads 249 = .ok (.aload_n 0, 1) := by decide +kernel
theorem dL_reads_250 : decode cL_reads 250 = .ok (.iconst 0, 1) := by decide +kernel
theorem dL_reads_251 : decode cL_reads 251 = .ok (.invokevirtual 57, 3) := by decide +kernel
theorem dL_reads_254 : decode cL_reads 254 = .ok (.bipush (-4), 2) := by decide +kernel
theorem dL_reads_256 : decode cL_reads 256 = .ok (.if_icmp .ne 23, 3) := by decide +kernel
theorem dL_reads_259 : decode cL_reads 259 = .ok (.aload_n 0, 1) := by decide +kernel
theorem dL_reads_260 : decode cL_reads 260 = .ok (.invokevirtual 60, 3) := by decide +kernel
theorem dL_reads_263 : decode cL_reads 263 = .ok (.iload 6, 2) := by decide +kernel
theorem dL_reads_265 : decode cL_reads 265 = .ok (.if_icmp .ne 14, 3) := by decide +kernel
theorem dL_reads_268 : decode cL_reads 268 = .ok (.aload_n 0, 1) := by decide +kernel
theorem dL_reads_269 : decode cL_reads 269 = .ok (.invokevirtual 50, 3) := by decide +kernel
theorem dL_reads_272 : decode cL_reads 272 = .ok (.ifCond .le 7, 3) := by decide +kernel
theorem dL_reads_275 : decode cL_reads 275 = .ok (.iconst 1, 1) := by decide +kernel
theorem dL_reads_276 : decode cL_reads 276 = .ok (.goto 4, 3) := by decide +kernel
theorem dL_reads_279 : decode cL_reads 279 = .ok (.iconst 0, 1) := by decide +kernel
theorem dL_reads_280 : decode cL_reads 280 = .ok (.ireturn, 1) := by decide +kernel
theorem dL_areChoices_0 : decode cL_areChoices 0 = .ok (.bipush 12, 2) := by decide +kernel
theorem dL_areChoices_2 : decode cL_areChoices 2 = .ok (.newarray .int, 2) := by decide +kernel
theorem dL_areChoices_4 : decode cL_areChoices 4 = .ok (.astore 6, 2) := by decide +kernel
theorem dL_areChoices_6 : decode cL_areChoices 6 = .ok (.iconst 1, 1) := by decide +kernel
theorem dL_areChoices_7 : decode cL_areChoices 7 = .ok (.istore 7, 2) := by decide +kernel
theorem dL_areChoices_9 : decode cL_areChoices 9 = .ok (.iconst 0, 1) := by decide +kernel
theorem dL_areChoices_10 : decode cL_areChoices 10 = .ok (.istore 8, 2) := by decide +kernel
theorem dL_areChoices_12 : decode cL_areChoices 12 = .ok (.iload 8, 2) := by decide +kernel
theorem dL_areChoices_14 : decode cL_areChoices 14 = .ok (.aload_n 1, 1) := by decide +kernel
theorem dL_areChoices_15 : decode cL_areChoices 15 = .ok (.iconst 0, 1) := by decide +kernel
theorem dL_areChoices_16 : decode cL_areChoices 16 = .ok (.iaload, 1) := by decide +kernel
theorem dL_areChoices_17 : decode cL_areChoices 17 = .ok (.if_icmp .ge 19, 3) := by decide +kernel
theorem dL_areChoices_20 : decode cL_areChoices 20 = .ok (.aload 6, 2) := by decide +kernel
theorem dL_areChoices_22 : decode cL_areChoices 22 = .ok (.iload 8, 2) := by decide +kernel
theorem dL_areChoices_24 : decode cL_areChoices 24 = .ok (.aload 4, 2) := by decide +kernel
theorem dL_areChoices_26 : decode cL_areChoices 26 = .ok (.iload 8, 2) := by decide +kernel
theorem dL_areChoices_28 : decode cL_areChoices 28 = .ok (.iaload, 1) := by decide +kernel
theorem dL_areChoices_29 : decode cL_areChoices 29 = .ok (.iastore, 1) := by decide +kernel
theorem dL_areChoices_30 : decode cL_areChoices 30 = .ok (.iinc 8 1, 3) := by decide +kernel
theorem dL_areChoices_33 : decode cL_areChoices 33 = .ok (.goto (-21), 3) := by decide +kernel
theorem dL_areChoices_36 : decode cL_areChoices 36 = .ok (.iconst 0, 1) := by decide +kernel
theorem dL_areChoices_37 : decode cL_areChoices 37 = .ok (.istore 8, 2) := by decide +kernel
theorem dL_areChoices_39 : decode cL_areChoices 39 = .ok (.iload 8, 2) := by decide +kernel
theorem dL_areChoices_41 : decode cL_areChoices 41 = .ok (.aload_n 1, 1) := by decide +kernel
theorem dL_areChoices_42 : decode cL_areChoices 42 = .ok (.iconst 0, 1) := by decide +kernel
theorem dL_areChoices_43 : decode cL_areChoices 43 = .ok (.iaload, 1) := by decide +kernel
theorem dL_areChoices_44 : decode cL_areChoices 44 = .ok (.if_icmp .ge 267, 3) := by decide +kernel
theorem dL_areChoices_47 : decode cL_areChoices 47 = .ok (.iload 7, 2) := by decide +kernel
theorem dL_areChoices_49 : decode cL_areChoices 49 = .ok (.ifCond .eq 262, 3) := by decide +kernel
theorem dL_areChoices_52 : decode cL_areChoices 52 = .ok (.aload_n 0, 1) := by decide +kernel
theorem dL_areChoices_53 : decode cL_areChoices 53 = .ok (.iload 8, 2) := by decide +kernel
theorem dL_areChoices_55 : decode cL_areChoices 55 = .ok (.iconst 5, 1) := by decide +kernel
theorem dL_areChoices_56 : decode cL_areChoices 56 = .ok (.invokevirtual 63, 3) := by decide +kernel
theorem dL_areChoices_59 : decode cL_areChoices 59 = .ok (.istore 9, 2) := by decide +kernel
theorem dL_areChoices_61 : decode cL_areChoices 61 = .ok (.aload 4, 2) := by decide +kernel
theorem dL_areChoices_63 : decode cL_areChoices 63 = .ok (.iload 8, 2) := by decide +kernel
theorem dL_areChoices_65 : decode cL_areChoices 65 = .ok (.iaload, 1) := by decide +kernel
theorem dL_areChoices_66 : decode cL_areChoices 66 = .ok (.ifCond .ne 20, 3) := by decide +kernel
theorem dL_areChoices_69 : decode cL_areChoices 69 = .ok (.iload 9, 2) := by decide +kernel
theorem dL_areChoices_71 : decode cL_areChoices 71 = .ok (.bipush (-4), 2) := by decide +kernel
theorem dL_areChoices_73 : decode cL_areChoices 73 = .ok (.if_icmp .ne 7, 3) := by decide +kernel
theorem dL_areChoices_76 : decode cL_areChoices 76 = .ok (.iconst 1, 1) := by decide +kernel
theorem dL_areChoices_77 : decode cL_areChoices 77 = .ok (.goto 4, 3) := by decide +kernel
theorem dL_areChoices_80 : decode cL_areChoices 80 = .ok (.iconst 0, 1) := by decide +kernel
theorem dL_areChoices_81 : decode cL_areChoices 81 = .ok (.istore 7, 2) := by decide +kernel
theorem dL_areChoices_83 : decode cL_areChoices 83 = .ok (.goto 222, 3) := by decide +kernel
theorem dL_areChoices_86 : decode cL_areChoices 86 = .ok (.iconst 0, 1) := by decide +kernel
theorem dL_areChoices_87 : decode cL_areChoices 87 = .ok (.istore 10, 2) := by decide +kernel
theorem dL_areChoices_89 : decode cL_areChoices 89 = .ok (.aload 4, 2) := by decide +kernel
theorem dL_areChoices_91 : decode cL_areChoices 91 = .ok (.iload 8, 2) := by decide +kernel
theorem dL_areChoices_93 : decode cL_areChoices 93 = .ok (.iaload, 1) := by decide +kernel
theorem dL_areChoices_94 : decode cL_areChoices 94 = .ok (.iload 10, 2) := by decide +kernel
theorem dL_areChoices_96 : decode cL_areChoices 96 = .ok (.ishr, 1) := by decide +kernel
theorem dL_areChoices_97 : decode cL_areChoices 97 = .ok (.iconst 1, 1) := by decide +kernel
theorem dL_areChoices_98 : decode cL_areChoices 98 = .ok (.iand, 1) := by decide +kernel
theorem dL_areChoices_99 : decode cL_areChoices 99 = .ok (.ifCond .ne 9, 3) := by decide +kernel
theorem dL_areChoices_102 : decode cL_areChoices 102 = .ok (.iinc 10 1, 3) := by decide +kernel
theorem dL_areChoices_105 : decode cL_areChoices 105 = .ok (.goto (-16), 3) := by decide +kernel
theorem dL_areChoices_108 : decode cL_areChoices 108 = .ok (.iload 5, 2) := by decide +kernel
theorem dL_areChoices_110 : decode cL_areChoices 110 = .ok (.iload 8, 2) := by decide +kernel
theorem dL_areChoices_112 : decode cL_areChoices 112 = .ok (.ishr, 1) := by decide +kernel
theorem dL_areChoices_113 : decode cL_areChoices 113 = .ok (.iconst 1, 1) := by decide +kernel
theorem dL_areChoices_114 : decode cL_areChoices 114 = .ok (.iand, 1) := by decide +kernel
theorem dL_areChoices_115 : decode cL_areChoices 115 = .ok (.iconst 1, 1) := by decide +kernel
theorem dL_areChoices_116 : decode cL_areChoices 116 = .ok (.aload_n 2, 1) := by decide +kernel
theorem dL_areChoices_117 : decode cL_areChoices 117 = .ok (.iload 8, 2) := by decide +kernel
theorem dL_areChoices_119 : decode cL_areChoices 119 = .ok (.iaload, 1) := by decide +kernel
theorem dL_areChoices_120 : decode cL_areChoices 120 = .ok (.isub, 1) := by decide +kernel
theorem dL_areChoices_121 : decode cL_areChoices 121 = .ok (.if_icmp .ne 7, 3) := by decide +kernel
theorem dL_areChoices_124 : decode cL_areChoices 124 = .ok (.iconst 1, 1) := by decide +kernel
theorem dL_areChoices_125 : decode cL_areChoices 125 = .ok (.goto 4, 3) := by decide +kernel
theorem dL_areChoices_128 : decode cL_areChoices 128 = .ok (.iconst 0, 1) := by decide +kernel
theorem dL_areChoices_129 : decode cL_areChoices 129 = .ok (.istore 11, 2) := by decide +kernel
theorem dL_areChoices_131 : decode cL_areChoices 131 = .ok (.iload 9, 2) := by decide +kernel
theorem dL_areChoices_133 : decode cL_areChoices 133 = .ok (.iload 10, 2) := by decide +kernel
theorem dL_areChoices_135 : decode cL_areChoices 135 = .ok (.if_icmp .lt 41, 3) := by decide +kernel
theorem dL_areChoices_138 : decode cL_areChoices 138 = .ok (.iload 9, 2) := by decide +kernel
theorem dL_areChoices_140 : decode cL_areChoices 140 = .ok (.aload_n 1, 1) := by decide +kernel
theorem dL_areChoices_141 : decode cL_areChoices 141 = .ok (.iconst 0, 1) := by decide +kernel
theorem dL_areChoices_142 : decode cL_areChoices 142 = .ok (.iaload, 1) := by decide +kernel
theorem dL_areChoices_143 : decode cL_areChoices 143 = .ok (.if_icmp .ge 33, 3) := by decide +kernel
theorem dL_areChoices_146 : decode cL_areChoices 146 = .ok (.aload 4, 2) := by decide +kernel
theorem dL_areChoices_148 : decode cL_areChoices 148 = .ok (.iload 8, 2) := by decide +kernel
theorem dL_areChoices_150 : decode cL_areChoices 150 = .ok (.iaload, 1) := by decide +kernel
theorem dL_areChoices_151 : decode cL_areChoices 151 = .ok (.iload 9, 2) := by decide +kernel
theorem dL_areChoices_153 : decode cL_areChoices 153 = .ok (.ishr, 1) := by decide +kernel
theorem dL_areChoices_154 : decode cL_areChoices 154 = .ok (.iconst 1, 1) := by decide +kernel
theorem dL_areChoices_155 : decode cL_areChoices 155 = .ok (.iand, 1) := by decide +kernel
theorem dL_areChoices_156 : decode cL_areChoices 156 = .ok (.iconst 1, 1) := by decide +kernel
theorem dL_areChoices_157 : decode cL_areChoices 157 = .ok (.if_icmp .ne 19, 3) := by decide +kernel
theorem dL_areChoices_160 : decode cL_areChoices 160 = .ok (.iload 11, 2) := by decide +kernel
theorem dL_areChoices_162 : decode cL_areChoices 162 = .ok (.ifCond .ne 10, 3) := by decide +kernel
theorem dL_areChoices_165 : decode cL_areChoices 165 = .ok (.iload 9, 2) := by decide +kernel
theorem dL_areChoices_167 : decode cL_areChoices 167 = .ok (.iload 10, 2) := by decide +kernel
theorem dL_areChoices_169 : decode cL_areChoices 169 = .ok (.if_icmp .ne 7, 3) := by decide +kernel
theorem dL_areChoices_172 : decode cL_areChoices 172 = .ok (.iconst 1, 1) := by decide +kernel
theorem dL_areChoices_173 : decode cL_areChoices 173 = .ok (.goto 4, 3) := by decide +kernel
theorem dL_areChoices_176 : decode cL_areChoices 176 = .ok (.iconst 0, 1) := by decide +kernel
theorem dL_areChoices_177 : decode cL_areChoices 177 = .ok (.istore 7, 2) := by decide +kernel
theorem dL_areChoices_179 : decode cL_areChoices 179 = .ok (.iload 10, 2) := by decide +kernel
theorem dL_areChoices_181 : decode cL_areChoices 181 = .ok (.istore 12, 2) := by decide +kernel
theorem dL_areChoices_183 : decode cL_areChoices 183 = .ok (.iload 12, 2) := by decide +kernel
theorem dL_areChoices_185 : decode cL_areChoices 185 = .ok (.iload 9, 2) := by decide +kernel
theorem dL_areChoices_187 : decode cL_areChoices 187 = .ok (.if_icmp .ge 61, 3) := by decide +kernel
theorem dL_areChoices_190 : decode cL_areChoices 190 = .ok (.iload 7, 2) := by decide +kernel
theorem dL_areChoices_192 : decode cL_areChoices 192 = .ok (.ifCond .eq 56, 3) := by decide +kernel
theorem dL_areChoices_195 : decode cL_areChoices 195 = .ok (.iload 11, 2) := by decide +kernel
theorem dL_areChoices_197 : decode cL_areChoices 197 = .ok (.ifCond .eq 51, 3) := by decide +kernel
theorem dL_areChoices_200 : decode cL_areChoices 200 = .ok (.aload 6, 2) := by decide +kernel
theorem dL_areChoices_202 : decode cL_areChoices 202 = .ok (.iload 8, 2) := by decide +kernel
theorem dL_areChoices_204 : decode cL_areChoices 204 = .ok (.iconst 1, 1) := by decide +kernel
theorem dL_areChoices_205 : decode cL_areChoices 205 = .ok (.iload 12, 2) := by decide +kernel
theorem dL_areChoices_207 : decode cL_areChoices 207 = .ok (.ishl, 1) := by decide +kernel
theorem dL_areChoices_208 : decode cL_areChoices 208 = .ok (.iastore, 1) := by decide +kernel
theorem dL_areChoices_209 : decode cL_areChoices 209 = .ok (.aload 4, 2) := by decide +kernel
theorem dL_areChoices_211 : decode cL_areChoices 211 = .ok (.iload 8, 2) := by decide +kernel
theorem dL_areChoices_213 : decode cL_areChoices 213 = .ok (.iaload, 1) := by decide +kernel
theorem dL_areChoices_214 : decode cL_areChoices 214 = .ok (.iload 12, 2) := by decide +kernel
theorem dL_areChoices_216 : decode cL_areChoices 216 = .ok (.ishr, 1) := by decide +kernel
theorem dL_areChoices_217 : decode cL_areChoices 217 = .ok (.iconst 1, 1) := by decide +kernel
theorem dL_areChoices_218 : decode cL_areChoices 218 = .ok (.iand, 1) := by decide +kernel
theorem dL_areChoices_219 : decode cL_areChoices 219 = .ok (.ifCond .eq 16, 3) := by decide +kernel
theorem dL_areChoices_222 : decode cL_areChoices 222 = .ok (.aload_n 1, 1) := by decide +kernel
theorem dL_areChoices_223 : decode cL_areChoices 223 = .ok (.aload_n 2, 1) := by decide +kernel
theorem dL_areChoices_224 : decode cL_areChoices 224 = .ok (.aload_n 3, 1) := by decide +kernel
theorem dL_areChoices_225 : decode cL_areChoices 225 = .ok (.aload 6, 2) := by decide +kernel
theorem dL_areChoices_227 : decode cL_areChoices 227 = .ok (.invokestatic 66, 3) := by decide +kernel
theorem dL_areChoices_230 : decode cL_areChoices 230 = .ok (.iload 5, 2) := by decide +kernel
theorem dL_areChoices_232 : decode cL_areChoices 232 = .ok (.if_icmp .eq 7, 3) := by decide +kernel
theorem dL_areChoices_235 : decode cL_areChoices 235 = .ok (.iconst 1, 1) := by decide +kernel
theorem dL_areChoices_236 : decode cL_areChoices 236 = .ok (.goto 4, 3) := by decide +kernel
theorem dL_areChoices_239 : decode cL_areChoices 239 = .ok (.iconst 0, 1) := by decide +kernel
theorem dL_areChoices_240 : decode cL_areChoices 240 = .ok (.istore 7, 2) := by decide +kernel
theorem dL_areChoices_242 : decode cL_areChoices 242 = .ok (.iinc 12 1, 3) := by decide +kernel
theorem dL_areChoices_245 : decode cL_areChoices 245 = .ok (.goto (-62), 3) := by decide +kernel
theorem dL_areChoices_248 : decode cL_areChoices 248 = .ok (.aload 6, 2) := by decide +kernel
theorem dL_areChoices_250 : decode cL_areChoices 250 = .ok (.iload 8, 2) := by decide +kernel
theorem dL_areChoices_252 : decode cL_areChoices 252 = .ok (.iload 7, 2) := by decide +kernel
theorem dL_areChoices_254 : decode cL_areChoices 254 = .ok (.ifCond .eq 15, 3) := by decide +kernel
theorem dL_areChoices_257 : decode cL_areChoices 257 = .ok (.iload 11, 2) := by decide +kernel
theorem dL_areChoices_259 : decode cL_areChoices 259 = .ok (.ifCond .eq 10, 3) := by decide +kernel
theorem dL_areChoices_262 : decode cL_areChoices 262 = .ok (.iconst 1, 1) := by decide +kernel
theorem dL_areChoices_263 : decode cL_areChoices 263 = .ok (.iload 9, 2) := by decide +kernel
theorem dL_areChoices_265 : decode cL_areChoices 265 = .ok (.ishl, 1) := by decide +kernel
theorem dL_areChoices_266 : decode cL_areChoices 266 = .ok (.goto 8, 3) := by decide +kernel
theorem dL_areChoices_269 : decode cL_areChoices 269 = .ok (.aload 4, 2) := by decide +kernel
theorem dL_areChoices_271 : decode cL_areChoices 271 = .ok (.iload 8, 2) := by decide +kernel
theorem dL_areChoices_273 : decode cL_areChoices 273 = .ok (.iaload, 1) := by decide +kernel
theorem dL_areChoices_274 : decode cL_areChoices 274 = .ok (.iastore, 1) := by decide +kernel
theorem dL_areChoices_275 : decode cL_areChoices 275 = .ok (.iload 7, 2) := by decide +kernel
theorem dL_areChoices_277 : decode cL_areChoices 277 = .ok (.ifCond .eq 25, 3) := by decide +kernel
theorem dL_areChoices_280 : decode cL_areChoices 280 = .ok (.iload 11, 2) := by decide +kernel
theorem dL_areChoices_282 : decode cL_areChoices 282 = .ok (.ifCond .eq 16, 3) := by decide +kernel
theorem dL_areChoices_285 : decode cL_areChoices 285 = .ok (.aload_n 1, 1) := by decide +kernel
theorem dL_areChoices_286 : decode cL_areChoices 286 = .ok (.aload_n 2, 1) := by decide +kernel
theorem dL_areChoices_287 : decode cL_areChoices 287 = .ok (.aload_n 3, 1) := by decide +kernel
theorem dL_areChoices_288 : decode cL_areChoices 288 = .ok (.aload 6, 2) := by decide +kernel
theorem dL_areChoices_290 : decode cL_areChoices 290 = .ok (.invokestatic 66, 3) := by decide +kernel
theorem dL_areChoices_293 : decode cL_areChoices 293 = .ok (.iload 5, 2) := by decide +kernel
theorem dL_areChoices_295 : decode cL_areChoices 295 = .ok (.if_icmp .ne 7, 3) := by decide +kernel
theorem dL_areChoices_298 : decode cL_areChoices 298 = .ok (.iconst 1, 1) := by decide +kernel
theorem dL_areChoices_299 : decode cL_areChoices 299 = .ok (.goto 4, 3) := by decide +kernel
theorem dL_areChoices_302 : decode cL_areChoices 302 = .ok (.iconst 0, 1) := by decide +kernel
theorem dL_areChoices_303 : decode cL_areChoices 303 = .ok (.istore 7, 2) := by decide +kernel
theorem dL_areChoices_305 : decode cL_areChoices 305 = .ok (.iinc 8 1, 3) := by decide +kernel
theorem dL_areChoices_308 : decode cL_areChoices 308 = .ok (.goto (-269), 3) := by decide +kernel
theorem dL_areChoices_311 : decode cL_areChoices 311 = .ok (.iload 7, 2) := by decide +kernel
theorem dL_areChoices_313 : decode cL_areChoices 313 = .ok (.ireturn, 1) := by decide +kernel
theorem dL_isSo_0 : decode cL_isSo 0 = .ok (.aload_n 1, 1) := by decide +kernel
theorem dL_isSo_1 : decode cL_isSo 1 = .ok (.aload_n 2, 1) := by decide +kernel
theorem dL_isSo_2 : decode cL_isSo 2 = .ok (.aload_n 3, 1) := by decide +kernel
theorem dL_isSo_3 : decode cL_isSo 3 = .ok (.aload 4, 2) := by decide +kernel
theorem dL_isSo_5 : decode cL_isSo 5 = .ok (.invokestatic 66, 3) := by decide +kernel
theorem dL_isSo_8 : decode cL_isSo 8 = .ok (.istore 6, 2) := by decide +kernel
theorem dL_isSo_10 : decode cL_isSo 10 = .ok (.iconst 0, 1) := by decide +kernel
theorem dL_isSo_11 : decode cL_isSo 11 = .ok (.istore 7, 2) := by decide +kernel
theorem dL_isSo_13 : decode cL_isSo 13 = .ok (.iconst 0, 1) := by decide +kernel
theorem dL_isSo_14 : decode cL_isSo 14 = .ok (.istore 8, 2) := by decide +kernel
theorem dL_isSo_16 : decode cL_isSo 16 = .ok (.bipush (-4), 2) := by decide +kernel
theorem dL_isSo_18 : decode cL_isSo 18 = .ok (.istore 9, 2) := by decide +kernel
theorem dL_isSo_20 : decode cL_isSo 20 = .ok (.iconst 1, 1) := by decide +kernel
theorem dL_isSo_21 : decode cL_isSo 21 = .ok (.istore 10, 2) := by decide +kernel
theorem dL_isSo_23 : decode cL_isSo 23 = .ok (.iconst 0, 1) := by decide +kernel
theorem dL_isSo_24 : decode cL_isSo 24 = .ok (.istore 11, 2) := by decide +kernel
theorem dL_isSo_26 : decode cL_isSo 26 = .ok (.iload 11, 2) := by decide +kernel
theorem dL_isSo_28 : decode cL_isSo 28 = .ok (.aload_n 1, 1) := by decide +kernel
theorem dL_isSo_29 : decode cL_isSo 29 = .ok (.iconst 0, 1) := by decide +kernel
theorem dL_isSo_30 : decode cL_isSo 30 = .ok (.iaload, 1) := by decide +kernel
theorem dL_isSo_31 : decode cL_isSo 31 = .ok (.if_icmp .ge 199, 3) := by decide +kernel
theorem dL_isSo_34 : decode cL_isSo 34 = .ok (.iload 10, 2) := by decide +kernel
theorem dL_isSo_36 : decode cL_isSo 36 = .ok (.ifCond .eq 194, 3) := by decide +kernel
theorem dL_isSo_39 : decode cL_isSo 39 = .ok (.iconst 0, 1) := by decide +kernel
theorem dL_isSo_40 : decode cL_isSo 40 = .ok (.istore 12, 2) := by decide +kernel
theorem dL_isSo_42 : decode cL_isSo 42 = .ok (.iconst 0, 1) := by decide +kernel
theorem dL_isSo_43 : decode cL_isSo 43 = .ok (.istore 13, 2) := by decide +kernel
theorem dL_isSo_45 : decode cL_isSo 45 = .ok (.iload 13, 2) := by decide +kernel
theorem dL_isSo_47 : decode cL_isSo 47 = .ok (.aload_n 1, 1) := by decide +kernel
theorem dL_isSo_48 : decode cL_isSo 48 = .ok (.iconst 0, 1) := by decide +kernel
theorem dL_isSo_49 : decode cL_isSo 49 = .ok (.iaload, 1) := by decide +kernel
theorem dL_isSo_50 : decode cL_isSo 50 = .ok (.if_icmp .ge 27, 3) := by decide +kernel
theorem dL_isSo_53 : decode cL_isSo 53 = .ok (.iload 12, 2) := by decide +kernel
theorem dL_isSo_55 : decode cL_isSo 55 = .ok (.aload 4, 2) := by decide +kernel
theorem dL_isSo_57 : decode cL_isSo 57 = .ok (.iload 13, 2) := by decide +kernel
theorem dL_isSo_59 : decode cL_isSo 59 = .ok (.iaload, 1) := by decide +kernel
theorem dL_isSo_60 : decode cL_isSo 60 = .ok (.iload 11, 2) := by decide +kernel
theorem dL_isSo_62 : decode cL_isSo 62 = .ok (.ishr, 1) := by decide +kernel
theorem dL_isSo_63 : decode cL_isSo 63 = .ok (.iconst 1, 1) := by decide +kernel
theorem dL_isSo_64 : decode cL_isSo 64 = .ok (.iand, 1) := by decide +kernel
theorem dL_isSo_65 : decode cL_isSo 65 = .ok (.iload 13, 2) := by decide +kernel
theorem dL_isSo_67 : decode cL_isSo 67 = .ok (.ishl, 1) := by decide +kernel
theorem dL_isSo_68 : decode cL_isSo 68 = .ok (.ior, 1) := by decide +kernel
theorem dL_isSo_69 : decode cL_isSo 69 = .ok (.istore 12, 2) := by decide +kernel
theorem dL_isSo_71 : decode cL_isSo 71 = .ok (.iinc 13 1, 3) := by decide +kernel
theorem dL_isSo_74 : decode cL_isSo 74 = .ok (.goto (-29), 3) := by decide +kernel
theorem dL_isSo_77 : decode cL_isSo 77 = .ok (.iload 7, 2) := by decide +kernel
theorem dL_isSo_79 : decode cL_isSo 79 = .ok (.aload 4, 2) := by decide +kernel
theorem dL_isSo_81 : decode cL_isSo 81 = .ok (.iload 11, 2) := by decide +kernel
theorem dL_isSo_83 : decode cL_isSo 83 = .ok (.iaload, 1) := by decide +kernel
theorem dL_isSo_84 : decode cL_isSo 84 = .ok (.invokestatic 33, 3) := by decide +kernel
theorem dL_isSo_87 : decode cL_isSo 87 = .ok (.iadd, 1) := by decide +kernel
theorem dL_isSo_88 : decode cL_isSo 88 = .ok (.istore 7, 2) := by decide +kernel
theorem dL_isSo_90 : decode cL_isSo 90 = .ok (.iload 8, 2) := by decide +kernel
theorem dL_isSo_92 : decode cL_isSo 92 = .ok (.aload 4, 2) := by decide +kernel
theorem dL_isSo_94 : decode cL_isSo 94 = .ok (.iload 11, 2) := by decide +kernel
theorem dL_isSo_96 : decode cL_isSo 96 = .ok (.iaload, 1) := by decide +kernel
theorem dL_isSo_97 : decode cL_isSo 97 = .ok (.ifCond .ne 10, 3) := by decide +kernel
theorem dL_isSo_100 : decode cL_isSo 100 = .ok (.iconst 1, 1) := by decide +kernel
theorem dL_isSo_101 : decode cL_isSo 101 = .ok (.iload 11, 2) := by decide +kernel
theorem dL_isSo_103 : decode cL_isSo 103 = .ok (.ishl, 1) := by decide +kernel
theorem dL_isSo_104 : decode cL_isSo 104 = .ok (.goto 4, 3) := by decide +kernel
theorem dL_isSo_107 : decode cL_isSo 107 = .ok (.iconst 0, 1) := by decide +kernel
theorem dL_isSo_108 : decode cL_isSo 108 = .ok (.ior, 1) := by decide +kernel
theorem dL_isSo_109 : decode cL_isSo 109 = .ok (.istore 8, 2) := by decide +kernel
theorem dL_isSo_111 : decode cL_isSo 111 = .ok (.aload_n 3, 1) := by decide +kernel
theorem dL_isSo_112 : decode cL_isSo 112 = .ok (.iload 11, 2) := by decide +kernel
theorem dL_isSo_114 : decode cL_isSo 114 = .ok (.iaload, 1) := by decide +kernel
theorem dL_isSo_115 : decode cL_isSo 115 = .ok (.iload 9, 2) := by decide +kernel
theorem dL_isSo_117 : decode cL_isSo 117 = .ok (.if_icmp .le 10, 3) := by decide +kernel
theorem dL_isSo_120 : decode cL_isSo 120 = .ok (.aload_n 3, 1) := by decide +kernel
theorem dL_isSo_121 : decode cL_isSo 121 = .ok (.iload 11, 2) := by decide +kernel
theorem dL_isSo_123 : decode cL_isSo 123 = .ok (.iaload, 1) := by decide +kernel
theorem dL_isSo_124 : decode cL_isSo 124 = .ok (.goto 5, 3) := by decide +kernel
theorem dL_isSo_127 : decode cL_isSo 127 = .ok (.iload 9, 2) := by decide +kernel
theorem dL_isSo_129 : decode cL_isSo 129 = .ok (.istore 9, 2) := by decide +kernel
theorem dL_isSo_131 : decode cL_isSo 131 = .ok (.aload_n 0, 1) := by decide +kernel
theorem dL_isSo_132 : decode cL_isSo 132 = .ok (.iload 11, 2) := by decide +kernel
theorem dL_isSo_134 : decode cL_isSo 134 = .ok (.iconst 0, 1) := by decide +kernel
theorem dL_isSo_135 : decode cL_isSo 135 = .ok (.invokevirtual 63, 3) := by decide +kernel
theorem dL_isSo_138 : decode cL_isSo 138 = .ok (.aload_n 2, 1) := by decide +kernel
theorem dL_isSo_139 : decode cL_isSo 139 = .ok (.iload 11, 2) := by decide +kernel
theorem dL_isSo_141 : decode cL_isSo 141 = .ok (.iaload, 1) := by decide +kernel
theorem dL_isSo_142 : decode cL_isSo 142 = .ok (.if_icmp .ne 79, 3) := by decide +kernel
theorem dL_isSo_145 : decode cL_isSo 145 = .ok (.aload_n 0, 1) := by decide +kernel
theorem dL_isSo_146 : decode cL_isSo 146 = .ok (.iload 11, 2) := by decide +kernel
theorem dL_isSo_148 : decode cL_isSo 148 = .ok (.iconst 1, 1) := by decide +kernel
theorem dL_isSo_149 : decode cL_isSo 149 = .ok (.invokevirtual 63, 3) := by decide +kernel
theorem dL_isSo_152 : decode cL_isSo 152 = .ok (.aload_n 3, 1) := by decide +kernel
theorem dL_isSo_153 : decode cL_isSo 153 = .ok (.iload 11, 2) := by decide +kernel
theorem dL_isSo_155 : decode cL_isSo 155 = .ok (.iaload, 1) := by decide +kernel
theorem dL_isSo_156 : decode cL_isSo 156 = .ok (.if_icmp .ne 65, 3) := by decide +kernel
theorem dL_isSo_159 : decode cL_isSo 159 = .ok (.aload_n 0, 1) := by decide +kernel
theorem dL_isSo_160 : decode cL_isSo 160 = .ok (.iload 11, 2) := by decide +kernel
theorem dL_isSo_162 : decode cL_isSo 162 = .ok (.iconst 2, 1) := by decide +kernel
theorem dL_isSo_163 : decode cL_isSo 163 = .ok (.invokevirtual 63, 3) := by decide +kernel
theorem dL_isSo_166 : decode cL_isSo 166 = .ok (.aload 4, 2) := by decide +kernel
theorem dL_isSo_168 : decode cL_isSo 168 = .ok (.iload 11, 2) := by decide +kernel
theorem dL_isSo_170 : decode cL_isSo 170 = .ok (.iaload, 1) := by decide +kernel
theorem dL_isSo_171 : decode cL_isSo 171 = .ok (.if_icmp .ne 50, 3) := by decide +kernel
theorem dL_isSo_174 : decode cL_isSo 174 = .ok (.aload_n 0, 1) := by decide +kernel
theorem dL_isSo_175 : decode cL_isSo 175 = .ok (.iload 11, 2) := by decide +kernel
theorem dL_isSo_177 : decode cL_isSo 177 = .ok (.iconst 3, 1) := by decide +kernel
theorem dL_isSo_178 : decode cL_isSo 178 = .ok (.invokevirtual 63, 3) := by decide +kernel
theorem dL_isSo_181 : decode cL_isSo 181 = .ok (.iload 12, 2) := by decide +kernel
theorem dL_isSo_183 : decode cL_isSo 183 = .ok (.if_icmp .ne 38, 3) := by decide +kernel
theorem dL_isSo_186 : decode cL_isSo 186 = .ok (.aload_n 0, 1) := by decide +kernel
theorem dL_isSo_187 : decode cL_isSo 187 = .ok (.iload 11, 2) := by decide +kernel
theorem dL_isSo_189 : decode cL_isSo 189 = .ok (.iconst 4, 1) := by decide +kernel
theorem dL_isSo_190 : decode cL_isSo 190 = .ok (.invokevirtual 63, 3) := by decide +kernel
theorem dL_isSo_193 : decode cL_isSo 193 = .ok (.iconst 1, 1) := by decide +kernel
theorem dL_isSo_194 : decode cL_isSo 194 = .ok (.iload 6, 2) := by decide +kernel
theorem dL_isSo_196 : decode cL_isSo 196 = .ok (.iload 11, 2) := by decide +kernel
theorem dL_isSo_198 : decode cL_isSo 198 = .ok (.ishr, 1) := by decide +kernel
theorem dL_isSo_199 : decode cL_isSo 199 = .ok (.iconst 1, 1) := by decide +kernel
theorem dL_isSo_200 : decode cL_isSo 200 = .ok (.iand, 1) := by decide +kernel
theorem dL_isSo_201 : decode cL_isSo 201 = .ok (.isub, 1) := by decide +kernel
theorem dL_isSo_202 : decode cL_isSo 202 = .ok (.if_icmp .ne 19, 3) := by decide +kernel
theorem dL_isSo_205 : decode cL_isSo 205 = .ok (.aload_n 0, 1) := by decide +kernel
theorem dL_isSo_206 : decode cL_isSo 206 = .ok (.iload 11, 2) := by decide +kernel
theorem dL_isSo_208 : decode cL_isSo 208 = .ok (.bipush 6, 2) := by decide +kernel
theorem dL_isSo_210 : decode cL_isSo 210 = .ok (.invokevirtual 63, 3) := by decide +kernel
theorem dL_isSo_213 : decode cL_isSo 213 = .ok (.iconst (-1), 1) := by decide +kernel
theorem dL_isSo_214 : decode cL_isSo 214 = .ok (.if_icmp .ne 7, 3) := by decide +kernel
theorem dL_isSo_217 : decode cL_isSo 217 = .ok (.iconst 1, 1) := by decide +kernel
theorem dL_isSo_218 : decode cL_isSo 218 = .ok (.goto 4, 3) := by decide +kernel
theorem dL_isSo_221 : decode cL_isSo 221 = .ok (.iconst 0, 1) := by decide +kernel
theorem dL_isSo_222 : decode cL_isSo 222 = .ok (.istore 10, 2) := by decide +kernel
theorem dL_isSo_224 : decode cL_isSo 224 = .ok (.iinc 11 1, 3) := by decide +kernel
theorem dL_isSo_227 : decode cL_isSo 227 = .ok (.goto (-201), 3) := by decide +kernel
theorem dL_isSo_230 : decode cL_isSo 230 = .ok (.iload 10, 2) := by decide +kernel
theorem dL_isSo_232 : decode cL_isSo 232 = .ok (.ifCond .eq 113, 3) := by decide +kernel
theorem dL_isSo_235 : decode cL_isSo 235 = .ok (.aload_n 0, 1) := by decide +kernel
theorem dL_isSo_236 : decode cL_isSo 236 = .ok (.iconst 0, 1) := by decide +kernel
theorem dL_isSo_237 : decode cL_isSo 237 = .ok (.invokevirtual 70, 3) := by decide +kernel
theorem dL_isSo_240 : decode cL_isSo 240 = .ok (.aload_n 1, 1) := by decide +kernel
theorem dL_isSo_241 : decode cL_isSo 241 = .ok (.iconst 0, 1) := by decide +kernel
theorem dL_isSo_242 : decode cL_isSo 242 = .ok (.iaload, 1) := by decide +kernel
theorem dL_isSo_243 : decode cL_isSo 243 = .ok (.if_icmp .ne 102, 3) := by decide +kernel
theorem dL_isSo_246 : decode cL_isSo 246 = .ok (.aload_n 0, 1) := by decide +kernel
theorem dL_isSo_247 : decode cL_isSo 247 = .ok (.iconst 1, 1) := by decide +kernel
theorem dL_isSo_248 : decode cL_isSo 248 = .ok (.invokevirtual 70, 3) := by decide +kernel
theorem dL_isSo_251 : decode cL_isSo 251 = .ok (.iload 7, 2) := by decide +kernel
theorem dL_isSo_253 : decode cL_isSo 253 = .ok (.if_icmp .ne 92, 3) := by decide +kernel
theorem dL_isSo_256 : decode cL_isSo 256 = .ok (.aload_n 0, 1) := by decide +kernel
theorem dL_isSo_257 : decode cL_isSo 257 = .ok (.iconst 2, 1) := by decide +kernel
theorem dL_isSo_258 : decode cL_isSo 258 = .ok (.invokevirtual 70, 3) := by decide +kernel
theorem dL_isSo_261 : decode cL_isSo 261 = .ok (.iload 6, 2) := by decide +kernel
theorem dL_isSo_263 : decode cL_isSo 263 = .ok (.if_icmp .ne 82, 3) := by decide +kernel
theorem dL_isSo_266 : decode cL_isSo 266 = .ok (.aload_n 0, 1) := by decide +kernel
theorem dL_isSo_267 : decode cL_isSo 267 = .ok (.iconst 3, 1) := by decide +kernel
theorem dL_isSo_268 : decode cL_isSo 268 = .ok (.invokevirtual 70, 3) := by decide +kernel
theorem dL_isSo_271 : decode cL_isSo 271 = .ok (.aload_n 1, 1) := by decide +kernel
theorem dL_isSo_272 : decode cL_isSo 272 = .ok (.invokestatic 9, 3) := by decide +kernel
theorem dL_isSo_275 : decode cL_isSo 275 = .ok (.iload 6, 2) := by decide +kernel
theorem dL_isSo_277 : decode cL_isSo 277 = .ok (.isub, 1) := by decide +kernel
theorem dL_isSo_278 : decode cL_isSo 278 = .ok (.if_icmp .ne 67, 3) := by decide +kernel
theorem dL_isSo_281 : decode cL_isSo 281 = .ok (.aload_n 0, 1) := by decide +kernel
theorem dL_isSo_282 : decode cL_isSo 282 = .ok (.iconst 4, 1) := by decide +kernel
theorem dL_isSo_283 : decode cL_isSo 283 = .ok (.invokevirtual 70, 3) := by decide +kernel
theorem dL_isSo_286 : decode cL_isSo 286 = .ok (.iload 8, 2) := by decide +kernel
theorem dL_isSo_288 : decode cL_isSo 288 = .ok (.if_icmp .ne 57, 3) := by decide +kernel
theorem dL_isSo_291 : decode cL_isSo 291 = .ok (.aload_n 0, 1) := by decide +kernel
theorem dL_isSo_292 : decode cL_isSo 292 = .ok (.iconst 5, 1) := by decide +kernel
theorem dL_isSo_293 : decode cL_isSo 293 = .ok (.invokevirtual 70, 3) := by decide +kernel
theorem dL_isSo_296 : decode cL_isSo 296 = .ok (.iload 9, 2) := by decide +kernel
theorem dL_isSo_298 : decode cL_isSo 298 = .ok (.if_icmp .ne 47, 3) := by decide +kernel
theorem dL_isSo_301 : decode cL_isSo 301 = .ok (.aload_n 0, 1) := by decide +kernel
theorem dL_isSo_302 : decode cL_isSo 302 = .ok (.bipush 7, 2) := by decide +kernel
theorem dL_isSo_304 : decode cL_isSo 304 = .ok (.invokevirtual 70, 3) := by decide +kernel
theorem dL_isSo_307 : decode cL_isSo 307 = .ok (.ifCond .ne 38, 3) := by decide +kernel
theorem dL_isSo_310 : decode cL_isSo 310 = .ok (.aload_n 0, 1) := by decide +kernel
theorem dL_isSo_311 : decode cL_isSo 311 = .ok (.aload_n 1, 1) := by decide +kernel
theorem dL_isSo_312 : decode cL_isSo 312 = .ok (.iconst 0, 1) := by decide +kernel
theorem dL_isSo_313 : decode cL_isSo 313 = .ok (.iaload, 1) := by decide +kernel
theorem dL_isSo_314 : decode cL_isSo 314 = .ok (.iconst 0, 1) := by decide +kernel
theorem dL_isSo_315 : decode cL_isSo 315 = .ok (.invokevirtual 63, 3) := by decide +kernel
theorem dL_isSo_318 : decode cL_isSo 318 = .ok (.iconst (-1), 1) := by decide +kernel
theorem dL_isSo_319 : decode cL_isSo 319 = .ok (.if_icmp .ne 26, 3) := by decide +kernel
theorem dL_isSo_322 : decode cL_isSo 322 = .ok (.iload 5, 2) := by decide +kernel
theorem dL_isSo_324 : decode cL_isSo 324 = .ok (.ifCond .eq 17, 3) := by decide +kernel
theorem dL_isSo_327 : decode cL_isSo 327 = .ok (.aload_n 0, 1) := by decide +kernel
theorem dL_isSo_328 : decode cL_isSo 328 = .ok (.aload_n 1, 1) := by decide +kernel
theorem dL_isSo_329 : decode cL_isSo 329 = .ok (.aload_n 2, 1) := by decide +kernel
theorem dL_isSo_330 : decode cL_isSo 330 = .ok (.aload_n 3, 1) := by decide +kernel
theorem dL_isSo_331 : decode cL_isSo 331 = .ok (.aload 4, 2) := by decide +kernel
theorem dL_isSo_333 : decode cL_isSo 333 = .ok (.iload 6, 2) := by decide +kernel
theorem dL_isSo_335 : decode cL_isSo 335 = .ok (.invokestatic 73, 3) := by decide +kernel
theorem dL_isSo_338 : decode cL_isSo 338 = .ok (.ifCond .eq 7, 3) := by decide +kernel
theorem dL_isSo_341 : decode cL_isSo 341 = .ok (.iconst 1, 1) := by decide +kernel
theorem dL_isSo_342 : decode cL_isSo 342 = .ok (.goto 4, 3) := by decide +kernel
theorem dL_isSo_345 : decode cL_isSo 345 = .ok (.iconst 0, 1) := by decide +kernel
theorem dL_isSo_346 : decode cL_isSo 346 = .ok (.ireturn, 1) := by decide +kernel
theorem dL_law_0 : decode cL_law 0 = .ok (.new 25, 3) := by decide +kernel
theorem dL_law_3 : decode cL_law 3 = .ok (.dup, 1) := by decide +kernel
theorem dL_law_4 : decode cL_law 4 = .ok (.invokespecial 76, 3) := by decide +kernel
theorem dL_law_7 : decode cL_law 7 = .ok (.astore_n 1, 1) := by decide +kernel
theorem dL_law_8 : decode cL_law 8 = .ok (.iconst 1, 1) := by decide +kernel
theorem dL_law_9 : decode cL_law 9 = .ok (.newarray .int, 2) := by decide +kernel
theorem dL_law_11 : decode cL_law 11 = .ok (.astore_n 2, 1) := by decide +kernel
theorem dL_law_12 : decode cL_law 12 = .ok (.bipush 12, 2) := by decide +kernel
theorem dL_law_14 : decode cL_law 14 = .ok (.newarray .int, 2) := by decide +kernel
theorem dL_law_16 : decode cL_law 16 = .ok (.astore_n 3, 1) := by decide +kernel
theorem dL_law_17 : decode cL_law 17 = .ok (.bipush 12, 2) := by decide +kernel
theorem dL_law_19 : decode cL_law 19 = .ok (.newarray .int, 2) := by decide +kernel
theorem dL_law_21 : decode cL_law 21 = .ok (.astore 4, 2) := by decide +kernel
theorem dL_law_23 : decode cL_law 23 = .ok (.bipush 12, 2) := by decide +kernel
theorem dL_law_25 : decode cL_law 25 = .ok (.newarray .int, 2) := by decide +kernel
theorem dL_law_27 : decode cL_law 27 = .ok (.astore 5, 2) := by decide +kernel
theorem dL_law_29 : decode cL_law 29 = .ok (.aload_n 1, 1) := by decide +kernel
theorem dL_law_30 : decode cL_law 30 = .ok (.iconst 0, 1) := by decide +kernel
theorem dL_law_31 : decode cL_law 31 = .ok (.invokevirtual 70, 3) := by decide +kernel
theorem dL_law_34 : decode cL_law 34 = .ok (.ifCond .ne 7, 3) := by decide +kernel
theorem dL_law_37 : decode cL_law 37 = .ok (.iconst 1, 1) := by decide +kernel
theorem dL_law_38 : decode cL_law 38 = .ok (.goto 4, 3) := by decide +kernel
theorem dL_law_41 : decode cL_law 41 = .ok (.iconst 0, 1) := by decide +kernel
theorem dL_law_42 : decode cL_law 42 = .ok (.istore 6, 2) := by decide +kernel
theorem dL_law_44 : decode cL_law 44 = .ok (.iconst 0, 1) := by decide +kernel
theorem dL_law_45 : decode cL_law 45 = .ok (.istore 7, 2) := by decide +kernel
theorem dL_law_47 : decode cL_law 47 = .ok (.iload 7, 2) := by decide +kernel
theorem dL_law_49 : decode cL_law 49 = .ok (.bipush 9, 2) := by decide +kernel
theorem dL_law_51 : decode cL_law 51 = .ok (.if_icmp .ge 68, 3) := by decide +kernel
theorem dL_law_54 : decode cL_law 54 = .ok (.iload 6, 2) := by decide +kernel
theorem dL_law_56 : decode cL_law 56 = .ok (.ifCond .eq 63, 3) := by decide +kernel
theorem dL_law_59 : decode cL_law 59 = .ok (.aload_n 1, 1) := by decide +kernel
theorem dL_law_60 : decode cL_law 60 = .ok (.aload_n 2, 1) := by decide +kernel
theorem dL_law_61 : decode cL_law 61 = .ok (.aload_n 3, 1) := by decide +kernel
theorem dL_law_62 : decode cL_law 62 = .ok (.aload 4, 2) := by decide +kernel
theorem dL_law_64 : decode cL_law 64 = .ok (.aload 5, 2) := by decide +kernel
theorem dL_law_66 : decode cL_law 66 = .ok (.aload_n 0, 1) := by decide +kernel
theorem dL_law_67 : decode cL_law 67 = .ok (.iconst 1, 1) := by decide +kernel
theorem dL_law_68 : decode cL_law 68 = .ok (.iload 7, 2) := by decide +kernel
theorem dL_law_70 : decode cL_law 70 = .ok (.iadd, 1) := by decide +kernel
theorem dL_law_71 : decode cL_law 71 = .ok (.invokestatic 77, 3) := by decide +kernel
theorem dL_law_74 : decode cL_law 74 = .ok (.ldc 8, 2) := by decide +kernel
theorem dL_law_76 : decode cL_law 76 = .ok (.iand, 1) := by decide +kernel
theorem dL_law_77 : decode cL_law 77 = .ok (.sipush 640, 3) := by decide +kernel
theorem dL_law_80 : decode cL_law 80 = .ok (.idiv, 1) := by decide +kernel
theorem dL_law_81 : decode cL_law 81 = .ok (.sipush 640, 3) := by decide +kernel
theorem dL_law_84 : decode cL_law 84 = .ok (.imul, 1) := by decide +kernel
theorem dL_law_85 : decode cL_law 85 = .ok (.iload 7, 2) := by decide +kernel
theorem dL_law_87 : decode cL_law 87 = .ok (.iconst 3, 1) := by decide +kernel
theorem dL_law_88 : decode cL_law 88 = .ok (.if_icmp .ge 7, 3) := by decide +kernel
theorem dL_law_91 : decode cL_law 91 = .ok (.iconst 0, 1) := by decide +kernel
theorem dL_law_92 : decode cL_law 92 = .ok (.goto 15, 3) := by decide +kernel
theorem dL_law_95 : decode cL_law 95 = .ok (.iload 7, 2) := by decide +kernel
theorem dL_law_97 : decode cL_law 97 = .ok (.iconst 3, 1) := by decide +kernel
theorem dL_law_98 : decode cL_law 98 = .ok (.if_icmp .ne 8, 3) := by decide +kernel
theorem dL_law_101 : decode cL_law 101 = .ok (.bipush 19, 2) := by decide +kernel
theorem dL_law_103 : decode cL_law 103 = .ok (.goto 4, 3) := by decide +kernel
theorem dL_law_106 : decode cL_law 106 = .ok (.iconst 5, 1) := by decide +kernel
theorem dL_law_107 : decode cL_law 107 = .ok (.iadd, 1) := by decide +kernel
theorem dL_law_108 : decode cL_law 108 = .ok (.invokestatic 81, 3) := by decide +kernel
theorem dL_law_111 : decode cL_law 111 = .ok (.istore 6, 2) := by decide +kernel
theorem dL_law_113 : decode cL_law 113 = .ok (.iinc 7 1, 3) := by decide +kernel
theorem dL_law_116 : decode cL_law 116 = .ok (.goto (-69), 3) := by decide +kernel
theorem dL_law_119 : decode cL_law 119 = .ok (.iload 6, 2) := by decide +kernel
theorem dL_law_121 : decode cL_law 121 = .ok (.ifCond .eq 21, 3) := by decide +kernel
theorem dL_law_124 : decode cL_law 124 = .ok (.aload_n 1, 1) := by decide +kernel
theorem dL_law_125 : decode cL_law 125 = .ok (.aload_n 2, 1) := by decide +kernel
theorem dL_law_126 : decode cL_law 126 = .ok (.aload_n 3, 1) := by decide +kernel
theorem dL_law_127 : decode cL_law 127 = .ok (.aload 4, 2) := by decide +kernel
theorem dL_law_129 : decode cL_law 129 = .ok (.aload 5, 2) := by decide +kernel
theorem dL_law_131 : decode cL_law 131 = .ok (.iconst 1, 1) := by decide +kernel
theorem dL_law_132 : decode cL_law 132 = .ok (.invokestatic 84, 3) := by decide +kernel
theorem dL_law_135 : decode cL_law 135 = .ok (.ifCond .eq 7, 3) := by decide +kernel
theorem dL_law_138 : decode cL_law 138 = .ok (.iconst 1, 1) := by decide +kernel
theorem dL_law_139 : decode cL_law 139 = .ok (.goto 4, 3) := by decide +kernel
theorem dL_law_142 : decode cL_law 142 = .ok (.iconst 0, 1) := by decide +kernel
theorem dL_law_143 : decode cL_law 143 = .ok (.istore 6, 2) := by decide +kernel
theorem dL_law_145 : decode cL_law 145 = .ok (.bipush 8, 2) := by decide +kernel
theorem dL_law_147 : decode cL_law 147 = .ok (.aload_n 0, 1) := by decide +kernel
theorem dL_law_148 : decode cL_law 148 = .ok (.iconst 0, 1) := by decide +kernel
theorem dL_law_149 : decode cL_law 149 = .ok (.invokestatic 77, 3) := by decide +kernel
theorem dL_law_152 : decode cL_law 152 = .ok (.bipush 36, 2) := by decide +kernel
theorem dL_law_154 : decode cL_law 154 = .ok (.invokestatic 20, 3) := by decide +kernel
theorem dL_law_157 : decode cL_law 157 = .ok (.iadd, 1) := by decide +kernel
theorem dL_law_158 : decode cL_law 158 = .ok (.istore 7, 2) := by decide +kernel
theorem dL_law_160 : decode cL_law 160 = .ok (.iconst 0, 1) := by decide +kernel
theorem dL_law_161 : decode cL_law 161 = .ok (.istore 8, 2) := by decide +kernel
theorem dL_law_163 : decode cL_law 163 = .ok (.iload 8, 2) := by decide +kernel
theorem dL_law_165 : decode cL_law 165 = .ok (.iload 7, 2) := by decide +kernel
theorem dL_law_167 : decode cL_law 167 = .ok (.if_icmp .ge 76, 3) := by decide +kernel
theorem dL_law_170 : decode cL_law 170 = .ok (.iload 6, 2) := by decide +kernel
theorem dL_law_172 : decode cL_law 172 = .ok (.ifCond .eq 71, 3) := by decide +kernel
theorem dL_law_175 : decode cL_law 175 = .ok (.aload_n 1, 1) := by decide +kernel
theorem dL_law_176 : decode cL_law 176 = .ok (.aload_n 2, 1) := by decide +kernel
theorem dL_law_177 : decode cL_law 177 = .ok (.aload_n 3, 1) := by decide +kernel
theorem dL_law_178 : decode cL_law 178 = .ok (.aload 4, 2) := by decide +kernel
theorem dL_law_180 : decode cL_law 180 = .ok (.aload 5, 2) := by decide +kernel
theorem dL_law_182 : decode cL_law 182 = .ok (.aload_n 0, 1) := by decide +kernel
theorem dL_law_183 : decode cL_law 183 = .ok (.bipush 10, 2) := by decide +kernel
theorem dL_law_185 : decode cL_law 185 = .ok (.iload 8, 2) := by decide +kernel
theorem dL_law_187 : decode cL_law 187 = .ok (.iadd, 1) := by decide +kernel
theorem dL_law_188 : decode cL_law 188 = .ok (.invokestatic 77, 3) := by decide +kernel
theorem dL_law_191 : decode cL_law 191 = .ok (.sipush 7919, 3) := by decide +kernel
theorem dL_law_194 : decode cL_law 194 = .ok (.iload 8, 2) := by decide +kernel
theorem dL_law_196 : decode cL_law 196 = .ok (.imul, 1) := by decide +kernel
theorem dL_law_197 : decode cL_law 197 = .ok (.ixor, 1) := by decide +kernel
theorem dL_law_198 : decode cL_law 198 = .ok (.invokestatic 81, 3) := by decide +kernel
theorem dL_law_201 : decode cL_law 201 = .ok (.ifCond .eq 33, 3) := by decide +kernel
theorem dL_law_204 : decode cL_law 204 = .ok (.aload_n 1, 1) := by decide +kernel
theorem dL_law_205 : decode cL_law 205 = .ok (.aload_n 2, 1) := by decide +kernel
theorem dL_law_206 : decode cL_law 206 = .ok (.aload_n 3, 1) := by decide +kernel
theorem dL_law_207 : decode cL_law 207 = .ok (.aload 4, 2) := by decide +kernel
theorem dL_law_209 : decode cL_law 209 = .ok (.aload 5, 2) := by decide +kernel
theorem dL_law_211 : decode cL_law 211 = .ok (.iload 8, 2) := by decide +kernel
theorem dL_law_213 : decode cL_law 213 = .ok (.iconst 4, 1) := by decide +kernel
theorem dL_law_214 : decode cL_law 214 = .ok (.irem, 1) := by decide +kernel
theorem dL_law_215 : decode cL_law 215 = .ok (.iconst 3, 1) := by decide +kernel
theorem dL_law_216 : decode cL_law 216 = .ok (.if_icmp .ne 7, 3) := by decide +kernel
theorem dL_law_219 : decode cL_law 219 = .ok (.iconst 1, 1) := by decide +kernel
theorem dL_law_220 : decode cL_law 220 = .ok (.goto 4, 3) := by decide +kernel
theorem dL_law_223 : decode cL_law 223 = .ok (.iconst 0, 1) := by decide +kernel
theorem dL_law_224 : decode cL_law 224 = .ok (.invokestatic 84, 3) := by decide +kernel
theorem dL_law_227 : decode cL_law 227 = .ok (.ifCond .eq 7, 3) := by decide +kernel
theorem dL_law_230 : decode cL_law 230 = .ok (.iconst 1, 1) := by decide +kernel
theorem dL_law_231 : decode cL_law 231 = .ok (.goto 4, 3) := by decide +kernel
theorem dL_law_234 : decode cL_law 234 = .ok (.iconst 0, 1) := by decide +kernel
theorem dL_law_235 : decode cL_law 235 = .ok (.istore 6, 2) := by decide +kernel
theorem dL_law_237 : decode cL_law 237 = .ok (.iinc 8 1, 3) := by decide +kernel
theorem dL_law_240 : decode cL_law 240 = .ok (.goto (-77), 3) := by decide +kernel
theorem dL_law_243 : decode cL_law 243 = .ok (.iload 6, 2) := by decide +kernel
theorem dL_law_245 : decode cL_law 245 = .ok (.ifCond .eq 27, 3) := by decide +kernel
theorem dL_law_248 : decode cL_law 248 = .ok (.aload_n 1, 1) := by decide +kernel
theorem dL_law_249 : decode cL_law 249 = .ok (.bipush 9, 2) := by decide +kernel
theorem dL_law_251 : decode cL_law 251 = .ok (.invokevirtual 70, 3) := by decide +kernel
theorem dL_law_254 : decode cL_law 254 = .ok (.iconst (-1), 1) := by decide +kernel
theorem dL_law_255 : decode cL_law 255 = .ok (.if_icmp .ne 17, 3) := by decide +kernel
theorem dL_law_258 : decode cL_law 258 = .ok (.aload_n 1, 1) := by decide +kernel
theorem dL_law_259 : decode cL_law 259 = .ok (.iconst (-1), 1) := by decide +kernel
theorem dL_law_260 : decode cL_law 260 = .ok (.iconst 0, 1) := by decide +kernel
theorem dL_law_261 : decode cL_law 261 = .ok (.invokevirtual 63, 3) := by decide +kernel
theorem dL_law_264 : decode cL_law 264 = .ok (.iconst (-1), 1) := by decide +kernel
theorem dL_law_265 : decode cL_law 265 = .ok (.if_icmp .ne 7, 3) := by decide +kernel
theorem dL_law_268 : decode cL_law 268 = .ok (.iconst 1, 1) := by decide +kernel
theorem dL_law_269 : decode cL_law 269 = .ok (.goto 4, 3) := by decide +kernel
theorem dL_law_272 : decode cL_law 272 = .ok (.iconst 0, 1) := by decide +kernel
theorem dL_law_273 : decode cL_law 273 = .ok (.ireturn, 1) := by decide +kernel
