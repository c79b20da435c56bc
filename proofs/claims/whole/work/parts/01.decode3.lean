/-! decode rows (by program: wip/whole/facts.py) -/
theorem d_M_readTable_3 : decode prog_14_method_30_code 3 = .ok (.aload_n 0, 1) := by decide +kernel
theorem d_M_readTable_4 : decode prog_14_method_30_code 4 = .ok (.getfield 7, 3) := by decide +kernel
theorem d_M_readTable_7 : decode prog_14_method_30_code 7 = .ok (.iconst 0, 1) := by decide +kernel
theorem d_M_readTable_8 : decode prog_14_method_30_code 8 = .ok (.iaload, 1) := by decide +kernel
theorem d_M_readTable_9 : decode prog_14_method_30_code 9 = .ok (.imul, 1) := by decide +kernel
theorem d_M_readTable_10 : decode prog_14_method_30_code 10 = .ok (.putfield 146, 3) := by decide +kernel
theorem d_M_readTable_13 : decode prog_14_method_30_code 13 = .ok (.iconst 0, 1) := by decide +kernel
theorem d_M_readTable_14 : decode prog_14_method_30_code 14 = .ok (.istore_n 1, 1) := by decide +kernel
theorem d_M_readTable_15 : decode prog_14_method_30_code 15 = .ok (.iload_n 1, 1) := by decide +kernel
theorem d_M_readTable_16 : decode prog_14_method_30_code 16 = .ok (.bipush 61, 2) := by decide +kernel
theorem d_M_readTable_18 : decode prog_14_method_30_code 18 = .ok (.if_icmp .ge 21, 3) := by decide +kernel
theorem d_M_readTable_21 : decode prog_14_method_30_code 21 = .ok (.aload_n 0, 1) := by decide +kernel
theorem d_M_readTable_22 : decode prog_14_method_30_code 22 = .ok (.getfield 23, 3) := by decide +kernel
theorem d_M_readTable_25 : decode prog_14_method_30_code 25 = .ok (.aload_n 0, 1) := by decide +kernel
theorem d_M_readTable_26 : decode prog_14_method_30_code 26 = .ok (.getfield 146, 3) := by decide +kernel
theorem d_M_readTable_29 : decode prog_14_method_30_code 29 = .ok (.iload_n 1, 1) := by decide +kernel
theorem d_M_readTable_30 : decode prog_14_method_30_code 30 = .ok (.iadd, 1) := by decide +kernel
theorem d_M_readTable_31 : decode prog_14_method_30_code 31 = .ok (.iconst 0, 1) := by decide +kernel
theorem d_M_readTable_32 : decode prog_14_method_30_code 32 = .ok (.iastore, 1) := by decide +kernel
theorem d_M_readTable_33 : decode prog_14_method_30_code 33 = .ok (.iinc 1 1, 3) := by decide +kernel
theorem d_M_readTable_36 : decode prog_14_method_30_code 36 = .ok (.goto (-21), 3) := by decide +kernel
theorem d_M_readTable_39 : decode prog_14_method_30_code 39 = .ok (.aload_n 0, 1) := by decide +kernel
theorem d_M_readTable_40 : decode prog_14_method_30_code 40 = .ok (.iconst 0, 1) := by decide +kernel
theorem d_M_readTable_41 : decode prog_14_method_30_code 41 = .ok (.putfield 83, 3) := by decide +kernel
theorem d_M_readTable_44 : decode prog_14_method_30_code 44 = .ok (.aload_n 0, 1) := by decide +kernel
theorem d_M_readTable_45 : decode prog_14_method_30_code 45 = .ok (.invokevirtual 139, 3) := by decide +kernel
theorem d_M_readTable_48 : decode prog_14_method_30_code 48 = .ok (.iconst 0, 1) := by decide +kernel
theorem d_M_readTable_49 : decode prog_14_method_30_code 49 = .ok (.istore_n 1, 1) := by decide +kernel
theorem d_M_readTable_50 : decode prog_14_method_30_code 50 = .ok (.aload_n 0, 1) := by decide +kernel
theorem d_M_readTable_51 : decode prog_14_method_30_code 51 = .ok (.getfield 93, 3) := by decide +kernel
theorem d_M_readTable_54 : decode prog_14_method_30_code 54 = .ok (.ifCond .eq 73, 3) := by decide +kernel
theorem d_M_readTable_57 : decode prog_14_method_30_code 57 = .ok (.aload_n 0, 1) := by decide +kernel
theorem d_M_readTable_58 : decode prog_14_method_30_code 58 = .ok (.invokevirtual 157, 3) := by decide +kernel
theorem d_M_readTable_61 : decode prog_14_method_30_code 61 = .ok (.istore_n 2, 1) := by decide +kernel
theorem d_M_readTable_62 : decode prog_14_method_30_code 62 = .ok (.iload_n 2, 1) := by decide +kernel
theorem d_M_readTable_63 : decode prog_14_method_30_code 63 = .ok (.ifCond .ge 5, 3) := by decide +kernel
theorem d_M_readTable_66 : decode prog_14_method_30_code 66 = .ok (.iconst 1, 1) := by decide +kernel
theorem d_M_readTable_67 : decode prog_14_method_30_code 67 = .ok (.ireturn, 1) := by decide +kernel
theorem d_M_readTable_68 : decode prog_14_method_30_code 68 = .ok (.iload_n 1, 1) := by decide +kernel
theorem d_M_readTable_69 : decode prog_14_method_30_code 69 = .ok (.bipush 24, 2) := by decide +kernel
theorem d_M_readTable_71 : decode prog_14_method_30_code 71 = .ok (.if_icmp .ne 6, 3) := by decide +kernel
theorem d_M_readTable_74 : decode prog_14_method_30_code 74 = .ok (.bipush 6, 2) := by decide +kernel
theorem d_M_readTable_76 : decode prog_14_method_30_code 76 = .ok (.ireturn, 1) := by decide +kernel
theorem d_M_readTable_77 : decode prog_14_method_30_code 77 = .ok (.iinc 1 1, 3) := by decide +kernel
theorem d_M_readTable_80 : decode prog_14_method_30_code 80 = .ok (.aload_n 0, 1) := by decide +kernel
theorem d_M_readTable_81 : decode prog_14_method_30_code 81 = .ok (.invokevirtual 139, 3) := by decide +kernel
theorem d_M_readTable_84 : decode prog_14_method_30_code 84 = .ok (.iload_n 2, 1) := by decide +kernel
theorem d_M_readTable_85 : decode prog_14_method_30_code 85 = .ok (.bipush 10, 2) := by decide +kernel
theorem d_M_readTable_87 : decode prog_14_method_30_code 87 = .ok (.if_icmp .ne 10, 3) := by decide +kernel
theorem d_M_readTable_90 : decode prog_14_method_30_code 90 = .ok (.aload_n 0, 1) := by decide +kernel
theorem d_M_readTable_91 : decode prog_14_method_30_code 91 = .ok (.invokevirtual 160, 3) := by decide +kernel
theorem d_M_readTable_94 : decode prog_14_method_30_code 94 = .ok (.goto 8, 3) := by decide +kernel
theorem d_M_readTable_97 : decode prog_14_method_30_code 97 = .ok (.aload_n 0, 1) := by decide +kernel
theorem d_M_readTable_98 : decode prog_14_method_30_code 98 = .ok (.iload_n 2, 1) := by decide +kernel
theorem d_M_readTable_99 : decode prog_14_method_30_code 99 = .ok (.invokevirtual 163, 3) := by decide +kernel
theorem d_M_readTable_102 : decode prog_14_method_30_code 102 = .ok (.istore_n 3, 1) := by decide +kernel
theorem d_M_readTable_103 : decode prog_14_method_30_code 103 = .ok (.iload_n 3, 1) := by decide +kernel
theorem d_M_readTable_104 : decode prog_14_method_30_code 104 = .ok (.ifCond .eq 5, 3) := by decide +kernel
theorem d_M_readTable_107 : decode prog_14_method_30_code 107 = .ok (.iload_n 3, 1) := by decide +kernel
theorem d_M_readTable_108 : decode prog_14_method_30_code 108 = .ok (.ireturn, 1) := by decide +kernel
theorem d_M_readTable_109 : decode prog_14_method_30_code 109 = .ok (.aload_n 0, 1) := by decide +kernel
theorem d_M_readTable_110 : decode prog_14_method_30_code 110 = .ok (.getfield 93, 3) := by decide +kernel
theorem d_M_readTable_113 : decode prog_14_method_30_code 113 = .ok (.bipush 59, 2) := by decide +kernel
theorem d_M_readTable_115 : decode prog_14_method_30_code 115 = .ok (.if_icmp .eq 5, 3) := by decide +kernel
theorem d_M_readTable_118 : decode prog_14_method_30_code 118 = .ok (.iconst 1, 1) := by decide +kernel
theorem d_M_readTable_119 : decode prog_14_method_30_code 119 = .ok (.ireturn, 1) := by decide +kernel
theorem d_M_readTable_120 : decode prog_14_method_30_code 120 = .ok (.aload_n 0, 1) := by decide +kernel
theorem d_M_readTable_121 : decode prog_14_method_30_code 121 = .ok (.invokevirtual 139, 3) := by decide +kernel
theorem d_M_readTable_124 : decode prog_14_method_30_code 124 = .ok (.goto (-74), 3) := by decide +kernel
theorem d_M_readTable_127 : decode prog_14_method_30_code 127 = .ok (.iconst 0, 1) := by decide +kernel
theorem d_M_readTable_128 : decode prog_14_method_30_code 128 = .ok (.ireturn, 1) := by decide +kernel
theorem d_M_nextToken_0 : decode prog_14_method_18_code 0 = .ok (.aload_n 0, 1) := by decide +kernel
theorem d_M_nextToken_1 : decode prog_14_method_18_code 1 = .ok (.aload_n 0, 1) := by decide +kernel
theorem d_M_nextToken_2 : decode prog_14_method_18_code 2 = .ok (.getfield 83, 3) := by decide +kernel
theorem d_M_nextToken_5 : decode prog_14_method_18_code 5 = .ok (.invokevirtual 86, 3) := by decide +kernel
theorem d_M_nextToken_8 : decode prog_14_method_18_code 8 = .ok (.bipush 32, 2) := by decide +kernel
theorem d_M_nextToken_10 : decode prog_14_method_18_code 10 = .ok (.if_icmp .eq 16, 3) := by decide +kernel
theorem d_M_nextToken_13 : decode prog_14_method_18_code 13 = .ok (.aload_n 0, 1) := by decide +kernel
theorem d_M_nextToken_14 : decode prog_14_method_18_code 14 = .ok (.aload_n 0, 1) := by decide +kernel
theorem d_M_nextToken_15 : decode prog_14_method_18_code 15 = .ok (.getfield 83, 3) := by decide +kernel
theorem d_M_nextToken_18 : decode prog_14_method_18_code 18 = .ok (.invokevirtual 86, 3) := by decide +kernel
theorem d_M_nextToken_21 : decode prog_14_method_18_code 21 = .ok (.bipush 10, 2) := by decide +kernel
theorem d_M_nextToken_23 : decode prog_14_method_18_code 23 = .ok (.if_icmp .ne 16, 3) := by decide +kernel
theorem d_M_nextToken_26 : decode prog_14_method_18_code 26 = .ok (.aload_n 0, 1) := by decide +kernel
theorem d_M_nextToken_27 : decode prog_14_method_18_code 27 = .ok (.dup, 1) := by decide +kernel
theorem d_M_nextToken_28 : decode prog_14_method_18_code 28 = .ok (.getfield 83, 3) := by decide +kernel
theorem d_M_nextToken_31 : decode prog_14_method_18_code 31 = .ok (.iconst 1, 1) := by decide +kernel
theorem d_M_nextToken_32 : decode prog_14_method_18_code 32 = .ok (.iadd, 1) := by decide +kernel
theorem d_M_nextToken_33 : decode prog_14_method_18_code 33 = .ok (.putfield 83, 3) := by decide +kernel
theorem d_M_nextToken_36 : decode prog_14_method_18_code 36 = .ok (.goto (-36), 3) := by decide +kernel
theorem d_M_nextToken_39 : decode prog_14_method_18_code 39 = .ok (.aload_n 0, 1) := by decide +kernel
theorem d_M_nextToken_40 : decode prog_14_method_18_code 40 = .ok (.aload_n 0, 1) := by decide +kernel
theorem d_M_nextToken_41 : decode prog_14_method_18_code 41 = .ok (.getfield 83, 3) := by decide +kernel
theorem d_M_nextToken_44 : decode prog_14_method_18_code 44 = .ok (.putfield 90, 3) := by decide +kernel
theorem d_M_nextToken_47 : decode prog_14_method_18_code 47 = .ok (.aload_n 0, 1) := by decide +kernel
theorem d_M_nextToken_48 : decode prog_14_method_18_code 48 = .ok (.aload_n 0, 1) := by decide +kernel
theorem d_M_nextToken_49 : decode prog_14_method_18_code 49 = .ok (.getfield 83, 3) := by decide +kernel
theorem d_M_nextToken_52 : decode prog_14_method_18_code 52 = .ok (.invokevirtual 86, 3) := by decide +kernel
theorem d_M_nextToken_55 : decode prog_14_method_18_code 55 = .ok (.istore_n 1, 1) := by decide +kernel
theorem d_M_nextToken_56 : decode prog_14_method_18_code 56 = .ok (.aload_n 0, 1) := by decide +kernel
theorem d_M_nextToken_57 : decode prog_14_method_18_code 57 = .ok (.iload_n 1, 1) := by decide +kernel
theorem d_M_nextToken_58 : decode prog_14_method_18_code 58 = .ok (.ifCond .ge 7, 3) := by decide +kernel
theorem d_M_nextToken_61 : decode prog_14_method_18_code 61 = .ok (.iconst 0, 1) := by decide +kernel
theorem d_M_nextToken_62 : decode prog_14_method_18_code 62 = .ok (.goto 15, 3) := by decide +kernel
theorem d_M_nextToken_65 : decode prog_14_method_18_code 65 = .ok (.iload_n 1, 1) := by decide +kernel
theorem d_M_nextToken_66 : decode prog_14_method_18_code 66 = .ok (.bipush 59, 2) := by decide +kernel
theorem d_M_nextToken_68 : decode prog_14_method_18_code 68 = .ok (.if_icmp .ne 8, 3) := by decide +kernel
theorem d_M_nextToken_71 : decode prog_14_method_18_code 71 = .ok (.bipush 59, 2) := by decide +kernel
theorem d_M_nextToken_73 : decode prog_14_method_18_code 73 = .ok (.goto 4, 3) := by decide +kernel
theorem d_M_nextToken_76 : decode prog_14_method_18_code 76 = .ok (.iconst 3, 1) := by decide +kernel
theorem d_M_nextToken_77 : decode prog_14_method_18_code 77 = .ok (.putfield 93, 3) := by decide +kernel
theorem d_M_nextToken_80 : decode prog_14_method_18_code 80 = .ok (.iload_n 1, 1) := by decide +kernel
theorem d_M_nextToken_81 : decode prog_14_method_18_code 81 = .ok (.invokestatic 96, 3) := by decide +kernel
theorem d_M_nextToken_84 : decode prog_14_method_18_code 84 = .ok (.ifCond .eq 79, 3) := by decide +kernel
theorem d_M_nextToken_87 : decode prog_14_method_18_code 87 = .ok (.aload_n 0, 1) := by decide +kernel
theorem d_M_nextToken_88 : decode prog_14_method_18_code 88 = .ok (.iconst 1, 1) := by decide +kernel
theorem d_M_nextToken_89 : decode prog_14_method_18_code 89 = .ok (.putfield 93, 3) := by decide +kernel
theorem d_M_nextToken_92 : decode prog_14_method_18_code 92 = .ok (.aload_n 0, 1) := by decide +kernel
theorem d_M_nextToken_93 : decode prog_14_method_18_code 93 = .ok (.iconst 0, 1) := by decide +kernel
theorem d_M_nextToken_94 : decode prog_14_method_18_code 94 = .ok (.putfield 100, 3) := by decide +kernel
theorem d_M_nextToken_97 : decode prog_14_method_18_code 97 = .ok (.aload_n 0, 1) := by decide +kernel
theorem d_M_nextToken_98 : decode prog_14_method_18_code 98 = .ok (.aload_n 0, 1) := by decide +kernel
theorem d_M_nextToken_99 : decode prog_14_method_18_code 99 = .ok (.getfield 83, 3) := by decide +kernel
theorem d_M_nextToken_102 : decode prog_14_method_18_code 102 = .ok (.invokevirtual 86, 3) := by decide +kernel
theorem d_M_nextToken_105 : decode prog_14_method_18_code 105 = .ok (.invokestatic 96, 3) := by decide +kernel
theorem d_M_nextToken_108 : decode prog_14_method_18_code 108 = .ok (.ifCond .eq 152, 3) := by decide +kernel
theorem d_M_nextToken_111 : decode prog_14_method_18_code 111 = .ok (.aload_n 0, 1) := by decide +kernel
theorem d_M_nextToken_112 : decode prog_14_method_18_code 112 = .ok (.aload_n 0, 1) := by decide +kernel
theorem d_M_nextToken_113 : decode prog_14_method_18_code 113 = .ok (.getfield 100, 3) := by decide +kernel
theorem d_M_nextToken_116 : decode prog_14_method_18_code 116 = .ok (.ldc 103, 2) := by decide +kernel
theorem d_M_nextToken_118 : decode prog_14_method_18_code 118 = .ok (.if_icmp .le 10, 3) := by decide +kernel
theorem d_M_nextToken_121 : decode prog_14_method_18_code 121 = .ok (.aload_n 0, 1) := by decide +kernel
theorem d_M_nextToken_122 : decode prog_14_method_18_code 122 = .ok (.getfield 100, 3) := by decide +kernel
theorem d_M_nextToken_125 : decode prog_14_method_18_code 125 = .ok (.goto 22, 3) := by decide +kernel
theorem d_M_nextToken_128 : decode prog_14_method_18_code 128 = .ok (.bipush 10, 2) := by decide +kernel
theorem d_M_nextToken_130 : decode prog_14_method_18_code 130 = .ok (.aload_n 0, 1) := by decide +kernel
theorem d_M_nextToken_131 : decode prog_14_method_18_code 131 = .ok (.getfield 100, 3) := by decide +kernel
theorem d_M_nextToken_134 : decode prog_14_method_18_code 134 = .ok (.imul, 1) := by decide +kernel
theorem d_M_nextToken_135 : decode prog_14_method_18_code 135 = .ok (.aload_n 0, 1) := by decide +kernel
theorem d_M_nextToken_136 : decode prog_14_method_18_code 136 = .ok (.aload_n 0, 1) := by decide +kernel
theorem d_M_nextToken_137 : decode prog_14_method_18_code 137 = .ok (.getfield 83, 3) := by decide +kernel
theorem d_M_nextToken_140 : decode prog_14_method_18_code 140 = .ok (.invokevirtual 86, 3) := by decide +kernel
theorem d_M_nextToken_143 : decode prog_14_method_18_code 143 = .ok (.iadd, 1) := by decide +kernel
theorem d_M_nextToken_144 : decode prog_14_method_18_code 144 = .ok (.bipush 48, 2) := by decide +kernel
theorem d_M_nextToken_146 : decode prog_14_method_18_code 146 = .ok (.isub, 1) := by decide +kernel
theorem d_M_nextToken_147 : decode prog_14_method_18_code 147 = .ok (.putfield 100, 3) := by decide +kernel
theorem d_M_nextToken_150 : decode prog_14_method_18_code 150 = .ok (.aload_n 0, 1) := by decide +kernel
theorem d_M_nextToken_151 : decode prog_14_method_18_code 151 = .ok (.dup, 1) := by decide +kernel
theorem d_M_nextToken_152 : decode prog_14_method_18_code 152 = .ok (.getfield 83, 3) := by decide +kernel
theorem d_M_nextToken_155 : decode prog_14_method_18_code 155 = .ok (.iconst 1, 1) := by decide +kernel
theorem d_M_nextToken_156 : decode prog_14_method_18_code 156 = .ok (.iadd, 1) := by decide +kernel
theorem d_M_nextToken_157 : decode prog_14_method_18_code 157 = .ok (.putfield 83, 3) := by decide +kernel
theorem d_M_nextToken_160 : decode prog_14_method_18_code 160 = .ok (.goto (-63), 3) := by decide +kernel
theorem d_M_nextToken_163 : decode prog_14_method_18_code 163 = .ok (.iload_n 1, 1) := by decide +kernel
theorem d_M_nextToken_164 : decode prog_14_method_18_code 164 = .ok (.invokestatic 104, 3) := by decide +kernel
theorem d_M_nextToken_167 : decode prog_14_method_18_code 167 = .ok (.ifCond .eq 79, 3) := by decide +kernel
theorem d_M_nextToken_170 : decode prog_14_method_18_code 170 = .ok (.aload_n 0, 1) := by decide +kernel
theorem d_M_nextToken_171 : decode prog_14_method_18_code 171 = .ok (.iconst 2, 1) := by decide +kernel
theorem d_M_nextToken_172 : decode prog_14_method_18_code 172 = .ok (.putfield 93, 3) := by decide +kernel
theorem d_M_nextToken_175 : decode prog_14_method_18_code 175 = .ok (.aload_n 0, 1) := by decide +kernel
theorem d_M_nextToken_176 : decode prog_14_method_18_code 176 = .ok (.lconst 0, 1) := by decide +kernel
theorem d_M_nextToken_177 : decode prog_14_method_18_code 177 = .ok (.putfield 107, 3) := by decide +kernel
theorem d_M_nextToken_180 : decode prog_14_method_18_code 180 = .ok (.aload_n 0, 1) := by decide +kernel
theorem d_M_nextToken_181 : decode prog_14_method_18_code 181 = .ok (.aload_n 0, 1) := by decide +kernel
theorem d_M_nextToken_182 : decode prog_14_method_18_code 182 = .ok (.getfield 83, 3) := by decide +kernel
theorem d_M_nextToken_185 : decode prog_14_method_18_code 185 = .ok (.invokevirtual 86, 3) := by decide +kernel
theorem d_M_nextToken_188 : decode prog_14_method_18_code 188 = .ok (.invokestatic 104, 3) := by decide +kernel
theorem d_M_nextToken_191 : decode prog_14_method_18_code 191 = .ok (.ifCond .eq 69, 3) := by decide +kernel
theorem d_M_nextToken_194 : decode prog_14_method_18_code 194 = .ok (.aload_n 0, 1) := by decide +kernel
theorem d_M_nextToken_195 : decode prog_14_method_18_code 195 = .ok (.aload_n 0, 1) := by decide +kernel
theorem d_M_nextToken_196 : decode prog_14_method_18_code 196 = .ok (.getfield 107, 3) := by decide +kernel
theorem d_M_nextToken_199 : decode prog_14_method_18_code 199 = .ok (.bipush 48, 2) := by decide +kernel
theorem d_M_nextToken_201 : decode prog_14_method_18_code 201 = .ok (.lshr, 1) := by decide +kernel
theorem d_M_nextToken_202 : decode prog_14_method_18_code 202 = .ok (.lconst 0, 1) := by decide +kernel
theorem d_M_nextToken_203 : decode prog_14_method_18_code 203 = .ok (.lcmp, 1) := by decide +kernel
theorem d_M_nextToken_204 : decode prog_14_method_18_code 204 = .ok (.ifCond .eq 9, 3) := by decide +kernel
theorem d_M_nextToken_207 : decode prog_14_method_18_code 207 = .ok (.ldc2_w 111, 3) := by decide +kernel
theorem d_M_nextToken_210 : decode prog_14_method_18_code 210 = .ok (.goto 20, 3) := by decide +kernel
theorem d_M_nextToken_213 : decode prog_14_method_18_code 213 = .ok (.aload_n 0, 1) := by decide +kernel
theorem d_M_nextToken_214 : decode prog_14_method_18_code 214 = .ok (.getfield 107, 3) := by decide +kernel
theorem d_M_nextToken_217 : decode prog_14_method_18_code 217 = .ok (.bipush 8, 2) := by decide +kernel
theorem d_M_nextToken_219 : decode prog_14_method_18_code 219 = .ok (.lshl, 1) := by decide +kernel
theorem d_M_nextToken_220 : decode prog_14_method_18_code 220 = .ok (.aload_n 0, 1) := by decide +kernel
theorem d_M_nextToken_221 : decode prog_14_method_18_code 221 = .ok (.aload_n 0, 1) := by decide +kernel
theorem d_M_nextToken_222 : decode prog_14_method_18_code 222 = .ok (.getfield 83, 3) := by decide +kernel
theorem d_M_nextToken_225 : decode prog_14_method_18_code 225 = .ok (.invokevirtual 86, 3) := by decide +kernel
theorem d_M_nextToken_228 : decode prog_14_method_18_code 228 = .ok (.i2l, 1) := by decide +kernel
theorem d_M_nextToken_229 : decode prog_14_method_18_code 229 = .ok (.lor, 1) := by decide +kernel
theorem d_M_nextToken_230 : decode prog_14_method_18_code 230 = .ok (.putfield 107, 3) := by decide +kernel
theorem d_M_nextToken_233 : decode prog_14_method_18_code 233 = .ok (.aload_n 0, 1) := by decide +kernel
theorem d_M_nextToken_234 : decode prog_14_method_18_code 234 = .ok (.dup, 1) := by decide +kernel
theorem d_M_nextToken_235 : decode prog_14_method_18_code 235 = .ok (.getfield 83, 3) := by decide +kernel
theorem d_M_nextToken_238 : decode prog_14_method_18_code 238 = .ok (.iconst 1, 1) := by decide +kernel
theorem d_M_nextToken_239 : decode prog_14_method_18_code 239 = .ok (.iadd, 1) := by decide +kernel
theorem d_M_nextToken_240 : decode prog_14_method_18_code 240 = .ok (.putfield 83, 3) := by decide +kernel
theorem d_M_nextToken_243 : decode prog_14_method_18_code 243 = .ok (.goto (-63), 3) := by decide +kernel
theorem d_M_nextToken_246 : decode prog_14_method_18_code 246 = .ok (.iload_n 1, 1) := by decide +kernel
theorem d_M_nextToken_247 : decode prog_14_method_18_code 247 = .ok (.ifCond .lt 13, 3) := by decide +kernel
theorem d_M_nextToken_250 : decode prog_14_method_18_code 250 = .ok (.aload_n 0, 1) := by decide +kernel
theorem d_M_nextToken_251 : decode prog_14_method_18_code 251 = .ok (.dup, 1) := by decide +kernel
theorem d_M_nextToken_252 : decode prog_14_method_18_code 252 = .ok (.getfield 83, 3) := by decide +kernel
theorem d_M_nextToken_255 : decode prog_14_method_18_code 255 = .ok (.iconst 1, 1) := by decide +kernel
theorem d_M_nextToken_256 : decode prog_14_method_18_code 256 = .ok (.iadd, 1) := by decide +kernel
theorem d_M_nextToken_257 : decode prog_14_method_18_code 257 = .ok (.putfield 83, 3) := by decide +kernel
theorem d_M_nextToken_260 : decode prog_14_method_18_code 260 = .ok (.return_, 1) := by decide +kernel
theorem d_M_byteAt_0 : decode prog_14_method_15_code 0 = .ok (.iload_n 1, 1) := by decide +kernel
theorem d_M_byteAt_1 : decode prog_14_method_15_code 1 = .ok (.aload_n 0, 1) := by decide +kernel
theorem d_M_byteAt_2 : decode prog_14_method_15_code 2 = .ok (.getfield 76, 3) := by decide +kernel
theorem d_M_byteAt_5 : decode prog_14_method_15_code 5 = .ok (.if_icmp .ge 12, 3) := by decide +kernel
theorem d_M_byteAt_8 : decode prog_14_method_15_code 8 = .ok (.aload_n 0, 1) := by decide +kernel
theorem d_M_byteAt_9 : decode prog_14_method_15_code 9 = .ok (.getfield 26, 3) := by decide +kernel
theorem d_M_byteAt_12 : decode prog_14_method_15_code 12 = .ok (.iload_n 1, 1) := by decide +kernel
theorem d_M_byteAt_13 : decode prog_14_method_15_code 13 = .ok (.iaload, 1) := by decide +kernel
theorem d_M_byteAt_14 : decode prog_14_method_15_code 14 = .ok (.goto 4, 3) := by decide +kernel
theorem d_M_byteAt_17 : decode prog_14_method_15_code 17 = .ok (.iconst (-1), 1) := by decide +kernel
theorem d_M_byteAt_18 : decode prog_14_method_15_code 18 = .ok (.ireturn, 1) := by decide +kernel
theorem d_M_isFigure_0 : decode prog_14_method_17_code 0 = .ok (.iload_n 0, 1) := by decide +kernel
theorem d_M_isFigure_1 : decode prog_14_method_17_code 1 = .ok (.bipush 48, 2) := by decide +kernel
theorem d_M_isFigure_3 : decode prog_14_method_17_code 3 = .ok (.if_icmp .lt 13, 3) := by decide +kernel
theorem d_M_isFigure_6 : decode prog_14_method_17_code 6 = .ok (.iload_n 0, 1) := by decide +kernel
theorem d_M_isFigure_7 : decode prog_14_method_17_code 7 = .ok (.bipush 57, 2) := by decide +kernel
theorem d_M_isFigure_9 : decode prog_14_method_17_code 9 = .ok (.if_icmp .gt 7, 3) := by decide +kernel
theorem d_M_isFigure_12 : decode prog_14_method_17_code 12 = .ok (.iconst 1, 1) := by decide +kernel
theorem d_M_isFigure_13 : decode prog_14_method_17_code 13 = .ok (.goto 4, 3) := by decide +kernel
theorem d_M_isFigure_16 : decode prog_14_method_17_code 16 = .ok (.iconst 0, 1) := by decide +kernel
theorem d_M_isFigure_17 : decode prog_14_method_17_code 17 = .ok (.ireturn, 1) := by decide +kernel
theorem d_M_isLetterByte_0 : decode prog_14_method_16_code 0 = .ok (.iload_n 0, 1) := by decide +kernel
theorem d_M_isLetterByte_1 : decode prog_14_method_16_code 1 = .ok (.bipush 97, 2) := by decide +kernel
theorem d_M_isLetterByte_3 : decode prog_14_method_16_code 3 = .ok (.if_icmp .lt 9, 3) := by decide +kernel
theorem d_M_isLetterByte_6 : decode prog_14_method_16_code 6 = .ok (.iload_n 0, 1) := by decide +kernel
theorem d_M_isLetterByte_7 : decode prog_14_method_16_code 7 = .ok (.bipush 122, 2) := by decide +kernel
theorem d_M_isLetterByte_9 : decode prog_14_method_16_code 9 = .ok (.if_icmp .le 15, 3) := by decide +kernel
theorem d_M_isLetterByte_12 : decode prog_14_method_16_code 12 = .ok (.iload_n 0, 1) := by decide +kernel
theorem d_M_isLetterByte_13 : decode prog_14_method_16_code 13 = .ok (.bipush 65, 2) := by decide +kernel
theorem d_M_isLetterByte_15 : decode prog_14_method_16_code 15 = .ok (.if_icmp .lt 13, 3) := by decide +kernel
theorem d_M_isLetterByte_18 : decode prog_14_method_16_code 18 = .ok (.iload_n 0, 1) := by decide +kernel
theorem d_M_isLetterByte_19 : decode prog_14_method_16_code 19 = .ok (.bipush 90, 2) := by decide +kernel
theorem d_M_isLetterByte_21 : decode prog_14_method_16_code 21 = .ok (.if_icmp .gt 7, 3) := by decide +kernel
theorem d_M_isLetterByte_24 : decode prog_14_method_16_code 24 = .ok (.iconst 1, 1) := by decide +kernel
theorem d_M_isLetterByte_25 : decode prog_14_method_16_code 25 = .ok (.goto 4, 3) := by decide +kernel
theorem d_M_isLetterByte_28 : decode prog_14_method_16_code 28 = .ok (.iconst 0, 1) := by decide +kernel
theorem d_M_isLetterByte_29 : decode prog_14_method_16_code 29 = .ok (.ireturn, 1) := by decide +kernel
theorem d_M_kindAt_0 : decode prog_14_method_24_code 0 = .ok (.aload_n 0, 1) := by decide +kernel
theorem d_M_kindAt_1 : decode prog_14_method_24_code 1 = .ok (.bipush 97, 2) := by decide +kernel
theorem d_M_kindAt_3 : decode prog_14_method_24_code 3 = .ok (.bipush 100, 2) := by decide +kernel
theorem d_M_kindAt_5 : decode prog_14_method_24_code 5 = .ok (.bipush 100, 2) := by decide +kernel
theorem d_M_kindAt_7 : decode prog_14_method_24_code 7 = .ok (.invokestatic 113, 3) := by decide +kernel
theorem d_M_kindAt_10 : decode prog_14_method_24_code 10 = .ok (.invokevirtual 125, 3) := by decide +kernel
theorem d_M_kindAt_13 : decode prog_14_method_24_code 13 = .ok (.ifCond .eq 5, 3) := by decide +kernel
theorem d_M_kindAt_16 : decode prog_14_method_24_code 16 = .ok (.iconst 0, 1) := by decide +kernel
theorem d_M_kindAt_17 : decode prog_14_method_24_code 17 = .ok (.ireturn, 1) := by decide +kernel
theorem d_M_kindAt_18 : decode prog_14_method_24_code 18 = .ok (.aload_n 0, 1) := by decide +kernel
theorem d_M_kindAt_19 : decode prog_14_method_24_code 19 = .ok (.bipush 116, 2) := by decide +kernel
theorem d_M_kindAt_21 : decode prog_14_method_24_code 21 = .ok (.bipush 97, 2) := by decide +kernel
theorem d_M_kindAt_23 : decode prog_14_method_24_code 23 = .ok (.bipush 107, 2) := by decide +kernel
theorem d_M_kindAt_25 : decode prog_14_method_24_code 25 = .ok (.bipush 101, 2) := by decide +kernel
theorem d_M_kindAt_27 : decode prog_14_method_24_code 27 = .ok (.invokestatic 117, 3) := by decide +kernel
theorem d_M_kindAt_30 : decode prog_14_method_24_code 30 = .ok (.invokevirtual 125, 3) := by decide +kernel
theorem d_M_kindAt_33 : decode prog_14_method_24_code 33 = .ok (.ifCond .eq 5, 3) := by decide +kernel
theorem d_M_kindAt_36 : decode prog_14_method_24_code 36 = .ok (.iconst 1, 1) := by decide +kernel
theorem d_M_kindAt_37 : decode prog_14_method_24_code 37 = .ok (.ireturn, 1) := by decide +kernel
theorem d_M_kindAt_38 : decode prog_14_method_24_code 38 = .ok (.aload_n 0, 1) := by decide +kernel
theorem d_M_kindAt_39 : decode prog_14_method_24_code 39 = .ok (.bipush 116, 2) := by decide +kernel
theorem d_M_kindAt_41 : decode prog_14_method_24_code 41 = .ok (.bipush 105, 2) := by decide +kernel
theorem d_M_kindAt_43 : decode prog_14_method_24_code 43 = .ok (.bipush 109, 2) := by decide +kernel
theorem d_M_kindAt_45 : decode prog_14_method_24_code 45 = .ok (.bipush 101, 2) := by decide +kernel
theorem d_M_kindAt_47 : decode prog_14_method_24_code 47 = .ok (.bipush 115, 2) := by decide +kernel
theorem d_M_kindAt_49 : decode prog_14_method_24_code 49 = .ok (.invokestatic 121, 3) := by decide +kernel
theorem d_M_kindAt_52 : decode prog_14_method_24_code 52 = .ok (.invokevirtual 125, 3) := by decide +kernel
theorem d_M_kindAt_55 : decode prog_14_method_24_code 55 = .ok (.ifCond .eq 5, 3) := by decide +kernel
theorem d_M_kindAt_58 : decode prog_14_method_24_code 58 = .ok (.iconst 2, 1) := by decide +kernel
theorem d_M_kindAt_59 : decode prog_14_method_24_code 59 = .ok (.ireturn, 1) := by decide +kernel
theorem d_M_kindAt_60 : decode prog_14_method_24_code 60 = .ok (.aload_n 0, 1) := by decide +kernel
theorem d_M_kindAt_61 : decode prog_14_method_24_code 61 = .ok (.ldc2_w 129, 3) := by decide +kernel
theorem d_M_kindAt_64 : decode prog_14_method_24_code 64 = .ok (.invokevirtual 125, 3) := by decide +kernel
theorem d_M_kindAt_67 : decode prog_14_method_24_code 67 = .ok (.ifCond .eq 5, 3) := by decide +kernel
theorem d_M_kindAt_70 : decode prog_14_method_24_code 70 = .ok (.iconst 3, 1) := by decide +kernel
theorem d_M_kindAt_71 : decode prog_14_method_24_code 71 = .ok (.ireturn, 1) := by decide +kernel
theorem d_M_kindAt_72 : decode prog_14_method_24_code 72 = .ok (.aload_n 0, 1) := by decide +kernel
theorem d_M_kindAt_73 : decode prog_14_method_24_code 73 = .ok (.bipush 114, 2) := by decide +kernel
theorem d_M_kindAt_75 : decode prog_14_method_24_code 75 = .ok (.bipush 101, 2) := by decide +kernel
theorem d_M_kindAt_77 : decode prog_14_method_24_code 77 = .ok (.bipush 115, 2) := by decide +kernel
theorem d_M_kindAt_79 : decode prog_14_method_24_code 79 = .ok (.bipush 116, 2) := by decide +kernel
theorem d_M_kindAt_81 : decode prog_14_method_24_code 81 = .ok (.invokestatic 117, 3) := by decide +kernel
theorem d_M_kindAt_84 : decode prog_14_method_24_code 84 = .ok (.invokevirtual 125, 3) := by decide +kernel
theorem d_M_kindAt_87 : decode prog_14_method_24_code 87 = .ok (.ifCond .eq 5, 3) := by decide +kernel
theorem d_M_kindAt_90 : decode prog_14_method_24_code 90 = .ok (.iconst 4, 1) := by decide +kernel
theorem d_M_kindAt_91 : decode prog_14_method_24_code 91 = .ok (.ireturn, 1) := by decide +kernel
theorem d_M_kindAt_92 : decode prog_14_method_24_code 92 = .ok (.aload_n 0, 1) := by decide +kernel
theorem d_M_kindAt_93 : decode prog_14_method_24_code 93 = .ok (.bipush 106, 2) := by decide +kernel
theorem d_M_kindAt_95 : decode prog_14_method_24_code 95 = .ok (.bipush 111, 2) := by decide +kernel
theorem d_M_kindAt_97 : decode prog_14_method_24_code 97 = .ok (.bipush 105, 2) := by decide +kernel
theorem d_M_kindAt_99 : decode prog_14_method_24_code 99 = .ok (.bipush 110, 2) := by decide +kernel
theorem d_M_kindAt_101 : decode prog_14_method_24_code 101 = .ok (.invokestatic 117, 3) := by decide +kernel
theorem d_M_kindAt_104 : decode prog_14_method_24_code 104 = .ok (.invokevirtual 125, 3) := by decide +kernel
theorem d_M_kindAt_107 : decode prog_14_method_24_code 107 = .ok (.ifCond .eq 5, 3) := by decide +kernel
theorem d_M_kindAt_110 : decode prog_14_method_24_code 110 = .ok (.iconst 5, 1) := by decide +kernel
theorem d_M_kindAt_111 : decode prog_14_method_24_code 111 = .ok (.ireturn, 1) := by decide +kernel
theorem d_M_kindAt_112 : decode prog_14_method_24_code 112 = .ok (.aload_n 0, 1) := by decide +kernel
theorem d_M_kindAt_113 : decode prog_14_method_24_code 113 = .ok (.bipush 116, 2) := by decide +kernel
theorem d_M_kindAt_115 : decode prog_14_method_24_code 115 = .ok (.bipush 117, 2) := by decide +kernel
theorem d_M_kindAt_117 : decode prog_14_method_24_code 117 = .ok (.bipush 114, 2) := by decide +kernel
theorem d_M_kindAt_119 : decode prog_14_method_24_code 119 = .ok (.bipush 110, 2) := by decide +kernel
theorem d_M_kindAt_121 : decode prog_14_method_24_code 121 = .ok (.invokestatic 117, 3) := by decide +kernel
theorem d_M_kindAt_124 : decode prog_14_method_24_code 124 = .ok (.invokevirtual 125, 3) := by decide +kernel
theorem d_M_kindAt_127 : decode prog_14_method_24_code 127 = .ok (.ifCond .eq 6, 3) := by decide +kernel
theorem d_M_kindAt_130 : decode prog_14_method_24_code 130 = .ok (.bipush 6, 2) := by decide +kernel
theorem d_M_kindAt_132 : decode prog_14_method_24_code 132 = .ok (.ireturn, 1) := by decide +kernel
theorem d_M_kindAt_133 : decode prog_14_method_24_code 133 = .ok (.aload_n 0, 1) := by decide +kernel
theorem d_M_kindAt_134 : decode prog_14_method_24_code 134 = .ok (.bipush 97, 2) := by decide +kernel
theorem d_M_kindAt_136 : decode prog_14_method_24_code 136 = .ok (.bipush 99, 2) := by decide +kernel
theorem d_M_kindAt_138 : decode prog_14_method_24_code 138 = .ok (.bipush 114, 2) := by decide +kernel
theorem d_M_kindAt_140 : decode prog_14_method_24_code 140 = .ok (.bipush 111, 2) := by decide +kernel
theorem d_M_kindAt_142 : decode prog_14_method_24_code 142 = .ok (.bipush 115, 2) := by decide +kernel
theorem d_M_kindAt_144 : decode prog_14_method_24_code 144 = .ok (.bipush 115, 2) := by decide +kernel
theorem d_M_kindAt_146 : decode prog_14_method_24_code 146 = .ok (.invokestatic 131, 3) := by decide +kernel
theorem d_M_kindAt_149 : decode prog_14_method_24_code 149 = .ok (.invokevirtual 125, 3) := by decide +kernel
theorem d_M_kindAt_152 : decode prog_14_method_24_code 152 = .ok (.ifCond .eq 6, 3) := by decide +kernel
theorem d_M_kindAt_155 : decode prog_14_method_24_code 155 = .ok (.bipush 7, 2) := by decide +kernel
theorem d_M_kindAt_157 : decode prog_14_method_24_code 157 = .ok (.ireturn, 1) := by decide +kernel
theorem d_M_kindAt_158 : decode prog_14_method_24_code 158 = .ok (.aload_n 0, 1) := by decide +kernel
theorem d_M_kindAt_159 : decode prog_14_method_24_code 159 = .ok (.bipush 115, 2) := by decide +kernel
theorem d_M_kindAt_161 : decode prog_14_method_24_code 161 = .ok (.bipush 116, 2) := by decide +kernel
theorem d_M_kindAt_163 : decode prog_14_method_24_code 163 = .ok (.bipush 114, 2) := by decide +kernel
theorem d_M_kindAt_165 : decode prog_14_method_24_code 165 = .ok (.bipush 105, 2) := by decide +kernel
theorem d_M_kindAt_167 : decode prog_14_method_24_code 167 = .ok (.bipush 107, 2) := by decide +kernel
theorem d_M_kindAt_169 : decode prog_14_method_24_code 169 = .ok (.bipush 101, 2) := by decide +kernel
theorem d_M_kindAt_171 : decode prog_14_method_24_code 171 = .ok (.invokestatic 131, 3) := by decide +kernel
theorem d_M_kindAt_174 : decode prog_14_method_24_code 174 = .ok (.invokevirtual 125, 3) := by decide +kernel
theorem d_M_kindAt_177 : decode prog_14_method_24_code 177 = .ok (.ifCond .eq 6, 3) := by decide +kernel
theorem d_M_kindAt_180 : decode prog_14_method_24_code 180 = .ok (.bipush 8, 2) := by decide +kernel
theorem d_M_kindAt_182 : decode prog_14_method_24_code 182 = .ok (.ireturn, 1) := by decide +kernel
theorem d_M_kindAt_183 : decode prog_14_method_24_code 183 = .ok (.aload_n 0, 1) := by decide +kernel
theorem d_M_kindAt_184 : decode prog_14_method_24_code 184 = .ok (.bipush 115, 2) := by decide +kernel
theorem d_M_kindAt_186 : decode prog_14_method_24_code 186 = .ok (.bipush 97, 2) := by decide +kernel
theorem d_M_kindAt_188 : decode prog_14_method_24_code 188 = .ok (.bipush 121, 2) := by decide +kernel
theorem d_M_kindAt_190 : decode prog_14_method_24_code 190 = .ok (.invokestatic 113, 3) := by decide +kernel
theorem d_M_kindAt_193 : decode prog_14_method_24_code 193 = .ok (.invokevirtual 125, 3) := by decide +kernel
theorem d_M_kindAt_196 : decode prog_14_method_24_code 196 = .ok (.ifCond .eq 8, 3) := by decide +kernel
theorem d_M_kindAt_199 : decode prog_14_method_24_code 199 = .ok (.bipush 9, 2) := by decide +kernel
theorem d_M_kindAt_201 : decode prog_14_method_24_code 201 = .ok (.goto 27, 3) := by decide +kernel
theorem d_M_kindAt_204 : decode prog_14_method_24_code 204 = .ok (.aload_n 0, 1) := by decide +kernel
theorem d_M_kindAt_205 : decode prog_14_method_24_code 205 = .ok (.bipush 104, 2) := by decide +kernel
theorem d_M_kindAt_207 : decode prog_14_method_24_code 207 = .ok (.bipush 105, 2) := by decide +kernel
theorem d_M_kindAt_209 : decode prog_14_method_24_code 209 = .ok (.bipush 100, 2) := by decide +kernel
theorem d_M_kindAt_211 : decode prog_14_method_24_code 211 = .ok (.bipush 101, 2) := by decide +kernel
theorem d_M_kindAt_213 : decode prog_14_method_24_code 213 = .ok (.invokestatic 117, 3) := by decide +kernel
theorem d_M_kindAt_216 : decode prog_14_method_24_code 216 = .ok (.invokevirtual 125, 3) := by decide +kernel
theorem d_M_kindAt_219 : decode prog_14_method_24_code 219 = .ok (.ifCond .eq 8, 3) := by decide +kernel
theorem d_M_kindAt_222 : decode prog_14_method_24_code 222 = .ok (.bipush 10, 2) := by decide +kernel
theorem d_M_kindAt_224 : decode prog_14_method_24_code 224 = .ok (.goto 4, 3) := by decide +kernel
theorem d_M_kindAt_227 : decode prog_14_method_24_code 227 = .ok (.iconst (-1), 1) := by decide +kernel
theorem d_M_kindAt_228 : decode prog_14_method_24_code 228 = .ok (.ireturn, 1) := by decide +kernel
theorem d_M_w3_0 : decode prog_14_method_19_code 0 = .ok (.iload_n 0, 1) := by decide +kernel
theorem d_M_w3_1 : decode prog_14_method_19_code 1 = .ok (.i2l, 1) := by decide +kernel
theorem d_M_w3_2 : decode prog_14_method_19_code 2 = .ok (.bipush 16, 2) := by decide +kernel
theorem d_M_w3_4 : decode prog_14_method_19_code 4 = .ok (.lshl, 1) := by decide +kernel
theorem d_M_w3_5 : decode prog_14_method_19_code 5 = .ok (.iload_n 1, 1) := by decide +kernel
theorem d_M_w3_6 : decode prog_14_method_19_code 6 = .ok (.bipush 8, 2) := by decide +kernel
theorem d_M_w3_8 : decode prog_14_method_19_code 8 = .ok (.ishl, 1) := by decide +kernel
theorem d_M_w3_9 : decode prog_14_method_19_code 9 = .ok (.i2l, 1) := by decide +kernel
theorem d_M_w3_10 : decode prog_14_method_19_code 10 = .ok (.lor, 1) := by decide +kernel
theorem d_M_w3_11 : decode prog_14_method_19_code 11 = .ok (.iload_n 2, 1) := by decide +kernel
theorem d_M_w3_12 : decode prog_14_method_19_code 12 = .ok (.i2l, 1) := by decide +kernel
theorem d_M_w3_13 : decode prog_14_method_19_code 13 = .ok (.lor, 1) := by decide +kernel
theorem d_M_w3_14 : decode prog_14_method_19_code 14 = .ok (.lreturn, 1) := by decide +kernel
theorem d_M_isWord_0 : decode prog_14_method_23_code 0 = .ok (.aload_n 0, 1) := by decide +kernel
theorem d_M_isWord_1 : decode prog_14_method_23_code 1 = .ok (.getfield 93, 3) := by decide +kernel
theorem d_M_isWord_4 : decode prog_14_method_23_code 4 = .ok (.iconst 2, 1) := by decide +kernel
theorem d_M_isWord_5 : decode prog_14_method_23_code 5 = .ok (.if_icmp .ne 16, 3) := by decide +kernel
theorem d_M_isWord_8 : decode prog_14_method_23_code 8 = .ok (.aload_n 0, 1) := by decide +kernel
theorem d_M_isWord_9 : decode prog_14_method_23_code 9 = .ok (.getfield 107, 3) := by decide +kernel
theorem d_M_isWord_12 : decode prog_14_method_23_code 12 = .ok (.lload_n 1, 1) := by decide +kernel
theorem d_M_isWord_13 : decode prog_14_method_23_code 13 = .ok (.lcmp, 1) := by decide +kernel
theorem d_M_isWord_14 : decode prog_14_method_23_code 14 = .ok (.ifCond .ne 7, 3) := by decide +kernel
theorem d_M_isWord_17 : decode prog_14_method_23_code 17 = .ok (.iconst 1, 1) := by decide +kernel
theorem d_M_isWord_18 : decode prog_14_method_23_code 18 = .ok (.goto 4, 3) := by decide +kernel
theorem d_M_isWord_21 : decode prog_14_method_23_code 21 = .ok (.iconst 0, 1) := by decide +kernel
theorem d_M_isWord_22 : decode prog_14_method_23_code 22 = .ok (.ireturn, 1) := by decide +kernel
theorem d_M_w4_0 : decode prog_14_method_20_code 0 = .ok (.iload_n 0, 1) := by decide +kernel
theorem d_M_w4_1 : decode prog_14_method_20_code 1 = .ok (.iload_n 1, 1) := by decide +kernel
theorem d_M_w4_2 : decode prog_14_method_20_code 2 = .ok (.iload_n 2, 1) := by decide +kernel
theorem d_M_w4_3 : decode prog_14_method_20_code 3 = .ok (.invokestatic 113, 3) := by decide +kernel
theorem d_M_w4_6 : decode prog_14_method_20_code 6 = .ok (.bipush 8, 2) := by decide +kernel
theorem d_M_w4_8 : decode prog_14_method_20_code 8 = .ok (.lshl, 1) := by decide +kernel
theorem d_M_w4_9 : decode prog_14_method_20_code 9 = .ok (.iload_n 3, 1) := by decide +kernel
theorem d_M_w4_10 : decode prog_14_method_20_code 10 = .ok (.i2l, 1) := by decide +kernel
theorem d_M_w4_11 : decode prog_14_method_20_code 11 = .ok (.lor, 1) := by decide +kernel
theorem d_M_w4_12 : decode prog_14_method_20_code 12 = .ok (.lreturn, 1) := by decide +kernel
theorem d_M_w5_0 : decode prog_14_method_21_code 0 = .ok (.iload_n 0, 1) := by decide +kernel
theorem d_M_w5_1 : decode prog_14_method_21_code 1 = .ok (.iload_n 1, 1) := by decide +kernel
theorem d_M_w5_2 : decode prog_14_method_21_code 2 = .ok (.iload_n 2, 1) := by decide +kernel
theorem d_M_w5_3 : decode prog_14_method_21_code 3 = .ok (.iload_n 3, 1) := by decide +kernel
theorem d_M_w5_4 : decode prog_14_method_21_code 4 = .ok (.invokestatic 117, 3) := by decide +kernel
theorem d_M_w5_7 : decode prog_14_method_21_code 7 = .ok (.bipush 8, 2) := by decide +kernel
theorem d_M_w5_9 : decode prog_14_method_21_code 9 = .ok (.lshl, 1) := by decide +kernel
theorem d_M_w5_10 : decode prog_14_method_21_code 10 = .ok (.iload 4, 2) := by decide +kernel
theorem d_M_w5_12 : decode prog_14_method_21_code 12 = .ok (.i2l, 1) := by decide +kernel
theorem d_M_w5_13 : decode prog_14_method_21_code 13 = .ok (.lor, 1) := by decide +kernel
theorem d_M_w5_14 : decode prog_14_method_21_code 14 = .ok (.lreturn, 1) := by decide +kernel
theorem d_M_w6_0 : decode prog_14_method_22_code 0 = .ok (.iload_n 0, 1) := by decide +kernel
theorem d_M_w6_1 : decode prog_14_method_22_code 1 = .ok (.iload_n 1, 1) := by decide +kernel
theorem d_M_w6_2 : decode prog_14_method_22_code 2 = .ok (.iload_n 2, 1) := by decide +kernel
theorem d_M_w6_3 : decode prog_14_method_22_code 3 = .ok (.iload_n 3, 1) := by decide +kernel
theorem d_M_w6_4 : decode prog_14_method_22_code 4 = .ok (.iload 4, 2) := by decide +kernel
theorem d_M_w6_6 : decode prog_14_method_22_code 6 = .ok (.invokestatic 121, 3) := by decide +kernel
theorem d_M_w6_9 : decode prog_14_method_22_code 9 = .ok (.bipush 8, 2) := by decide +kernel
theorem d_M_w6_11 : decode prog_14_method_22_code 11 = .ok (.lshl, 1) := by decide +kernel
theorem d_M_w6_12 : decode prog_14_method_22_code 12 = .ok (.iload 5, 2) := by decide +kernel
theorem d_M_w6_14 : decode prog_14_method_22_code 14 = .ok (.i2l, 1) := by decide +kernel
theorem d_M_w6_15 : decode prog_14_method_22_code 15 = .ok (.lor, 1) := by decide +kernel
theorem d_M_w6_16 : decode prog_14_method_22_code 16 = .ok (.lreturn, 1) := by decide +kernel
theorem d_M_hide_0 : decode prog_14_method_27_code 0 = .ok (.aload_n 0, 1) := by decide +kernel
theorem d_M_hide_1 : decode prog_14_method_27_code 1 = .ok (.invokevirtual 142, 3) := by decide +kernel
theorem d_M_hide_4 : decode prog_14_method_27_code 4 = .ok (.istore_n 1, 1) := by decide +kernel
theorem d_M_hide_5 : decode prog_14_method_27_code 5 = .ok (.iload_n 1, 1) := by decide +kernel
theorem d_M_hide_6 : decode prog_14_method_27_code 6 = .ok (.ifCond .ge 5, 3) := by decide +kernel
theorem d_M_hide_9 : decode prog_14_method_27_code 9 = .ok (.iconst 1, 1) := by decide +kernel
theorem d_M_hide_10 : decode prog_14_method_27_code 10 = .ok (.ireturn, 1) := by decide +kernel
theorem d_M_hide_11 : decode prog_14_method_27_code 11 = .ok (.aload_n 0, 1) := by decide +kernel
theorem d_M_hide_12 : decode prog_14_method_27_code 12 = .ok (.getfield 146, 3) := by decide +kernel
theorem d_M_hide_15 : decode prog_14_method_27_code 15 = .ok (.bipush 49, 2) := by decide +kernel
theorem d_M_hide_17 : decode prog_14_method_27_code 17 = .ok (.iadd, 1) := by decide +kernel
theorem d_M_hide_18 : decode prog_14_method_27_code 18 = .ok (.iconst 3, 1) := by decide +kernel
theorem d_M_hide_19 : decode prog_14_method_27_code 19 = .ok (.iload_n 1, 1) := by decide +kernel
theorem d_M_hide_20 : decode prog_14_method_27_code 20 = .ok (.imul, 1) := by decide +kernel
theorem d_M_hide_21 : decode prog_14_method_27_code 21 = .ok (.iadd, 1) := by decide +kernel
theorem d_M_hide_22 : decode prog_14_method_27_code 22 = .ok (.istore_n 2, 1) := by decide +kernel
theorem d_M_hide_23 : decode prog_14_method_27_code 23 = .ok (.aload_n 0, 1) := by decide +kernel
theorem d_M_hide_24 : decode prog_14_method_27_code 24 = .ok (.getfield 23, 3) := by decide +kernel
theorem d_M_hide_27 : decode prog_14_method_27_code 27 = .ok (.iload_n 2, 1) := by decide +kernel
theorem d_M_hide_28 : decode prog_14_method_27_code 28 = .ok (.iaload, 1) := by decide +kernel
theorem d_M_hide_29 : decode prog_14_method_27_code 29 = .ok (.iconst 1, 1) := by decide +kernel
theorem d_M_hide_30 : decode prog_14_method_27_code 30 = .ok (.if_icmp .ne 5, 3) := by decide +kernel
theorem d_M_hide_33 : decode prog_14_method_27_code 33 = .ok (.iconst 3, 1) := by decide +kernel
theorem d_M_hide_34 : decode prog_14_method_27_code 34 = .ok (.ireturn, 1) := by decide +kernel
theorem d_M_hide_35 : decode prog_14_method_27_code 35 = .ok (.aload_n 0, 1) := by decide +kernel
theorem d_M_hide_36 : decode prog_14_method_27_code 36 = .ok (.invokevirtual 139, 3) := by decide +kernel
theorem d_M_hide_39 : decode prog_14_method_27_code 39 = .ok (.aload_n 0, 1) := by decide +kernel
theorem d_M_hide_40 : decode prog_14_method_27_code 40 = .ok (.bipush 102, 2) := by decide +kernel
theorem d_M_hide_42 : decode prog_14_method_27_code 42 = .ok (.bipush 114, 2) := by decide +kernel
theorem d_M_hide_44 : decode prog_14_method_27_code 44 = .ok (.bipush 111, 2) := by decide +kernel
theorem d_M_hide_46 : decode prog_14_method_27_code 46 = .ok (.bipush 109, 2) := by decide +kernel
theorem d_M_hide_48 : decode prog_14_method_27_code 48 = .ok (.invokestatic 117, 3) := by decide +kernel
theorem d_M_hide_51 : decode prog_14_method_27_code 51 = .ok (.invokevirtual 125, 3) := by decide +kernel
theorem d_M_hide_54 : decode prog_14_method_27_code 54 = .ok (.ifCond .ne 5, 3) := by decide +kernel
theorem d_M_hide_57 : decode prog_14_method_27_code 57 = .ok (.iconst 1, 1) := by decide +kernel
theorem d_M_hide_58 : decode prog_14_method_27_code 58 = .ok (.ireturn, 1) := by decide +kernel
theorem d_M_hide_59 : decode prog_14_method_27_code 59 = .ok (.aload_n 0, 1) := by decide +kernel
theorem d_M_hide_60 : decode prog_14_method_27_code 60 = .ok (.invokevirtual 139, 3) := by decide +kernel
theorem d_M_hide_63 : decode prog_14_method_27_code 63 = .ok (.aload_n 0, 1) := by decide +kernel
theorem d_M_hide_64 : decode prog_14_method_27_code 64 = .ok (.iconst 0, 1) := by decide +kernel
theorem d_M_hide_65 : decode prog_14_method_27_code 65 = .ok (.sipush 9999, 3) := by decide +kernel
theorem d_M_hide_68 : decode prog_14_method_27_code 68 = .ok (.iload_n 2, 1) := by decide +kernel
theorem d_M_hide_69 : decode prog_14_method_27_code 69 = .ok (.iconst 1, 1) := by decide +kernel
theorem d_M_hide_70 : decode prog_14_method_27_code 70 = .ok (.iadd, 1) := by decide +kernel
theorem d_M_hide_71 : decode prog_14_method_27_code 71 = .ok (.invokevirtual 149, 3) := by decide +kernel
theorem d_M_hide_74 : decode prog_14_method_27_code 74 = .ok (.istore_n 3, 1) := by decide +kernel
theorem d_M_hide_75 : decode prog_14_method_27_code 75 = .ok (.iload_n 3, 1) := by decide +kernel
theorem d_M_hide_76 : decode prog_14_method_27_code 76 = .ok (.ifCond .eq 5, 3) := by decide +kernel
theorem d_M_hide_79 : decode prog_14_method_27_code 79 = .ok (.iload_n 3, 1) := by decide +kernel
theorem d_M_hide_80 : decode prog_14_method_27_code 80 = .ok (.ireturn, 1) := by decide +kernel
theorem d_M_hide_81 : decode prog_14_method_27_code 81 = .ok (.aload_n 0, 1) := by decide +kernel
theorem d_M_hide_82 : decode prog_14_method_27_code 82 = .ok (.ldc2_w 152, 3) := by decide +kernel
theorem d_M_hide_85 : decode prog_14_method_27_code 85 = .ok (.invokevirtual 125, 3) := by decide +kernel
theorem d_M_hide_88 : decode prog_14_method_27_code 88 = .ok (.ifCond .ne 5, 3) := by decide +kernel
theorem d_M_hide_91 : decode prog_14_method_27_code 91 = .ok (.iconst 1, 1) := by decide +kernel
theorem d_M_hide_92 : decode prog_14_method_27_code 92 = .ok (.ireturn, 1) := by decide +kernel
theorem d_M_hide_93 : decode prog_14_method_27_code 93 = .ok (.aload_n 0, 1) := by decide +kernel
theorem d_M_hide_94 : decode prog_14_method_27_code 94 = .ok (.invokevirtual 139, 3) := by decide +kernel
theorem d_M_hide_97 : decode prog_14_method_27_code 97 = .ok (.aload_n 0, 1) := by decide +kernel
theorem d_M_hide_98 : decode prog_14_method_27_code 98 = .ok (.getfield 93, 3) := by decide +kernel
theorem d_M_hide_101 : decode prog_14_method_27_code 101 = .ok (.iconst 1, 1) := by decide +kernel
theorem d_M_hide_102 : decode prog_14_method_27_code 102 = .ok (.if_icmp .ne 30, 3) := by decide +kernel
theorem d_M_hide_105 : decode prog_14_method_27_code 105 = .ok (.aload_n 0, 1) := by decide +kernel
theorem d_M_hide_106 : decode prog_14_method_27_code 106 = .ok (.getfield 100, 3) := by decide +kernel
theorem d_M_hide_109 : decode prog_14_method_27_code 109 = .ok (.sipush 9999, 3) := by decide +kernel
theorem d_M_hide_112 : decode prog_14_method_27_code 112 = .ok (.if_icmp .gt 20, 3) := by decide +kernel
theorem d_M_hide_115 : decode prog_14_method_27_code 115 = .ok (.aload_n 0, 1) := by decide +kernel
theorem d_M_hide_116 : decode prog_14_method_27_code 116 = .ok (.getfield 100, 3) := by decide +kernel
theorem d_M_hide_119 : decode prog_14_method_27_code 119 = .ok (.aload_n 0, 1) := by decide +kernel
theorem d_M_hide_120 : decode prog_14_method_27_code 120 = .ok (.getfield 23, 3) := by decide +kernel
theorem d_M_hide_123 : decode prog_14_method_27_code 123 = .ok (.iload_n 2, 1) := by decide +kernel
theorem d_M_hide_124 : decode prog_14_method_27_code 124 = .ok (.iconst 1, 1) := by decide +kernel
theorem d_M_hide_125 : decode prog_14_method_27_code 125 = .ok (.iadd, 1) := by decide +kernel
theorem d_M_hide_126 : decode prog_14_method_27_code 126 = .ok (.iaload, 1) := by decide +kernel
theorem d_M_hide_127 : decode prog_14_method_27_code 127 = .ok (.if_icmp .ge 5, 3) := by decide +kernel
theorem d_M_hide_130 : decode prog_14_method_27_code 130 = .ok (.iconst 5, 1) := by decide +kernel
theorem d_M_hide_131 : decode prog_14_method_27_code 131 = .ok (.ireturn, 1) := by decide +kernel
theorem d_M_hide_132 : decode prog_14_method_27_code 132 = .ok (.aload_n 0, 1) := by decide +kernel
theorem d_M_hide_133 : decode prog_14_method_27_code 133 = .ok (.iconst 0, 1) := by decide +kernel
theorem d_M_hide_134 : decode prog_14_method_27_code 134 = .ok (.sipush 9999, 3) := by decide +kernel
theorem d_M_hide_137 : decode prog_14_method_27_code 137 = .ok (.iload_n 2, 1) := by decide +kernel
theorem d_M_hide_138 : decode prog_14_method_27_code 138 = .ok (.iconst 2, 1) := by decide +kernel
theorem d_M_hide_139 : decode prog_14_method_27_code 139 = .ok (.iadd, 1) := by decide +kernel
theorem d_M_hide_140 : decode prog_14_method_27_code 140 = .ok (.invokevirtual 149, 3) := by decide +kernel
theorem d_M_hide_143 : decode prog_14_method_27_code 143 = .ok (.istore_n 3, 1) := by decide +kernel
theorem d_M_hide_144 : decode prog_14_method_27_code 144 = .ok (.iload_n 3, 1) := by decide +kernel
theorem d_M_hide_145 : decode prog_14_method_27_code 145 = .ok (.ifCond .ne 10, 3) := by decide +kernel
theorem d_M_hide_148 : decode prog_14_method_27_code 148 = .ok (.aload_n 0, 1) := by decide +kernel
theorem d_M_hide_149 : decode prog_14_method_27_code 149 = .ok (.getfield 23, 3) := by decide +kernel
theorem d_M_hide_152 : decode prog_14_method_27_code 152 = .ok (.iload_n 2, 1) := by decide +kernel
theorem d_M_hide_153 : decode prog_14_method_27_code 153 = .ok (.iconst 1, 1) := by decide +kernel
theorem d_M_hide_154 : decode prog_14_method_27_code 154 = .ok (.iastore, 1) := by decide +kernel
theorem d_M_hide_155 : decode prog_14_method_27_code 155 = .ok (.iload_n 3, 1) := by decide +kernel
theorem d_M_hide_156 : decode prog_14_method_27_code 156 = .ok (.ireturn, 1) := by decide +kernel
theorem d_M_letterAt_0 : decode prog_14_method_25_code 0 = .ok (.aload_n 0, 1) := by decide +kernel
theorem d_M_letterAt_1 : decode prog_14_method_25_code 1 = .ok (.getfield 93, 3) := by decide +kernel
theorem d_M_letterAt_4 : decode prog_14_method_25_code 4 = .ok (.iconst 2, 1) := by decide +kernel
theorem d_M_letterAt_5 : decode prog_14_method_25_code 5 = .ok (.if_icmp .ne 36, 3) := by decide +kernel
theorem d_M_letterAt_8 : decode prog_14_method_25_code 8 = .ok (.aload_n 0, 1) := by decide +kernel
theorem d_M_letterAt_9 : decode prog_14_method_25_code 9 = .ok (.getfield 107, 3) := by decide +kernel
theorem d_M_letterAt_12 : decode prog_14_method_25_code 12 = .ok (.ldc2_w 135, 3) := by decide +kernel
theorem d_M_letterAt_15 : decode prog_14_method_25_code 15 = .ok (.lcmp, 1) := by decide +kernel
theorem d_M_letterAt_16 : decode prog_14_method_25_code 16 = .ok (.ifCond .lt 25, 3) := by decide +kernel
theorem d_M_letterAt_19 : decode prog_14_method_25_code 19 = .ok (.aload_n 0, 1) := by decide +kernel
theorem d_M_letterAt_20 : decode prog_14_method_25_code 20 = .ok (.getfield 107, 3) := by decide +kernel
theorem d_M_letterAt_23 : decode prog_14_method_25_code 23 = .ok (.ldc2_w 137, 3) := by decide +kernel
theorem d_M_letterAt_26 : decode prog_14_method_25_code 26 = .ok (.lcmp, 1) := by decide +kernel
theorem d_M_letterAt_27 : decode prog_14_method_25_code 27 = .ok (.ifCond .gt 14, 3) := by decide +kernel
theorem d_M_letterAt_30 : decode prog_14_method_25_code 30 = .ok (.aload_n 0, 1) := by decide +kernel
theorem d_M_letterAt_31 : decode prog_14_method_25_code 31 = .ok (.getfield 107, 3) := by decide +kernel
theorem d_M_letterAt_34 : decode prog_14_method_25_code 34 = .ok (.l2i, 1) := by decide +kernel
theorem d_M_letterAt_35 : decode prog_14_method_25_code 35 = .ok (.bipush 97, 2) := by decide +kernel
theorem d_M_letterAt_37 : decode prog_14_method_25_code 37 = .ok (.isub, 1) := by decide +kernel
theorem d_M_letterAt_38 : decode prog_14_method_25_code 38 = .ok (.goto 4, 3) := by decide +kernel
theorem d_M_letterAt_41 : decode prog_14_method_25_code 41 = .ok (.iconst (-1), 1) := by decide +kernel
theorem d_M_letterAt_42 : decode prog_14_method_25_code 42 = .ok (.ireturn, 1) := by decide +kernel
theorem d_M_numberAt_0 : decode prog_14_method_26_code 0 = .ok (.aload_n 0, 1) := by decide +kernel
theorem d_M_numberAt_1 : decode prog_14_method_26_code 1 = .ok (.getfield 93, 3) := by decide +kernel
theorem d_M_numberAt_4 : decode prog_14_method_26_code 4 = .ok (.iconst 1, 1) := by decide +kernel
theorem d_M_numberAt_5 : decode prog_14_method_26_code 5 = .ok (.if_icmp .eq 5, 3) := by decide +kernel
theorem d_M_numberAt_8 : decode prog_14_method_26_code 8 = .ok (.iconst 1, 1) := by decide +kernel
theorem d_M_numberAt_9 : decode prog_14_method_26_code 9 = .ok (.ireturn, 1) := by decide +kernel
theorem d_M_numberAt_10 : decode prog_14_method_26_code 10 = .ok (.aload_n 0, 1) := by decide +kernel
theorem d_M_numberAt_11 : decode prog_14_method_26_code 11 = .ok (.getfield 100, 3) := by decide +kernel
theorem d_M_numberAt_14 : decode prog_14_method_26_code 14 = .ok (.iload_n 1, 1) := by decide +kernel
theorem d_M_numberAt_15 : decode prog_14_method_26_code 15 = .ok (.iload_n 2, 1) := by decide +kernel
theorem d_M_numberAt_16 : decode prog_14_method_26_code 16 = .ok (.invokestatic 68, 3) := by decide +kernel
theorem d_M_numberAt_19 : decode prog_14_method_26_code 19 = .ok (.ifCond .ne 5, 3) := by decide +kernel
theorem d_M_numberAt_22 : decode prog_14_method_26_code 22 = .ok (.iconst 2, 1) := by decide +kernel
theorem d_M_numberAt_23 : decode prog_14_method_26_code 23 = .ok (.ireturn, 1) := by decide +kernel
theorem d_M_numberAt_24 : decode prog_14_method_26_code 24 = .ok (.aload_n 0, 1) := by decide +kernel
theorem d_M_numberAt_25 : decode prog_14_method_26_code 25 = .ok (.getfield 23, 3) := by decide +kernel
theorem d_M_numberAt_28 : decode prog_14_method_26_code 28 = .ok (.iload_n 3, 1) := by decide +kernel
theorem d_M_numberAt_29 : decode prog_14_method_26_code 29 = .ok (.aload_n 0, 1) := by decide +kernel
theorem d_M_numberAt_30 : decode prog_14_method_26_code 30 = .ok (.getfield 100, 3) := by decide +kernel
theorem d_M_numberAt_33 : decode prog_14_method_26_code 33 = .ok (.iastore, 1) := by decide +kernel
theorem d_M_numberAt_34 : decode prog_14_method_26_code 34 = .ok (.aload_n 0, 1) := by decide +kernel
theorem d_M_numberAt_35 : decode prog_14_method_26_code 35 = .ok (.invokevirtual 139, 3) := by decide +kernel
theorem d_M_numberAt_38 : decode prog_14_method_26_code 38 = .ok (.iconst 0, 1) := by decide +kernel
theorem d_M_numberAt_39 : decode prog_14_method_26_code 39 = .ok (.ireturn, 1) := by decide +kernel
theorem d_M_order0_0 : decode prog_14_method_29_code 0 = .ok (.aload_n 0, 1) := by decide +kernel
theorem d_M_order0_1 : decode prog_14_method_29_code 1 = .ok (.getfield 23, 3) := by decide +kernel
theorem d_M_order0_4 : decode prog_14_method_29_code 4 = .ok (.aload_n 0, 1) := by decide +kernel
theorem d_M_order0_5 : decode prog_14_method_29_code 5 = .ok (.getfield 146, 3) := by decide +kernel
theorem d_M_order0_8 : decode prog_14_method_29_code 8 = .ok (.iaload, 1) := by decide +kernel
theorem d_M_order0_9 : decode prog_14_method_29_code 9 = .ok (.istore_n 2, 1) := by decide +kernel
theorem d_M_order0_10 : decode prog_14_method_29_code 10 = .ok (.aload_n 0, 1) := by decide +kernel
theorem d_M_order0_11 : decode prog_14_method_29_code 11 = .ok (.getfield 146, 3) := by decide +kernel
theorem d_M_order0_14 : decode prog_14_method_29_code 14 = .ok (.iconst 1, 1) := by decide +kernel
theorem d_M_order0_15 : decode prog_14_method_29_code 15 = .ok (.iadd, 1) := by decide +kernel
theorem d_M_order0_16 : decode prog_14_method_29_code 16 = .ok (.iconst 2, 1) := by decide +kernel
theorem d_M_order0_17 : decode prog_14_method_29_code 17 = .ok (.iload_n 2, 1) := by decide +kernel
theorem d_M_order0_18 : decode prog_14_method_29_code 18 = .ok (.imul, 1) := by decide +kernel
theorem d_M_order0_19 : decode prog_14_method_29_code 19 = .ok (.iadd, 1) := by decide +kernel
theorem d_M_order0_20 : decode prog_14_method_29_code 20 = .ok (.istore_n 3, 1) := by decide +kernel
theorem d_M_order0_21 : decode prog_14_method_29_code 21 = .ok (.aload_n 0, 1) := by decide +kernel
theorem d_M_order0_22 : decode prog_14_method_29_code 22 = .ok (.getfield 23, 3) := by decide +kernel
theorem d_M_order0_25 : decode prog_14_method_29_code 25 = .ok (.iload_n 3, 1) := by decide +kernel
theorem d_M_order0_26 : decode prog_14_method_29_code 26 = .ok (.iload_n 1, 1) := by decide +kernel
theorem d_M_order0_27 : decode prog_14_method_29_code 27 = .ok (.iastore, 1) := by decide +kernel
theorem d_M_order0_28 : decode prog_14_method_29_code 28 = .ok (.aload_n 0, 1) := by decide +kernel
theorem d_M_order0_29 : decode prog_14_method_29_code 29 = .ok (.getfield 23, 3) := by decide +kernel
theorem d_M_order0_32 : decode prog_14_method_29_code 32 = .ok (.iload_n 3, 1) := by decide +kernel
theorem d_M_order0_33 : decode prog_14_method_29_code 33 = .ok (.iconst 1, 1) := by decide +kernel
theorem d_M_order0_34 : decode prog_14_method_29_code 34 = .ok (.iadd, 1) := by decide +kernel
theorem d_M_order0_35 : decode prog_14_method_29_code 35 = .ok (.iconst 0, 1) := by decide +kernel
theorem d_M_order0_36 : decode prog_14_method_29_code 36 = .ok (.iastore, 1) := by decide +kernel
theorem d_M_order0_37 : decode prog_14_method_29_code 37 = .ok (.iload_n 1, 1) := by decide +kernel
theorem d_M_order0_38 : decode prog_14_method_29_code 38 = .ok (.bipush 6, 2) := by decide +kernel
theorem d_M_order0_40 : decode prog_14_method_29_code 40 = .ok (.if_icmp .ge 13, 3) := by decide +kernel
theorem d_M_order0_43 : decode prog_14_method_29_code 43 = .ok (.aload_n 0, 1) := by decide +kernel
theorem d_M_order0_44 : decode prog_14_method_29_code 44 = .ok (.iload_n 3, 1) := by decide +kernel
theorem d_M_order0_45 : decode prog_14_method_29_code 45 = .ok (.iconst 1, 1) := by decide +kernel
theorem d_M_order0_46 : decode prog_14_method_29_code 46 = .ok (.iadd, 1) := by decide +kernel
theorem d_M_order0_47 : decode prog_14_method_29_code 47 = .ok (.invokevirtual 154, 3) := by decide +kernel
theorem d_M_order0_50 : decode prog_14_method_29_code 50 = .ok (.goto 23, 3) := by decide +kernel
theorem d_M_order0_53 : decode prog_14_method_29_code 53 = .ok (.iload_n 1, 1) := by decide +kernel
theorem d_M_order0_54 : decode prog_14_method_29_code 54 = .ok (.bipush 8, 2) := by decide +kernel
theorem d_M_order0_56 : decode prog_14_method_29_code 56 = .ok (.if_icmp .ne 16, 3) := by decide +kernel
theorem d_M_order0_59 : decode prog_14_method_29_code 59 = .ok (.aload_n 0, 1) := by decide +kernel
theorem d_M_order0_60 : decode prog_14_method_29_code 60 = .ok (.iconst 1, 1) := by decide +kernel
theorem d_M_order0_61 : decode prog_14_method_29_code 61 = .ok (.bipush 9, 2) := by decide +kernel
theorem d_M_order0_63 : decode prog_14_method_29_code 63 = .ok (.iload_n 3, 1) := by decide +kernel
theorem d_M_order0_64 : decode prog_14_method_29_code 64 = .ok (.iconst 1, 1) := by decide +kernel
theorem d_M_order0_65 : decode prog_14_method_29_code 65 = .ok (.iadd, 1) := by decide +kernel
theorem d_M_order0_66 : decode prog_14_method_29_code 66 = .ok (.invokevirtual 149, 3) := by decide +kernel
theorem d_M_order0_69 : decode prog_14_method_29_code 69 = .ok (.goto 4, 3) := by decide +kernel
theorem d_M_order0_72 : decode prog_14_method_29_code 72 = .ok (.iconst 0, 1) := by decide +kernel
theorem d_M_order0_73 : decode prog_14_method_29_code 73 = .ok (.istore 4, 2) := by decide +kernel
theorem d_M_order0_75 : decode prog_14_method_29_code 75 = .ok (.iload 4, 2) := by decide +kernel
theorem d_M_order0_77 : decode prog_14_method_29_code 77 = .ok (.ifCond .ne 16, 3) := by decide +kernel
theorem d_M_order0_80 : decode prog_14_method_29_code 80 = .ok (.aload_n 0, 1) := by decide +kernel
theorem d_M_order0_81 : decode prog_14_method_29_code 81 = .ok (.getfield 23, 3) := by decide +kernel
theorem d_M_order0_84 : decode prog_14_method_29_code 84 = .ok (.aload_n 0, 1) := by decide +kernel
theorem d_M_order0_85 : decode prog_14_method_29_code 85 = .ok (.getfield 146, 3) := by decide +kernel
theorem d_M_order0_88 : decode prog_14_method_29_code 88 = .ok (.dup2, 1) := by decide +kernel
theorem d_M_order0_89 : decode prog_14_method_29_code 89 = .ok (.iaload, 1) := by decide +kernel
theorem d_M_order0_90 : decode prog_14_method_29_code 90 = .ok (.iconst 1, 1) := by decide +kernel
theorem d_M_order0_91 : decode prog_14_method_29_code 91 = .ok (.iadd, 1) := by decide +kernel
theorem d_M_order0_92 : decode prog_14_method_29_code 92 = .ok (.iastore, 1) := by decide +kernel
theorem d_M_order0_93 : decode prog_14_method_29_code 93 = .ok (.iload 4, 2) := by decide +kernel
theorem d_M_order0_95 : decode prog_14_method_29_code 95 = .ok (.ireturn, 1) := by decide +kernel
theorem d_M_xAt_0 : decode prog_14_method_28_code 0 = .ok (.aload_n 0, 1) := by decide +kernel
theorem d_M_xAt_1 : decode prog_14_method_28_code 1 = .ok (.invokevirtual 142, 3) := by decide +kernel
theorem d_M_xAt_4 : decode prog_14_method_28_code 4 = .ok (.istore_n 2, 1) := by decide +kernel
theorem d_M_xAt_5 : decode prog_14_method_28_code 5 = .ok (.iload_n 2, 1) := by decide +kernel
theorem d_M_xAt_6 : decode prog_14_method_28_code 6 = .ok (.ifCond .ge 13, 3) := by decide +kernel
theorem d_M_xAt_9 : decode prog_14_method_28_code 9 = .ok (.aload_n 0, 1) := by decide +kernel
theorem d_M_xAt_10 : decode prog_14_method_28_code 10 = .ok (.iconst 0, 1) := by decide +kernel
theorem d_M_xAt_11 : decode prog_14_method_28_code 11 = .ok (.sipush 9999, 3) := by decide +kernel
theorem d_M_xAt_14 : decode prog_14_method_28_code 14 = .ok (.iload_n 1, 1) := by decide +kernel
theorem d_M_xAt_15 : decode prog_14_method_28_code 15 = .ok (.invokevirtual 149, 3) := by decide +kernel
theorem d_M_xAt_18 : decode prog_14_method_28_code 18 = .ok (.ireturn, 1) := by decide +kernel
theorem d_M_xAt_19 : decode prog_14_method_28_code 19 = .ok (.aload_n 0, 1) := by decide +kernel
theorem d_M_xAt_20 : decode prog_14_method_28_code 20 = .ok (.getfield 23, 3) := by decide +kernel
theorem d_M_xAt_23 : decode prog_14_method_28_code 23 = .ok (.aload_n 0, 1) := by decide +kernel
theorem d_M_xAt_24 : decode prog_14_method_28_code 24 = .ok (.getfield 146, 3) := by decide +kernel
theorem d_M_xAt_27 : decode prog_14_method_28_code 27 = .ok (.bipush 49, 2) := by decide +kernel
theorem d_M_xAt_29 : decode prog_14_method_28_code 29 = .ok (.iadd, 1) := by decide +kernel
theorem d_M_xAt_30 : decode prog_14_method_28_code 30 = .ok (.iconst 3, 1) := by decide +kernel
theorem d_M_xAt_31 : decode prog_14_method_28_code 31 = .ok (.iload_n 2, 1) := by decide +kernel
theorem d_M_xAt_32 : decode prog_14_method_28_code 32 = .ok (.imul, 1) := by decide +kernel
theorem d_M_xAt_33 : decode prog_14_method_28_code 33 = .ok (.iadd, 1) := by decide +kernel
theorem d_M_xAt_34 : decode prog_14_method_28_code 34 = .ok (.iaload, 1) := by decide +kernel
theorem d_M_xAt_35 : decode prog_14_method_28_code 35 = .ok (.ifCond .ne 5, 3) := by decide +kernel
theorem d_M_xAt_38 : decode prog_14_method_28_code 38 = .ok (.iconst 4, 1) := by decide +kernel
theorem d_M_xAt_39 : decode prog_14_method_28_code 39 = .ok (.ireturn, 1) := by decide +kernel
theorem d_M_xAt_40 : decode prog_14_method_28_code 40 = .ok (.aload_n 0, 1) := by decide +kernel
theorem d_M_xAt_41 : decode prog_14_method_28_code 41 = .ok (.getfield 23, 3) := by decide +kernel
theorem d_M_xAt_44 : decode prog_14_method_28_code 44 = .ok (.iload_n 1, 1) := by decide +kernel
theorem d_M_xAt_45 : decode prog_14_method_28_code 45 = .ok (.sipush 10000, 3) := by decide +kernel
theorem d_M_xAt_48 : decode prog_14_method_28_code 48 = .ok (.iload_n 2, 1) := by decide +kernel
theorem d_M_xAt_49 : decode prog_14_method_28_code 49 = .ok (.iadd, 1) := by decide +kernel
theorem d_M_xAt_50 : decode prog_14_method_28_code 50 = .ok (.iastore, 1) := by decide +kernel
theorem d_M_xAt_51 : decode prog_14_method_28_code 51 = .ok (.aload_n 0, 1) := by decide +kernel
theorem d_M_xAt_52 : decode prog_14_method_28_code 52 = .ok (.invokevirtual 139, 3) := by decide +kernel
theorem d_M_xAt_55 : decode prog_14_method_28_code 55 = .ok (.iconst 0, 1) := by decide +kernel
theorem d_M_xAt_56 : decode prog_14_method_28_code 56 = .ok (.ireturn, 1) := by decide +kernel
theorem d_M_fault_0 : decode prog_14_method_32_code 0 = .ok (.iload_n 1, 1) := by decide +kernel
theorem d_M_fault_1 : decode prog_14_method_32_code 1 = .ok (.ifCond .ne 10, 3) := by decide +kernel
theorem d_M_fault_4 : decode prog_14_method_32_code 4 = .ok (.aload_n 0, 1) := by decide +kernel
theorem d_M_fault_5 : decode prog_14_method_32_code 5 = .ok (.getfield 29, 3) := by decide +kernel
theorem d_M_fault_8 : decode prog_14_method_32_code 8 = .ok (.goto 16, 3) := by decide +kernel
theorem d_M_fault_11 : decode prog_14_method_32_code 11 = .ok (.iload_n 1, 1) := by decide +kernel
theorem d_M_fault_12 : decode prog_14_method_32_code 12 = .ok (.iconst 1, 1) := by decide +kernel
theorem d_M_fault_13 : decode prog_14_method_32_code 13 = .ok (.if_icmp .ne 10, 3) := by decide +kernel
theorem d_M_fault_16 : decode prog_14_method_32_code 16 = .ok (.aload_n 0, 1) := by decide +kernel
theorem d_M_fault_17 : decode prog_14_method_32_code 17 = .ok (.getfield 33, 3) := by decide +kernel
theorem d_M_fault_20 : decode prog_14_method_32_code 20 = .ok (.goto 4, 3) := by decide +kernel
theorem d_M_fault_23 : decode prog_14_method_32_code 23 = .ok (.iconst (-1), 1) := by decide +kernel
theorem d_M_fault_24 : decode prog_14_method_32_code 24 = .ok (.ireturn, 1) := by decide +kernel
theorem d_M_order_0 : decode prog_14_method_33_code 0 = .ok (.aload_n 0, 1) := by decide +kernel
theorem d_M_order_1 : decode prog_14_method_33_code 1 = .ok (.iload_n 1, 1) := by decide +kernel
theorem d_M_order_2 : decode prog_14_method_33_code 2 = .ok (.invokevirtual 169, 3) := by decide +kernel
theorem d_M_order_5 : decode prog_14_method_33_code 5 = .ok (.ifCond .ne 5, 3) := by decide +kernel
theorem d_M_order_8 : decode prog_14_method_33_code 8 = .ok (.iconst (-1), 1) := by decide +kernel
theorem d_M_order_9 : decode prog_14_method_33_code 9 = .ok (.ireturn, 1) := by decide +kernel
theorem d_M_order_10 : decode prog_14_method_33_code 10 = .ok (.iload_n 2, 1) := by decide +kernel
theorem d_M_order_11 : decode prog_14_method_33_code 11 = .ok (.iconst (-1), 1) := by decide +kernel
theorem d_M_order_12 : decode prog_14_method_33_code 12 = .ok (.if_icmp .ne 9, 3) := by decide +kernel
theorem d_M_order_15 : decode prog_14_method_33_code 15 = .ok (.aload_n 0, 1) := by decide +kernel
theorem d_M_order_16 : decode prog_14_method_33_code 16 = .ok (.iload_n 1, 1) := by decide +kernel
theorem d_M_order_17 : decode prog_14_method_33_code 17 = .ok (.invokevirtual 172, 3) := by decide +kernel
theorem d_M_order_20 : decode prog_14_method_33_code 20 = .ok (.ireturn, 1) := by decide +kernel
theorem d_M_order_21 : decode prog_14_method_33_code 21 = .ok (.iload_n 2, 1) := by decide +kernel
theorem d_M_order_22 : decode prog_14_method_33_code 22 = .ok (.iconst 0, 1) := by decide +kernel
theorem d_M_order_23 : decode prog_14_method_33_code 23 = .ok (.aload_n 0, 1) := by decide +kernel
theorem d_M_order_24 : decode prog_14_method_33_code 24 = .ok (.iload_n 1, 1) := by decide +kernel
theorem d_M_order_25 : decode prog_14_method_33_code 25 = .ok (.invokevirtual 172, 3) := by decide +kernel
theorem d_M_order_28 : decode prog_14_method_33_code 28 = .ok (.iconst 1, 1) := by decide +kernel
theorem d_M_order_29 : decode prog_14_method_33_code 29 = .ok (.isub, 1) := by decide +kernel
theorem d_M_order_30 : decode prog_14_method_33_code 30 = .ok (.invokestatic 68, 3) := by decide +kernel
theorem d_M_order_33 : decode prog_14_method_33_code 33 = .ok (.ifCond .ne 5, 3) := by decide +kernel
theorem d_M_order_36 : decode prog_14_method_33_code 36 = .ok (.iconst (-1), 1) := by decide +kernel
theorem d_M_order_37 : decode prog_14_method_33_code 37 = .ok (.ireturn, 1) := by decide +kernel
theorem d_M_order_38 : decode prog_14_method_33_code 38 = .ok (.iload_n 3, 1) := by decide +kernel
theorem d_M_order_39 : decode prog_14_method_33_code 39 = .ok (.ifCond .eq 12, 3) := by decide +kernel
theorem d_M_order_42 : decode prog_14_method_33_code 42 = .ok (.aload_n 0, 1) := by decide +kernel
theorem d_M_order_43 : decode prog_14_method_33_code 43 = .ok (.iload_n 1, 1) := by decide +kernel
theorem d_M_order_44 : decode prog_14_method_33_code 44 = .ok (.iload_n 2, 1) := by decide +kernel
theorem d_M_order_45 : decode prog_14_method_33_code 45 = .ok (.invokevirtual 175, 3) := by decide +kernel
theorem d_M_order_48 : decode prog_14_method_33_code 48 = .ok (.goto 9, 3) := by decide +kernel
theorem d_M_order_51 : decode prog_14_method_33_code 51 = .ok (.aload_n 0, 1) := by decide +kernel
theorem d_M_order_52 : decode prog_14_method_33_code 52 = .ok (.iload_n 1, 1) := by decide +kernel
theorem d_M_order_53 : decode prog_14_method_33_code 53 = .ok (.iload_n 2, 1) := by decide +kernel
theorem d_M_order_54 : decode prog_14_method_33_code 54 = .ok (.invokevirtual 179, 3) := by decide +kernel
theorem d_M_order_57 : decode prog_14_method_33_code 57 = .ok (.ireturn, 1) := by decide +kernel
theorem d_M_isTable_0 : decode prog_14_method_5_code 0 = .ok (.iload_n 1, 1) := by decide +kernel
theorem d_M_isTable_1 : decode prog_14_method_5_code 1 = .ok (.iconst 0, 1) := by decide +kernel
theorem d_M_isTable_2 : decode prog_14_method_5_code 2 = .ok (.aload_n 0, 1) := by decide +kernel
theorem d_M_isTable_3 : decode prog_14_method_5_code 3 = .ok (.getfield 7, 3) := by decide +kernel
theorem d_M_isTable_6 : decode prog_14_method_5_code 6 = .ok (.iconst 0, 1) := by decide +kernel
theorem d_M_isTable_7 : decode prog_14_method_5_code 7 = .ok (.iaload, 1) := by decide +kernel
theorem d_M_isTable_8 : decode prog_14_method_5_code 8 = .ok (.iconst 1, 1) := by decide +kernel
theorem d_M_isTable_9 : decode prog_14_method_5_code 9 = .ok (.isub, 1) := by decide +kernel
theorem d_M_isTable_10 : decode prog_14_method_5_code 10 = .ok (.invokestatic 68, 3) := by decide +kernel
theorem d_M_isTable_13 : decode prog_14_method_5_code 13 = .ok (.ireturn, 1) := by decide +kernel
theorem d_M_ordersOf_0 : decode prog_14_method_6_code 0 = .ok (.aload_n 0, 1) := by decide +kernel
theorem d_M_ordersOf_1 : decode prog_14_method_6_code 1 = .ok (.getfield 23, 3) := by decide +kernel
theorem d_M_ordersOf_4 : decode prog_14_method_6_code 4 = .ok (.bipush 61, 2) := by decide +kernel
theorem d_M_ordersOf_6 : decode prog_14_method_6_code 6 = .ok (.iload_n 1, 1) := by decide +kernel
theorem d_M_ordersOf_7 : decode prog_14_method_6_code 7 = .ok (.imul, 1) := by decide +kernel
theorem d_M_ordersOf_8 : decode prog_14_method_6_code 8 = .ok (.iaload, 1) := by decide +kernel
theorem d_M_ordersOf_9 : decode prog_14_method_6_code 9 = .ok (.ireturn, 1) := by decide +kernel
theorem d_M_xOf_0 : decode prog_14_method_8_code 0 = .ok (.aload_n 0, 1) := by decide +kernel
theorem d_M_xOf_1 : decode prog_14_method_8_code 1 = .ok (.getfield 23, 3) := by decide +kernel
theorem d_M_xOf_4 : decode prog_14_method_8_code 4 = .ok (.bipush 61, 2) := by decide +kernel
theorem d_M_xOf_6 : decode prog_14_method_8_code 6 = .ok (.iload_n 1, 1) := by decide +kernel
theorem d_M_xOf_7 : decode prog_14_method_8_code 7 = .ok (.imul, 1) := by decide +kernel
theorem d_M_xOf_8 : decode prog_14_method_8_code 8 = .ok (.iconst 2, 1) := by decide +kernel
theorem d_M_xOf_9 : decode prog_14_method_8_code 9 = .ok (.iadd, 1) := by decide +kernel
theorem d_M_xOf_10 : decode prog_14_method_8_code 10 = .ok (.iconst 2, 1) := by decide +kernel
theorem d_M_xOf_11 : decode prog_14_method_8_code 11 = .ok (.iload_n 2, 1) := by decide +kernel
theorem d_M_xOf_12 : decode prog_14_method_8_code 12 = .ok (.imul, 1) := by decide +kernel
theorem d_M_xOf_13 : decode prog_14_method_8_code 13 = .ok (.iadd, 1) := by decide +kernel
theorem d_M_xOf_14 : decode prog_14_method_8_code 14 = .ok (.iaload, 1) := by decide +kernel
theorem d_M_xOf_15 : decode prog_14_method_8_code 15 = .ok (.ireturn, 1) := by decide +kernel
theorem d_M_kindOf_0 : decode prog_14_method_7_code 0 = .ok (.aload_n 0, 1) := by decide +kernel
theorem d_M_kindOf_1 : decode prog_14_method_7_code 1 = .ok (.getfield 23, 3) := by decide +kernel
theorem d_M_kindOf_4 : decode prog_14_method_7_code 4 = .ok (.bipush 61, 2) := by decide +kernel
theorem d_M_kindOf_6 : decode prog_14_method_7_code 6 = .ok (.iload_n 1, 1) := by decide +kernel
theorem d_M_kindOf_7 : decode prog_14_method_7_code 7 = .ok (.imul, 1) := by decide +kernel
theorem d_M_kindOf_8 : decode prog_14_method_7_code 8 = .ok (.iconst 1, 1) := by decide +kernel
theorem d_M_kindOf_9 : decode prog_14_method_7_code 9 = .ok (.iadd, 1) := by decide +kernel
theorem d_M_kindOf_10 : decode prog_14_method_7_code 10 = .ok (.iconst 2, 1) := by decide +kernel
theorem d_M_kindOf_11 : decode prog_14_method_7_code 11 = .ok (.iload_n 2, 1) := by decide +kernel
theorem d_M_kindOf_12 : decode prog_14_method_7_code 12 = .ok (.imul, 1) := by decide +kernel
theorem d_M_kindOf_13 : decode prog_14_method_7_code 13 = .ok (.iadd, 1) := by decide +kernel
theorem d_M_kindOf_14 : decode prog_14_method_7_code 14 = .ok (.iaload, 1) := by decide +kernel
theorem d_M_kindOf_15 : decode prog_14_method_7_code 15 = .ok (.ireturn, 1) := by decide +kernel
theorem d_M_span_0 : decode prog_14_method_34_code 0 = .ok (.aload_n 0, 1) := by decide +kernel
theorem d_M_span_1 : decode prog_14_method_34_code 1 = .ok (.iload_n 1, 1) := by decide +kernel
theorem d_M_span_2 : decode prog_14_method_34_code 2 = .ok (.invokevirtual 169, 3) := by decide +kernel
theorem d_M_span_5 : decode prog_14_method_34_code 5 = .ok (.ifCond .eq 21, 3) := by decide +kernel
theorem d_M_span_8 : decode prog_14_method_34_code 8 = .ok (.iload_n 2, 1) := by decide +kernel
theorem d_M_span_9 : decode prog_14_method_34_code 9 = .ok (.iconst 0, 1) := by decide +kernel
theorem d_M_span_10 : decode prog_14_method_34_code 10 = .ok (.iconst 3, 1) := by decide +kernel
theorem d_M_span_11 : decode prog_14_method_34_code 11 = .ok (.invokestatic 68, 3) := by decide +kernel
theorem d_M_span_14 : decode prog_14_method_34_code 14 = .ok (.ifCond .eq 12, 3) := by decide +kernel
theorem d_M_span_17 : decode prog_14_method_34_code 17 = .ok (.aload_n 0, 1) := by decide +kernel
theorem d_M_span_18 : decode prog_14_method_34_code 18 = .ok (.iload_n 1, 1) := by decide +kernel
theorem d_M_span_19 : decode prog_14_method_34_code 19 = .ok (.iload_n 2, 1) := by decide +kernel
theorem d_M_span_20 : decode prog_14_method_34_code 20 = .ok (.invokevirtual 182, 3) := by decide +kernel
theorem d_M_span_23 : decode prog_14_method_34_code 23 = .ok (.ifCond .ne 5, 3) := by decide +kernel
theorem d_M_span_26 : decode prog_14_method_34_code 26 = .ok (.iconst (-1), 1) := by decide +kernel
theorem d_M_span_27 : decode prog_14_method_34_code 27 = .ok (.ireturn, 1) := by decide +kernel
theorem d_M_span_28 : decode prog_14_method_34_code 28 = .ok (.aload_n 0, 1) := by decide +kernel
theorem d_M_span_29 : decode prog_14_method_34_code 29 = .ok (.iload_n 1, 1) := by decide +kernel
theorem d_M_span_30 : decode prog_14_method_34_code 30 = .ok (.iload_n 2, 1) := by decide +kernel
theorem d_M_span_31 : decode prog_14_method_34_code 31 = .ok (.iload_n 3, 1) := by decide +kernel
theorem d_M_span_32 : decode prog_14_method_34_code 32 = .ok (.ifCond .eq 7, 3) := by decide +kernel
theorem d_M_span_35 : decode prog_14_method_34_code 35 = .ok (.iconst 2, 1) := by decide +kernel
theorem d_M_span_36 : decode prog_14_method_34_code 36 = .ok (.goto 4, 3) := by decide +kernel
theorem d_M_span_39 : decode prog_14_method_34_code 39 = .ok (.iconst 1, 1) := by decide +kernel
theorem d_M_span_40 : decode prog_14_method_34_code 40 = .ok (.invokevirtual 72, 3) := by decide +kernel
theorem d_M_span_43 : decode prog_14_method_34_code 43 = .ok (.ireturn, 1) := by decide +kernel
theorem d_M_isHidden_0 : decode prog_14_method_10_code 0 = .ok (.aload_n 0, 1) := by decide +kernel
theorem d_M_isHidden_1 : decode prog_14_method_10_code 1 = .ok (.iload_n 1, 1) := by decide +kernel
theorem d_M_isHidden_2 : decode prog_14_method_10_code 2 = .ok (.iload_n 2, 1) := by decide +kernel
theorem d_M_isHidden_3 : decode prog_14_method_10_code 3 = .ok (.iconst 0, 1) := by decide +kernel
theorem d_M_isHidden_4 : decode prog_14_method_10_code 4 = .ok (.invokevirtual 72, 3) := by decide +kernel
theorem d_M_isHidden_7 : decode prog_14_method_10_code 7 = .ok (.iconst 1, 1) := by decide +kernel
theorem d_M_isHidden_8 : decode prog_14_method_10_code 8 = .ok (.if_icmp .ne 7, 3) := by decide +kernel
theorem d_M_isHidden_11 : decode prog_14_method_10_code 11 = .ok (.iconst 1, 1) := by decide +kernel
theorem d_M_isHidden_12 : decode prog_14_method_10_code 12 = .ok (.goto 4, 3) := by decide +kernel
theorem d_M_isHidden_15 : decode prog_14_method_10_code 15 = .ok (.iconst 0, 1) := by decide +kernel
theorem d_M_isHidden_16 : decode prog_14_method_10_code 16 = .ok (.ireturn, 1) := by decide +kernel
theorem d_M_spanOf_0 : decode prog_14_method_9_code 0 = .ok (.aload_n 0, 1) := by decide +kernel
theorem d_M_spanOf_1 : decode prog_14_method_9_code 1 = .ok (.getfield 23, 3) := by decide +kernel
theorem d_M_spanOf_4 : decode prog_14_method_9_code 4 = .ok (.bipush 61, 2) := by decide +kernel
theorem d_M_spanOf_6 : decode prog_14_method_9_code 6 = .ok (.iload_n 1, 1) := by decide +kernel
theorem d_M_spanOf_7 : decode prog_14_method_9_code 7 = .ok (.imul, 1) := by decide +kernel
theorem d_M_spanOf_8 : decode prog_14_method_9_code 8 = .ok (.bipush 49, 2) := by decide +kernel
theorem d_M_spanOf_10 : decode prog_14_method_9_code 10 = .ok (.iadd, 1) := by decide +kernel
theorem d_M_spanOf_11 : decode prog_14_method_9_code 11 = .ok (.iconst 3, 1) := by decide +kernel
theorem d_M_spanOf_12 : decode prog_14_method_9_code 12 = .ok (.iload_n 2, 1) := by decide +kernel
theorem d_M_spanOf_13 : decode prog_14_method_9_code 13 = .ok (.imul, 1) := by decide +kernel
theorem d_M_spanOf_14 : decode prog_14_method_9_code 14 = .ok (.iadd, 1) := by decide +kernel
theorem d_M_spanOf_15 : decode prog_14_method_9_code 15 = .ok (.iload_n 3, 1) := by decide +kernel
theorem d_M_spanOf_16 : decode prog_14_method_9_code 16 = .ok (.iadd, 1) := by decide +kernel
theorem d_M_spanOf_17 : decode prog_14_method_9_code 17 = .ok (.iaload, 1) := by decide +kernel
theorem d_M_spanOf_18 : decode prog_14_method_9_code 18 = .ok (.ireturn, 1) := by decide +kernel
theorem d_M_comes_0 : decode prog_14_method_46_code 0 = .ok (.aload_n 0, 1) := by decide +kernel
theorem d_M_comes_1 : decode prog_14_method_46_code 1 = .ok (.iload_n 1, 1) := by decide +kernel
theorem d_M_comes_2 : decode prog_14_method_46_code 2 = .ok (.invokevirtual 169, 3) := by decide +kernel
theorem d_M_comes_5 : decode prog_14_method_46_code 5 = .ok (.ifCond .eq 18, 3) := by decide +kernel
theorem d_M_comes_8 : decode prog_14_method_46_code 8 = .ok (.iload_n 2, 1) := by decide +kernel
theorem d_M_comes_9 : decode prog_14_method_46_code 9 = .ok (.iconst (-1), 1) := by decide +kernel
theorem d_M_comes_10 : decode prog_14_method_46_code 10 = .ok (.aload_n 0, 1) := by decide +kernel
theorem d_M_comes_11 : decode prog_14_method_46_code 11 = .ok (.iload_n 1, 1) := by decide +kernel
theorem d_M_comes_12 : decode prog_14_method_46_code 12 = .ok (.invokevirtual 172, 3) := by decide +kernel
theorem d_M_comes_15 : decode prog_14_method_46_code 15 = .ok (.iconst 1, 1) := by decide +kernel
theorem d_M_comes_16 : decode prog_14_method_46_code 16 = .ok (.isub, 1) := by decide +kernel
theorem d_M_comes_17 : decode prog_14_method_46_code 17 = .ok (.invokestatic 68, 3) := by decide +kernel
theorem d_M_comes_20 : decode prog_14_method_46_code 20 = .ok (.ifCond .ne 7, 3) := by decide +kernel
theorem d_M_comes_23 : decode prog_14_method_46_code 23 = .ok (.ldc2_w 233, 3) := by decide +kernel
theorem d_M_comes_26 : decode prog_14_method_46_code 26 = .ok (.lreturn, 1) := by decide +kernel
theorem d_M_comes_27 : decode prog_14_method_46_code 27 = .ok (.aload_n 0, 1) := by decide +kernel
theorem d_M_comes_28 : decode prog_14_method_46_code 28 = .ok (.invokevirtual 235, 3) := by decide +kernel
theorem d_M_comes_31 : decode prog_14_method_46_code 31 = .ok (.aload_n 0, 1) := by decide +kernel
theorem d_M_comes_32 : decode prog_14_method_46_code 32 = .ok (.iload_n 1, 1) := by decide +kernel
theorem d_M_comes_33 : decode prog_14_method_46_code 33 = .ok (.iload_n 2, 1) := by decide +kernel
theorem d_M_comes_34 : decode prog_14_method_46_code 34 = .ok (.iconst 1, 1) := by decide +kernel
theorem d_M_comes_35 : decode prog_14_method_46_code 35 = .ok (.iadd, 1) := by decide +kernel
theorem d_M_comes_36 : decode prog_14_method_46_code 36 = .ok (.invokevirtual 238, 3) := by decide +kernel
theorem d_M_comes_39 : decode prog_14_method_46_code 39 = .ok (.ifCond .lt 7, 3) := by decide +kernel
theorem d_M_comes_42 : decode prog_14_method_46_code 42 = .ok (.ldc2_w 233, 3) := by decide +kernel
theorem d_M_comes_45 : decode prog_14_method_46_code 45 = .ok (.lreturn, 1) := by decide +kernel
theorem d_M_comes_46 : decode prog_14_method_46_code 46 = .ok (.iload_n 3, 1) := by decide +kernel
theorem d_M_comes_47 : decode prog_14_method_46_code 47 = .ok (.ifCond .eq 10, 3) := by decide +kernel
theorem d_M_comes_50 : decode prog_14_method_46_code 50 = .ok (.aload_n 0, 1) := by decide +kernel
theorem d_M_comes_51 : decode prog_14_method_46_code 51 = .ok (.getfield 199, 3) := by decide +kernel
theorem d_M_comes_54 : decode prog_14_method_46_code 54 = .ok (.goto 7, 3) := by decide +kernel
theorem d_M_comes_57 : decode prog_14_method_46_code 57 = .ok (.aload_n 0, 1) := by decide +kernel
theorem d_M_comes_58 : decode prog_14_method_46_code 58 = .ok (.getfield 196, 3) := by decide +kernel
theorem d_M_comes_61 : decode prog_14_method_46_code 61 = .ok (.lreturn, 1) := by decide +kernel
theorem d_M_thinkNow_0 : decode prog_14_method_44_code 0 = .ok (.iconst 0, 1) := by decide +kernel
theorem d_M_thinkNow_1 : decode prog_14_method_44_code 1 = .ok (.istore_n 1, 1) := by decide +kernel
theorem d_M_thinkNow_2 : decode prog_14_method_44_code 2 = .ok (.iload_n 1, 1) := by decide +kernel
theorem d_M_thinkNow_3 : decode prog_14_method_44_code 3 = .ok (.iconst 4, 1) := by decide +kernel
theorem d_M_thinkNow_4 : decode prog_14_method_44_code 4 = .ok (.if_icmp .ge 24, 3) := by decide +kernel
theorem d_M_thinkNow_7 : decode prog_14_method_44_code 7 = .ok (.aload_n 0, 1) := by decide +kernel
theorem d_M_thinkNow_8 : decode prog_14_method_44_code 8 = .ok (.getfield 36, 3) := by decide +kernel
theorem d_M_thinkNow_11 : decode prog_14_method_44_code 11 = .ok (.iload_n 1, 1) := by decide +kernel
theorem d_M_thinkNow_12 : decode prog_14_method_44_code 12 = .ok (.aload_n 0, 1) := by decide +kernel
theorem d_M_thinkNow_13 : decode prog_14_method_44_code 13 = .ok (.getfield 7, 3) := by decide +kernel
theorem d_M_thinkNow_16 : decode prog_14_method_44_code 16 = .ok (.bipush 8, 2) := by decide +kernel
theorem d_M_thinkNow_18 : decode prog_14_method_44_code 18 = .ok (.iload_n 1, 1) := by decide +kernel
theorem d_M_thinkNow_19 : decode prog_14_method_44_code 19 = .ok (.iadd, 1) := by decide +kernel
theorem d_M_thinkNow_20 : decode prog_14_method_44_code 20 = .ok (.iaload, 1) := by decide +kernel
theorem d_M_thinkNow_21 : decode prog_14_method_44_code 21 = .ok (.iastore, 1) := by decide +kernel
theorem d_M_thinkNow_22 : decode prog_14_method_44_code 22 = .ok (.iinc 1 1, 3) := by decide +kernel
theorem d_M_thinkNow_25 : decode prog_14_method_44_code 25 = .ok (.goto (-23), 3) := by decide +kernel
theorem d_M_thinkNow_28 : decode prog_14_method_44_code 28 = .ok (.return_, 1) := by decide +kernel
theorem d_M_goTo_0 : decode prog_14_method_45_code 0 = .ok (.aload_n 0, 1) := by decide +kernel
theorem d_M_goTo_1 : decode prog_14_method_45_code 1 = .ok (.iload_n 1, 1) := by decide +kernel
theorem d_M_goTo_2 : decode prog_14_method_45_code 2 = .ok (.invokevirtual 227, 3) := by decide +kernel
theorem d_M_goTo_5 : decode prog_14_method_45_code 5 = .ok (.iconst 0, 1) := by decide +kernel
theorem d_M_goTo_6 : decode prog_14_method_45_code 6 = .ok (.istore_n 3, 1) := by decide +kernel
theorem d_M_goTo_7 : decode prog_14_method_45_code 7 = .ok (.iload_n 3, 1) := by decide +kernel
theorem d_M_goTo_8 : decode prog_14_method_45_code 8 = .ok (.iload_n 2, 1) := by decide +kernel
theorem d_M_goTo_9 : decode prog_14_method_45_code 9 = .ok (.if_icmp .ge 30, 3) := by decide +kernel
theorem d_M_goTo_12 : decode prog_14_method_45_code 12 = .ok (.aload_n 0, 1) := by decide +kernel
theorem d_M_goTo_13 : decode prog_14_method_45_code 13 = .ok (.aload_n 0, 1) := by decide +kernel
theorem d_M_goTo_14 : decode prog_14_method_45_code 14 = .ok (.iload_n 1, 1) := by decide +kernel
theorem d_M_goTo_15 : decode prog_14_method_45_code 15 = .ok (.iload_n 3, 1) := by decide +kernel
theorem d_M_goTo_16 : decode prog_14_method_45_code 16 = .ok (.invokevirtual 179, 3) := by decide +kernel
theorem d_M_goTo_19 : decode prog_14_method_45_code 19 = .ok (.aload_n 0, 1) := by decide +kernel
theorem d_M_goTo_20 : decode prog_14_method_45_code 20 = .ok (.iload_n 1, 1) := by decide +kernel
theorem d_M_goTo_21 : decode prog_14_method_45_code 21 = .ok (.iload_n 3, 1) := by decide +kernel
theorem d_M_goTo_22 : decode prog_14_method_45_code 22 = .ok (.invokevirtual 175, 3) := by decide +kernel
theorem d_M_goTo_25 : decode prog_14_method_45_code 25 = .ok (.invokevirtual 230, 3) := by decide +kernel
theorem d_M_goTo_28 : decode prog_14_method_45_code 28 = .ok (.ifCond .ne 5, 3) := by decide +kernel
theorem d_M_goTo_31 : decode prog_14_method_45_code 31 = .ok (.iload_n 3, 1) := by decide +kernel
theorem d_M_goTo_32 : decode prog_14_method_45_code 32 = .ok (.ireturn, 1) := by decide +kernel
theorem d_M_goTo_33 : decode prog_14_method_45_code 33 = .ok (.iinc 3 1, 3) := by decide +kernel
theorem d_M_goTo_36 : decode prog_14_method_45_code 36 = .ok (.goto (-29), 3) := by decide +kernel
theorem d_M_goTo_39 : decode prog_14_method_45_code 39 = .ok (.iconst (-1), 1) := by decide +kernel
theorem d_M_goTo_40 : decode prog_14_method_45_code 40 = .ok (.ireturn, 1) := by decide +kernel
theorem d_M_begin_0 : decode prog_14_method_43_code 0 = .ok (.aload_n 0, 1) := by decide +kernel
theorem d_M_begin_1 : decode prog_14_method_43_code 1 = .ok (.aload_n 0, 1) := by decide +kernel
theorem d_M_begin_2 : decode prog_14_method_43_code 2 = .ok (.iload_n 1, 1) := by decide +kernel
theorem d_M_begin_3 : decode prog_14_method_43_code 3 = .ok (.iconst 0, 1) := by decide +kernel
theorem d_M_begin_4 : decode prog_14_method_43_code 4 = .ok (.invokevirtual 182, 3) := by decide +kernel
theorem d_M_begin_7 : decode prog_14_method_43_code 7 = .ok (.ifCond .eq 13, 3) := by decide +kernel
theorem d_M_begin_10 : decode prog_14_method_43_code 10 = .ok (.aload_n 0, 1) := by decide +kernel
theorem d_M_begin_11 : decode prog_14_method_43_code 11 = .ok (.getfield 36, 3) := by decide +kernel
theorem d_M_begin_14 : decode prog_14_method_43_code 14 = .ok (.iconst 0, 1) := by decide +kernel
theorem d_M_begin_15 : decode prog_14_method_43_code 15 = .ok (.iaload, 1) := by decide +kernel
theorem d_M_begin_16 : decode prog_14_method_43_code 16 = .ok (.i2l, 1) := by decide +kernel
theorem d_M_begin_17 : decode prog_14_method_43_code 17 = .ok (.goto 4, 3) := by decide +kernel
theorem d_M_begin_20 : decode prog_14_method_43_code 20 = .ok (.lconst 0, 1) := by decide +kernel
theorem d_M_begin_21 : decode prog_14_method_43_code 21 = .ok (.putfield 196, 3) := by decide +kernel
theorem d_M_begin_24 : decode prog_14_method_43_code 24 = .ok (.aload_n 0, 1) := by decide +kernel
theorem d_M_begin_25 : decode prog_14_method_43_code 25 = .ok (.lconst 1, 1) := by decide +kernel
theorem d_M_begin_26 : decode prog_14_method_43_code 26 = .ok (.putfield 199, 3) := by decide +kernel
theorem d_M_begin_29 : decode prog_14_method_43_code 29 = .ok (.return_, 1) := by decide +kernel
theorem d_M_does_0 : decode prog_14_method_42_code 0 = .ok (.iload_n 2, 1) := by decide +kernel
theorem d_M_does_1 : decode prog_14_method_42_code 1 = .ok (.sipush 10000, 3) := by decide +kernel
theorem d_M_does_4 : decode prog_14_method_42_code 4 = .ok (.if_icmp .ge 8, 3) := by decide +kernel
theorem d_M_does_7 : decode prog_14_method_42_code 7 = .ok (.iload_n 2, 1) := by decide +kernel
theorem d_M_does_8 : decode prog_14_method_42_code 8 = .ok (.i2l, 1) := by decide +kernel
theorem d_M_does_9 : decode prog_14_method_42_code 9 = .ok (.goto 14, 3) := by decide +kernel
theorem d_M_does_12 : decode prog_14_method_42_code 12 = .ok (.aload_n 0, 1) := by decide +kernel
theorem d_M_does_13 : decode prog_14_method_42_code 13 = .ok (.getfield 36, 3) := by decide +kernel
theorem d_M_does_16 : decode prog_14_method_42_code 16 = .ok (.iload_n 2, 1) := by decide +kernel
theorem d_M_does_17 : decode prog_14_method_42_code 17 = .ok (.sipush 10000, 3) := by decide +kernel
theorem d_M_does_20 : decode prog_14_method_42_code 20 = .ok (.isub, 1) := by decide +kernel
theorem d_M_does_21 : decode prog_14_method_42_code 21 = .ok (.iaload, 1) := by decide +kernel
theorem d_M_does_22 : decode prog_14_method_42_code 22 = .ok (.i2l, 1) := by decide +kernel
theorem d_M_does_23 : decode prog_14_method_42_code 23 = .ok (.lstore_n 3, 1) := by decide +kernel
theorem d_M_does_24 : decode prog_14_method_42_code 24 = .ok (.iload_n 1, 1) := by decide +kernel
theorem d_M_does_25 : decode prog_14_method_42_code 25 = .ok (.tableswitch 141 0 9 #[55, 75, 95, 110, 141, 141, 141, 141, 141, 139], 55) := by decide +kernel
theorem d_M_does_80 : decode prog_14_method_42_code 80 = .ok (.aload_n 0, 1) := by decide +kernel
theorem d_M_does_81 : decode prog_14_method_42_code 81 = .ok (.aload_n 0, 1) := by decide +kernel
theorem d_M_does_82 : decode prog_14_method_42_code 82 = .ok (.getfield 196, 3) := by decide +kernel
theorem d_M_does_85 : decode prog_14_method_42_code 85 = .ok (.lload_n 3, 1) := by decide +kernel
theorem d_M_does_86 : decode prog_14_method_42_code 86 = .ok (.aload_n 0, 1) := by decide +kernel
theorem d_M_does_87 : decode prog_14_method_42_code 87 = .ok (.getfield 199, 3) := by decide +kernel
theorem d_M_does_90 : decode prog_14_method_42_code 90 = .ok (.lmul, 1) := by decide +kernel
theorem d_M_does_91 : decode prog_14_method_42_code 91 = .ok (.ladd, 1) := by decide +kernel
theorem d_M_does_92 : decode prog_14_method_42_code 92 = .ok (.aload_n 0, 1) := by decide +kernel
theorem d_M_does_93 : decode prog_14_method_42_code 93 = .ok (.getfield 199, 3) := by decide +kernel
theorem d_M_does_96 : decode prog_14_method_42_code 96 = .ok (.invokevirtual 204, 3) := by decide +kernel
theorem d_M_does_99 : decode prog_14_method_42_code 99 = .ok (.ireturn, 1) := by decide +kernel
theorem d_M_does_100 : decode prog_14_method_42_code 100 = .ok (.aload_n 0, 1) := by decide +kernel
theorem d_M_does_101 : decode prog_14_method_42_code 101 = .ok (.aload_n 0, 1) := by decide +kernel
theorem d_M_does_102 : decode prog_14_method_42_code 102 = .ok (.getfield 196, 3) := by decide +kernel
theorem d_M_does_105 : decode prog_14_method_42_code 105 = .ok (.lload_n 3, 1) := by decide +kernel
theorem d_M_does_106 : decode prog_14_method_42_code 106 = .ok (.aload_n 0, 1) := by decide +kernel
theorem d_M_does_107 : decode prog_14_method_42_code 107 = .ok (.getfield 199, 3) := by decide +kernel
theorem d_M_does_110 : decode prog_14_method_42_code 110 = .ok (.lmul, 1) := by decide +kernel
theorem d_M_does_111 : decode prog_14_method_42_code 111 = .ok (.lsub, 1) := by decide +kernel
theorem d_M_does_112 : decode prog_14_method_42_code 112 = .ok (.aload_n 0, 1) := by decide +kernel
theorem d_M_does_113 : decode prog_14_method_42_code 113 = .ok (.getfield 199, 3) := by decide +kernel
theorem d_M_does_116 : decode prog_14_method_42_code 116 = .ok (.invokevirtual 204, 3) := by decide +kernel
theorem d_M_does_119 : decode prog_14_method_42_code 119 = .ok (.ireturn, 1) := by decide +kernel
theorem d_M_does_120 : decode prog_14_method_42_code 120 = .ok (.aload_n 0, 1) := by decide +kernel
theorem d_M_does_121 : decode prog_14_method_42_code 121 = .ok (.aload_n 0, 1) := by decide +kernel
theorem d_M_does_122 : decode prog_14_method_42_code 122 = .ok (.getfield 196, 3) := by decide +kernel
theorem d_M_does_125 : decode prog_14_method_42_code 125 = .ok (.lload_n 3, 1) := by decide +kernel
theorem d_M_does_126 : decode prog_14_method_42_code 126 = .ok (.lmul, 1) := by decide +kernel
theorem d_M_does_127 : decode prog_14_method_42_code 127 = .ok (.aload_n 0, 1) := by decide +kernel
theorem d_M_does_128 : decode prog_14_method_42_code 128 = .ok (.getfield 199, 3) := by decide +kernel
theorem d_M_does_131 : decode prog_14_method_42_code 131 = .ok (.invokevirtual 204, 3) := by decide +kernel
theorem d_M_does_134 : decode prog_14_method_42_code 134 = .ok (.ireturn, 1) := by decide +kernel
theorem d_M_does_135 : decode prog_14_method_42_code 135 = .ok (.lload_n 3, 1) := by decide +kernel
theorem d_M_does_136 : decode prog_14_method_42_code 136 = .ok (.lconst 0, 1) := by decide +kernel
theorem d_M_does_137 : decode prog_14_method_42_code 137 = .ok (.lcmp, 1) := by decide +kernel
theorem d_M_does_138 : decode prog_14_method_42_code 138 = .ok (.ifCond .eq 24, 3) := by decide +kernel
theorem d_M_does_141 : decode prog_14_method_42_code 141 = .ok (.aload_n 0, 1) := by decide +kernel
theorem d_M_does_142 : decode prog_14_method_42_code 142 = .ok (.aload_n 0, 1) := by decide +kernel
theorem d_M_does_143 : decode prog_14_method_42_code 143 = .ok (.getfield 196, 3) := by decide +kernel
theorem d_M_does_146 : decode prog_14_method_42_code 146 = .ok (.aload_n 0, 1) := by decide +kernel
theorem d_M_does_147 : decode prog_14_method_42_code 147 = .ok (.getfield 199, 3) := by decide +kernel
theorem d_M_does_150 : decode prog_14_method_42_code 150 = .ok (.lload_n 3, 1) := by decide +kernel
theorem d_M_does_151 : decode prog_14_method_42_code 151 = .ok (.lmul, 1) := by decide +kernel
theorem d_M_does_152 : decode prog_14_method_42_code 152 = .ok (.invokevirtual 204, 3) := by decide +kernel
theorem d_M_does_155 : decode prog_14_method_42_code 155 = .ok (.ifCond .eq 7, 3) := by decide +kernel
theorem d_M_does_158 : decode prog_14_method_42_code 158 = .ok (.iconst 1, 1) := by decide +kernel
theorem d_M_does_159 : decode prog_14_method_42_code 159 = .ok (.goto 4, 3) := by decide +kernel
theorem d_M_does_162 : decode prog_14_method_42_code 162 = .ok (.iconst 0, 1) := by decide +kernel
theorem d_M_does_163 : decode prog_14_method_42_code 163 = .ok (.ireturn, 1) := by decide +kernel
theorem d_M_does_164 : decode prog_14_method_42_code 164 = .ok (.iconst 1, 1) := by decide +kernel
theorem d_M_does_165 : decode prog_14_method_42_code 165 = .ok (.ireturn, 1) := by decide +kernel
theorem d_M_does_166 : decode prog_14_method_42_code 166 = .ok (.aload_n 0, 1) := by decide +kernel
theorem d_M_does_167 : decode prog_14_method_42_code 167 = .ok (.iload_n 1, 1) := by decide +kernel
theorem d_M_does_168 : decode prog_14_method_42_code 168 = .ok (.lload_n 3, 1) := by decide +kernel
theorem d_M_does_169 : decode prog_14_method_42_code 169 = .ok (.invokevirtual 223, 3) := by decide +kernel
theorem d_M_does_172 : decode prog_14_method_42_code 172 = .ok (.ireturn, 1) := by decide +kernel
theorem d_M_lay_0 : decode prog_14_method_36_code 0 = .ok (.lload_n 1, 1) := by decide +kernel
theorem d_M_lay_1 : decode prog_14_method_36_code 1 = .ok (.lload_n 3, 1) := by decide +kernel
theorem d_M_lay_2 : decode prog_14_method_36_code 2 = .ok (.invokestatic 186, 3) := by decide +kernel
theorem d_M_lay_5 : decode prog_14_method_36_code 5 = .ok (.lstore 5, 2) := by decide +kernel
theorem d_M_lay_7 : decode prog_14_method_36_code 7 = .ok (.lload_n 1, 1) := by decide +kernel
theorem d_M_lay_8 : decode prog_14_method_36_code 8 = .ok (.lload 5, 2) := by decide +kernel
theorem d_M_lay_10 : decode prog_14_method_36_code 10 = .ok (.ldiv, 1) := by decide +kernel
theorem d_M_lay_11 : decode prog_14_method_36_code 11 = .ok (.ldc2_w 190, 3) := by decide +kernel
theorem d_M_lay_14 : decode prog_14_method_36_code 14 = .ok (.lcmp, 1) := by decide +kernel
theorem d_M_lay_15 : decode prog_14_method_36_code 15 = .ok (.ifCond .gt 25, 3) := by decide +kernel
theorem d_M_lay_18 : decode prog_14_method_36_code 18 = .ok (.lload_n 1, 1) := by decide +kernel
theorem d_M_lay_19 : decode prog_14_method_36_code 19 = .ok (.lload 5, 2) := by decide +kernel
theorem d_M_lay_21 : decode prog_14_method_36_code 21 = .ok (.ldiv, 1) := by decide +kernel
theorem d_M_lay_22 : decode prog_14_method_36_code 22 = .ok (.ldc2_w 192, 3) := by decide +kernel
theorem d_M_lay_25 : decode prog_14_method_36_code 25 = .ok (.lcmp, 1) := by decide +kernel
theorem d_M_lay_26 : decode prog_14_method_36_code 26 = .ok (.ifCond .lt 14, 3) := by decide +kernel
theorem d_M_lay_29 : decode prog_14_method_36_code 29 = .ok (.lload_n 3, 1) := by decide +kernel
theorem d_M_lay_30 : decode prog_14_method_36_code 30 = .ok (.lload 5, 2) := by decide +kernel
theorem d_M_lay_32 : decode prog_14_method_36_code 32 = .ok (.ldiv, 1) := by decide +kernel
theorem d_M_lay_33 : decode prog_14_method_36_code 33 = .ok (.ldc2_w 194, 3) := by decide +kernel
theorem d_M_lay_36 : decode prog_14_method_36_code 36 = .ok (.lcmp, 1) := by decide +kernel
theorem d_M_lay_37 : decode prog_14_method_36_code 37 = .ok (.ifCond .le 5, 3) := by decide +kernel
theorem d_M_lay_40 : decode prog_14_method_36_code 40 = .ok (.iconst 0, 1) := by decide +kernel
theorem d_M_lay_41 : decode prog_14_method_36_code 41 = .ok (.ireturn, 1) := by decide +kernel
theorem d_M_lay_42 : decode prog_14_method_36_code 42 = .ok (.aload_n 0, 1) := by decide +kernel
theorem d_M_lay_43 : decode prog_14_method_36_code 43 = .ok (.lload_n 1, 1) := by decide +kernel
theorem d_M_lay_44 : decode prog_14_method_36_code 44 = .ok (.lload 5, 2) := by decide +kernel
theorem d_M_lay_46 : decode prog_14_method_36_code 46 = .ok (.ldiv, 1) := by decide +kernel
theorem d_M_lay_47 : decode prog_14_method_36_code 47 = .ok (.putfield 196, 3) := by decide +kernel
theorem d_M_lay_50 : decode prog_14_method_36_code 50 = .ok (.aload_n 0, 1) := by decide +kernel
theorem d_M_lay_51 : decode prog_14_method_36_code 51 = .ok (.lload_n 3, 1) := by decide +kernel
theorem d_M_lay_52 : decode prog_14_method_36_code 52 = .ok (.lload 5, 2) := by decide +kernel
theorem d_M_lay_54 : decode prog_14_method_36_code 54 = .ok (.ldiv, 1) := by decide +kernel
theorem d_M_lay_55 : decode prog_14_method_36_code 55 = .ok (.putfield 199, 3) := by decide +kernel
theorem d_M_lay_58 : decode prog_14_method_36_code 58 = .ok (.iconst 1, 1) := by decide +kernel
theorem d_M_lay_59 : decode prog_14_method_36_code 59 = .ok (.ireturn, 1) := by decide +kernel
theorem d_M_common_0 : decode prog_14_method_35_code 0 = .ok (.lload_n 0, 1) := by decide +kernel
theorem d_M_common_1 : decode prog_14_method_35_code 1 = .ok (.lconst 0, 1) := by decide +kernel
theorem d_M_common_2 : decode prog_14_method_35_code 2 = .ok (.lcmp, 1) := by decide +kernel
theorem d_M_common_3 : decode prog_14_method_35_code 3 = .ok (.ifCond .ge 8, 3) := by decide +kernel
theorem d_M_common_6 : decode prog_14_method_35_code 6 = .ok (.lload_n 0, 1) := by decide +kernel
theorem d_M_common_7 : decode prog_14_method_35_code 7 = .ok (.lneg, 1) := by decide +kernel
theorem d_M_common_8 : decode prog_14_method_35_code 8 = .ok (.goto 4, 3) := by decide +kernel
theorem d_M_common_11 : decode prog_14_method_35_code 11 = .ok (.lload_n 0, 1) := by decide +kernel
theorem d_M_common_12 : decode prog_14_method_35_code 12 = .ok (.lstore 4, 2) := by decide +kernel
theorem d_M_common_14 : decode prog_14_method_35_code 14 = .ok (.lload_n 2, 1) := by decide +kernel
theorem d_M_common_15 : decode prog_14_method_35_code 15 = .ok (.lstore 6, 2) := by decide +kernel
theorem d_M_common_17 : decode prog_14_method_35_code 17 = .ok (.lload 6, 2) := by decide +kernel
theorem d_M_common_19 : decode prog_14_method_35_code 19 = .ok (.lconst 0, 1) := by decide +kernel
theorem d_M_common_20 : decode prog_14_method_35_code 20 = .ok (.lcmp, 1) := by decide +kernel
theorem d_M_common_21 : decode prog_14_method_35_code 21 = .ok (.ifCond .eq 21, 3) := by decide +kernel
theorem d_M_common_24 : decode prog_14_method_35_code 24 = .ok (.lload 4, 2) := by decide +kernel
theorem d_M_common_26 : decode prog_14_method_35_code 26 = .ok (.lload 6, 2) := by decide +kernel
theorem d_M_common_28 : decode prog_14_method_35_code 28 = .ok (.lrem, 1) := by decide +kernel
theorem d_M_common_29 : decode prog_14_method_35_code 29 = .ok (.lstore 8, 2) := by decide +kernel
theorem d_M_common_31 : decode prog_14_method_35_code 31 = .ok (.lload 6, 2) := by decide +kernel
theorem d_M_common_33 : decode prog_14_method_35_code 33 = .ok (.lstore 4, 2) := by decide +kernel
theorem d_M_common_35 : decode prog_14_method_35_code 35 = .ok (.lload 8, 2) := by decide +kernel
theorem d_M_common_37 : decode prog_14_method_35_code 37 = .ok (.lstore 6, 2) := by decide +kernel
theorem d_M_common_39 : decode prog_14_method_35_code 39 = .ok (.goto (-22), 3) := by decide +kernel
theorem d_M_common_42 : decode prog_14_method_35_code 42 = .ok (.lload 4, 2) := by decide +kernel
theorem d_M_common_44 : decode prog_14_method_35_code 44 = .ok (.lreturn, 1) := by decide +kernel
theorem d_M_figures_0 : decode prog_14_method_41_code 0 = .ok (.aload_n 0, 1) := by decide +kernel
theorem d_M_figures_1 : decode prog_14_method_41_code 1 = .ok (.getfield 199, 3) := by decide +kernel
theorem d_M_figures_4 : decode prog_14_method_41_code 4 = .ok (.lconst 1, 1) := by decide +kernel
theorem d_M_figures_5 : decode prog_14_method_41_code 5 = .ok (.lcmp, 1) := by decide +kernel
theorem d_M_figures_6 : decode prog_14_method_41_code 6 = .ok (.ifCond .ne 12, 3) := by decide +kernel
theorem d_M_figures_9 : decode prog_14_method_41_code 9 = .ok (.aload_n 0, 1) := by decide +kernel
theorem d_M_figures_10 : decode prog_14_method_41_code 10 = .ok (.getfield 196, 3) := by decide +kernel
theorem d_M_figures_13 : decode prog_14_method_41_code 13 = .ok (.lconst 0, 1) := by decide +kernel
theorem d_M_figures_14 : decode prog_14_method_41_code 14 = .ok (.lcmp, 1) := by decide +kernel
theorem d_M_figures_15 : decode prog_14_method_41_code 15 = .ok (.ifCond .ge 5, 3) := by decide +kernel
theorem d_M_figures_18 : decode prog_14_method_41_code 18 = .ok (.iconst 0, 1) := by decide +kernel
theorem d_M_figures_19 : decode prog_14_method_41_code 19 = .ok (.ireturn, 1) := by decide +kernel
theorem d_M_figures_20 : decode prog_14_method_41_code 20 = .ok (.iload_n 1, 1) := by decide +kernel
theorem d_M_figures_21 : decode prog_14_method_41_code 21 = .ok (.tableswitch 103 4 7 #[31, 57, 77, 90], 31) := by decide +kernel
theorem d_M_figures_52 : decode prog_14_method_41_code 52 = .ok (.lload_n 2, 1) := by decide +kernel
theorem d_M_figures_53 : decode prog_14_method_41_code 53 = .ok (.lconst 0, 1) := by decide +kernel
theorem d_M_figures_54 : decode prog_14_method_41_code 54 = .ok (.lcmp, 1) := by decide +kernel
theorem d_M_figures_55 : decode prog_14_method_41_code 55 = .ok (.ifCond .le 21, 3) := by decide +kernel
theorem d_M_figures_58 : decode prog_14_method_41_code 58 = .ok (.aload_n 0, 1) := by decide +kernel
theorem d_M_figures_59 : decode prog_14_method_41_code 59 = .ok (.aload_n 0, 1) := by decide +kernel
theorem d_M_figures_60 : decode prog_14_method_41_code 60 = .ok (.getfield 196, 3) := by decide +kernel
theorem d_M_figures_63 : decode prog_14_method_41_code 63 = .ok (.lload_n 2, 1) := by decide +kernel
theorem d_M_figures_64 : decode prog_14_method_41_code 64 = .ok (.lrem, 1) := by decide +kernel
theorem d_M_figures_65 : decode prog_14_method_41_code 65 = .ok (.lconst 1, 1) := by decide +kernel
theorem d_M_figures_66 : decode prog_14_method_41_code 66 = .ok (.invokevirtual 204, 3) := by decide +kernel
theorem d_M_figures_69 : decode prog_14_method_41_code 69 = .ok (.ifCond .eq 7, 3) := by decide +kernel
theorem d_M_figures_72 : decode prog_14_method_41_code 72 = .ok (.iconst 1, 1) := by decide +kernel
theorem d_M_figures_73 : decode prog_14_method_41_code 73 = .ok (.goto 4, 3) := by decide +kernel
theorem d_M_figures_76 : decode prog_14_method_41_code 76 = .ok (.iconst 0, 1) := by decide +kernel
theorem d_M_figures_77 : decode prog_14_method_41_code 77 = .ok (.ireturn, 1) := by decide +kernel
theorem d_M_figures_78 : decode prog_14_method_41_code 78 = .ok (.aload_n 0, 1) := by decide +kernel
theorem d_M_figures_79 : decode prog_14_method_41_code 79 = .ok (.aload_n 0, 1) := by decide +kernel
theorem d_M_figures_80 : decode prog_14_method_41_code 80 = .ok (.getfield 196, 3) := by decide +kernel
theorem d_M_figures_83 : decode prog_14_method_41_code 83 = .ok (.lload_n 2, 1) := by decide +kernel
theorem d_M_figures_84 : decode prog_14_method_41_code 84 = .ok (.invokestatic 208, 3) := by decide +kernel
theorem d_M_figures_87 : decode prog_14_method_41_code 87 = .ok (.invokestatic 212, 3) := by decide +kernel
theorem d_M_figures_90 : decode prog_14_method_41_code 90 = .ok (.lmul, 1) := by decide +kernel
theorem d_M_figures_91 : decode prog_14_method_41_code 91 = .ok (.lload_n 2, 1) := by decide +kernel
theorem d_M_figures_92 : decode prog_14_method_41_code 92 = .ok (.ladd, 1) := by decide +kernel
theorem d_M_figures_93 : decode prog_14_method_41_code 93 = .ok (.lconst 1, 1) := by decide +kernel
theorem d_M_figures_94 : decode prog_14_method_41_code 94 = .ok (.invokevirtual 204, 3) := by decide +kernel
theorem d_M_figures_97 : decode prog_14_method_41_code 97 = .ok (.ireturn, 1) := by decide +kernel
theorem d_M_figures_98 : decode prog_14_method_41_code 98 = .ok (.aload_n 0, 1) := by decide +kernel
theorem d_M_figures_99 : decode prog_14_method_41_code 99 = .ok (.aload_n 0, 1) := by decide +kernel
theorem d_M_figures_100 : decode prog_14_method_41_code 100 = .ok (.getfield 196, 3) := by decide +kernel
theorem d_M_figures_103 : decode prog_14_method_41_code 103 = .ok (.invokestatic 216, 3) := by decide +kernel
theorem d_M_figures_106 : decode prog_14_method_41_code 106 = .ok (.lconst 1, 1) := by decide +kernel
theorem d_M_figures_107 : decode prog_14_method_41_code 107 = .ok (.invokevirtual 204, 3) := by decide +kernel
theorem d_M_figures_110 : decode prog_14_method_41_code 110 = .ok (.ireturn, 1) := by decide +kernel
theorem d_M_figures_111 : decode prog_14_method_41_code 111 = .ok (.aload_n 0, 1) := by decide +kernel
theorem d_M_figures_112 : decode prog_14_method_41_code 112 = .ok (.aload_n 0, 1) := by decide +kernel
theorem d_M_figures_113 : decode prog_14_method_41_code 113 = .ok (.getfield 196, 3) := by decide +kernel
theorem d_M_figures_116 : decode prog_14_method_41_code 116 = .ok (.invokestatic 220, 3) := by decide +kernel
theorem d_M_figures_119 : decode prog_14_method_41_code 119 = .ok (.lconst 1, 1) := by decide +kernel
theorem d_M_figures_120 : decode prog_14_method_41_code 120 = .ok (.invokevirtual 204, 3) := by decide +kernel
theorem d_M_figures_123 : decode prog_14_method_41_code 123 = .ok (.ireturn, 1) := by decide +kernel
theorem d_M_figures_124 : decode prog_14_method_41_code 124 = .ok (.aload_n 0, 1) := by decide +kernel
theorem d_M_figures_125 : decode prog_14_method_41_code 125 = .ok (.getfield 196, 3) := by decide +kernel
theorem d_M_figures_128 : decode prog_14_method_41_code 128 = .ok (.invokestatic 208, 3) := by decide +kernel
theorem d_M_figures_131 : decode prog_14_method_41_code 131 = .ok (.istore 4, 2) := by decide +kernel
theorem d_M_figures_133 : decode prog_14_method_41_code 133 = .ok (.lload_n 2, 1) := by decide +kernel
theorem d_M_figures_134 : decode prog_14_method_41_code 134 = .ok (.iload 4, 2) := by decide +kernel
theorem d_M_figures_136 : decode prog_14_method_41_code 136 = .ok (.i2l, 1) := by decide +kernel
theorem d_M_figures_137 : decode prog_14_method_41_code 137 = .ok (.lcmp, 1) := by decide +kernel
theorem d_M_figures_138 : decode prog_14_method_41_code 138 = .ok (.ifCond .le 5, 3) := by decide +kernel
theorem d_M_figures_141 : decode prog_14_method_41_code 141 = .ok (.iconst 0, 1) := by decide +kernel
theorem d_M_figures_142 : decode prog_14_method_41_code 142 = .ok (.ireturn, 1) := by decide +kernel
theorem d_M_figures_143 : decode prog_14_method_41_code 143 = .ok (.iload 4, 2) := by decide +kernel
theorem d_M_figures_145 : decode prog_14_method_41_code 145 = .ok (.lload_n 2, 1) := by decide +kernel
theorem d_M_figures_146 : decode prog_14_method_41_code 146 = .ok (.l2i, 1) := by decide +kernel
theorem d_M_figures_147 : decode prog_14_method_41_code 147 = .ok (.isub, 1) := by decide +kernel
theorem d_M_figures_148 : decode prog_14_method_41_code 148 = .ok (.invokestatic 212, 3) := by decide +kernel
theorem d_M_figures_151 : decode prog_14_method_41_code 151 = .ok (.lstore 5, 2) := by decide +kernel
theorem d_M_figures_153 : decode prog_14_method_41_code 153 = .ok (.aload_n 0, 1) := by decide +kernel
theorem d_M_figures_154 : decode prog_14_method_41_code 154 = .ok (.aload_n 0, 1) := by decide +kernel
theorem d_M_figures_155 : decode prog_14_method_41_code 155 = .ok (.getfield 196, 3) := by decide +kernel
theorem d_M_figures_158 : decode prog_14_method_41_code 158 = .ok (.ldc2_w 202, 3) := by decide +kernel
theorem d_M_figures_161 : decode prog_14_method_41_code 161 = .ok (.lload 5, 2) := by decide +kernel
theorem d_M_figures_163 : decode prog_14_method_41_code 163 = .ok (.lmul, 1) := by decide +kernel
theorem d_M_figures_164 : decode prog_14_method_41_code 164 = .ok (.ldiv, 1) := by decide +kernel
theorem d_M_figures_165 : decode prog_14_method_41_code 165 = .ok (.lload 5, 2) := by decide +kernel
theorem d_M_figures_167 : decode prog_14_method_41_code 167 = .ok (.lmul, 1) := by decide +kernel
theorem d_M_figures_168 : decode prog_14_method_41_code 168 = .ok (.aload_n 0, 1) := by decide +kernel
theorem d_M_figures_169 : decode prog_14_method_41_code 169 = .ok (.getfield 196, 3) := by decide +kernel
theorem d_M_figures_172 : decode prog_14_method_41_code 172 = .ok (.lload 5, 2) := by decide +kernel
theorem d_M_figures_174 : decode prog_14_method_41_code 174 = .ok (.lrem, 1) := by decide +kernel
theorem d_M_figures_175 : decode prog_14_method_41_code 175 = .ok (.ladd, 1) := by decide +kernel
theorem d_M_figures_176 : decode prog_14_method_41_code 176 = .ok (.lconst 1, 1) := by decide +kernel
theorem d_M_figures_177 : decode prog_14_method_41_code 177 = .ok (.invokevirtual 204, 3) := by decide +kernel
theorem d_M_figures_180 : decode prog_14_method_41_code 180 = .ok (.ireturn, 1) := by decide +kernel
theorem d_M_figuresOf_0 : decode prog_14_method_37_code 0 = .ok (.iconst 1, 1) := by decide +kernel
theorem d_M_figuresOf_1 : decode prog_14_method_37_code 1 = .ok (.istore_n 2, 1) := by decide +kernel
theorem d_M_figuresOf_2 : decode prog_14_method_37_code 2 = .ok (.lload_n 0, 1) := by decide +kernel
theorem d_M_figuresOf_3 : decode prog_14_method_37_code 3 = .ok (.ldc2_w 202, 3) := by decide +kernel
theorem d_M_figuresOf_6 : decode prog_14_method_37_code 6 = .ok (.ldiv, 1) := by decide +kernel
theorem d_M_figuresOf_7 : decode prog_14_method_37_code 7 = .ok (.lstore_n 3, 1) := by decide +kernel
theorem d_M_figuresOf_8 : decode prog_14_method_37_code 8 = .ok (.lload_n 3, 1) := by decide +kernel
theorem d_M_figuresOf_9 : decode prog_14_method_37_code 9 = .ok (.lconst 0, 1) := by decide +kernel
theorem d_M_figuresOf_10 : decode prog_14_method_37_code 10 = .ok (.lcmp, 1) := by decide +kernel
theorem d_M_figuresOf_11 : decode prog_14_method_37_code 11 = .ok (.ifCond .le 15, 3) := by decide +kernel
theorem d_M_figuresOf_14 : decode prog_14_method_37_code 14 = .ok (.iinc 2 1, 3) := by decide +kernel
theorem d_M_figuresOf_17 : decode prog_14_method_37_code 17 = .ok (.lload_n 3, 1) := by decide +kernel
theorem d_M_figuresOf_18 : decode prog_14_method_37_code 18 = .ok (.ldc2_w 202, 3) := by decide +kernel
theorem d_M_figuresOf_21 : decode prog_14_method_37_code 21 = .ok (.ldiv, 1) := by decide +kernel
theorem d_M_figuresOf_22 : decode prog_14_method_37_code 22 = .ok (.lstore_n 3, 1) := by decide +kernel
theorem d_M_figuresOf_23 : decode prog_14_method_37_code 23 = .ok (.goto (-15), 3) := by decide +kernel
theorem d_M_figuresOf_26 : decode prog_14_method_37_code 26 = .ok (.iload_n 2, 1) := by decide +kernel
theorem d_M_figuresOf_27 : decode prog_14_method_37_code 27 = .ok (.ireturn, 1) := by decide +kernel
theorem d_M_tenTo_0 : decode prog_14_method_38_code 0 = .ok (.lconst 1, 1) := by decide +kernel
theorem d_M_tenTo_1 : decode prog_14_method_38_code 1 = .ok (.lstore_n 1, 1) := by decide +kernel
theorem d_M_tenTo_2 : decode prog_14_method_38_code 2 = .ok (.iconst 0, 1) := by decide +kernel
theorem d_M_tenTo_3 : decode prog_14_method_38_code 3 = .ok (.istore_n 3, 1) := by decide +kernel
theorem d_M_tenTo_4 : decode prog_14_method_38_code 4 = .ok (.iload_n 3, 1) := by decide +kernel
theorem d_M_tenTo_5 : decode prog_14_method_38_code 5 = .ok (.iload_n 0, 1) := by decide +kernel
theorem d_M_tenTo_6 : decode prog_14_method_38_code 6 = .ok (.if_icmp .ge 15, 3) := by decide +kernel
theorem d_M_tenTo_9 : decode prog_14_method_38_code 9 = .ok (.lload_n 1, 1) := by decide +kernel
theorem d_M_tenTo_10 : decode prog_14_method_38_code 10 = .ok (.ldc2_w 202, 3) := by decide +kernel
theorem d_M_tenTo_13 : decode prog_14_method_38_code 13 = .ok (.lmul, 1) := by decide +kernel
theorem d_M_tenTo_14 : decode prog_14_method_38_code 14 = .ok (.lstore_n 1, 1) := by decide +kernel
theorem d_M_tenTo_15 : decode prog_14_method_38_code 15 = .ok (.iinc 3 1, 3) := by decide +kernel
theorem d_M_tenTo_18 : decode prog_14_method_38_code 18 = .ok (.goto (-14), 3) := by decide +kernel
theorem d_M_tenTo_21 : decode prog_14_method_38_code 21 = .ok (.lload_n 1, 1) := by decide +kernel
theorem d_M_tenTo_22 : decode prog_14_method_38_code 22 = .ok (.lreturn, 1) := by decide +kernel
theorem d_M_turned_0 : decode prog_14_method_39_code 0 = .ok (.lconst 0, 1) := by decide +kernel
theorem d_M_turned_1 : decode prog_14_method_39_code 1 = .ok (.lstore_n 2, 1) := by decide +kernel
theorem d_M_turned_2 : decode prog_14_method_39_code 2 = .ok (.lload_n 0, 1) := by decide +kernel
theorem d_M_turned_3 : decode prog_14_method_39_code 3 = .ok (.lstore 4, 2) := by decide +kernel
theorem d_M_turned_5 : decode prog_14_method_39_code 5 = .ok (.lload 4, 2) := by decide +kernel
theorem d_M_turned_7 : decode prog_14_method_39_code 7 = .ok (.lconst 0, 1) := by decide +kernel
theorem d_M_turned_8 : decode prog_14_method_39_code 8 = .ok (.lcmp, 1) := by decide +kernel
theorem d_M_turned_9 : decode prog_14_method_39_code 9 = .ok (.ifCond .le 27, 3) := by decide +kernel
theorem d_M_turned_12 : decode prog_14_method_39_code 12 = .ok (.ldc2_w 202, 3) := by decide +kernel
theorem d_M_turned_15 : decode prog_14_method_39_code 15 = .ok (.lload_n 2, 1) := by decide +kernel
theorem d_M_turned_16 : decode prog_14_method_39_code 16 = .ok (.lmul, 1) := by decide +kernel
theorem d_M_turned_17 : decode prog_14_method_39_code 17 = .ok (.lload 4, 2) := by decide +kernel
theorem d_M_turned_19 : decode prog_14_method_39_code 19 = .ok (.ldc2_w 202, 3) := by decide +kernel
theorem d_M_turned_22 : decode prog_14_method_39_code 22 = .ok (.lrem, 1) := by decide +kernel
theorem d_M_turned_23 : decode prog_14_method_39_code 23 = .ok (.ladd, 1) := by decide +kernel
theorem d_M_turned_24 : decode prog_14_method_39_code 24 = .ok (.lstore_n 2, 1) := by decide +kernel
theorem d_M_turned_25 : decode prog_14_method_39_code 25 = .ok (.lload 4, 2) := by decide +kernel
theorem d_M_turned_27 : decode prog_14_method_39_code 27 = .ok (.ldc2_w 202, 3) := by decide +kernel
theorem d_M_turned_30 : decode prog_14_method_39_code 30 = .ok (.ldiv, 1) := by decide +kernel
theorem d_M_turned_31 : decode prog_14_method_39_code 31 = .ok (.lstore 4, 2) := by decide +kernel
theorem d_M_turned_33 : decode prog_14_method_39_code 33 = .ok (.goto (-28), 3) := by decide +kernel
theorem d_M_turned_36 : decode prog_14_method_39_code 36 = .ok (.lload_n 2, 1) := by decide +kernel
theorem d_M_turned_37 : decode prog_14_method_39_code 37 = .ok (.lreturn, 1) := by decide +kernel
theorem d_M_across_0 : decode prog_14_method_40_code 0 = .ok (.lconst 0, 1) := by decide +kernel
theorem d_M_across_1 : decode prog_14_method_40_code 1 = .ok (.lstore_n 2, 1) := by decide +kernel
theorem d_M_across_2 : decode prog_14_method_40_code 2 = .ok (.lload_n 0, 1) := by decide +kernel
theorem d_M_across_3 : decode prog_14_method_40_code 3 = .ok (.lstore 4, 2) := by decide +kernel
theorem d_M_across_5 : decode prog_14_method_40_code 5 = .ok (.lload 4, 2) := by decide +kernel
theorem d_M_across_7 : decode prog_14_method_40_code 7 = .ok (.lconst 0, 1) := by decide +kernel
theorem d_M_across_8 : decode prog_14_method_40_code 8 = .ok (.lcmp, 1) := by decide +kernel
theorem d_M_across_9 : decode prog_14_method_40_code 9 = .ok (.ifCond .le 23, 3) := by decide +kernel
theorem d_M_across_12 : decode prog_14_method_40_code 12 = .ok (.lload_n 2, 1) := by decide +kernel
theorem d_M_across_13 : decode prog_14_method_40_code 13 = .ok (.lload 4, 2) := by decide +kernel
theorem d_M_across_15 : decode prog_14_method_40_code 15 = .ok (.ldc2_w 202, 3) := by decide +kernel
theorem d_M_across_18 : decode prog_14_method_40_code 18 = .ok (.lrem, 1) := by decide +kernel
theorem d_M_across_19 : decode prog_14_method_40_code 19 = .ok (.ladd, 1) := by decide +kernel
theorem d_M_across_20 : decode prog_14_method_40_code 20 = .ok (.lstore_n 2, 1) := by decide +kernel
theorem d_M_across_21 : decode prog_14_method_40_code 21 = .ok (.lload 4, 2) := by decide +kernel
theorem d_M_across_23 : decode prog_14_method_40_code 23 = .ok (.ldc2_w 202, 3) := by decide +kernel
theorem d_M_across_26 : decode prog_14_method_40_code 26 = .ok (.ldiv, 1) := by decide +kernel
theorem d_M_across_27 : decode prog_14_method_40_code 27 = .ok (.lstore 4, 2) := by decide +kernel
theorem d_M_across_29 : decode prog_14_method_40_code 29 = .ok (.goto (-24), 3) := by decide +kernel
theorem d_M_across_32 : decode prog_14_method_40_code 32 = .ok (.lload_n 2, 1) := by decide +kernel
theorem d_M_across_33 : decode prog_14_method_40_code 33 = .ok (.lreturn, 1) := by decide +kernel
theorem d_M_fails_0 : decode prog_14_method_47_code 0 = .ok (.aload_n 0, 1) := by decide +kernel
theorem d_M_fails_1 : decode prog_14_method_47_code 1 = .ok (.iload_n 1, 1) := by decide +kernel
theorem d_M_fails_2 : decode prog_14_method_47_code 2 = .ok (.invokevirtual 169, 3) := by decide +kernel
theorem d_M_fails_5 : decode prog_14_method_47_code 5 = .ok (.ifCond .ne 6, 3) := by decide +kernel
theorem d_M_fails_8 : decode prog_14_method_47_code 8 = .ok (.bipush (-2), 2) := by decide +kernel
theorem d_M_fails_10 : decode prog_14_method_47_code 10 = .ok (.ireturn, 1) := by decide +kernel
theorem d_M_fails_11 : decode prog_14_method_47_code 11 = .ok (.aload_n 0, 1) := by decide +kernel
theorem d_M_fails_12 : decode prog_14_method_47_code 12 = .ok (.invokevirtual 235, 3) := by decide +kernel
theorem d_M_fails_15 : decode prog_14_method_47_code 15 = .ok (.aload_n 0, 1) := by decide +kernel
theorem d_M_fails_16 : decode prog_14_method_47_code 16 = .ok (.iload_n 1, 1) := by decide +kernel
theorem d_M_fails_17 : decode prog_14_method_47_code 17 = .ok (.aload_n 0, 1) := by decide +kernel
theorem d_M_fails_18 : decode prog_14_method_47_code 18 = .ok (.iload_n 1, 1) := by decide +kernel
theorem d_M_fails_19 : decode prog_14_method_47_code 19 = .ok (.invokevirtual 172, 3) := by decide +kernel
theorem d_M_fails_22 : decode prog_14_method_47_code 22 = .ok (.invokevirtual 238, 3) := by decide +kernel
theorem d_M_fails_25 : decode prog_14_method_47_code 25 = .ok (.ireturn, 1) := by decide +kernel
theorem d_M_said_0 : decode prog_14_method_48_code 0 = .ok (.aload_n 0, 1) := by decide +kernel
theorem d_M_said_1 : decode prog_14_method_48_code 1 = .ok (.iload_n 1, 1) := by decide +kernel
theorem d_M_said_2 : decode prog_14_method_48_code 2 = .ok (.invokevirtual 169, 3) := by decide +kernel
theorem d_M_said_5 : decode prog_14_method_48_code 5 = .ok (.ifCond .eq 7, 3) := by decide +kernel
theorem d_M_said_8 : decode prog_14_method_48_code 8 = .ok (.iload_n 2, 1) := by decide +kernel
theorem d_M_said_9 : decode prog_14_method_48_code 9 = .ok (.ifCond .ge 7, 3) := by decide +kernel
theorem d_M_said_12 : decode prog_14_method_48_code 12 = .ok (.ldc2_w 233, 3) := by decide +kernel
theorem d_M_said_15 : decode prog_14_method_48_code 15 = .ok (.lreturn, 1) := by decide +kernel
theorem d_M_said_16 : decode prog_14_method_48_code 16 = .ok (.aload_n 0, 1) := by decide +kernel
theorem d_M_said_17 : decode prog_14_method_48_code 17 = .ok (.invokevirtual 235, 3) := by decide +kernel
theorem d_M_said_20 : decode prog_14_method_48_code 20 = .ok (.aload_n 0, 1) := by decide +kernel
theorem d_M_said_21 : decode prog_14_method_48_code 21 = .ok (.iload_n 1, 1) := by decide +kernel
theorem d_M_said_22 : decode prog_14_method_48_code 22 = .ok (.invokevirtual 227, 3) := by decide +kernel
theorem d_M_said_25 : decode prog_14_method_48_code 25 = .ok (.iconst 0, 1) := by decide +kernel
theorem d_M_said_26 : decode prog_14_method_48_code 26 = .ok (.istore 4, 2) := by decide +kernel
theorem d_M_said_28 : decode prog_14_method_48_code 28 = .ok (.iconst 0, 1) := by decide +kernel
theorem d_M_said_29 : decode prog_14_method_48_code 29 = .ok (.istore 5, 2) := by decide +kernel
theorem d_M_said_31 : decode prog_14_method_48_code 31 = .ok (.iload 5, 2) := by decide +kernel
theorem d_M_said_33 : decode prog_14_method_48_code 33 = .ok (.aload_n 0, 1) := by decide +kernel
theorem d_M_said_34 : decode prog_14_method_48_code 34 = .ok (.iload_n 1, 1) := by decide +kernel
theorem d_M_said_35 : decode prog_14_method_48_code 35 = .ok (.invokevirtual 172, 3) := by decide +kernel
theorem d_M_said_38 : decode prog_14_method_48_code 38 = .ok (.if_icmp .ge 74, 3) := by decide +kernel
theorem d_M_said_41 : decode prog_14_method_48_code 41 = .ok (.aload_n 0, 1) := by decide +kernel
theorem d_M_said_42 : decode prog_14_method_48_code 42 = .ok (.aload_n 0, 1) := by decide +kernel
theorem d_M_said_43 : decode prog_14_method_48_code 43 = .ok (.iload_n 1, 1) := by decide +kernel
theorem d_M_said_44 : decode prog_14_method_48_code 44 = .ok (.iload 5, 2) := by decide +kernel
theorem d_M_said_46 : decode prog_14_method_48_code 46 = .ok (.invokevirtual 179, 3) := by decide +kernel
theorem d_M_said_49 : decode prog_14_method_48_code 49 = .ok (.aload_n 0, 1) := by decide +kernel
theorem d_M_said_50 : decode prog_14_method_48_code 50 = .ok (.iload_n 1, 1) := by decide +kernel
theorem d_M_said_51 : decode prog_14_method_48_code 51 = .ok (.iload 5, 2) := by decide +kernel
theorem d_M_said_53 : decode prog_14_method_48_code 53 = .ok (.invokevirtual 175, 3) := by decide +kernel
theorem d_M_said_56 : decode prog_14_method_48_code 56 = .ok (.invokevirtual 230, 3) := by decide +kernel
theorem d_M_said_59 : decode prog_14_method_48_code 59 = .ok (.ifCond .ne 7, 3) := by decide +kernel
theorem d_M_said_62 : decode prog_14_method_48_code 62 = .ok (.ldc2_w 233, 3) := by decide +kernel
theorem d_M_said_65 : decode prog_14_method_48_code 65 = .ok (.lreturn, 1) := by decide +kernel
theorem d_M_said_66 : decode prog_14_method_48_code 66 = .ok (.aload_n 0, 1) := by decide +kernel
theorem d_M_said_67 : decode prog_14_method_48_code 67 = .ok (.iload_n 1, 1) := by decide +kernel
theorem d_M_said_68 : decode prog_14_method_48_code 68 = .ok (.iload 5, 2) := by decide +kernel
theorem d_M_said_70 : decode prog_14_method_48_code 70 = .ok (.invokevirtual 179, 3) := by decide +kernel
theorem d_M_said_73 : decode prog_14_method_48_code 73 = .ok (.bipush 9, 2) := by decide +kernel
theorem d_M_said_75 : decode prog_14_method_48_code 75 = .ok (.if_icmp .eq 6, 3) := by decide +kernel
theorem d_M_said_78 : decode prog_14_method_48_code 78 = .ok (.goto 28, 3) := by decide +kernel
theorem d_M_said_81 : decode prog_14_method_48_code 81 = .ok (.iload 4, 2) := by decide +kernel
theorem d_M_said_83 : decode prog_14_method_48_code 83 = .ok (.iload_n 2, 1) := by decide +kernel
theorem d_M_said_84 : decode prog_14_method_48_code 84 = .ok (.if_icmp .ne 19, 3) := by decide +kernel
theorem d_M_said_87 : decode prog_14_method_48_code 87 = .ok (.iload_n 3, 1) := by decide +kernel
theorem d_M_said_88 : decode prog_14_method_48_code 88 = .ok (.ifCond .eq 10, 3) := by decide +kernel
theorem d_M_said_91 : decode prog_14_method_48_code 91 = .ok (.aload_n 0, 1) := by decide +kernel
theorem d_M_said_92 : decode prog_14_method_48_code 92 = .ok (.getfield 199, 3) := by decide +kernel
theorem d_M_said_95 : decode prog_14_method_48_code 95 = .ok (.goto 7, 3) := by decide +kernel
theorem d_M_said_98 : decode prog_14_method_48_code 98 = .ok (.aload_n 0, 1) := by decide +kernel
theorem d_M_said_99 : decode prog_14_method_48_code 99 = .ok (.getfield 196, 3) := by decide +kernel
theorem d_M_said_102 : decode prog_14_method_48_code 102 = .ok (.lreturn, 1) := by decide +kernel
theorem d_M_said_103 : decode prog_14_method_48_code 103 = .ok (.iinc 4 1, 3) := by decide +kernel
theorem d_M_said_106 : decode prog_14_method_48_code 106 = .ok (.iinc 5 1, 3) := by decide +kernel
theorem d_M_said_109 : decode prog_14_method_48_code 109 = .ok (.goto (-78), 3) := by decide +kernel
theorem d_M_said_112 : decode prog_14_method_48_code 112 = .ok (.ldc2_w 233, 3) := by decide +kernel
theorem d_M_said_115 : decode prog_14_method_48_code 115 = .ok (.lreturn, 1) := by decide +kernel
theorem d_M_claim_0 : decode prog_14_method_52_code 0 = .ok (.aload_n 0, 1) := by decide +kernel
theorem d_M_claim_1 : decode prog_14_method_52_code 1 = .ok (.iconst 4, 1) := by decide +kernel
theorem d_M_claim_2 : decode prog_14_method_52_code 2 = .ok (.bipush 24, 2) := by decide +kernel
theorem d_M_claim_4 : decode prog_14_method_52_code 4 = .ok (.iconst 0, 1) := by decide +kernel
theorem d_M_claim_5 : decode prog_14_method_52_code 5 = .ok (.iload_n 1, 1) := by decide +kernel
theorem d_M_claim_6 : decode prog_14_method_52_code 6 = .ok (.iload_n 2, 1) := by decide +kernel
theorem d_M_claim_7 : decode prog_14_method_52_code 7 = .ok (.invokevirtual 251, 3) := by decide +kernel
theorem d_M_claim_10 : decode prog_14_method_52_code 10 = .ok (.ireturn, 1) := by decide +kernel
theorem d_M_listed_0 : decode prog_14_method_51_code 0 = .ok (.iload 5, 2) := by decide +kernel
theorem d_M_listed_2 : decode prog_14_method_51_code 2 = .ok (.ifCond .ne 12, 3) := by decide +kernel
theorem d_M_listed_5 : decode prog_14_method_51_code 5 = .ok (.aload_n 0, 1) := by decide +kernel
theorem d_M_listed_6 : decode prog_14_method_51_code 6 = .ok (.getfield 7, 3) := by decide +kernel
theorem d_M_listed_9 : decode prog_14_method_51_code 9 = .ok (.iload_n 1, 1) := by decide +kernel
theorem d_M_listed_10 : decode prog_14_method_51_code 10 = .ok (.iconst 0, 1) := by decide +kernel
theorem d_M_listed_11 : decode prog_14_method_51_code 11 = .ok (.iastore, 1) := by decide +kernel
theorem d_M_listed_12 : decode prog_14_method_51_code 12 = .ok (.iconst 0, 1) := by decide +kernel
theorem d_M_listed_13 : decode prog_14_method_51_code 13 = .ok (.ireturn, 1) := by decide +kernel
theorem d_M_listed_14 : decode prog_14_method_51_code 14 = .ok (.iload 4, 2) := by decide +kernel
theorem d_M_listed_16 : decode prog_14_method_51_code 16 = .ok (.iload 5, 2) := by decide +kernel
theorem d_M_listed_18 : decode prog_14_method_51_code 18 = .ok (.invokestatic 244, 3) := by decide +kernel
theorem d_M_listed_21 : decode prog_14_method_51_code 21 = .ok (.ifCond .eq 13, 3) := by decide +kernel
theorem d_M_listed_24 : decode prog_14_method_51_code 24 = .ok (.aload_n 0, 1) := by decide +kernel
theorem d_M_listed_25 : decode prog_14_method_51_code 25 = .ok (.getfield 7, 3) := by decide +kernel
theorem d_M_listed_28 : decode prog_14_method_51_code 28 = .ok (.iload_n 1, 1) := by decide +kernel
theorem d_M_listed_29 : decode prog_14_method_51_code 29 = .ok (.iaload, 1) := by decide +kernel
theorem d_M_listed_30 : decode prog_14_method_51_code 30 = .ok (.iload_n 2, 1) := by decide +kernel
theorem d_M_listed_31 : decode prog_14_method_51_code 31 = .ok (.if_icmp .ne 5, 3) := by decide +kernel
theorem d_M_listed_34 : decode prog_14_method_51_code 34 = .ok (.iconst (-1), 1) := by decide +kernel
theorem d_M_listed_35 : decode prog_14_method_51_code 35 = .ok (.ireturn, 1) := by decide +kernel
theorem d_M_listed_36 : decode prog_14_method_51_code 36 = .ok (.aload_n 0, 1) := by decide +kernel
theorem d_M_listed_37 : decode prog_14_method_51_code 37 = .ok (.iload_n 3, 1) := by decide +kernel
theorem d_M_listed_38 : decode prog_14_method_51_code 38 = .ok (.iconst 2, 1) := by decide +kernel
theorem d_M_listed_39 : decode prog_14_method_51_code 39 = .ok (.aload_n 0, 1) := by decide +kernel
theorem d_M_listed_40 : decode prog_14_method_51_code 40 = .ok (.getfield 7, 3) := by decide +kernel
theorem d_M_listed_43 : decode prog_14_method_51_code 43 = .ok (.iload_n 1, 1) := by decide +kernel
theorem d_M_listed_44 : decode prog_14_method_51_code 44 = .ok (.iaload, 1) := by decide +kernel
theorem d_M_listed_45 : decode prog_14_method_51_code 45 = .ok (.imul, 1) := by decide +kernel
theorem d_M_listed_46 : decode prog_14_method_51_code 46 = .ok (.iadd, 1) := by decide +kernel
theorem d_M_listed_47 : decode prog_14_method_51_code 47 = .ok (.iload 4, 2) := by decide +kernel
theorem d_M_listed_49 : decode prog_14_method_51_code 49 = .ok (.iload 5, 2) := by decide +kernel
theorem d_M_listed_51 : decode prog_14_method_51_code 51 = .ok (.invokevirtual 247, 3) := by decide +kernel
theorem d_M_listed_54 : decode prog_14_method_51_code 54 = .ok (.aload_n 0, 1) := by decide +kernel
theorem d_M_listed_55 : decode prog_14_method_51_code 55 = .ok (.getfield 7, 3) := by decide +kernel
theorem d_M_listed_58 : decode prog_14_method_51_code 58 = .ok (.iload_n 1, 1) := by decide +kernel
theorem d_M_listed_59 : decode prog_14_method_51_code 59 = .ok (.dup2, 1) := by decide +kernel
theorem d_M_listed_60 : decode prog_14_method_51_code 60 = .ok (.iaload, 1) := by decide +kernel
theorem d_M_listed_61 : decode prog_14_method_51_code 61 = .ok (.iconst 1, 1) := by decide +kernel
theorem d_M_listed_62 : decode prog_14_method_51_code 62 = .ok (.iadd, 1) := by decide +kernel
theorem d_M_listed_63 : decode prog_14_method_51_code 63 = .ok (.iastore, 1) := by decide +kernel
theorem d_M_listed_64 : decode prog_14_method_51_code 64 = .ok (.aload_n 0, 1) := by decide +kernel
theorem d_M_listed_65 : decode prog_14_method_51_code 65 = .ok (.getfield 7, 3) := by decide +kernel
theorem d_M_listed_68 : decode prog_14_method_51_code 68 = .ok (.iload_n 1, 1) := by decide +kernel
theorem d_M_listed_69 : decode prog_14_method_51_code 69 = .ok (.iaload, 1) := by decide +kernel
theorem d_M_listed_70 : decode prog_14_method_51_code 70 = .ok (.ireturn, 1) := by decide +kernel
theorem d_M_isFraction_0 : decode prog_14_method_49_code 0 = .ok (.iload_n 0, 1) := by decide +kernel
theorem d_M_isFraction_1 : decode prog_14_method_49_code 1 = .ok (.ldc 241, 2) := by decide +kernel
theorem d_M_isFraction_3 : decode prog_14_method_49_code 3 = .ok (.ldc 242, 2) := by decide +kernel
theorem d_M_isFraction_5 : decode prog_14_method_49_code 5 = .ok (.invokestatic 68, 3) := by decide +kernel
theorem d_M_isFraction_8 : decode prog_14_method_49_code 8 = .ok (.ifCond .eq 17, 3) := by decide +kernel
theorem d_M_isFraction_11 : decode prog_14_method_49_code 11 = .ok (.iload_n 1, 1) := by decide +kernel
theorem d_M_isFraction_12 : decode prog_14_method_49_code 12 = .ok (.iconst 1, 1) := by decide +kernel
theorem d_M_isFraction_13 : decode prog_14_method_49_code 13 = .ok (.ldc 243, 2) := by decide +kernel
theorem d_M_isFraction_15 : decode prog_14_method_49_code 15 = .ok (.invokestatic 68, 3) := by decide +kernel
theorem d_M_isFraction_18 : decode prog_14_method_49_code 18 = .ok (.ifCond .eq 7, 3) := by decide +kernel
theorem d_M_isFraction_21 : decode prog_14_method_49_code 21 = .ok (.iconst 1, 1) := by decide +kernel
theorem d_M_isFraction_22 : decode prog_14_method_49_code 22 = .ok (.goto 4, 3) := by decide +kernel
theorem d_M_isFraction_25 : decode prog_14_method_49_code 25 = .ok (.iconst 0, 1) := by decide +kernel
theorem d_M_isFraction_26 : decode prog_14_method_49_code 26 = .ok (.ireturn, 1) := by decide +kernel
theorem d_M_write_0 : decode prog_14_method_50_code 0 = .ok (.iload_n 2, 1) := by decide +kernel
theorem d_M_write_1 : decode prog_14_method_50_code 1 = .ok (.i2l, 1) := by decide +kernel
theorem d_M_write_2 : decode prog_14_method_50_code 2 = .ok (.iload_n 3, 1) := by decide +kernel
theorem d_M_write_3 : decode prog_14_method_50_code 3 = .ok (.i2l, 1) := by decide +kernel
theorem d_M_write_4 : decode prog_14_method_50_code 4 = .ok (.invokestatic 186, 3) := by decide +kernel
theorem d_M_write_7 : decode prog_14_method_50_code 7 = .ok (.lstore 4, 2) := by decide +kernel
theorem d_M_write_9 : decode prog_14_method_50_code 9 = .ok (.aload_n 0, 1) := by decide +kernel
theorem d_M_write_10 : decode prog_14_method_50_code 10 = .ok (.getfield 16, 3) := by decide +kernel
theorem d_M_write_13 : decode prog_14_method_50_code 13 = .ok (.iload_n 1, 1) := by decide +kernel
theorem d_M_write_14 : decode prog_14_method_50_code 14 = .ok (.iload_n 2, 1) := by decide +kernel
theorem d_M_write_15 : decode prog_14_method_50_code 15 = .ok (.i2l, 1) := by decide +kernel
theorem d_M_write_16 : decode prog_14_method_50_code 16 = .ok (.lload 4, 2) := by decide +kernel
theorem d_M_write_18 : decode prog_14_method_50_code 18 = .ok (.ldiv, 1) := by decide +kernel
theorem d_M_write_19 : decode prog_14_method_50_code 19 = .ok (.lastore, 1) := by decide +kernel
theorem d_M_write_20 : decode prog_14_method_50_code 20 = .ok (.aload_n 0, 1) := by decide +kernel
theorem d_M_write_21 : decode prog_14_method_50_code 21 = .ok (.getfield 16, 3) := by decide +kernel
theorem d_M_write_24 : decode prog_14_method_50_code 24 = .ok (.iload_n 1, 1) := by decide +kernel
theorem d_M_write_25 : decode prog_14_method_50_code 25 = .ok (.iconst 1, 1) := by decide +kernel
theorem d_M_write_26 : decode prog_14_method_50_code 26 = .ok (.iadd, 1) := by decide +kernel
theorem d_M_write_27 : decode prog_14_method_50_code 27 = .ok (.iload_n 3, 1) := by decide +kernel
theorem d_M_write_28 : decode prog_14_method_50_code 28 = .ok (.i2l, 1) := by decide +kernel
theorem d_M_write_29 : decode prog_14_method_50_code 29 = .ok (.lload 4, 2) := by decide +kernel
theorem d_M_write_31 : decode prog_14_method_50_code 31 = .ok (.ldiv, 1) := by decide +kernel
theorem d_M_write_32 : decode prog_14_method_50_code 32 = .ok (.lastore, 1) := by decide +kernel
theorem d_M_write_33 : decode prog_14_method_50_code 33 = .ok (.return_, 1) := by decide +kernel
theorem d_M_hear_0 : decode prog_14_method_53_code 0 = .ok (.aload_n 0, 1) := by decide +kernel
theorem d_M_hear_1 : decode prog_14_method_53_code 1 = .ok (.iconst 5, 1) := by decide +kernel
theorem d_M_hear_2 : decode prog_14_method_53_code 2 = .ok (.bipush 6, 2) := by decide +kernel
theorem d_M_hear_4 : decode prog_14_method_53_code 4 = .ok (.bipush 48, 2) := by decide +kernel
theorem d_M_hear_6 : decode prog_14_method_53_code 6 = .ok (.iload_n 1, 1) := by decide +kernel
theorem d_M_hear_7 : decode prog_14_method_53_code 7 = .ok (.iload_n 2, 1) := by decide +kernel
theorem d_M_hear_8 : decode prog_14_method_53_code 8 = .ok (.invokevirtual 251, 3) := by decide +kernel
theorem d_M_hear_11 : decode prog_14_method_53_code 11 = .ok (.ireturn, 1) := by decide +kernel
theorem d_M_judge_0 : decode prog_14_method_54_code 0 = .ok (.aload_n 0, 1) := by decide +kernel
theorem d_M_judge_1 : decode prog_14_method_54_code 1 = .ok (.iload_n 1, 1) := by decide +kernel
theorem d_M_judge_2 : decode prog_14_method_54_code 2 = .ok (.invokevirtual 169, 3) := by decide +kernel
theorem d_M_judge_5 : decode prog_14_method_54_code 5 = .ok (.ifCond .ne 6, 3) := by decide +kernel
theorem d_M_judge_8 : decode prog_14_method_54_code 8 = .ok (.bipush (-2), 2) := by decide +kernel
theorem d_M_judge_10 : decode prog_14_method_54_code 10 = .ok (.ireturn, 1) := by decide +kernel
theorem d_M_judge_11 : decode prog_14_method_54_code 11 = .ok (.aload_n 0, 1) := by decide +kernel
theorem d_M_judge_12 : decode prog_14_method_54_code 12 = .ok (.invokevirtual 235, 3) := by decide +kernel
theorem d_M_judge_15 : decode prog_14_method_54_code 15 = .ok (.aload_n 0, 1) := by decide +kernel
theorem d_M_judge_16 : decode prog_14_method_54_code 16 = .ok (.iload_n 1, 1) := by decide +kernel
theorem d_M_judge_17 : decode prog_14_method_54_code 17 = .ok (.invokevirtual 227, 3) := by decide +kernel
theorem d_M_judge_20 : decode prog_14_method_54_code 20 = .ok (.iconst 0, 1) := by decide +kernel
theorem d_M_judge_21 : decode prog_14_method_54_code 21 = .ok (.istore_n 2, 1) := by decide +kernel
theorem d_M_judge_22 : decode prog_14_method_54_code 22 = .ok (.iload_n 2, 1) := by decide +kernel
theorem d_M_judge_23 : decode prog_14_method_54_code 23 = .ok (.aload_n 0, 1) := by decide +kernel
theorem d_M_judge_24 : decode prog_14_method_54_code 24 = .ok (.iload_n 1, 1) := by decide +kernel
theorem d_M_judge_25 : decode prog_14_method_54_code 25 = .ok (.invokevirtual 172, 3) := by decide +kernel
theorem d_M_judge_28 : decode prog_14_method_54_code 28 = .ok (.if_icmp .ge 80, 3) := by decide +kernel
theorem d_M_judge_31 : decode prog_14_method_54_code 31 = .ok (.iload_n 2, 1) := by decide +kernel
theorem d_M_judge_32 : decode prog_14_method_54_code 32 = .ok (.aload_n 0, 1) := by decide +kernel
theorem d_M_judge_33 : decode prog_14_method_54_code 33 = .ok (.getfield 7, 3) := by decide +kernel
theorem d_M_judge_36 : decode prog_14_method_54_code 36 = .ok (.iconst 4, 1) := by decide +kernel
theorem d_M_judge_37 : decode prog_14_method_54_code 37 = .ok (.iaload, 1) := by decide +kernel
theorem d_M_judge_38 : decode prog_14_method_54_code 38 = .ok (.if_icmp .ge 70, 3) := by decide +kernel
theorem d_M_judge_41 : decode prog_14_method_54_code 41 = .ok (.aload_n 0, 1) := by decide +kernel
theorem d_M_judge_42 : decode prog_14_method_54_code 42 = .ok (.aload_n 0, 1) := by decide +kernel
theorem d_M_judge_43 : decode prog_14_method_54_code 43 = .ok (.iload_n 1, 1) := by decide +kernel
theorem d_M_judge_44 : decode prog_14_method_54_code 44 = .ok (.iload_n 2, 1) := by decide +kernel
theorem d_M_judge_45 : decode prog_14_method_54_code 45 = .ok (.invokevirtual 179, 3) := by decide +kernel
theorem d_M_judge_48 : decode prog_14_method_54_code 48 = .ok (.aload_n 0, 1) := by decide +kernel
theorem d_M_judge_49 : decode prog_14_method_54_code 49 = .ok (.iload_n 1, 1) := by decide +kernel
theorem d_M_judge_50 : decode prog_14_method_54_code 50 = .ok (.iload_n 2, 1) := by decide +kernel
theorem d_M_judge_51 : decode prog_14_method_54_code 51 = .ok (.invokevirtual 175, 3) := by decide +kernel
theorem d_M_judge_54 : decode prog_14_method_54_code 54 = .ok (.invokevirtual 230, 3) := by decide +kernel
theorem d_M_judge_57 : decode prog_14_method_54_code 57 = .ok (.ifCond .ne 5, 3) := by decide +kernel
