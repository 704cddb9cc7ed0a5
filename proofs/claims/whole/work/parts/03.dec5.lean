theorem dX12_isMore_41 : decode cX12_isMore 41 = .ok (.lload 5, 2) := by decide +kernel
theorem dX12_isMore_43 : decode cX12_isMore 43 = .ok (.lload 7, 2) := by decide +kernel
theorem dX12_isMore_45 : decode cX12_isMore 45 = .ok (.lcmp, 1) := by decide +kernel
theorem dX12_isMore_46 : decode cX12_isMore 46 = .ok (.ifCond .gt 17, 3) := by decide +kernel
theorem dX12_isMore_49 : decode cX12_isMore 49 = .ok (.lload 5, 2) := by decide +kernel
theorem dX12_isMore_51 : decode cX12_isMore 51 = .ok (.lload 7, 2) := by decide +kernel
theorem dX12_isMore_53 : decode cX12_isMore 53 = .ok (.lcmp, 1) := by decide +kernel
theorem dX12_isMore_54 : decode cX12_isMore 54 = .ok (.ifCond .ne 13, 3) := by decide +kernel
theorem dX12_isMore_57 : decode cX12_isMore 57 = .ok (.iload_n 3, 1) := by decide +kernel
theorem dX12_isMore_58 : decode cX12_isMore 58 = .ok (.iload 4, 2) := by decide +kernel
theorem dX12_isMore_60 : decode cX12_isMore 60 = .ok (.if_icmp .ge 7, 3) := by decide +kernel
theorem dX12_isMore_63 : decode cX12_isMore 63 = .ok (.iconst 1, 1) := by decide +kernel
theorem dX12_isMore_64 : decode cX12_isMore 64 = .ok (.goto 4, 3) := by decide +kernel
theorem dX12_isMore_67 : decode cX12_isMore 67 = .ok (.iconst 0, 1) := by decide +kernel
theorem dX12_isMore_68 : decode cX12_isMore 68 = .ok (.ireturn, 1) := by decide +kernel
theorem dX12_wed_0 : decode cX12_wed 0 = .ok (.aload_n 0, 1) := by decide +kernel
theorem dX12_wed_1 : decode cX12_wed 1 = .ok (.iload_n 1, 1) := by decide +kernel
theorem dX12_wed_2 : decode cX12_wed 2 = .ok (.invokevirtual 113, 3) := by decide +kernel
theorem dX12_wed_5 : decode cX12_wed 5 = .ok (.ifCond .eq 28, 3) := by decide +kernel
theorem dX12_wed_8 : decode cX12_wed 8 = .ok (.iload_n 2, 1) := by decide +kernel
theorem dX12_wed_9 : decode cX12_wed 9 = .ok (.iconst 0, 1) := by decide +kernel
theorem dX12_wed_10 : decode cX12_wed 10 = .ok (.iconst 1, 1) := by decide +kernel
theorem dX12_wed_11 : decode cX12_wed 11 = .ok (.invokestatic 95, 3) := by decide +kernel
theorem dX12_wed_14 : decode cX12_wed 14 = .ok (.ifCond .eq 19, 3) := by decide +kernel
theorem dX12_wed_17 : decode cX12_wed 17 = .ok (.iload_n 3, 1) := by decide +kernel
theorem dX12_wed_18 : decode cX12_wed 18 = .ok (.iconst 0, 1) := by decide +kernel
theorem dX12_wed_19 : decode cX12_wed 19 = .ok (.aload_n 0, 1) := by decide +kernel
theorem dX12_wed_20 : decode cX12_wed 20 = .ok (.getfield 7, 3) := by decide +kernel
theorem dX12_wed_23 : decode cX12_wed 23 = .ok (.iconst 5, 1) := by decide +kernel
theorem dX12_wed_24 : decode cX12_wed 24 = .ok (.iaload, 1) := by decide +kernel
theorem dX12_wed_25 : decode cX12_wed 25 = .ok (.iconst 1, 1) := by decide +kernel
theorem dX12_wed_26 : decode cX12_wed 26 = .ok (.isub, 1) := by decide +kernel
theorem dX12_wed_27 : decode cX12_wed 27 = .ok (.invokestatic 95, 3) := by decide +kernel
theorem dX12_wed_30 : decode cX12_wed 30 = .ok (.ifCond .ne 5, 3) := by decide +kernel
theorem dX12_wed_33 : decode cX12_wed 33 = .ok (.iconst (-1), 1) := by decide +kernel
theorem dX12_wed_34 : decode cX12_wed 34 = .ok (.ireturn, 1) := by decide +kernel
theorem dX12_wed_35 : decode cX12_wed 35 = .ok (.aload_n 0, 1) := by decide +kernel
theorem dX12_wed_36 : decode cX12_wed 36 = .ok (.iload_n 1, 1) := by decide +kernel
theorem dX12_wed_37 : decode cX12_wed 37 = .ok (.invokevirtual 356, 3) := by decide +kernel
theorem dX12_wed_40 : decode cX12_wed 40 = .ok (.iconst 0, 1) := by decide +kernel
theorem dX12_wed_41 : decode cX12_wed 41 = .ok (.istore 4, 2) := by decide +kernel
theorem dX12_wed_43 : decode cX12_wed 43 = .ok (.iload 4, 2) := by decide +kernel
theorem dX12_wed_45 : decode cX12_wed 45 = .ok (.bipush 12, 2) := by decide +kernel
theorem dX12_wed_47 : decode cX12_wed 47 = .ok (.if_icmp .ge 17, 3) := by decide +kernel
theorem dX12_wed_50 : decode cX12_wed 50 = .ok (.aload_n 0, 1) := by decide +kernel
theorem dX12_wed_51 : decode cX12_wed 51 = .ok (.getfield 73, 3) := by decide +kernel
theorem dX12_wed_54 : decode cX12_wed 54 = .ok (.iload 4, 2) := by decide +kernel
theorem dX12_wed_56 : decode cX12_wed 56 = .ok (.iconst (-1), 1) := by decide +kernel
theorem dX12_wed_57 : decode cX12_wed 57 = .ok (.iastore, 1) := by decide +kernel
theorem dX12_wed_58 : decode cX12_wed 58 = .ok (.iinc 4 1, 3) := by decide +kernel
theorem dX12_wed_61 : decode cX12_wed 61 = .ok (.goto (-18), 3) := by decide +kernel
theorem dX12_wed_64 : decode cX12_wed 64 = .ok (.iconst 0, 1) := by decide +kernel
theorem dX12_wed_65 : decode cX12_wed 65 = .ok (.istore 4, 2) := by decide +kernel
theorem dX12_wed_67 : decode cX12_wed 67 = .ok (.iload 4, 2) := by decide +kernel
theorem dX12_wed_69 : decode cX12_wed 69 = .ok (.bipush 72, 2) := by decide +kernel
theorem dX12_wed_71 : decode cX12_wed 71 = .ok (.if_icmp .ge 17, 3) := by decide +kernel
theorem dX12_wed_74 : decode cX12_wed 74 = .ok (.aload_n 0, 1) := by decide +kernel
theorem dX12_wed_75 : decode cX12_wed 75 = .ok (.getfield 76, 3) := by decide +kernel
theorem dX12_wed_78 : decode cX12_wed 78 = .ok (.iload 4, 2) := by decide +kernel
theorem dX12_wed_80 : decode cX12_wed 80 = .ok (.iconst 0, 1) := by decide +kernel
theorem dX12_wed_81 : decode cX12_wed 81 = .ok (.iastore, 1) := by decide +kernel
theorem dX12_wed_82 : decode cX12_wed 82 = .ok (.iinc 4 1, 3) := by decide +kernel
theorem dX12_wed_85 : decode cX12_wed 85 = .ok (.goto (-18), 3) := by decide +kernel
theorem dX12_wed_88 : decode cX12_wed 88 = .ok (.aload_n 0, 1) := by decide +kernel
theorem dX12_wed_89 : decode cX12_wed 89 = .ok (.getfield 7, 3) := by decide +kernel
theorem dX12_wed_92 : decode cX12_wed 92 = .ok (.iload_n 2, 1) := by decide +kernel
theorem dX12_wed_93 : decode cX12_wed 93 = .ok (.ifCond .ne 7, 3) := by decide +kernel
theorem dX12_wed_96 : decode cX12_wed 96 = .ok (.iconst 5, 1) := by decide +kernel
theorem dX12_wed_97 : decode cX12_wed 97 = .ok (.goto 5, 3) := by decide +kernel
theorem dX12_wed_100 : decode cX12_wed 100 = .ok (.bipush 6, 2) := by decide +kernel
theorem dX12_wed_102 : decode cX12_wed 102 = .ok (.iaload, 1) := by decide +kernel
theorem dX12_wed_103 : decode cX12_wed 103 = .ok (.istore 4, 2) := by decide +kernel
theorem dX12_wed_105 : decode cX12_wed 105 = .ok (.iconst 0, 1) := by decide +kernel
theorem dX12_wed_106 : decode cX12_wed 106 = .ok (.istore 5, 2) := by decide +kernel
theorem dX12_wed_108 : decode cX12_wed 108 = .ok (.iload 5, 2) := by decide +kernel
theorem dX12_wed_110 : decode cX12_wed 110 = .ok (.iload 4, 2) := by decide +kernel
theorem dX12_wed_112 : decode cX12_wed 112 = .ok (.if_icmp .ge 119, 3) := by decide +kernel
theorem dX12_wed_115 : decode cX12_wed 115 = .ok (.aload_n 0, 1) := by decide +kernel
theorem dX12_wed_116 : decode cX12_wed 116 = .ok (.getfield 73, 3) := by decide +kernel
theorem dX12_wed_119 : decode cX12_wed 119 = .ok (.iload 5, 2) := by decide +kernel
theorem dX12_wed_121 : decode cX12_wed 121 = .ok (.iaload, 1) := by decide +kernel
theorem dX12_wed_122 : decode cX12_wed 122 = .ok (.ifCond .lt 7, 3) := by decide +kernel
theorem dX12_wed_125 : decode cX12_wed 125 = .ok (.iconst (-1), 1) := by decide +kernel
theorem dX12_wed_126 : decode cX12_wed 126 = .ok (.goto 10, 3) := by decide +kernel
theorem dX12_wed_129 : decode cX12_wed 129 = .ok (.aload_n 0, 1) := by decide +kernel
theorem dX12_wed_130 : decode cX12_wed 130 = .ok (.iload_n 2, 1) := by decide +kernel
theorem dX12_wed_131 : decode cX12_wed 131 = .ok (.iload 5, 2) := by decide +kernel
theorem dX12_wed_133 : decode cX12_wed 133 = .ok (.invokevirtual 359, 3) := by decide +kernel
theorem dX12_wed_136 : decode cX12_wed 136 = .ok (.istore 6, 2) := by decide +kernel
theorem dX12_wed_138 : decode cX12_wed 138 = .ok (.iload 6, 2) := by decide +kernel
theorem dX12_wed_140 : decode cX12_wed 140 = .ok (.ifCond .ge 9, 3) := by decide +kernel
theorem dX12_wed_143 : decode cX12_wed 143 = .ok (.iinc 5 1, 3) := by decide +kernel
theorem dX12_wed_146 : decode cX12_wed 146 = .ok (.goto (-38), 3) := by decide +kernel
theorem dX12_wed_149 : decode cX12_wed 149 = .ok (.aload_n 0, 1) := by decide +kernel
theorem dX12_wed_150 : decode cX12_wed 150 = .ok (.getfield 76, 3) := by decide +kernel
theorem dX12_wed_153 : decode cX12_wed 153 = .ok (.bipush 6, 2) := by decide +kernel
theorem dX12_wed_155 : decode cX12_wed 155 = .ok (.iload 5, 2) := by decide +kernel
theorem dX12_wed_157 : decode cX12_wed 157 = .ok (.imul, 1) := by decide +kernel
theorem dX12_wed_158 : decode cX12_wed 158 = .ok (.iload 6, 2) := by decide +kernel
theorem dX12_wed_160 : decode cX12_wed 160 = .ok (.iadd, 1) := by decide +kernel
theorem dX12_wed_161 : decode cX12_wed 161 = .ok (.iconst 1, 1) := by decide +kernel
theorem dX12_wed_162 : decode cX12_wed 162 = .ok (.iastore, 1) := by decide +kernel
theorem dX12_wed_163 : decode cX12_wed 163 = .ok (.aload_n 0, 1) := by decide +kernel
theorem dX12_wed_164 : decode cX12_wed 164 = .ok (.iload_n 2, 1) := by decide +kernel
theorem dX12_wed_165 : decode cX12_wed 165 = .ok (.iload 6, 2) := by decide +kernel
theorem dX12_wed_167 : decode cX12_wed 167 = .ok (.iload 5, 2) := by decide +kernel
theorem dX12_wed_169 : decode cX12_wed 169 = .ok (.invokevirtual 362, 3) := by decide +kernel
theorem dX12_wed_172 : decode cX12_wed 172 = .ok (.ifCond .eq 56, 3) := by decide +kernel
theorem dX12_wed_175 : decode cX12_wed 175 = .ok (.aload_n 0, 1) := by decide +kernel
theorem dX12_wed_176 : decode cX12_wed 176 = .ok (.getfield 73, 3) := by decide +kernel
theorem dX12_wed_179 : decode cX12_wed 179 = .ok (.bipush 6, 2) := by decide +kernel
theorem dX12_wed_181 : decode cX12_wed 181 = .ok (.iload 6, 2) := by decide +kernel
theorem dX12_wed_183 : decode cX12_wed 183 = .ok (.iadd, 1) := by decide +kernel
theorem dX12_wed_184 : decode cX12_wed 184 = .ok (.iaload, 1) := by decide +kernel
theorem dX12_wed_185 : decode cX12_wed 185 = .ok (.ifCond .lt 19, 3) := by decide +kernel
theorem dX12_wed_188 : decode cX12_wed 188 = .ok (.aload_n 0, 1) := by decide +kernel
theorem dX12_wed_189 : decode cX12_wed 189 = .ok (.getfield 73, 3) := by decide +kernel
theorem dX12_wed_192 : decode cX12_wed 192 = .ok (.aload_n 0, 1) := by decide +kernel
theorem dX12_wed_193 : decode cX12_wed 193 = .ok (.getfield 73, 3) := by decide +kernel
theorem dX12_wed_196 : decode cX12_wed 196 = .ok (.bipush 6, 2) := by decide +kernel
theorem dX12_wed_198 : decode cX12_wed 198 = .ok (.iload 6, 2) := by decide +kernel
theorem dX12_wed_200 : decode cX12_wed 200 = .ok (.iadd, 1) := by decide +kernel
theorem dX12_wed_201 : decode cX12_wed 201 = .ok (.iaload, 1) := by decide +kernel
theorem dX12_wed_202 : decode cX12_wed 202 = .ok (.iconst (-1), 1) := by decide +kernel
theorem dX12_wed_203 : decode cX12_wed 203 = .ok (.iastore, 1) := by decide +kernel
theorem dX12_wed_204 : decode cX12_wed 204 = .ok (.aload_n 0, 1) := by decide +kernel
theorem dX12_wed_205 : decode cX12_wed 205 = .ok (.getfield 73, 3) := by decide +kernel
theorem dX12_wed_208 : decode cX12_wed 208 = .ok (.bipush 6, 2) := by decide +kernel
theorem dX12_wed_210 : decode cX12_wed 210 = .ok (.iload 6, 2) := by decide +kernel
theorem dX12_wed_212 : decode cX12_wed 212 = .ok (.iadd, 1) := by decide +kernel
theorem dX12_wed_213 : decode cX12_wed 213 = .ok (.iload 5, 2) := by decide +kernel
theorem dX12_wed_215 : decode cX12_wed 215 = .ok (.iastore, 1) := by decide +kernel
theorem dX12_wed_216 : decode cX12_wed 216 = .ok (.aload_n 0, 1) := by decide +kernel
theorem dX12_wed_217 : decode cX12_wed 217 = .ok (.getfield 73, 3) := by decide +kernel
theorem dX12_wed_220 : decode cX12_wed 220 = .ok (.iload 5, 2) := by decide +kernel
theorem dX12_wed_222 : decode cX12_wed 222 = .ok (.iload 6, 2) := by decide +kernel
theorem dX12_wed_224 : decode cX12_wed 224 = .ok (.iastore, 1) := by decide +kernel
theorem dX12_wed_225 : decode cX12_wed 225 = .ok (.iconst 0, 1) := by decide +kernel
theorem dX12_wed_226 : decode cX12_wed 226 = .ok (.istore 5, 2) := by decide +kernel
theorem dX12_wed_228 : decode cX12_wed 228 = .ok (.goto (-120), 3) := by decide +kernel
theorem dX12_wed_231 : decode cX12_wed 231 = .ok (.iload_n 2, 1) := by decide +kernel
theorem dX12_wed_232 : decode cX12_wed 232 = .ok (.ifCond .ne 12, 3) := by decide +kernel
theorem dX12_wed_235 : decode cX12_wed 235 = .ok (.aload_n 0, 1) := by decide +kernel
theorem dX12_wed_236 : decode cX12_wed 236 = .ok (.getfield 73, 3) := by decide +kernel
theorem dX12_wed_239 : decode cX12_wed 239 = .ok (.iload_n 3, 1) := by decide +kernel
theorem dX12_wed_240 : decode cX12_wed 240 = .ok (.iaload, 1) := by decide +kernel
theorem dX12_wed_241 : decode cX12_wed 241 = .ok (.goto 12, 3) := by decide +kernel
theorem dX12_wed_244 : decode cX12_wed 244 = .ok (.aload_n 0, 1) := by decide +kernel
theorem dX12_wed_245 : decode cX12_wed 245 = .ok (.getfield 73, 3) := by decide +kernel
theorem dX12_wed_248 : decode cX12_wed 248 = .ok (.bipush 6, 2) := by decide +kernel
theorem dX12_wed_250 : decode cX12_wed 250 = .ok (.iload_n 3, 1) := by decide +kernel
theorem dX12_wed_251 : decode cX12_wed 251 = .ok (.iadd, 1) := by decide +kernel
theorem dX12_wed_252 : decode cX12_wed 252 = .ok (.iaload, 1) := by decide +kernel
theorem dX12_wed_253 : decode cX12_wed 253 = .ok (.ireturn, 1) := by decide +kernel
theorem dX12_isTaken_0 : decode cX12_isTaken 0 = .ok (.iconst 0, 1) := by decide +kernel
theorem dX12_isTaken_1 : decode cX12_isTaken 1 = .ok (.istore_n 3, 1) := by decide +kernel
theorem dX12_isTaken_2 : decode cX12_isTaken 2 = .ok (.iload_n 3, 1) := by decide +kernel
theorem dX12_isTaken_3 : decode cX12_isTaken 3 = .ok (.aload_n 0, 1) := by decide +kernel
theorem dX12_isTaken_4 : decode cX12_isTaken 4 = .ok (.getfield 7, 3) := by decide +kernel
theorem dX12_isTaken_7 : decode cX12_isTaken 7 = .ok (.iconst 0, 1) := by decide +kernel
theorem dX12_isTaken_8 : decode cX12_isTaken 8 = .ok (.iaload, 1) := by decide +kernel
theorem dX12_isTaken_9 : decode cX12_isTaken 9 = .ok (.if_icmp .ge 37, 3) := by decide +kernel
theorem dX12_isTaken_12 : decode cX12_isTaken 12 = .ok (.iload_n 3, 1) := by decide +kernel
theorem dX12_isTaken_13 : decode cX12_isTaken 13 = .ok (.iload_n 1, 1) := by decide +kernel
theorem dX12_isTaken_14 : decode cX12_isTaken 14 = .ok (.if_icmp .eq 26, 3) := by decide +kernel
theorem dX12_isTaken_17 : decode cX12_isTaken 17 = .ok (.aload_n 0, 1) := by decide +kernel
theorem dX12_isTaken_18 : decode cX12_isTaken 18 = .ok (.getfield 79, 3) := by decide +kernel
theorem dX12_isTaken_21 : decode cX12_isTaken 21 = .ok (.iload_n 3, 1) := by decide +kernel
theorem dX12_isTaken_22 : decode cX12_isTaken 22 = .ok (.iaload, 1) := by decide +kernel
theorem dX12_isTaken_23 : decode cX12_isTaken 23 = .ok (.ifCond .lt 17, 3) := by decide +kernel
theorem dX12_isTaken_26 : decode cX12_isTaken 26 = .ok (.aload_n 0, 1) := by decide +kernel
theorem dX12_isTaken_27 : decode cX12_isTaken 27 = .ok (.getfield 79, 3) := by decide +kernel
theorem dX12_isTaken_30 : decode cX12_isTaken 30 = .ok (.iload_n 3, 1) := by decide +kernel
theorem dX12_isTaken_31 : decode cX12_isTaken 31 = .ok (.iaload, 1) := by decide +kernel
theorem dX12_isTaken_32 : decode cX12_isTaken 32 = .ok (.iconst 4, 1) := by decide +kernel
theorem dX12_isTaken_33 : decode cX12_isTaken 33 = .ok (.idiv, 1) := by decide +kernel
theorem dX12_isTaken_34 : decode cX12_isTaken 34 = .ok (.iload_n 2, 1) := by decide +kernel
theorem dX12_isTaken_35 : decode cX12_isTaken 35 = .ok (.if_icmp .ne 5, 3) := by decide +kernel
theorem dX12_isTaken_38 : decode cX12_isTaken 38 = .ok (.iconst 1, 1) := by decide +kernel
theorem dX12_isTaken_39 : decode cX12_isTaken 39 = .ok (.ireturn, 1) := by decide +kernel
theorem dX12_isTaken_40 : decode cX12_isTaken 40 = .ok (.iinc 3 1, 3) := by decide +kernel
theorem dX12_isTaken_43 : decode cX12_isTaken 43 = .ok (.goto (-41), 3) := by decide +kernel
theorem dX12_isTaken_46 : decode cX12_isTaken 46 = .ok (.iconst 0, 1) := by decide +kernel
theorem dX12_isTaken_47 : decode cX12_isTaken 47 = .ok (.ireturn, 1) := by decide +kernel
theorem dX12_areHome_0 : decode cX12_areHome 0 = .ok (.iconst 1, 1) := by decide +kernel
theorem dX12_areHome_1 : decode cX12_areHome 1 = .ok (.istore_n 2, 1) := by decide +kernel
theorem dX12_areHome_2 : decode cX12_areHome 2 = .ok (.iconst 0, 1) := by decide +kernel
theorem dX12_areHome_3 : decode cX12_areHome 3 = .ok (.istore_n 3, 1) := by decide +kernel
theorem dX12_areHome_4 : decode cX12_areHome 4 = .ok (.iload_n 3, 1) := by decide +kernel
theorem dX12_areHome_5 : decode cX12_areHome 5 = .ok (.aload_n 0, 1) := by decide +kernel
theorem dX12_areHome_6 : decode cX12_areHome 6 = .ok (.getfield 7, 3) := by decide +kernel
theorem dX12_areHome_9 : decode cX12_areHome 9 = .ok (.iconst 0, 1) := by decide +kernel
theorem dX12_areHome_10 : decode cX12_areHome 10 = .ok (.iaload, 1) := by decide +kernel
theorem dX12_areHome_11 : decode cX12_areHome 11 = .ok (.if_icmp .ge 56, 3) := by decide +kernel
theorem dX12_areHome_14 : decode cX12_areHome 14 = .ok (.aload_n 0, 1) := by decide +kernel
theorem dX12_areHome_15 : decode cX12_areHome 15 = .ok (.getfield 79, 3) := by decide +kernel
theorem dX12_areHome_18 : decode cX12_areHome 18 = .ok (.iload_n 3, 1) := by decide +kernel
theorem dX12_areHome_19 : decode cX12_areHome 19 = .ok (.iaload, 1) := by decide +kernel
theorem dX12_areHome_20 : decode cX12_areHome 20 = .ok (.ifCond .lt 22, 3) := by decide +kernel
theorem dX12_areHome_23 : decode cX12_areHome 23 = .ok (.aload_n 0, 1) := by decide +kernel
theorem dX12_areHome_24 : decode cX12_areHome 24 = .ok (.getfield 79, 3) := by decide +kernel
theorem dX12_areHome_27 : decode cX12_areHome 27 = .ok (.iload_n 3, 1) := by decide +kernel
theorem dX12_areHome_28 : decode cX12_areHome 28 = .ok (.iaload, 1) := by decide +kernel
theorem dX12_areHome_29 : decode cX12_areHome 29 = .ok (.iconst 4, 1) := by decide +kernel
theorem dX12_areHome_30 : decode cX12_areHome 30 = .ok (.idiv, 1) := by decide +kernel
theorem dX12_areHome_31 : decode cX12_areHome 31 = .ok (.iload_n 1, 1) := by decide +kernel
theorem dX12_areHome_32 : decode cX12_areHome 32 = .ok (.if_icmp .ne 10, 3) := by decide +kernel
theorem dX12_areHome_35 : decode cX12_areHome 35 = .ok (.aload_n 0, 1) := by decide +kernel
theorem dX12_areHome_36 : decode cX12_areHome 36 = .ok (.getfield 79, 3) := by decide +kernel
theorem dX12_areHome_39 : decode cX12_areHome 39 = .ok (.iload_n 3, 1) := by decide +kernel
theorem dX12_areHome_40 : decode cX12_areHome 40 = .ok (.iconst (-1), 1) := by decide +kernel
theorem dX12_areHome_41 : decode cX12_areHome 41 = .ok (.iastore, 1) := by decide +kernel
theorem dX12_areHome_42 : decode cX12_areHome 42 = .ok (.iload_n 2, 1) := by decide +kernel
theorem dX12_areHome_43 : decode cX12_areHome 43 = .ok (.ifCond .eq 16, 3) := by decide +kernel
theorem dX12_areHome_46 : decode cX12_areHome 46 = .ok (.aload_n 0, 1) := by decide +kernel
theorem dX12_areHome_47 : decode cX12_areHome 47 = .ok (.getfield 79, 3) := by decide +kernel
theorem dX12_areHome_50 : decode cX12_areHome 50 = .ok (.iload_n 3, 1) := by decide +kernel
theorem dX12_areHome_51 : decode cX12_areHome 51 = .ok (.iaload, 1) := by decide +kernel
theorem dX12_areHome_52 : decode cX12_areHome 52 = .ok (.ifCond .ge 7, 3) := by decide +kernel
theorem dX12_areHome_55 : decode cX12_areHome 55 = .ok (.iconst 1, 1) := by decide +kernel
theorem dX12_areHome_56 : decode cX12_areHome 56 = .ok (.goto 4, 3) := by decide +kernel
theorem dX12_areHome_59 : decode cX12_areHome 59 = .ok (.iconst 0, 1) := by decide +kernel
theorem dX12_areHome_60 : decode cX12_areHome 60 = .ok (.istore_n 2, 1) := by decide +kernel
theorem dX12_areHome_61 : decode cX12_areHome 61 = .ok (.iinc 3 1, 3) := by decide +kernel
theorem dX12_areHome_64 : decode cX12_areHome 64 = .ok (.goto (-60), 3) := by decide +kernel
theorem dX12_areHome_67 : decode cX12_areHome 67 = .ok (.iload_n 2, 1) := by decide +kernel
theorem dX12_areHome_68 : decode cX12_areHome 68 = .ok (.ireturn, 1) := by decide +kernel
theorem dX12_crowd_0 : decode cX12_crowd 0 = .ok (.aload_n 0, 1) := by decide +kernel
theorem dX12_crowd_1 : decode cX12_crowd 1 = .ok (.iload_n 1, 1) := by decide +kernel
theorem dX12_crowd_2 : decode cX12_crowd 2 = .ok (.invokevirtual 103, 3) := by decide +kernel
theorem dX12_crowd_5 : decode cX12_crowd 5 = .ok (.ifCond .ne 5, 3) := by decide +kernel
theorem dX12_crowd_8 : decode cX12_crowd 8 = .ok (.iconst (-1), 1) := by decide +kernel
theorem dX12_crowd_9 : decode cX12_crowd 9 = .ok (.ireturn, 1) := by decide +kernel
theorem dX12_crowd_10 : decode cX12_crowd 10 = .ok (.iconst 0, 1) := by decide +kernel
theorem dX12_crowd_11 : decode cX12_crowd 11 = .ok (.istore_n 2, 1) := by decide +kernel
theorem dX12_crowd_12 : decode cX12_crowd 12 = .ok (.iload_n 2, 1) := by decide +kernel
theorem dX12_crowd_13 : decode cX12_crowd 13 = .ok (.aload_n 0, 1) := by decide +kernel
theorem dX12_crowd_14 : decode cX12_crowd 14 = .ok (.getfield 7, 3) := by decide +kernel
theorem dX12_crowd_17 : decode cX12_crowd 17 = .ok (.iconst 0, 1) := by decide +kernel
theorem dX12_crowd_18 : decode cX12_crowd 18 = .ok (.iaload, 1) := by decide +kernel
theorem dX12_crowd_19 : decode cX12_crowd 19 = .ok (.if_icmp .ge 20, 3) := by decide +kernel
theorem dX12_crowd_22 : decode cX12_crowd 22 = .ok (.aload_n 0, 1) := by decide +kernel
theorem dX12_crowd_23 : decode cX12_crowd 23 = .ok (.getfield 79, 3) := by decide +kernel
theorem dX12_crowd_26 : decode cX12_crowd 26 = .ok (.iload_n 2, 1) := by decide +kernel
theorem dX12_crowd_27 : decode cX12_crowd 27 = .ok (.aload_n 0, 1) := by decide +kernel
theorem dX12_crowd_28 : decode cX12_crowd 28 = .ok (.iload_n 2, 1) := by decide +kernel
theorem dX12_crowd_29 : decode cX12_crowd 29 = .ok (.invokevirtual 106, 3) := by decide +kernel
theorem dX12_crowd_32 : decode cX12_crowd 32 = .ok (.iastore, 1) := by decide +kernel
theorem dX12_crowd_33 : decode cX12_crowd 33 = .ok (.iinc 2 1, 3) := by decide +kernel
theorem dX12_crowd_36 : decode cX12_crowd 36 = .ok (.goto (-24), 3) := by decide +kernel
theorem dX12_crowd_39 : decode cX12_crowd 39 = .ok (.aload_n 0, 1) := by decide +kernel
theorem dX12_crowd_40 : decode cX12_crowd 40 = .ok (.iload_n 1, 1) := by decide +kernel
theorem dX12_crowd_41 : decode cX12_crowd 41 = .ok (.invokevirtual 365, 3) := by decide +kernel
theorem dX12_crowd_44 : decode cX12_crowd 44 = .ok (.ifCond .eq 5, 3) := by decide +kernel
theorem dX12_crowd_47 : decode cX12_crowd 47 = .ok (.iconst 0, 1) := by decide +kernel
theorem dX12_crowd_48 : decode cX12_crowd 48 = .ok (.ireturn, 1) := by decide +kernel
theorem dX12_crowd_49 : decode cX12_crowd 49 = .ok (.aload_n 0, 1) := by decide +kernel
theorem dX12_crowd_50 : decode cX12_crowd 50 = .ok (.getfield 7, 3) := by decide +kernel
theorem dX12_crowd_53 : decode cX12_crowd 53 = .ok (.iconst 2, 1) := by decide +kernel
theorem dX12_crowd_54 : decode cX12_crowd 54 = .ok (.iaload, 1) := by decide +kernel
theorem dX12_crowd_55 : decode cX12_crowd 55 = .ok (.ifCond .ne 5, 3) := by decide +kernel
theorem dX12_crowd_58 : decode cX12_crowd 58 = .ok (.iconst (-1), 1) := by decide +kernel
theorem dX12_crowd_59 : decode cX12_crowd 59 = .ok (.ireturn, 1) := by decide +kernel
theorem dX12_crowd_60 : decode cX12_crowd 60 = .ok (.iconst 0, 1) := by decide +kernel
theorem dX12_crowd_61 : decode cX12_crowd 61 = .ok (.istore_n 2, 1) := by decide +kernel
theorem dX12_crowd_62 : decode cX12_crowd 62 = .ok (.iload_n 2, 1) := by decide +kernel
theorem dX12_crowd_63 : decode cX12_crowd 63 = .ok (.sipush 200, 3) := by decide +kernel
theorem dX12_crowd_66 : decode cX12_crowd 66 = .ok (.if_icmp .ge 135, 3) := by decide +kernel
theorem dX12_crowd_69 : decode cX12_crowd 69 = .ok (.iconst 0, 1) := by decide +kernel
theorem dX12_crowd_70 : decode cX12_crowd 70 = .ok (.istore_n 3, 1) := by decide +kernel
theorem dX12_crowd_71 : decode cX12_crowd 71 = .ok (.iload_n 3, 1) := by decide +kernel
theorem dX12_crowd_72 : decode cX12_crowd 72 = .ok (.aload_n 0, 1) := by decide +kernel
theorem dX12_crowd_73 : decode cX12_crowd 73 = .ok (.getfield 7, 3) := by decide +kernel
theorem dX12_crowd_76 : decode cX12_crowd 76 = .ok (.iconst 0, 1) := by decide +kernel
theorem dX12_crowd_77 : decode cX12_crowd 77 = .ok (.iaload, 1) := by decide +kernel
theorem dX12_crowd_78 : decode cX12_crowd 78 = .ok (.if_icmp .ge 105, 3) := by decide +kernel
theorem dX12_crowd_81 : decode cX12_crowd 81 = .ok (.aload_n 0, 1) := by decide +kernel
theorem dX12_crowd_82 : decode cX12_crowd 82 = .ok (.getfield 79, 3) := by decide +kernel
theorem dX12_crowd_85 : decode cX12_crowd 85 = .ok (.iload_n 3, 1) := by decide +kernel
theorem dX12_crowd_86 : decode cX12_crowd 86 = .ok (.iaload, 1) := by decide +kernel
theorem dX12_crowd_87 : decode cX12_crowd 87 = .ok (.ifCond .ge 6, 3) := by decide +kernel
theorem dX12_crowd_90 : decode cX12_crowd 90 = .ok (.goto 87, 3) := by decide +kernel
theorem dX12_crowd_93 : decode cX12_crowd 93 = .ok (.aload_n 0, 1) := by decide +kernel
theorem dX12_crowd_94 : decode cX12_crowd 94 = .ok (.aload_n 0, 1) := by decide +kernel
theorem dX12_crowd_95 : decode cX12_crowd 95 = .ok (.iload_n 3, 1) := by decide +kernel
theorem dX12_crowd_96 : decode cX12_crowd 96 = .ok (.invokevirtual 307, 3) := by decide +kernel
theorem dX12_crowd_99 : decode cX12_crowd 99 = .ok (.aload_n 0, 1) := by decide +kernel
theorem dX12_crowd_100 : decode cX12_crowd 100 = .ok (.getfield 79, 3) := by decide +kernel
theorem dX12_crowd_103 : decode cX12_crowd 103 = .ok (.iload_n 3, 1) := by decide +kernel
theorem dX12_crowd_104 : decode cX12_crowd 104 = .ok (.iaload, 1) := by decide +kernel
theorem dX12_crowd_105 : decode cX12_crowd 105 = .ok (.aload_n 0, 1) := by decide +kernel
theorem dX12_crowd_106 : decode cX12_crowd 106 = .ok (.getfield 7, 3) := by decide +kernel
theorem dX12_crowd_109 : decode cX12_crowd 109 = .ok (.bipush 50, 2) := by decide +kernel
theorem dX12_crowd_111 : decode cX12_crowd 111 = .ok (.iload_n 2, 1) := by decide +kernel
theorem dX12_crowd_112 : decode cX12_crowd 112 = .ok (.aload_n 0, 1) := by decide +kernel
theorem dX12_crowd_113 : decode cX12_crowd 113 = .ok (.getfield 7, 3) := by decide +kernel
theorem dX12_crowd_116 : decode cX12_crowd 116 = .ok (.iconst 2, 1) := by decide +kernel
theorem dX12_crowd_117 : decode cX12_crowd 117 = .ok (.iaload, 1) := by decide +kernel
theorem dX12_crowd_118 : decode cX12_crowd 118 = .ok (.irem, 1) := by decide +kernel
theorem dX12_crowd_119 : decode cX12_crowd 119 = .ok (.iadd, 1) := by decide +kernel
theorem dX12_crowd_120 : decode cX12_crowd 120 = .ok (.iaload, 1) := by decide +kernel
theorem dX12_crowd_121 : decode cX12_crowd 121 = .ok (.invokevirtual 294, 3) := by decide +kernel
theorem dX12_crowd_124 : decode cX12_crowd 124 = .ok (.sipush 200, 3) := by decide +kernel
theorem dX12_crowd_127 : decode cX12_crowd 127 = .ok (.irem, 1) := by decide +kernel
theorem dX12_crowd_128 : decode cX12_crowd 128 = .ok (.istore 4, 2) := by decide +kernel
theorem dX12_crowd_130 : decode cX12_crowd 130 = .ok (.iload 4, 2) := by decide +kernel
theorem dX12_crowd_132 : decode cX12_crowd 132 = .ok (.iconst 4, 1) := by decide +kernel
theorem dX12_crowd_133 : decode cX12_crowd 133 = .ok (.idiv, 1) := by decide +kernel
theorem dX12_crowd_134 : decode cX12_crowd 134 = .ok (.aload_n 0, 1) := by decide +kernel
theorem dX12_crowd_135 : decode cX12_crowd 135 = .ok (.getfield 79, 3) := by decide +kernel
theorem dX12_crowd_138 : decode cX12_crowd 138 = .ok (.iload_n 3, 1) := by decide +kernel
theorem dX12_crowd_139 : decode cX12_crowd 139 = .ok (.iaload, 1) := by decide +kernel
theorem dX12_crowd_140 : decode cX12_crowd 140 = .ok (.iconst 4, 1) := by decide +kernel
theorem dX12_crowd_141 : decode cX12_crowd 141 = .ok (.idiv, 1) := by decide +kernel
theorem dX12_crowd_142 : decode cX12_crowd 142 = .ok (.if_icmp .eq 15, 3) := by decide +kernel
theorem dX12_crowd_145 : decode cX12_crowd 145 = .ok (.aload_n 0, 1) := by decide +kernel
theorem dX12_crowd_146 : decode cX12_crowd 146 = .ok (.iload_n 3, 1) := by decide +kernel
theorem dX12_crowd_147 : decode cX12_crowd 147 = .ok (.iload 4, 2) := by decide +kernel
theorem dX12_crowd_149 : decode cX12_crowd 149 = .ok (.iconst 4, 1) := by decide +kernel
theorem dX12_crowd_150 : decode cX12_crowd 150 = .ok (.idiv, 1) := by decide +kernel
theorem dX12_crowd_151 : decode cX12_crowd 151 = .ok (.invokevirtual 368, 3) := by decide +kernel
theorem dX12_crowd_154 : decode cX12_crowd 154 = .ok (.ifCond .ne 23, 3) := by decide +kernel
theorem dX12_crowd_157 : decode cX12_crowd 157 = .ok (.aload_n 0, 1) := by decide +kernel
theorem dX12_crowd_158 : decode cX12_crowd 158 = .ok (.getfield 79, 3) := by decide +kernel
theorem dX12_crowd_161 : decode cX12_crowd 161 = .ok (.iload_n 3, 1) := by decide +kernel
theorem dX12_crowd_162 : decode cX12_crowd 162 = .ok (.iload 4, 2) := by decide +kernel
theorem dX12_crowd_164 : decode cX12_crowd 164 = .ok (.iconst 4, 1) := by decide +kernel
theorem dX12_crowd_165 : decode cX12_crowd 165 = .ok (.idiv, 1) := by decide +kernel
theorem dX12_crowd_166 : decode cX12_crowd 166 = .ok (.iload_n 1, 1) := by decide +kernel
theorem dX12_crowd_167 : decode cX12_crowd 167 = .ok (.if_icmp .ne 7, 3) := by decide +kernel
theorem dX12_crowd_170 : decode cX12_crowd 170 = .ok (.iconst (-1), 1) := by decide +kernel
theorem dX12_crowd_171 : decode cX12_crowd 171 = .ok (.goto 5, 3) := by decide +kernel
theorem dX12_crowd_174 : decode cX12_crowd 174 = .ok (.iload 4, 2) := by decide +kernel
theorem dX12_crowd_176 : decode cX12_crowd 176 = .ok (.iastore, 1) := by decide +kernel
theorem dX12_crowd_177 : decode cX12_crowd 177 = .ok (.iinc 3 1, 3) := by decide +kernel
theorem dX12_crowd_180 : decode cX12_crowd 180 = .ok (.goto (-109), 3) := by decide +kernel
theorem dX12_crowd_183 : decode cX12_crowd 183 = .ok (.aload_n 0, 1) := by decide +kernel
theorem dX12_crowd_184 : decode cX12_crowd 184 = .ok (.iload_n 1, 1) := by decide +kernel
theorem dX12_crowd_185 : decode cX12_crowd 185 = .ok (.invokevirtual 365, 3) := by decide +kernel
theorem dX12_crowd_188 : decode cX12_crowd 188 = .ok (.ifCond .eq 7, 3) := by decide +kernel
theorem dX12_crowd_191 : decode cX12_crowd 191 = .ok (.iload_n 2, 1) := by decide +kernel
theorem dX12_crowd_192 : decode cX12_crowd 192 = .ok (.iconst 1, 1) := by decide +kernel
theorem dX12_crowd_193 : decode cX12_crowd 193 = .ok (.iadd, 1) := by decide +kernel
theorem dX12_crowd_194 : decode cX12_crowd 194 = .ok (.ireturn, 1) := by decide +kernel
theorem dX12_crowd_195 : decode cX12_crowd 195 = .ok (.iinc 2 1, 3) := by decide +kernel
theorem dX12_crowd_198 : decode cX12_crowd 198 = .ok (.goto (-136), 3) := by decide +kernel
theorem dX12_crowd_201 : decode cX12_crowd 201 = .ok (.iconst (-1), 1) := by decide +kernel
theorem dX12_crowd_202 : decode cX12_crowd 202 = .ok (.ireturn, 1) := by decide +kernel
theorem dX12_stateAt_0 : decode cX12_stateAt 0 = .ok (.sipush 10000, 3) := by decide +kernel
theorem dX12_stateAt_3 : decode cX12_stateAt 3 = .ok (.iload_n 0, 1) := by decide +kernel
theorem dX12_stateAt_4 : decode cX12_stateAt 4 = .ok (.imul, 1) := by decide +kernel
theorem dX12_stateAt_5 : decode cX12_stateAt 5 = .ok (.bipush 100, 2) := by decide +kernel
theorem dX12_stateAt_7 : decode cX12_stateAt 7 = .ok (.iload_n 1, 1) := by decide +kernel
theorem dX12_stateAt_8 : decode cX12_stateAt 8 = .ok (.imul, 1) := by decide +kernel
theorem dX12_stateAt_9 : decode cX12_stateAt 9 = .ok (.iadd, 1) := by decide +kernel
theorem dX12_stateAt_10 : decode cX12_stateAt 10 = .ok (.iload_n 2, 1) := by decide +kernel
theorem dX12_stateAt_11 : decode cX12_stateAt 11 = .ok (.iadd, 1) := by decide +kernel
theorem dX12_stateAt_12 : decode cX12_stateAt 12 = .ok (.ireturn, 1) := by decide +kernel
theorem dX12_turnsBehind_0 : decode cX12_turnsBehind 0 = .ok (.iload_n 1, 1) := by decide +kernel
theorem dX12_turnsBehind_1 : decode cX12_turnsBehind 1 = .ok (.ifCond .ne 25, 3) := by decide +kernel
theorem dX12_turnsBehind_4 : decode cX12_turnsBehind 4 = .ok (.aload_n 0, 1) := by decide +kernel
theorem dX12_turnsBehind_5 : decode cX12_turnsBehind 5 = .ok (.getfield 82, 3) := by decide +kernel
theorem dX12_turnsBehind_8 : decode cX12_turnsBehind 8 = .ok (.iconst 1, 1) := by decide +kernel
theorem dX12_turnsBehind_9 : decode cX12_turnsBehind 9 = .ok (.aload_n 0, 1) := by decide +kernel
theorem dX12_turnsBehind_10 : decode cX12_turnsBehind 10 = .ok (.iload_n 2, 1) := by decide +kernel
theorem dX12_turnsBehind_11 : decode cX12_turnsBehind 11 = .ok (.iload_n 3, 1) := by decide +kernel
theorem dX12_turnsBehind_12 : decode cX12_turnsBehind 12 = .ok (.iload 5, 2) := by decide +kernel
theorem dX12_turnsBehind_14 : decode cX12_turnsBehind 14 = .ok (.invokevirtual 319, 3) := by decide +kernel
theorem dX12_turnsBehind_17 : decode cX12_turnsBehind 17 = .ok (.iload 4, 2) := by decide +kernel
theorem dX12_turnsBehind_19 : decode cX12_turnsBehind 19 = .ok (.invokestatic 371, 3) := by decide +kernel
theorem dX12_turnsBehind_22 : decode cX12_turnsBehind 22 = .ok (.iaload, 1) := by decide +kernel
theorem dX12_turnsBehind_23 : decode cX12_turnsBehind 23 = .ok (.goto 22, 3) := by decide +kernel
theorem dX12_turnsBehind_26 : decode cX12_turnsBehind 26 = .ok (.aload_n 0, 1) := by decide +kernel
theorem dX12_turnsBehind_27 : decode cX12_turnsBehind 27 = .ok (.getfield 82, 3) := by decide +kernel
theorem dX12_turnsBehind_30 : decode cX12_turnsBehind 30 = .ok (.iconst 0, 1) := by decide +kernel
theorem dX12_turnsBehind_31 : decode cX12_turnsBehind 31 = .ok (.iload_n 3, 1) := by decide +kernel
theorem dX12_turnsBehind_32 : decode cX12_turnsBehind 32 = .ok (.aload_n 0, 1) := by decide +kernel
theorem dX12_turnsBehind_33 : decode cX12_turnsBehind 33 = .ok (.iload_n 2, 1) := by decide +kernel
theorem dX12_turnsBehind_34 : decode cX12_turnsBehind 34 = .ok (.iload 4, 2) := by decide +kernel
theorem dX12_turnsBehind_36 : decode cX12_turnsBehind 36 = .ok (.iload 5, 2) := by decide +kernel
theorem dX12_turnsBehind_38 : decode cX12_turnsBehind 38 = .ok (.invokevirtual 319, 3) := by decide +kernel
theorem dX12_turnsBehind_41 : decode cX12_turnsBehind 41 = .ok (.invokestatic 371, 3) := by decide +kernel
theorem dX12_turnsBehind_44 : decode cX12_turnsBehind 44 = .ok (.iaload, 1) := by decide +kernel
theorem dX12_turnsBehind_45 : decode cX12_turnsBehind 45 = .ok (.ireturn, 1) := by decide +kernel
theorem dX12_isSettled_0 : decode cX12_isSettled 0 = .ok (.iconst 0, 1) := by decide +kernel
theorem dX12_isSettled_1 : decode cX12_isSettled 1 = .ok (.istore 6, 2) := by decide +kernel
theorem dX12_isSettled_3 : decode cX12_isSettled 3 = .ok (.iconst 1, 1) := by decide +kernel
theorem dX12_isSettled_4 : decode cX12_isSettled 4 = .ok (.istore 7, 2) := by decide +kernel
theorem dX12_isSettled_6 : decode cX12_isSettled 6 = .ok (.iconst 0, 1) := by decide +kernel
theorem dX12_isSettled_7 : decode cX12_isSettled 7 = .ok (.istore 8, 2) := by decide +kernel
theorem dX12_isSettled_9 : decode cX12_isSettled 9 = .ok (.iload 8, 2) := by decide +kernel
theorem dX12_isSettled_11 : decode cX12_isSettled 11 = .ok (.iconst 4, 1) := by decide +kernel
theorem dX12_isSettled_12 : decode cX12_isSettled 12 = .ok (.if_icmp .ge 75, 3) := by decide +kernel
theorem dX12_isSettled_15 : decode cX12_isSettled 15 = .ok (.aload_n 0, 1) := by decide +kernel
theorem dX12_isSettled_16 : decode cX12_isSettled 16 = .ok (.iload_n 1, 1) := by decide +kernel
theorem dX12_isSettled_17 : decode cX12_isSettled 17 = .ok (.iload_n 2, 1) := by decide +kernel
theorem dX12_isSettled_18 : decode cX12_isSettled 18 = .ok (.iload_n 3, 1) := by decide +kernel
theorem dX12_isSettled_19 : decode cX12_isSettled 19 = .ok (.iload 4, 2) := by decide +kernel
theorem dX12_isSettled_21 : decode cX12_isSettled 21 = .ok (.iload 8, 2) := by decide +kernel
theorem dX12_isSettled_23 : decode cX12_isSettled 23 = .ok (.invokevirtual 374, 3) := by decide +kernel
theorem dX12_isSettled_26 : decode cX12_isSettled 26 = .ok (.istore 9, 2) := by decide +kernel
theorem dX12_isSettled_28 : decode cX12_isSettled 28 = .ok (.iload 9, 2) := by decide +kernel
theorem dX12_isSettled_30 : decode cX12_isSettled 30 = .ok (.ifCond .lt 14, 3) := by decide +kernel
theorem dX12_isSettled_33 : decode cX12_isSettled 33 = .ok (.iload 9, 2) := by decide +kernel
theorem dX12_isSettled_35 : decode cX12_isSettled 35 = .ok (.iload 5, 2) := by decide +kernel
theorem dX12_isSettled_37 : decode cX12_isSettled 37 = .ok (.if_icmp .ge 7, 3) := by decide +kernel
theorem dX12_isSettled_40 : decode cX12_isSettled 40 = .ok (.iconst 1, 1) := by decide +kernel
theorem dX12_isSettled_41 : decode cX12_isSettled 41 = .ok (.goto 4, 3) := by decide +kernel
theorem dX12_isSettled_44 : decode cX12_isSettled 44 = .ok (.iconst 0, 1) := by decide +kernel
theorem dX12_isSettled_45 : decode cX12_isSettled 45 = .ok (.istore 10, 2) := by decide +kernel
theorem dX12_isSettled_47 : decode cX12_isSettled 47 = .ok (.iload 6, 2) := by decide +kernel
theorem dX12_isSettled_49 : decode cX12_isSettled 49 = .ok (.ifCond .ne 8, 3) := by decide +kernel
theorem dX12_isSettled_52 : decode cX12_isSettled 52 = .ok (.iload 10, 2) := by decide +kernel
theorem dX12_isSettled_54 : decode cX12_isSettled 54 = .ok (.ifCond .eq 7, 3) := by decide +kernel
theorem dX12_isSettled_57 : decode cX12_isSettled 57 = .ok (.iconst 1, 1) := by decide +kernel
theorem dX12_isSettled_58 : decode cX12_isSettled 58 = .ok (.goto 4, 3) := by decide +kernel
theorem dX12_isSettled_61 : decode cX12_isSettled 61 = .ok (.iconst 0, 1) := by decide +kernel
theorem dX12_isSettled_62 : decode cX12_isSettled 62 = .ok (.istore 6, 2) := by decide +kernel
theorem dX12_isSettled_64 : decode cX12_isSettled 64 = .ok (.iload 7, 2) := by decide +kernel
theorem dX12_isSettled_66 : decode cX12_isSettled 66 = .ok (.ifCond .eq 12, 3) := by decide +kernel
theorem dX12_isSettled_69 : decode cX12_isSettled 69 = .ok (.iload 10, 2) := by decide +kernel
theorem dX12_isSettled_71 : decode cX12_isSettled 71 = .ok (.ifCond .eq 7, 3) := by decide +kernel
theorem dX12_isSettled_74 : decode cX12_isSettled 74 = .ok (.iconst 1, 1) := by decide +kernel
theorem dX12_isSettled_75 : decode cX12_isSettled 75 = .ok (.goto 4, 3) := by decide +kernel
theorem dX12_isSettled_78 : decode cX12_isSettled 78 = .ok (.iconst 0, 1) := by decide +kernel
theorem dX12_isSettled_79 : decode cX12_isSettled 79 = .ok (.istore 7, 2) := by decide +kernel
theorem dX12_isSettled_81 : decode cX12_isSettled 81 = .ok (.iinc 8 1, 3) := by decide +kernel
theorem dX12_isSettled_84 : decode cX12_isSettled 84 = .ok (.goto (-75), 3) := by decide +kernel
theorem dX12_isSettled_87 : decode cX12_isSettled 87 = .ok (.iload_n 1, 1) := by decide +kernel
theorem dX12_isSettled_88 : decode cX12_isSettled 88 = .ok (.ifCond .ne 8, 3) := by decide +kernel
theorem dX12_isSettled_91 : decode cX12_isSettled 91 = .ok (.iload 6, 2) := by decide +kernel
theorem dX12_isSettled_93 : decode cX12_isSettled 93 = .ok (.goto 5, 3) := by decide +kernel
theorem dX12_isSettled_96 : decode cX12_isSettled 96 = .ok (.iload 7, 2) := by decide +kernel
theorem dX12_isSettled_98 : decode cX12_isSettled 98 = .ok (.ireturn, 1) := by decide +kernel
theorem dX12_settle__0 : decode cX12_settle_ 0 = .ok (.aload_n 0, 1) := by decide +kernel
theorem dX12_settle__1 : decode cX12_settle_ 1 = .ok (.iload_n 1, 1) := by decide +kernel
theorem dX12_settle__2 : decode cX12_settle_ 2 = .ok (.invokevirtual 322, 3) := by decide +kernel
theorem dX12_settle__5 : decode cX12_settle_ 5 = .ok (.aload_n 0, 1) := by decide +kernel
theorem dX12_settle__6 : decode cX12_settle_ 6 = .ok (.iload_n 2, 1) := by decide +kernel
theorem dX12_settle__7 : decode cX12_settle_ 7 = .ok (.invokevirtual 322, 3) := by decide +kernel
theorem dX12_settle__10 : decode cX12_settle_ 10 = .ok (.iconst 4, 1) := by decide +kernel
theorem dX12_settle__11 : decode cX12_settle_ 11 = .ok (.aload_n 0, 1) := by decide +kernel
theorem dX12_settle__12 : decode cX12_settle_ 12 = .ok (.getfield 85, 3) := by decide +kernel
theorem dX12_settle__15 : decode cX12_settle_ 15 = .ok (.imul, 1) := by decide +kernel
theorem dX12_settle__16 : decode cX12_settle_ 16 = .ok (.aload_n 0, 1) := by decide +kernel
theorem dX12_settle__17 : decode cX12_settle_ 17 = .ok (.getfield 88, 3) := by decide +kernel
theorem dX12_settle__20 : decode cX12_settle_ 20 = .ok (.imul, 1) := by decide +kernel
theorem dX12_settle__21 : decode cX12_settle_ 21 = .ok (.istore_n 3, 1) := by decide +kernel
theorem dX12_settle__22 : decode cX12_settle_ 22 = .ok (.iconst 0, 1) := by decide +kernel
theorem dX12_settle__23 : decode cX12_settle_ 23 = .ok (.istore 4, 2) := by decide +kernel
theorem dX12_settle__25 : decode cX12_settle_ 25 = .ok (.iload 4, 2) := by decide +kernel
theorem dX12_settle__27 : decode cX12_settle_ 27 = .ok (.sipush 20000, 3) := by decide +kernel
theorem dX12_settle__30 : decode cX12_settle_ 30 = .ok (.if_icmp .ge 42, 3) := by decide +kernel
theorem dX12_settle__33 : decode cX12_settle_ 33 = .ok (.aload_n 0, 1) := by decide +kernel
theorem dX12_settle__34 : decode cX12_settle_ 34 = .ok (.getfield 82, 3) := by decide +kernel
theorem dX12_settle__37 : decode cX12_settle_ 37 = .ok (.iload 4, 2) := by decide +kernel
theorem dX12_settle__39 : decode cX12_settle_ 39 = .ok (.iload 4, 2) := by decide +kernel
theorem dX12_settle__41 : decode cX12_settle_ 41 = .ok (.sipush 10000, 3) := by decide +kernel
theorem dX12_settle__44 : decode cX12_settle_ 44 = .ok (.irem, 1) := by decide +kernel
theorem dX12_settle__45 : decode cX12_settle_ 45 = .ok (.bipush 100, 2) := by decide +kernel
theorem dX12_settle__47 : decode cX12_settle_ 47 = .ok (.idiv, 1) := by decide +kernel
theorem dX12_settle__48 : decode cX12_settle_ 48 = .ok (.iconst 4, 1) := by decide +kernel
theorem dX12_settle__49 : decode cX12_settle_ 49 = .ok (.idiv, 1) := by decide +kernel
theorem dX12_settle__50 : decode cX12_settle_ 50 = .ok (.iload 4, 2) := by decide +kernel
theorem dX12_settle__52 : decode cX12_settle_ 52 = .ok (.bipush 100, 2) := by decide +kernel
theorem dX12_settle__54 : decode cX12_settle_ 54 = .ok (.irem, 1) := by decide +kernel
theorem dX12_settle__55 : decode cX12_settle_ 55 = .ok (.iconst 4, 1) := by decide +kernel
theorem dX12_settle__56 : decode cX12_settle_ 56 = .ok (.idiv, 1) := by decide +kernel
theorem dX12_settle__57 : decode cX12_settle_ 57 = .ok (.if_icmp .ne 7, 3) := by decide +kernel
theorem dX12_settle__60 : decode cX12_settle_ 60 = .ok (.iconst 0, 1) := by decide +kernel
theorem dX12_settle__61 : decode cX12_settle_ 61 = .ok (.goto 4, 3) := by decide +kernel
theorem dX12_settle__64 : decode cX12_settle_ 64 = .ok (.iconst (-1), 1) := by decide +kernel
theorem dX12_settle__65 : decode cX12_settle_ 65 = .ok (.iastore, 1) := by decide +kernel
theorem dX12_settle__66 : decode cX12_settle_ 66 = .ok (.iinc 4 1, 3) := by decide +kernel
theorem dX12_settle__69 : decode cX12_settle_ 69 = .ok (.goto (-44), 3) := by decide +kernel
theorem dX12_settle__72 : decode cX12_settle_ 72 = .ok (.iconst 1, 1) := by decide +kernel
theorem dX12_settle__73 : decode cX12_settle_ 73 = .ok (.istore 4, 2) := by decide +kernel
theorem dX12_settle__75 : decode cX12_settle_ 75 = .ok (.iconst 1, 1) := by decide +kernel
theorem dX12_settle__76 : decode cX12_settle_ 76 = .ok (.istore 5, 2) := by decide +kernel
theorem dX12_settle__78 : decode cX12_settle_ 78 = .ok (.iload 4, 2) := by decide +kernel
theorem dX12_settle__80 : decode cX12_settle_ 80 = .ok (.ifCond .eq 139, 3) := by decide +kernel
theorem dX12_settle__83 : decode cX12_settle_ 83 = .ok (.iconst 0, 1) := by decide +kernel
theorem dX12_settle__84 : decode cX12_settle_ 84 = .ok (.istore 4, 2) := by decide +kernel
theorem dX12_settle__86 : decode cX12_settle_ 86 = .ok (.iconst 0, 1) := by decide +kernel
theorem dX12_settle__87 : decode cX12_settle_ 87 = .ok (.istore 6, 2) := by decide +kernel
theorem dX12_settle__89 : decode cX12_settle_ 89 = .ok (.iload 6, 2) := by decide +kernel
theorem dX12_settle__91 : decode cX12_settle_ 91 = .ok (.iload_n 3, 1) := by decide +kernel
theorem dX12_settle__92 : decode cX12_settle_ 92 = .ok (.if_icmp .ge 121, 3) := by decide +kernel
theorem dX12_settle__95 : decode cX12_settle_ 95 = .ok (.iconst 0, 1) := by decide +kernel
theorem dX12_settle__96 : decode cX12_settle_ 96 = .ok (.istore 7, 2) := by decide +kernel
theorem dX12_settle__98 : decode cX12_settle_ 98 = .ok (.iload 7, 2) := by decide +kernel
theorem dX12_settle__100 : decode cX12_settle_ 100 = .ok (.iload_n 3, 1) := by decide +kernel
theorem dX12_settle__101 : decode cX12_settle_ 101 = .ok (.if_icmp .ge 106, 3) := by decide +kernel
theorem dX12_settle__104 : decode cX12_settle_ 104 = .ok (.aload_n 0, 1) := by decide +kernel
theorem dX12_settle__105 : decode cX12_settle_ 105 = .ok (.iload 6, 2) := by decide +kernel
theorem dX12_settle__107 : decode cX12_settle_ 107 = .ok (.invokevirtual 110, 3) := by decide +kernel
theorem dX12_settle__110 : decode cX12_settle_ 110 = .ok (.ifCond .eq 91, 3) := by decide +kernel
theorem dX12_settle__113 : decode cX12_settle_ 113 = .ok (.aload_n 0, 1) := by decide +kernel
theorem dX12_settle__114 : decode cX12_settle_ 114 = .ok (.iload 7, 2) := by decide +kernel
theorem dX12_settle__116 : decode cX12_settle_ 116 = .ok (.invokevirtual 110, 3) := by decide +kernel
theorem dX12_settle__119 : decode cX12_settle_ 119 = .ok (.ifCond .ne 6, 3) := by decide +kernel
theorem dX12_settle__122 : decode cX12_settle_ 122 = .ok (.goto 79, 3) := by decide +kernel
theorem dX12_settle__125 : decode cX12_settle_ 125 = .ok (.iconst 0, 1) := by decide +kernel
theorem dX12_settle__126 : decode cX12_settle_ 126 = .ok (.istore 8, 2) := by decide +kernel
theorem dX12_settle__128 : decode cX12_settle_ 128 = .ok (.iload 8, 2) := by decide +kernel
theorem dX12_settle__130 : decode cX12_settle_ 130 = .ok (.iconst 2, 1) := by decide +kernel
theorem dX12_settle__131 : decode cX12_settle_ 131 = .ok (.if_icmp .ge 70, 3) := by decide +kernel
theorem dX12_settle__134 : decode cX12_settle_ 134 = .ok (.iload 8, 2) := by decide +kernel
theorem dX12_settle__136 : decode cX12_settle_ 136 = .ok (.iload 6, 2) := by decide +kernel
theorem dX12_settle__138 : decode cX12_settle_ 138 = .ok (.iload 7, 2) := by decide +kernel
theorem dX12_settle__140 : decode cX12_settle_ 140 = .ok (.invokestatic 371, 3) := by decide +kernel
theorem dX12_settle__143 : decode cX12_settle_ 143 = .ok (.istore 9, 2) := by decide +kernel
theorem dX12_settle__145 : decode cX12_settle_ 145 = .ok (.aload_n 0, 1) := by decide +kernel
theorem dX12_settle__146 : decode cX12_settle_ 146 = .ok (.getfield 82, 3) := by decide +kernel
theorem dX12_settle__149 : decode cX12_settle_ 149 = .ok (.iload 9, 2) := by decide +kernel
theorem dX12_settle__151 : decode cX12_settle_ 151 = .ok (.iaload, 1) := by decide +kernel
theorem dX12_settle__152 : decode cX12_settle_ 152 = .ok (.ifCond .ge 43, 3) := by decide +kernel
theorem dX12_settle__155 : decode cX12_settle_ 155 = .ok (.aload_n 0, 1) := by decide +kernel
theorem dX12_settle__156 : decode cX12_settle_ 156 = .ok (.iload 8, 2) := by decide +kernel
theorem dX12_settle__158 : decode cX12_settle_ 158 = .ok (.iload 8, 2) := by decide +kernel
theorem dX12_settle__160 : decode cX12_settle_ 160 = .ok (.ifCond .ne 7, 3) := by decide +kernel
theorem dX12_settle__163 : decode cX12_settle_ 163 = .ok (.iload_n 1, 1) := by decide +kernel
theorem dX12_settle__164 : decode cX12_settle_ 164 = .ok (.goto 4, 3) := by decide +kernel
theorem dX12_settle__167 : decode cX12_settle_ 167 = .ok (.iload_n 2, 1) := by decide +kernel
theorem dX12_settle__168 : decode cX12_settle_ 168 = .ok (.iload 6, 2) := by decide +kernel
theorem dX12_settle__170 : decode cX12_settle_ 170 = .ok (.iload 7, 2) := by decide +kernel
theorem dX12_settle__172 : decode cX12_settle_ 172 = .ok (.iload 5, 2) := by decide +kernel
theorem dX12_settle__174 : decode cX12_settle_ 174 = .ok (.invokevirtual 378, 3) := by decide +kernel
theorem dX12_settle__177 : decode cX12_settle_ 177 = .ok (.ifCond .ne 6, 3) := by decide +kernel
theorem dX12_settle__180 : decode cX12_settle_ 180 = .ok (.goto 15, 3) := by decide +kernel
theorem dX12_settle__183 : decode cX12_settle_ 183 = .ok (.aload_n 0, 1) := by decide +kernel
theorem dX12_settle__184 : decode cX12_settle_ 184 = .ok (.getfield 82, 3) := by decide +kernel
theorem dX12_settle__187 : decode cX12_settle_ 187 = .ok (.iload 9, 2) := by decide +kernel
theorem dX12_settle__189 : decode cX12_settle_ 189 = .ok (.iload 5, 2) := by decide +kernel
theorem dX12_settle__191 : decode cX12_settle_ 191 = .ok (.iastore, 1) := by decide +kernel
theorem dX12_settle__192 : decode cX12_settle_ 192 = .ok (.iconst 1, 1) := by decide +kernel
theorem dX12_settle__193 : decode cX12_settle_ 193 = .ok (.istore 4, 2) := by decide +kernel
theorem dX12_settle__195 : decode cX12_settle_ 195 = .ok (.iinc 8 1, 3) := by decide +kernel
theorem dX12_settle__198 : decode cX12_settle_ 198 = .ok (.goto (-70), 3) := by decide +kernel
theorem dX12_settle__201 : decode cX12_settle_ 201 = .ok (.iinc 7 1, 3) := by decide +kernel
theorem dX12_settle__204 : decode cX12_settle_ 204 = .ok (.goto (-106), 3) := by decide +kernel
theorem dX12_settle__207 : decode cX12_settle_ 207 = .ok (.iinc 6 1, 3) := by decide +kernel
theorem dX12_settle__210 : decode cX12_settle_ 210 = .ok (.goto (-121), 3) := by decide +kernel
theorem dX12_settle__213 : decode cX12_settle_ 213 = .ok (.iinc 5 1, 3) := by decide +kernel
theorem dX12_settle__216 : decode cX12_settle_ 216 = .ok (.goto (-138), 3) := by decide +kernel
theorem dX12_settle__219 : decode cX12_settle_ 219 = .ok (.return_, 1) := by decide +kernel
theorem dX12_isChase_0 : decode cX12_isChase 0 = .ok (.aload_n 0, 1) := by decide +kernel
theorem dX12_isChase_1 : decode cX12_isChase 1 = .ok (.iload_n 1, 1) := by decide +kernel
theorem dX12_isChase_2 : decode cX12_isChase 2 = .ok (.invokevirtual 113, 3) := by decide +kernel
theorem dX12_isChase_5 : decode cX12_isChase 5 = .ok (.ifCond .eq 32, 3) := by decide +kernel
theorem dX12_isChase_8 : decode cX12_isChase 8 = .ok (.aload_n 0, 1) := by decide +kernel
theorem dX12_isChase_9 : decode cX12_isChase 9 = .ok (.iload_n 3, 1) := by decide +kernel
theorem dX12_isChase_10 : decode cX12_isChase 10 = .ok (.invokevirtual 113, 3) := by decide +kernel
theorem dX12_isChase_13 : decode cX12_isChase 13 = .ok (.ifCond .eq 24, 3) := by decide +kernel
theorem dX12_isChase_16 : decode cX12_isChase 16 = .ok (.aload_n 0, 1) := by decide +kernel
theorem dX12_isChase_17 : decode cX12_isChase 17 = .ok (.iload_n 2, 1) := by decide +kernel
theorem dX12_isChase_18 : decode cX12_isChase 18 = .ok (.invokevirtual 110, 3) := by decide +kernel
theorem dX12_isChase_21 : decode cX12_isChase 21 = .ok (.ifCond .eq 16, 3) := by decide +kernel
theorem dX12_isChase_24 : decode cX12_isChase 24 = .ok (.aload_n 0, 1) := by decide +kernel
theorem dX12_isChase_25 : decode cX12_isChase 25 = .ok (.iload 4, 2) := by decide +kernel
theorem dX12_isChase_27 : decode cX12_isChase 27 = .ok (.invokevirtual 110, 3) := by decide +kernel
theorem dX12_isChase_30 : decode cX12_isChase 30 = .ok (.ifCond .eq 7, 3) := by decide +kernel
theorem dX12_isChase_33 : decode cX12_isChase 33 = .ok (.iconst 1, 1) := by decide +kernel
theorem dX12_isChase_34 : decode cX12_isChase 34 = .ok (.goto 4, 3) := by decide +kernel
theorem dX12_isChase_37 : decode cX12_isChase 37 = .ok (.iconst 0, 1) := by decide +kernel
theorem dX12_isChase_38 : decode cX12_isChase 38 = .ok (.ireturn, 1) := by decide +kernel
theorem dX12_chase_0 : decode cX12_chase 0 = .ok (.aload_n 0, 1) := by decide +kernel
theorem dX12_chase_1 : decode cX12_chase 1 = .ok (.iload_n 1, 1) := by decide +kernel
theorem dX12_chase_2 : decode cX12_chase 2 = .ok (.iload_n 2, 1) := by decide +kernel
theorem dX12_chase_3 : decode cX12_chase 3 = .ok (.iload_n 3, 1) := by decide +kernel
theorem dX12_chase_4 : decode cX12_chase 4 = .ok (.iload 4, 2) := by decide +kernel
theorem dX12_chase_6 : decode cX12_chase 6 = .ok (.invokevirtual 381, 3) := by decide +kernel
theorem dX12_chase_9 : decode cX12_chase 9 = .ok (.ifCond .ne 5, 3) := by decide +kernel
theorem dX12_chase_12 : decode cX12_chase 12 = .ok (.iconst (-1), 1) := by decide +kernel
theorem dX12_chase_13 : decode cX12_chase 13 = .ok (.ireturn, 1) := by decide +kernel
theorem dX12_chase_14 : decode cX12_chase 14 = .ok (.aload_n 0, 1) := by decide +kernel
theorem dX12_chase_15 : decode cX12_chase 15 = .ok (.iload_n 1, 1) := by decide +kernel
theorem dX12_chase_16 : decode cX12_chase 16 = .ok (.iload_n 3, 1) := by decide +kernel
theorem dX12_chase_17 : decode cX12_chase 17 = .ok (.invokevirtual 385, 3) := by decide +kernel
theorem dX12_chase_20 : decode cX12_chase 20 = .ok (.aload_n 0, 1) := by decide +kernel
theorem dX12_chase_21 : decode cX12_chase 21 = .ok (.getfield 82, 3) := by decide +kernel
theorem dX12_chase_24 : decode cX12_chase 24 = .ok (.iconst 0, 1) := by decide +kernel
theorem dX12_chase_25 : decode cX12_chase 25 = .ok (.iload_n 2, 1) := by decide +kernel
theorem dX12_chase_26 : decode cX12_chase 26 = .ok (.iload 4, 2) := by decide +kernel
theorem dX12_chase_28 : decode cX12_chase 28 = .ok (.invokestatic 371, 3) := by decide +kernel
theorem dX12_chase_31 : decode cX12_chase 31 = .ok (.iaload, 1) := by decide +kernel
theorem dX12_chase_32 : decode cX12_chase 32 = .ok (.ireturn, 1) := by decide +kernel
theorem dX12_hunt_0 : decode cX12_hunt 0 = .ok (.aload_n 0, 1) := by decide +kernel
theorem dX12_hunt_1 : decode cX12_hunt 1 = .ok (.iload_n 1, 1) := by decide +kernel
theorem dX12_hunt_2 : decode cX12_hunt 2 = .ok (.iload_n 2, 1) := by decide +kernel
theorem dX12_hunt_3 : decode cX12_hunt 3 = .ok (.iload_n 3, 1) := by decide +kernel
theorem dX12_hunt_4 : decode cX12_hunt 4 = .ok (.iload 4, 2) := by decide +kernel
theorem dX12_hunt_6 : decode cX12_hunt 6 = .ok (.invokevirtual 381, 3) := by decide +kernel
theorem dX12_hunt_9 : decode cX12_hunt 9 = .ok (.ifCond .eq 13, 3) := by decide +kernel
theorem dX12_hunt_12 : decode cX12_hunt 12 = .ok (.iload_n 2, 1) := by decide +kernel
theorem dX12_hunt_13 : decode cX12_hunt 13 = .ok (.iconst 4, 1) := by decide +kernel
theorem dX12_hunt_14 : decode cX12_hunt 14 = .ok (.idiv, 1) := by decide +kernel
theorem dX12_hunt_15 : decode cX12_hunt 15 = .ok (.iload 4, 2) := by decide +kernel
theorem dX12_hunt_17 : decode cX12_hunt 17 = .ok (.iconst 4, 1) := by decide +kernel
theorem dX12_hunt_18 : decode cX12_hunt 18 = .ok (.idiv, 1) := by decide +kernel
theorem dX12_hunt_19 : decode cX12_hunt 19 = .ok (.if_icmp .ne 5, 3) := by decide +kernel
theorem dX12_hunt_22 : decode cX12_hunt 22 = .ok (.iconst (-1), 1) := by decide +kernel
theorem dX12_hunt_23 : decode cX12_hunt 23 = .ok (.ireturn, 1) := by decide +kernel
theorem dX12_hunt_24 : decode cX12_hunt 24 = .ok (.aload_n 0, 1) := by decide +kernel
theorem dX12_hunt_25 : decode cX12_hunt 25 = .ok (.iload_n 1, 1) := by decide +kernel
theorem dX12_hunt_26 : decode cX12_hunt 26 = .ok (.iload_n 3, 1) := by decide +kernel
theorem dX12_hunt_27 : decode cX12_hunt 27 = .ok (.invokevirtual 385, 3) := by decide +kernel
theorem dX12_hunt_30 : decode cX12_hunt 30 = .ok (.iconst (-1), 1) := by decide +kernel
theorem dX12_hunt_31 : decode cX12_hunt 31 = .ok (.istore 5, 2) := by decide +kernel
theorem dX12_hunt_33 : decode cX12_hunt 33 = .ok (.iconst 0, 1) := by decide +kernel
theorem dX12_hunt_34 : decode cX12_hunt 34 = .ok (.istore 6, 2) := by decide +kernel
theorem dX12_hunt_36 : decode cX12_hunt 36 = .ok (.iload 6, 2) := by decide +kernel
theorem dX12_hunt_38 : decode cX12_hunt 38 = .ok (.iconst 4, 1) := by decide +kernel
theorem dX12_hunt_39 : decode cX12_hunt 39 = .ok (.if_icmp .ge 52, 3) := by decide +kernel
theorem dX12_hunt_42 : decode cX12_hunt 42 = .ok (.aload_n 0, 1) := by decide +kernel
theorem dX12_hunt_43 : decode cX12_hunt 43 = .ok (.iconst 0, 1) := by decide +kernel
theorem dX12_hunt_44 : decode cX12_hunt 44 = .ok (.iload_n 1, 1) := by decide +kernel
theorem dX12_hunt_45 : decode cX12_hunt 45 = .ok (.iload_n 2, 1) := by decide +kernel
theorem dX12_hunt_46 : decode cX12_hunt 46 = .ok (.iload 4, 2) := by decide +kernel
theorem dX12_hunt_48 : decode cX12_hunt 48 = .ok (.iload 6, 2) := by decide +kernel
theorem dX12_hunt_50 : decode cX12_hunt 50 = .ok (.invokevirtual 374, 3) := by decide +kernel
theorem dX12_hunt_53 : decode cX12_hunt 53 = .ok (.istore 7, 2) := by decide +kernel
theorem dX12_hunt_55 : decode cX12_hunt 55 = .ok (.iload 7, 2) := by decide +kernel
theorem dX12_hunt_57 : decode cX12_hunt 57 = .ok (.ifCond .lt 28, 3) := by decide +kernel
theorem dX12_hunt_60 : decode cX12_hunt 60 = .ok (.iload 5, 2) := by decide +kernel
theorem dX12_hunt_62 : decode cX12_hunt 62 = .ok (.ifCond .lt 19, 3) := by decide +kernel
theorem dX12_hunt_65 : decode cX12_hunt 65 = .ok (.iload 7, 2) := by decide +kernel
theorem dX12_hunt_67 : decode cX12_hunt 67 = .ok (.aload_n 0, 1) := by decide +kernel
theorem dX12_hunt_68 : decode cX12_hunt 68 = .ok (.iconst 0, 1) := by decide +kernel
theorem dX12_hunt_69 : decode cX12_hunt 69 = .ok (.iload_n 1, 1) := by decide +kernel
theorem dX12_hunt_70 : decode cX12_hunt 70 = .ok (.iload_n 2, 1) := by decide +kernel
theorem dX12_hunt_71 : decode cX12_hunt 71 = .ok (.iload 4, 2) := by decide +kernel
theorem dX12_hunt_73 : decode cX12_hunt 73 = .ok (.iload 5, 2) := by decide +kernel
theorem dX12_hunt_75 : decode cX12_hunt 75 = .ok (.invokevirtual 374, 3) := by decide +kernel
theorem dX12_hunt_78 : decode cX12_hunt 78 = .ok (.if_icmp .ge 7, 3) := by decide +kernel
theorem dX12_hunt_81 : decode cX12_hunt 81 = .ok (.iload 6, 2) := by decide +kernel
theorem dX12_hunt_83 : decode cX12_hunt 83 = .ok (.istore 5, 2) := by decide +kernel
theorem dX12_hunt_85 : decode cX12_hunt 85 = .ok (.iinc 6 1, 3) := by decide +kernel
theorem dX12_hunt_88 : decode cX12_hunt 88 = .ok (.goto (-52), 3) := by decide +kernel
theorem dX12_hunt_91 : decode cX12_hunt 91 = .ok (.iload 5, 2) := by decide +kernel
theorem dX12_hunt_93 : decode cX12_hunt 93 = .ok (.ireturn, 1) := by decide +kernel
theorem dX12_image_0 : decode cX12_image 0 = .ok (.aload_n 0, 1) := by decide +kernel
theorem dX12_image_1 : decode cX12_image 1 = .ok (.getfield 7, 3) := by decide +kernel
theorem dX12_image_4 : decode cX12_image 4 = .ok (.aload_n 0, 1) := by decide +kernel
theorem dX12_image_5 : decode cX12_image 5 = .ok (.getfield 13, 3) := by decide +kernel
theorem dX12_image_8 : decode cX12_image 8 = .ok (.invokestatic 91, 3) := by decide +kernel
theorem dX12_image_11 : decode cX12_image 11 = .ok (.aload_n 0, 1) := by decide +kernel
theorem dX12_image_12 : decode cX12_image 12 = .ok (.getfield 7, 3) := by decide +kernel
theorem dX12_image_15 : decode cX12_image 15 = .ok (.iconst 0, 1) := by decide +kernel
theorem dX12_image_16 : decode cX12_image 16 = .ok (.iaload, 1) := by decide +kernel
theorem dX12_image_17 : decode cX12_image 17 = .ok (.ireturn, 1) := by decide +kernel
theorem dX12_back_0 : decode cX12_back 0 = .ok (.aload_n 0, 1) := by decide +kernel
theorem dX12_back_1 : decode cX12_back 1 = .ok (.getfield 13, 3) := by decide +kernel
theorem dX12_back_4 : decode cX12_back 4 = .ok (.aload_n 0, 1) := by decide +kernel
theorem dX12_back_5 : decode cX12_back 5 = .ok (.getfield 7, 3) := by decide +kernel
theorem dX12_back_8 : decode cX12_back 8 = .ok (.invokestatic 91, 3) := by decide +kernel
theorem dX12_back_11 : decode cX12_back 11 = .ok (.aload_n 0, 1) := by decide +kernel
theorem dX12_back_12 : decode cX12_back 12 = .ok (.getfield 7, 3) := by decide +kernel
theorem dX12_back_15 : decode cX12_back 15 = .ok (.iconst 0, 1) := by decide +kernel
theorem dX12_back_16 : decode cX12_back 16 = .ok (.iaload, 1) := by decide +kernel
theorem dX12_back_17 : decode cX12_back 17 = .ok (.ireturn, 1) := by decide +kernel
theorem dX12_about_0 : decode cX12_about 0 = .ok (.iload_n 1, 1) := by decide +kernel
theorem dX12_about_1 : decode cX12_about 1 = .ok (.bipush 10, 2) := by decide +kernel
theorem dX12_about_3 : decode cX12_about 3 = .ok (.bipush 9, 2) := by decide +kernel
theorem dX12_about_5 : decode cX12_about 5 = .ok (.aload_n 0, 1) := by decide +kernel
theorem dX12_about_6 : decode cX12_about 6 = .ok (.getfield 85, 3) := by decide +kernel
theorem dX12_about_9 : decode cX12_about 9 = .ok (.aload_n 0, 1) := by decide +kernel
theorem dX12_about_10 : decode cX12_about 10 = .ok (.getfield 88, 3) := by decide +kernel
theorem dX12_about_13 : decode cX12_about 13 = .ok (.imul, 1) := by decide +kernel
theorem dX12_about_14 : decode cX12_about 14 = .ok (.iadd, 1) := by decide +kernel
theorem dX12_about_15 : decode cX12_about 15 = .ok (.invokestatic 95, 3) := by decide +kernel
theorem dX12_about_18 : decode cX12_about 18 = .ok (.ifCond .eq 16, 3) := by decide +kernel
theorem dX12_about_21 : decode cX12_about 21 = .ok (.aload_n 0, 1) := by decide +kernel
theorem dX12_about_22 : decode cX12_about 22 = .ok (.getfield 7, 3) := by decide +kernel
theorem dX12_about_25 : decode cX12_about 25 = .ok (.bipush 10, 2) := by decide +kernel
theorem dX12_about_27 : decode cX12_about 27 = .ok (.iload_n 1, 1) := by decide +kernel
theorem dX12_about_28 : decode cX12_about 28 = .ok (.iadd, 1) := by decide +kernel
theorem dX12_about_29 : decode cX12_about 29 = .ok (.bipush 10, 2) := by decide +kernel
theorem dX12_about_31 : decode cX12_about 31 = .ok (.isub, 1) := by decide +kernel
theorem dX12_about_32 : decode cX12_about 32 = .ok (.iaload, 1) := by decide +kernel
theorem dX12_about_33 : decode cX12_about 33 = .ok (.ireturn, 1) := by decide +kernel
theorem dX12_about_34 : decode cX12_about 34 = .ok (.iload_n 1, 1) := by decide +kernel
theorem dX12_about_35 : decode cX12_about 35 = .ok (.tableswitch 118 0 9 #[53, 58, 63, 70, 77, 84, 91, 98, 105, 113], 53) := by decide +kernel
theorem dX12_about_88 : decode cX12_about 88 = .ok (.aload_n 0, 1) := by decide +kernel
theorem dX12_about_89 : decode cX12_about 89 = .ok (.getfield 85, 3) := by decide +kernel
theorem dX12_about_92 : decode cX12_about 92 = .ok (.ireturn, 1) := by decide +kernel
theorem dX12_about_93 : decode cX12_about 93 = .ok (.aload_n 0, 1) := by decide +kernel
theorem dX12_about_94 : decode cX12_about 94 = .ok (.getfield 88, 3) := by decide +kernel
theorem dX12_about_97 : decode cX12_about 97 = .ok (.ireturn, 1) := by decide +kernel
theorem dX12_about_98 : decode cX12_about 98 = .ok (.aload_n 0, 1) := by decide +kernel
theorem dX12_about_99 : decode cX12_about 99 = .ok (.getfield 7, 3) := by decide +kernel
theorem dX12_about_102 : decode cX12_about 102 = .ok (.iconst 0, 1) := by decide +kernel
theorem dX12_about_103 : decode cX12_about 103 = .ok (.iaload, 1) := by decide +kernel
theorem dX12_about_104 : decode cX12_about 104 = .ok (.ireturn, 1) := by decide +kernel
theorem dX12_about_105 : decode cX12_about 105 = .ok (.aload_n 0, 1) := by decide +kernel
theorem dX12_about_106 : decode cX12_about 106 = .ok (.getfield 7, 3) := by decide +kernel
theorem dX12_about_109 : decode cX12_about 109 = .ok (.iconst 1, 1) := by decide +kernel
theorem dX12_about_110 : decode cX12_about 110 = .ok (.iaload, 1) := by decide +kernel
theorem dX12_about_111 : decode cX12_about 111 = .ok (.ireturn, 1) := by decide +kernel
theorem dX12_about_112 : decode cX12_about 112 = .ok (.aload_n 0, 1) := by decide +kernel
theorem dX12_about_113 : decode cX12_about 113 = .ok (.getfield 7, 3) := by decide +kernel
theorem dX12_about_116 : decode cX12_about 116 = .ok (.iconst 2, 1) := by decide +kernel
theorem dX12_about_117 : decode cX12_about 117 = .ok (.iaload, 1) := by decide +kernel
theorem dX12_about_118 : decode cX12_about 118 = .ok (.ireturn, 1) := by decide +kernel
theorem dX12_about_119 : decode cX12_about 119 = .ok (.aload_n 0, 1) := by decide +kernel
theorem dX12_about_120 : decode cX12_about 120 = .ok (.getfield 7, 3) := by decide +kernel
theorem dX12_about_123 : decode cX12_about 123 = .ok (.iconst 3, 1) := by decide +kernel
theorem dX12_about_124 : decode cX12_about 124 = .ok (.iaload, 1) := by decide +kernel
theorem dX12_about_125 : decode cX12_about 125 = .ok (.ireturn, 1) := by decide +kernel
theorem dX12_about_126 : decode cX12_about 126 = .ok (.aload_n 0, 1) := by decide +kernel
theorem dX12_about_127 : decode cX12_about 127 = .ok (.getfield 7, 3) := by decide +kernel
theorem dX12_about_130 : decode cX12_about 130 = .ok (.iconst 4, 1) := by decide +kernel
theorem dX12_about_131 : decode cX12_about 131 = .ok (.iaload, 1) := by decide +kernel
theorem dX12_about_132 : decode cX12_about 132 = .ok (.ireturn, 1) := by decide +kernel
theorem dX12_about_133 : decode cX12_about 133 = .ok (.aload_n 0, 1) := by decide +kernel
theorem dX12_about_134 : decode cX12_about 134 = .ok (.getfield 7, 3) := by decide +kernel
theorem dX12_about_137 : decode cX12_about 137 = .ok (.iconst 5, 1) := by decide +kernel
theorem dX12_about_138 : decode cX12_about 138 = .ok (.iaload, 1) := by decide +kernel
theorem dX12_about_139 : decode cX12_about 139 = .ok (.ireturn, 1) := by decide +kernel
theorem dX12_about_140 : decode cX12_about 140 = .ok (.aload_n 0, 1) := by decide +kernel
theorem dX12_about_141 : decode cX12_about 141 = .ok (.getfield 7, 3) := by decide +kernel
theorem dX12_about_144 : decode cX12_about 144 = .ok (.bipush 6, 2) := by decide +kernel
theorem dX12_about_146 : decode cX12_about 146 = .ok (.iaload, 1) := by decide +kernel
theorem dX12_about_147 : decode cX12_about 147 = .ok (.ireturn, 1) := by decide +kernel
theorem dX12_about_148 : decode cX12_about 148 = .ok (.aload_n 0, 1) := by decide +kernel
theorem dX12_about_149 : decode cX12_about 149 = .ok (.getfield 116, 3) := by decide +kernel
theorem dX12_about_152 : decode cX12_about 152 = .ok (.ireturn, 1) := by decide +kernel
theorem dX12_about_153 : decode cX12_about 153 = .ok (.bipush (-2), 2) := by decide +kernel
theorem dX12_about_155 : decode cX12_about 155 = .ok (.ireturn, 1) := by decide +kernel
theorem dJ0_length_8abf5_0 : decode cJ0_length_8abf5 0 = .ok (.aload_n 0, 1) := by decide +kernel
theorem dJ0_length_8abf5_1 : decode cJ0_length_8abf5 1 = .ok (.getfield 9, 3) := by decide +kernel
theorem dJ0_length_8abf5_4 : decode cJ0_length_8abf5 4 = .ok (.arraylength, 1) := by decide +kernel
theorem dJ0_length_8abf5_5 : decode cJ0_length_8abf5 5 = .ok (.aload_n 0, 1) := by decide +kernel
theorem dJ0_length_8abf5_6 : decode cJ0_length_8abf5 6 = .ok (.invokevirtual 335, 3) := by decide +kernel
theorem dJ0_length_8abf5_9 : decode cJ0_length_8abf5 9 = .ok (.ishr, 1) := by decide +kernel
theorem dJ0_length_8abf5_10 : decode cJ0_length_8abf5 10 = .ok (.ireturn, 1) := by decide +kernel
theorem dJ0_charAt_5068e_0 : decode cJ0_charAt_5068e 0 = .ok (.aload_n 0, 1) := by decide +kernel
theorem dJ0_charAt_5068e_1 : decode cJ0_charAt_5068e 1 = .ok (.invokevirtual 492, 3) := by decide +kernel
theorem dJ0_charAt_5068e_4 : decode cJ0_charAt_5068e 4 = .ok (.ifCond .eq 12, 3) := by decide +kernel
theorem dJ0_charAt_5068e_7 : decode cJ0_charAt_5068e 7 = .ok (.aload_n 0, 1) := by decide +kernel
theorem dJ0_charAt_5068e_8 : decode cJ0_charAt_5068e 8 = .ok (.getfield 9, 3) := by decide +kernel
theorem dJ0_charAt_5068e_11 : decode cJ0_charAt_5068e 11 = .ok (.iload_n 1, 1) := by decide +kernel
theorem dJ0_charAt_5068e_12 : decode cJ0_charAt_5068e 12 = .ok (.invokestatic 495, 3) := by decide +kernel
theorem dJ0_charAt_5068e_15 : decode cJ0_charAt_5068e 15 = .ok (.ireturn, 1) := by decide +kernel
theorem dJ0_charAt_5068e_16 : decode cJ0_charAt_5068e 16 = .ok (.aload_n 0, 1) := by decide +kernel
theorem dJ0_charAt_5068e_17 : decode cJ0_charAt_5068e 17 = .ok (.getfield 9, 3) := by decide +kernel
theorem dJ0_charAt_5068e_20 : decode cJ0_charAt_5068e 20 = .ok (.iload_n 1, 1) := by decide +kernel
theorem dJ0_charAt_5068e_21 : decode cJ0_charAt_5068e 21 = .ok (.invokestatic 498, 3) := by decide +kernel
theorem dJ0_charAt_5068e_24 : decode cJ0_charAt_5068e 24 = .ok (.ireturn, 1) := by decide +kernel
theorem dJ0_coder_7d493_0 : decode cJ0_coder_7d493 0 = .ok (.getstatic 38, 3) := by decide +kernel
theorem dJ0_coder_7d493_3 : decode cJ0_coder_7d493 3 = .ok (.ifCond .eq 10, 3) := by decide +kernel
theorem dJ0_coder_7d493_6 : decode cJ0_coder_7d493 6 = .ok (.aload_n 0, 1) := by decide +kernel
theorem dJ0_coder_7d493_7 : decode cJ0_coder_7d493 7 = .ok (.getfield 15, 3) := by decide +kernel
theorem dJ0_coder_7d493_10 : decode cJ0_coder_7d493 10 = .ok (.goto 4, 3) := by decide +kernel
theorem dJ0_coder_7d493_13 : decode cJ0_coder_7d493 13 = .ok (.iconst 1, 1) := by decide +kernel
theorem dJ0_coder_7d493_14 : decode cJ0_coder_7d493 14 = .ok (.ireturn, 1) := by decide +kernel
theorem dJ0_isLatin1_aae02_0 : decode cJ0_isLatin1_aae02 0 = .ok (.getstatic 38, 3) := by decide +kernel
theorem dJ0_isLatin1_aae02_3 : decode cJ0_isLatin1_aae02 3 = .ok (.ifCond .eq 14, 3) := by decide +kernel
theorem dJ0_isLatin1_aae02_6 : decode cJ0_isLatin1_aae02 6 = .ok (.aload_n 0, 1) := by decide +kernel
theorem dJ0_isLatin1_aae02_7 : decode cJ0_isLatin1_aae02 7 = .ok (.getfield 15, 3) := by decide +kernel
theorem dJ0_isLatin1_aae02_10 : decode cJ0_isLatin1_aae02 10 = .ok (.ifCond .ne 7, 3) := by decide +kernel
theorem dJ0_isLatin1_aae02_13 : decode cJ0_isLatin1_aae02 13 = .ok (.iconst 1, 1) := by decide +kernel
theorem dJ0_isLatin1_aae02_14 : decode cJ0_isLatin1_aae02 14 = .ok (.goto 4, 3) := by decide +kernel
theorem dJ0_isLatin1_aae02_17 : decode cJ0_isLatin1_aae02 17 = .ok (.iconst 0, 1) := by decide +kernel
theorem dJ0_isLatin1_aae02_18 : decode cJ0_isLatin1_aae02 18 = .ok (.ireturn, 1) := by decide +kernel
theorem dJ0_checkIndex_df160_0 : decode cJ0_checkIndex_df160 0 = .ok (.iload_n 0, 1) := by decide +kernel
theorem dJ0_checkIndex_df160_1 : decode cJ0_checkIndex_df160 1 = .ok (.iload_n 1, 1) := by decide +kernel
theorem dJ0_checkIndex_df160_2 : decode cJ0_checkIndex_df160 2 = .ok (.getstatic 1053, 3) := by decide +kernel
theorem dJ0_checkIndex_df160_5 : decode cJ0_checkIndex_df160 5 = .ok (.invokestatic 1059, 3) := by decide +kernel
theorem dJ0_checkIndex_df160_8 : decode cJ0_checkIndex_df160 8 = .ok (.pop, 1) := by decide +kernel
theorem dJ0_checkIndex_df160_9 : decode cJ0_checkIndex_df160 9 = .ok (.return_, 1) := by decide +kernel
theorem dJ1_charAt_3b067_0 : decode cJ1_charAt_3b067 0 = .ok (.iload_n 1, 1) := by decide +kernel
theorem dJ1_charAt_3b067_1 : decode cJ1_charAt_3b067 1 = .ok (.aload_n 0, 1) := by decide +kernel
theorem dJ1_charAt_3b067_2 : decode cJ1_charAt_3b067 2 = .ok (.arraylength, 1) := by decide +kernel
theorem dJ1_charAt_3b067_3 : decode cJ1_charAt_3b067 3 = .ok (.invokestatic 9, 3) := by decide +kernel
theorem dJ1_charAt_3b067_6 : decode cJ1_charAt_3b067 6 = .ok (.aload_n 0, 1) := by decide +kernel
theorem dJ1_charAt_3b067_7 : decode cJ1_charAt_3b067 7 = .ok (.iload_n 1, 1) := by decide +kernel
theorem dJ1_charAt_3b067_8 : decode cJ1_charAt_3b067 8 = .ok (.baload, 1) := by decide +kernel
theorem dJ1_charAt_3b067_9 : decode cJ1_charAt_3b067 9 = .ok (.sipush 255, 3) := by decide +kernel
theorem dJ1_charAt_3b067_12 : decode cJ1_charAt_3b067 12 = .ok (.iand, 1) := by decide +kernel
theorem dJ1_charAt_3b067_13 : decode cJ1_charAt_3b067 13 = .ok (.i2c, 1) := by decide +kernel
theorem dJ1_charAt_3b067_14 : decode cJ1_charAt_3b067 14 = .ok (.ireturn, 1) := by decide +kernel
theorem dJ2_getChar_3b067_0 : decode cJ2_getChar_3b067 0 = .ok (.getstatic 44, 3) := by decide +kernel
theorem dJ2_getChar_3b067_3 : decode cJ2_getChar_3b067 3 = .ok (.ifCond .ne 25, 3) := by decide +kernel
theorem dJ2_getChar_3b067_6 : decode cJ2_getChar_3b067 6 = .ok (.iload_n 1, 1) := by decide +kernel
theorem dJ2_getChar_3b067_7 : decode cJ2_getChar_3b067 7 = .ok (.ifCond .lt 11, 3) := by decide +kernel
theorem dJ2_getChar_3b067_10 : decode cJ2_getChar_3b067 10 = .ok (.iload_n 1, 1) := by decide +kernel
theorem dJ2_getChar_3b067_11 : decode cJ2_getChar_3b067 11 = .ok (.aload_n 0, 1) := by decide +kernel
theorem dJ2_getChar_3b067_12 : decode cJ2_getChar_3b067 12 = .ok (.invokestatic 48, 3) := by decide +kernel
theorem dJ2_getChar_3b067_15 : decode cJ2_getChar_3b067 15 = .ok (.if_icmp .lt 13, 3) := by decide +kernel
theorem dJ2_getChar_3b067_18 : decode cJ2_getChar_3b067 18 = .ok (.new 52, 3) := by decide +kernel
theorem dJ2_getChar_3b067_21 : decode cJ2_getChar_3b067 21 = .ok (.dup, 1) := by decide +kernel
theorem dJ2_getChar_3b067_22 : decode cJ2_getChar_3b067 22 = .ok (.ldc 54, 2) := by decide +kernel
theorem dJ2_getChar_3b067_24 : decode cJ2_getChar_3b067 24 = .ok (.invokespecial 56, 3) := by decide +kernel
theorem dJ2_getChar_3b067_27 : decode cJ2_getChar_3b067 27 = .ok (.athrow, 1) := by decide +kernel
theorem dJ2_getChar_3b067_28 : decode cJ2_getChar_3b067 28 = .ok (.iload_n 1, 1) := by decide +kernel
theorem dJ2_getChar_3b067_29 : decode cJ2_getChar_3b067 29 = .ok (.iconst 1, 1) := by decide +kernel
theorem dJ2_getChar_3b067_30 : decode cJ2_getChar_3b067 30 = .ok (.ishl, 1) := by decide +kernel
theorem dJ2_getChar_3b067_31 : decode cJ2_getChar_3b067 31 = .ok (.istore_n 1, 1) := by decide +kernel
theorem dJ2_getChar_3b067_32 : decode cJ2_getChar_3b067 32 = .ok (.aload_n 0, 1) := by decide +kernel
theorem dJ2_getChar_3b067_33 : decode cJ2_getChar_3b067 33 = .ok (.iload_n 1, 1) := by decide +kernel
theorem dJ2_getChar_3b067_34 : decode cJ2_getChar_3b067 34 = .ok (.iinc 1 1, 3) := by decide +kernel
theorem dJ2_getChar_3b067_37 : decode cJ2_getChar_3b067 37 = .ok (.baload, 1) := by decide +kernel
theorem dJ2_getChar_3b067_38 : decode cJ2_getChar_3b067 38 = .ok (.sipush 255, 3) := by decide +kernel
theorem dJ2_getChar_3b067_41 : decode cJ2_getChar_3b067 41 = .ok (.iand, 1) := by decide +kernel
theorem dJ2_getChar_3b067_42 : decode cJ2_getChar_3b067 42 = .ok (.getstatic 59, 3) := by decide +kernel
theorem dJ2_getChar_3b067_45 : decode cJ2_getChar_3b067 45 = .ok (.ishl, 1) := by decide +kernel
theorem dJ2_getChar_3b067_46 : decode cJ2_getChar_3b067 46 = .ok (.aload_n 0, 1) := by decide +kernel
theorem dJ2_getChar_3b067_47 : decode cJ2_getChar_3b067 47 = .ok (.iload_n 1, 1) := by decide +kernel
theorem dJ2_getChar_3b067_48 : decode cJ2_getChar_3b067 48 = .ok (.baload, 1) := by decide +kernel
theorem dJ2_getChar_3b067_49 : decode cJ2_getChar_3b067 49 = .ok (.sipush 255, 3) := by decide +kernel
theorem dJ2_getChar_3b067_52 : decode cJ2_getChar_3b067 52 = .ok (.iand, 1) := by decide +kernel
theorem dJ2_getChar_3b067_53 : decode cJ2_getChar_3b067 53 = .ok (.getstatic 63, 3) := by decide +kernel
theorem dJ2_getChar_3b067_56 : decode cJ2_getChar_3b067 56 = .ok (.ishl, 1) := by decide +kernel
theorem dJ2_getChar_3b067_57 : decode cJ2_getChar_3b067 57 = .ok (.ior, 1) := by decide +kernel
theorem dJ2_getChar_3b067_58 : decode cJ2_getChar_3b067 58 = .ok (.i2c, 1) := by decide +kernel
theorem dJ2_getChar_3b067_59 : decode cJ2_getChar_3b067 59 = .ok (.ireturn, 1) := by decide +kernel
theorem dJ2_length_9d52b_0 : decode cJ2_length_9d52b 0 = .ok (.aload_n 0, 1) := by decide +kernel
theorem dJ2_length_9d52b_1 : decode cJ2_length_9d52b 1 = .ok (.arraylength, 1) := by decide +kernel
theorem dJ2_length_9d52b_2 : decode cJ2_length_9d52b 2 = .ok (.iconst 1, 1) := by decide +kernel
theorem dJ2_length_9d52b_3 : decode cJ2_length_9d52b 3 = .ok (.ishr, 1) := by decide +kernel
theorem dJ2_length_9d52b_4 : decode cJ2_length_9d52b 4 = .ok (.ireturn, 1) := by decide +kernel
theorem dJ2_charAt_3b067_0 : decode cJ2_charAt_3b067 0 = .ok (.iload_n 1, 1) := by decide +kernel
theorem dJ2_charAt_3b067_1 : decode cJ2_charAt_3b067 1 = .ok (.aload_n 0, 1) := by decide +kernel
theorem dJ2_charAt_3b067_2 : decode cJ2_charAt_3b067 2 = .ok (.invokestatic 67, 3) := by decide +kernel
theorem dJ2_charAt_3b067_5 : decode cJ2_charAt_3b067 5 = .ok (.aload_n 0, 1) := by decide +kernel
theorem dJ2_charAt_3b067_6 : decode cJ2_charAt_3b067 6 = .ok (.iload_n 1, 1) := by decide +kernel
theorem dJ2_charAt_3b067_7 : decode cJ2_charAt_3b067 7 = .ok (.invokestatic 71, 3) := by decide +kernel
theorem dJ2_charAt_3b067_10 : decode cJ2_charAt_3b067 10 = .ok (.ireturn, 1) := by decide +kernel
theorem dJ2_checkIndex_2214a_0 : decode cJ2_checkIndex_2214a 0 = .ok (.iload_n 0, 1) := by decide +kernel
theorem dJ2_checkIndex_2214a_1 : decode cJ2_checkIndex_2214a 1 = .ok (.aload_n 1, 1) := by decide +kernel
theorem dJ2_checkIndex_2214a_2 : decode cJ2_checkIndex_2214a 2 = .ok (.invokestatic 48, 3) := by decide +kernel
theorem dJ2_checkIndex_2214a_5 : decode cJ2_checkIndex_2214a 5 = .ok (.invokestatic 414, 3) := by decide +kernel
theorem dJ2_checkIndex_2214a_8 : decode cJ2_checkIndex_2214a 8 = .ok (.return_, 1) := by decide +kernel
theorem dJ3_checkIndex_8e157_0 : decode cJ3_checkIndex_8e157 0 = .ok (.iload_n 0, 1) := by decide +kernel
theorem dJ3_checkIndex_8e157_1 : decode cJ3_checkIndex_8e157 1 = .ok (.ifCond .lt 8, 3) := by decide +kernel
theorem dJ3_checkIndex_8e157_4 : decode cJ3_checkIndex_8e157 4 = .ok (.iload_n 0, 1) := by decide +kernel
theorem dJ3_checkIndex_8e157_5 : decode cJ3_checkIndex_8e157 5 = .ok (.iload_n 1, 1) := by decide +kernel
theorem dJ3_checkIndex_8e157_6 : decode cJ3_checkIndex_8e157 6 = .ok (.if_icmp .lt 10, 3) := by decide +kernel
theorem dJ3_checkIndex_8e157_9 : decode cJ3_checkIndex_8e157 9 = .ok (.aload_n 2, 1) := by decide +kernel
theorem dJ3_checkIndex_8e157_10 : decode cJ3_checkIndex_8e157 10 = .ok (.iload_n 0, 1) := by decide +kernel
theorem dJ3_checkIndex_8e157_11 : decode cJ3_checkIndex_8e157 11 = .ok (.iload_n 1, 1) := by decide +kernel
theorem dJ3_checkIndex_8e157_12 : decode cJ3_checkIndex_8e157 12 = .ok (.invokestatic 95, 3) := by decide +kernel
theorem dJ3_checkIndex_8e157_15 : decode cJ3_checkIndex_8e157 15 = .ok (.athrow, 1) := by decide +kernel
theorem dJ3_checkIndex_8e157_16 : decode cJ3_checkIndex_8e157 16 = .ok (.iload_n 0, 1) := by decide +kernel
theorem dJ3_checkIndex_8e157_17 : decode cJ3_checkIndex_8e157 17 = .ok (.ireturn, 1) := by decide +kernel
theorem dJ6_bitCount_0f7a4_0 : decode cJ6_bitCount_0f7a4 0 = .ok (.iload_n 0, 1) := by decide +kernel
theorem dJ6_bitCount_0f7a4_1 : decode cJ6_bitCount_0f7a4 1 = .ok (.iload_n 0, 1) := by decide +kernel
theorem dJ6_bitCount_0f7a4_2 : decode cJ6_bitCount_0f7a4 2 = .ok (.iconst 1, 1) := by decide +kernel
theorem dJ6_bitCount_0f7a4_3 : decode cJ6_bitCount_0f7a4 3 = .ok (.iushr, 1) := by decide +kernel
theorem dJ6_bitCount_0f7a4_4 : decode cJ6_bitCount_0f7a4 4 = .ok (.ldc_w 265, 3) := by decide +kernel
theorem dJ6_bitCount_0f7a4_7 : decode cJ6_bitCount_0f7a4 7 = .ok (.iand, 1) := by decide +kernel
theorem dJ6_bitCount_0f7a4_8 : decode cJ6_bitCount_0f7a4 8 = .ok (.isub, 1) := by decide +kernel
theorem dJ6_bitCount_0f7a4_9 : decode cJ6_bitCount_0f7a4 9 = .ok (.istore_n 0, 1) := by decide +kernel
theorem dJ6_bitCount_0f7a4_10 : decode cJ6_bitCount_0f7a4 10 = .ok (.iload_n 0, 1) := by decide +kernel
theorem dJ6_bitCount_0f7a4_11 : decode cJ6_bitCount_0f7a4 11 = .ok (.ldc_w 266, 3) := by decide +kernel
theorem dJ6_bitCount_0f7a4_14 : decode cJ6_bitCount_0f7a4 14 = .ok (.iand, 1) := by decide +kernel
theorem dJ6_bitCount_0f7a4_15 : decode cJ6_bitCount_0f7a4 15 = .ok (.iload_n 0, 1) := by decide +kernel
theorem dJ6_bitCount_0f7a4_16 : decode cJ6_bitCount_0f7a4 16 = .ok (.iconst 2, 1) := by decide +kernel
theorem dJ6_bitCount_0f7a4_17 : decode cJ6_bitCount_0f7a4 17 = .ok (.iushr, 1) := by decide +kernel
theorem dJ6_bitCount_0f7a4_18 : decode cJ6_bitCount_0f7a4 18 = .ok (.ldc_w 266, 3) := by decide +kernel
theorem dJ6_bitCount_0f7a4_21 : decode cJ6_bitCount_0f7a4 21 = .ok (.iand, 1) := by decide +kernel
theorem dJ6_bitCount_0f7a4_22 : decode cJ6_bitCount_0f7a4 22 = .ok (.iadd, 1) := by decide +kernel
theorem dJ6_bitCount_0f7a4_23 : decode cJ6_bitCount_0f7a4 23 = .ok (.istore_n 0, 1) := by decide +kernel
theorem dJ6_bitCount_0f7a4_24 : decode cJ6_bitCount_0f7a4 24 = .ok (.iload_n 0, 1) := by decide +kernel
theorem dJ6_bitCount_0f7a4_25 : decode cJ6_bitCount_0f7a4 25 = .ok (.iload_n 0, 1) := by decide +kernel
theorem dJ6_bitCount_0f7a4_26 : decode cJ6_bitCount_0f7a4 26 = .ok (.iconst 4, 1) := by decide +kernel
theorem dJ6_bitCount_0f7a4_27 : decode cJ6_bitCount_0f7a4 27 = .ok (.iushr, 1) := by decide +kernel
theorem dJ6_bitCount_0f7a4_28 : decode cJ6_bitCount_0f7a4 28 = .ok (.iadd, 1) := by decide +kernel
theorem dJ6_bitCount_0f7a4_29 : decode cJ6_bitCount_0f7a4 29 = .ok (.ldc_w 267, 3) := by decide +kernel
theorem dJ6_bitCount_0f7a4_32 : decode cJ6_bitCount_0f7a4 32 = .ok (.iand, 1) := by decide +kernel
theorem dJ6_bitCount_0f7a4_33 : decode cJ6_bitCount_0f7a4 33 = .ok (.istore_n 0, 1) := by decide +kernel
theorem dJ6_bitCount_0f7a4_34 : decode cJ6_bitCount_0f7a4 34 = .ok (.iload_n 0, 1) := by decide +kernel
theorem dJ6_bitCount_0f7a4_35 : decode cJ6_bitCount_0f7a4 35 = .ok (.iload_n 0, 1) := by decide +kernel
theorem dJ6_bitCount_0f7a4_36 : decode cJ6_bitCount_0f7a4 36 = .ok (.bipush 8, 2) := by decide +kernel
theorem dJ6_bitCount_0f7a4_38 : decode cJ6_bitCount_0f7a4 38 = .ok (.iushr, 1) := by decide +kernel
theorem dJ6_bitCount_0f7a4_39 : decode cJ6_bitCount_0f7a4 39 = .ok (.iadd, 1) := by decide +kernel
theorem dJ6_bitCount_0f7a4_40 : decode cJ6_bitCount_0f7a4 40 = .ok (.istore_n 0, 1) := by decide +kernel
theorem dJ6_bitCount_0f7a4_41 : decode cJ6_bitCount_0f7a4 41 = .ok (.iload_n 0, 1) := by decide +kernel
theorem dJ6_bitCount_0f7a4_42 : decode cJ6_bitCount_0f7a4 42 = .ok (.iload_n 0, 1) := by decide +kernel
theorem dJ6_bitCount_0f7a4_43 : decode cJ6_bitCount_0f7a4 43 = .ok (.bipush 16, 2) := by decide +kernel
theorem dJ6_bitCount_0f7a4_45 : decode cJ6_bitCount_0f7a4 45 = .ok (.iushr, 1) := by decide +kernel
theorem dJ6_bitCount_0f7a4_46 : decode cJ6_bitCount_0f7a4 46 = .ok (.iadd, 1) := by decide +kernel
theorem dJ6_bitCount_0f7a4_47 : decode cJ6_bitCount_0f7a4 47 = .ok (.istore_n 0, 1) := by decide +kernel
theorem dJ6_bitCount_0f7a4_48 : decode cJ6_bitCount_0f7a4 48 = .ok (.iload_n 0, 1) := by decide +kernel
theorem dJ6_bitCount_0f7a4_49 : decode cJ6_bitCount_0f7a4 49 = .ok (.bipush 63, 2) := by decide +kernel
theorem dJ6_bitCount_0f7a4_51 : decode cJ6_bitCount_0f7a4 51 = .ok (.iand, 1) := by decide +kernel
theorem dJ6_bitCount_0f7a4_52 : decode cJ6_bitCount_0f7a4 52 = .ok (.ireturn, 1) := by decide +kernel
theorem dJ7_fill_d0a16_0 : decode cJ7_fill_d0a16 0 = .ok (.iconst 0, 1) := by decide +kernel
theorem dJ7_fill_d0a16_1 : decode cJ7_fill_d0a16 1 = .ok (.istore_n 3, 1) := by decide +kernel
theorem dJ7_fill_d0a16_2 : decode cJ7_fill_d0a16 2 = .ok (.aload_n 0, 1) := by decide +kernel
theorem dJ7_fill_d0a16_3 : decode cJ7_fill_d0a16 3 = .ok (.arraylength, 1) := by decide +kernel
theorem dJ7_fill_d0a16_4 : decode cJ7_fill_d0a16 4 = .ok (.istore 4, 2) := by decide +kernel
theorem dJ7_fill_d0a16_6 : decode cJ7_fill_d0a16 6 = .ok (.iload_n 3, 1) := by decide +kernel
theorem dJ7_fill_d0a16_7 : decode cJ7_fill_d0a16 7 = .ok (.iload 4, 2) := by decide +kernel
theorem dJ7_fill_d0a16_9 : decode cJ7_fill_d0a16 9 = .ok (.if_icmp .ge 13, 3) := by decide +kernel
theorem dJ7_fill_d0a16_12 : decode cJ7_fill_d0a16 12 = .ok (.aload_n 0, 1) := by decide +kernel
theorem dJ7_fill_d0a16_13 : decode cJ7_fill_d0a16 13 = .ok (.iload_n 3, 1) := by decide +kernel
theorem dJ7_fill_d0a16_14 : decode cJ7_fill_d0a16 14 = .ok (.lload_n 1, 1) := by decide +kernel
theorem dJ7_fill_d0a16_15 : decode cJ7_fill_d0a16 15 = .ok (.lastore, 1) := by decide +kernel
theorem dJ7_fill_d0a16_16 : decode cJ7_fill_d0a16 16 = .ok (.iinc 3 1, 3) := by decide +kernel
theorem dJ7_fill_d0a16_19 : decode cJ7_fill_d0a16 19 = .ok (.goto (-13), 3) := by decide +kernel
theorem dJ7_fill_d0a16_22 : decode cJ7_fill_d0a16 22 = .ok (.return_, 1) := by decide +kernel
theorem dJ7_fill_53178_0 : decode cJ7_fill_53178 0 = .ok (.iconst 0, 1) := by decide +kernel
theorem dJ7_fill_53178_1 : decode cJ7_fill_53178 1 = .ok (.istore_n 2, 1) := by decide +kernel
theorem dJ7_fill_53178_2 : decode cJ7_fill_53178 2 = .ok (.aload_n 0, 1) := by decide +kernel
theorem dJ7_fill_53178_3 : decode cJ7_fill_53178 3 = .ok (.arraylength, 1) := by decide +kernel
theorem dJ7_fill_53178_4 : decode cJ7_fill_53178 4 = .ok (.istore_n 3, 1) := by decide +kernel
theorem dJ7_fill_53178_5 : decode cJ7_fill_53178 5 = .ok (.iload_n 2, 1) := by decide +kernel
theorem dJ7_fill_53178_6 : decode cJ7_fill_53178 6 = .ok (.iload_n 3, 1) := by decide +kernel
theorem dJ7_fill_53178_7 : decode cJ7_fill_53178 7 = .ok (.if_icmp .ge 13, 3) := by decide +kernel
theorem dJ7_fill_53178_10 : decode cJ7_fill_53178 10 = .ok (.aload_n 0, 1) := by decide +kernel
theorem dJ7_fill_53178_11 : decode cJ7_fill_53178 11 = .ok (.iload_n 2, 1) := by decide +kernel
theorem dJ7_fill_53178_12 : decode cJ7_fill_53178 12 = .ok (.iload_n 1, 1) := by decide +kernel
theorem dJ7_fill_53178_13 : decode cJ7_fill_53178 13 = .ok (.iastore, 1) := by decide +kernel
theorem dJ7_fill_53178_14 : decode cJ7_fill_53178 14 = .ok (.iinc 2 1, 3) := by decide +kernel
theorem dJ7_fill_53178_17 : decode cJ7_fill_53178 17 = .ok (.goto (-12), 3) := by decide +kernel
theorem dJ7_fill_53178_20 : decode cJ7_fill_53178 20 = .ok (.return_, 1) := by decide +kernel
theorem dJ7_copyOf_59c91_0 : decode cJ7_copyOf_59c91 0 = .ok (.iload_n 1, 1) := by decide +kernel
theorem dJ7_copyOf_59c91_1 : decode cJ7_copyOf_59c91 1 = .ok (.aload_n 0, 1) := by decide +kernel
theorem dJ7_copyOf_59c91_2 : decode cJ7_copyOf_59c91 2 = .ok (.arraylength, 1) := by decide +kernel
theorem dJ7_copyOf_59c91_3 : decode cJ7_copyOf_59c91 3 = .ok (.if_icmp .ne 11, 3) := by decide +kernel
theorem dJ7_copyOf_59c91_6 : decode cJ7_copyOf_59c91 6 = .ok (.aload_n 0, 1) := by decide +kernel
theorem dJ7_copyOf_59c91_7 : decode cJ7_copyOf_59c91 7 = .ok (.invokevirtual 316, 3) := by decide +kernel
theorem dJ7_copyOf_59c91_10 : decode cJ7_copyOf_59c91 10 = .ok (.checkcast 317, 3) := by decide +kernel
theorem dJ7_copyOf_59c91_13 : decode cJ7_copyOf_59c91 13 = .ok (.areturn, 1) := by decide +kernel
theorem dJ7_copyOf_59c91_14 : decode cJ7_copyOf_59c91 14 = .ok (.iload_n 1, 1) := by decide +kernel
theorem dJ7_copyOf_59c91_15 : decode cJ7_copyOf_59c91 15 = .ok (.newarray .int, 2) := by decide +kernel
theorem dJ7_copyOf_59c91_17 : decode cJ7_copyOf_59c91 17 = .ok (.astore_n 2, 1) := by decide +kernel
theorem dJ7_copyOf_59c91_18 : decode cJ7_copyOf_59c91 18 = .ok (.aload_n 0, 1) := by decide +kernel
theorem dJ7_copyOf_59c91_19 : decode cJ7_copyOf_59c91 19 = .ok (.iconst 0, 1) := by decide +kernel
theorem dJ7_copyOf_59c91_20 : decode cJ7_copyOf_59c91 20 = .ok (.aload_n 2, 1) := by decide +kernel
theorem dJ7_copyOf_59c91_21 : decode cJ7_copyOf_59c91 21 = .ok (.iconst 0, 1) := by decide +kernel
theorem dJ7_copyOf_59c91_22 : decode cJ7_copyOf_59c91 22 = .ok (.aload_n 0, 1) := by decide +kernel
theorem dJ7_copyOf_59c91_23 : decode cJ7_copyOf_59c91 23 = .ok (.arraylength, 1) := by decide +kernel
theorem dJ7_copyOf_59c91_24 : decode cJ7_copyOf_59c91 24 = .ok (.iload_n 1, 1) := by decide +kernel
theorem dJ7_copyOf_59c91_25 : decode cJ7_copyOf_59c91 25 = .ok (.invokestatic 304, 3) := by decide +kernel
theorem dJ7_copyOf_59c91_28 : decode cJ7_copyOf_59c91 28 = .ok (.invokestatic 150, 3) := by decide +kernel
theorem dJ7_copyOf_59c91_31 : decode cJ7_copyOf_59c91 31 = .ok (.aload_n 2, 1) := by decide +kernel
theorem dJ7_copyOf_59c91_32 : decode cJ7_copyOf_59c91 32 = .ok (.areturn, 1) := by decide +kernel
theorem dJ9_max_7cf53_0 : decode cJ9_max_7cf53 0 = .ok (.iload_n 0, 1) := by decide +kernel
theorem dJ9_max_7cf53_1 : decode cJ9_max_7cf53 1 = .ok (.iload_n 1, 1) := by decide +kernel
theorem dJ9_max_7cf53_2 : decode cJ9_max_7cf53 2 = .ok (.if_icmp .lt 7, 3) := by decide +kernel
theorem dJ9_max_7cf53_5 : decode cJ9_max_7cf53 5 = .ok (.iload_n 0, 1) := by decide +kernel
theorem dJ9_max_7cf53_6 : decode cJ9_max_7cf53 6 = .ok (.goto 4, 3) := by decide +kernel
theorem dJ9_max_7cf53_9 : decode cJ9_max_7cf53 9 = .ok (.iload_n 1, 1) := by decide +kernel
theorem dJ9_max_7cf53_10 : decode cJ9_max_7cf53 10 = .ok (.ireturn, 1) := by decide +kernel
theorem dJ9_max_f86c9_0 : decode cJ9_max_f86c9 0 = .ok (.lload_n 0, 1) := by decide +kernel
theorem dJ9_max_f86c9_1 : decode cJ9_max_f86c9 1 = .ok (.lload_n 2, 1) := by decide +kernel
theorem dJ9_max_f86c9_2 : decode cJ9_max_f86c9 2 = .ok (.lcmp, 1) := by decide +kernel
theorem dJ9_max_f86c9_3 : decode cJ9_max_f86c9 3 = .ok (.ifCond .lt 7, 3) := by decide +kernel
theorem dJ9_max_f86c9_6 : decode cJ9_max_f86c9 6 = .ok (.lload_n 0, 1) := by decide +kernel
theorem dJ9_max_f86c9_7 : decode cJ9_max_f86c9 7 = .ok (.goto 4, 3) := by decide +kernel
theorem dJ9_max_f86c9_10 : decode cJ9_max_f86c9 10 = .ok (.lload_n 2, 1) := by decide +kernel
theorem dJ9_max_f86c9_11 : decode cJ9_max_f86c9 11 = .ok (.lreturn, 1) := by decide +kernel
theorem dJ9_min_7cf53_0 : decode cJ9_min_7cf53 0 = .ok (.iload_n 0, 1) := by decide +kernel
theorem dJ9_min_7cf53_1 : decode cJ9_min_7cf53 1 = .ok (.iload_n 1, 1) := by decide +kernel
theorem dJ9_min_7cf53_2 : decode cJ9_min_7cf53 2 = .ok (.if_icmp .gt 7, 3) := by decide +kernel
theorem dJ9_min_7cf53_5 : decode cJ9_min_7cf53 5 = .ok (.iload_n 0, 1) := by decide +kernel
theorem dJ9_min_7cf53_6 : decode cJ9_min_7cf53 6 = .ok (.goto 4, 3) := by decide +kernel
theorem dJ9_min_7cf53_9 : decode cJ9_min_7cf53 9 = .ok (.iload_n 1, 1) := by decide +kernel
theorem dJ9_min_7cf53_10 : decode cJ9_min_7cf53 10 = .ok (.ireturn, 1) := by decide +kernel
theorem dJ9_min_f86c9_0 : decode cJ9_min_f86c9 0 = .ok (.lload_n 0, 1) := by decide +kernel
theorem dJ9_min_f86c9_1 : decode cJ9_min_f86c9 1 = .ok (.lload_n 2, 1) := by decide +kernel
theorem dJ9_min_f86c9_2 : decode cJ9_min_f86c9 2 = .ok (.lcmp, 1) := by decide +kernel
theorem dJ9_min_f86c9_3 : decode cJ9_min_f86c9 3 = .ok (.ifCond .gt 7, 3) := by decide +kernel
theorem dJ9_min_f86c9_6 : decode cJ9_min_f86c9 6 = .ok (.lload_n 0, 1) := by decide +kernel
theorem dJ9_min_f86c9_7 : decode cJ9_min_f86c9 7 = .ok (.goto 4, 3) := by decide +kernel
theorem dJ9_min_f86c9_10 : decode cJ9_min_f86c9 10 = .ok (.lload_n 2, 1) := by decide +kernel
theorem dJ9_min_f86c9_11 : decode cJ9_min_f86c9 11 = .ok (.lreturn, 1) := by decide +kernel
theorem dL_cell_0 : decode cL_cell 0 = .ok (.iload_n 1, 1) := by decide +kernel
theorem dL_cell_1 : decode cL_cell 1 = .ok (.aload_n 0, 1) := by decide +kernel
theorem dL_cell_2 : decode cL_cell 2 = .ok (.arraylength, 1) := by decide +kernel
theorem dL_cell_3 : decode cL_cell 3 = .ok (.if_icmp .ge 9, 3) := by decide +kernel
theorem dL_cell_6 : decode cL_cell 6 = .ok (.aload_n 0, 1) := by decide +kernel
theorem dL_cell_7 : decode cL_cell 7 = .ok (.iload_n 1, 1) := by decide +kernel
theorem dL_cell_8 : decode cL_cell 8 = .ok (.iaload, 1) := by decide +kernel
theorem dL_cell_9 : decode cL_cell 9 = .ok (.goto 4, 3) := by decide +kernel
theorem dL_cell_12 : decode cL_cell 12 = .ok (.iconst 0, 1) := by decide +kernel
theorem dL_cell_13 : decode cL_cell 13 = .ok (.ireturn, 1) := by decide +kernel
theorem dL_law_0 : decode cL_law 0 = .ok (.new 7, 3) := by decide +kernel
theorem dL_law_3 : decode cL_law 3 = .ok (.dup, 1) := by decide +kernel
theorem dL_law_4 : decode cL_law 4 = .ok (.aload_n 0, 1) := by decide +kernel
theorem dL_law_5 : decode cL_law 5 = .ok (.iconst 0, 1) := by decide +kernel
theorem dL_law_6 : decode cL_law 6 = .ok (.invokestatic 9, 3) := by decide +kernel
theorem dL_law_9 : decode cL_law 9 = .ok (.aload_n 0, 1) := by decide +kernel
theorem dL_law_10 : decode cL_law 10 = .ok (.iconst 1, 1) := by decide +kernel
theorem dL_law_11 : decode cL_law 11 = .ok (.invokestatic 9, 3) := by decide +kernel
theorem dL_law_14 : decode cL_law 14 = .ok (.invokespecial 15, 3) := by decide +kernel
theorem dL_law_17 : decode cL_law 17 = .ok (.astore_n 1, 1) := by decide +kernel
theorem dL_law_18 : decode cL_law 18 = .ok (.new 18, 3) := by decide +kernel
theorem dL_law_21 : decode cL_law 21 = .ok (.dup, 1) := by decide +kernel
theorem dL_law_22 : decode cL_law 22 = .ok (.aload_n 0, 1) := by decide +kernel
theorem dL_law_23 : decode cL_law 23 = .ok (.iconst 0, 1) := by decide +kernel
theorem dL_law_24 : decode cL_law 24 = .ok (.invokestatic 9, 3) := by decide +kernel
theorem dL_law_27 : decode cL_law 27 = .ok (.aload_n 0, 1) := by decide +kernel
theorem dL_law_28 : decode cL_law 28 = .ok (.iconst 1, 1) := by decide +kernel
theorem dL_law_29 : decode cL_law 29 = .ok (.invokestatic 9, 3) := by decide +kernel
theorem dL_law_32 : decode cL_law 32 = .ok (.invokespecial 20, 3) := by decide +kernel
theorem dL_law_35 : decode cL_law 35 = .ok (.astore_n 2, 1) := by decide +kernel
theorem dL_law_36 : decode cL_law 36 = .ok (.iconst 2, 1) := by decide +kernel
theorem dL_law_37 : decode cL_law 37 = .ok (.istore_n 3, 1) := by decide +kernel
theorem dL_law_38 : decode cL_law 38 = .ok (.iload_n 3, 1) := by decide +kernel
theorem dL_law_39 : decode cL_law 39 = .ok (.aload_n 0, 1) := by decide +kernel
theorem dL_law_40 : decode cL_law 40 = .ok (.arraylength, 1) := by decide +kernel
theorem dL_law_41 : decode cL_law 41 = .ok (.bipush 6, 2) := by decide +kernel
theorem dL_law_43 : decode cL_law 43 = .ok (.isub, 1) := by decide +kernel
theorem dL_law_44 : decode cL_law 44 = .ok (.if_icmp .gt 1030, 3) := by decide +kernel
theorem dL_law_47 : decode cL_law 47 = .ok (.aload_n 0, 1) := by decide +kernel
theorem dL_law_48 : decode cL_law 48 = .ok (.iload_n 3, 1) := by decide +kernel
theorem dL_law_49 : decode cL_law 49 = .ok (.iaload, 1) := by decide +kernel
theorem dL_law_50 : decode cL_law 50 = .ok (.bipush 31, 2) := by decide +kernel
theorem dL_law_52 : decode cL_law 52 = .ok (.iand, 1) := by decide +kernel
theorem dL_law_53 : decode cL_law 53 = .ok (.tableswitch 1015 0 26 #[123, 156, 189, 252, 275, 288, 311, 354, 387, 410, 433, 446, 479, 532, 585, 649, 692, 705, 748, 771, 794, 837, 860, 913, 966, 979, 992], 123) := by decide +kernel
theorem dL_law_176 : decode cL_law 176 = .ok (.aload_n 1, 1) := by decide +kernel
theorem dL_law_177 : decode cL_law 177 = .ok (.aload_n 0, 1) := by decide +kernel
theorem dL_law_178 : decode cL_law 178 = .ok (.iload_n 3, 1) := by decide +kernel
theorem dL_law_179 : decode cL_law 179 = .ok (.iconst 1, 1) := by decide +kernel
theorem dL_law_180 : decode cL_law 180 = .ok (.iadd, 1) := by decide +kernel
theorem dL_law_181 : decode cL_law 181 = .ok (.iaload, 1) := by decide +kernel
theorem dL_law_182 : decode cL_law 182 = .ok (.aload_n 0, 1) := by decide +kernel
theorem dL_law_183 : decode cL_law 183 = .ok (.iload_n 3, 1) := by decide +kernel
theorem dL_law_184 : decode cL_law 184 = .ok (.iconst 2, 1) := by decide +kernel
theorem dL_law_185 : decode cL_law 185 = .ok (.iadd, 1) := by decide +kernel
theorem dL_law_186 : decode cL_law 186 = .ok (.iaload, 1) := by decide +kernel
theorem dL_law_187 : decode cL_law 187 = .ok (.invokevirtual 21, 3) := by decide +kernel
theorem dL_law_190 : decode cL_law 190 = .ok (.aload_n 2, 1) := by decide +kernel
theorem dL_law_191 : decode cL_law 191 = .ok (.aload_n 0, 1) := by decide +kernel
theorem dL_law_192 : decode cL_law 192 = .ok (.iload_n 3, 1) := by decide +kernel
theorem dL_law_193 : decode cL_law 193 = .ok (.iconst 1, 1) := by decide +kernel
theorem dL_law_194 : decode cL_law 194 = .ok (.iadd, 1) := by decide +kernel
theorem dL_law_195 : decode cL_law 195 = .ok (.iaload, 1) := by decide +kernel
theorem dL_law_196 : decode cL_law 196 = .ok (.aload_n 0, 1) := by decide +kernel
theorem dL_law_197 : decode cL_law 197 = .ok (.iload_n 3, 1) := by decide +kernel
theorem dL_law_198 : decode cL_law 198 = .ok (.iconst 2, 1) := by decide +kernel
theorem dL_law_199 : decode cL_law 199 = .ok (.iadd, 1) := by decide +kernel
theorem dL_law_200 : decode cL_law 200 = .ok (.iaload, 1) := by decide +kernel
theorem dL_law_201 : decode cL_law 201 = .ok (.invokevirtual 24, 3) := by decide +kernel
theorem dL_law_204 : decode cL_law 204 = .ok (.if_icmp .eq 864, 3) := by decide +kernel
theorem dL_law_207 : decode cL_law 207 = .ok (.iconst 0, 1) := by decide +kernel
theorem dL_law_208 : decode cL_law 208 = .ok (.ireturn, 1) := by decide +kernel
theorem dL_law_209 : decode cL_law 209 = .ok (.aload_n 1, 1) := by decide +kernel
theorem dL_law_210 : decode cL_law 210 = .ok (.aload_n 0, 1) := by decide +kernel
theorem dL_law_211 : decode cL_law 211 = .ok (.iload_n 3, 1) := by decide +kernel
theorem dL_law_212 : decode cL_law 212 = .ok (.iconst 1, 1) := by decide +kernel
theorem dL_law_213 : decode cL_law 213 = .ok (.iadd, 1) := by decide +kernel
theorem dL_law_214 : decode cL_law 214 = .ok (.iaload, 1) := by decide +kernel
theorem dL_law_215 : decode cL_law 215 = .ok (.aload_n 0, 1) := by decide +kernel
theorem dL_law_216 : decode cL_law 216 = .ok (.iload_n 3, 1) := by decide +kernel
theorem dL_law_217 : decode cL_law 217 = .ok (.iconst 2, 1) := by decide +kernel
theorem dL_law_218 : decode cL_law 218 = .ok (.iadd, 1) := by decide +kernel
theorem dL_law_219 : decode cL_law 219 = .ok (.iaload, 1) := by decide +kernel
theorem dL_law_220 : decode cL_law 220 = .ok (.invokevirtual 25, 3) := by decide +kernel
theorem dL_law_223 : decode cL_law 223 = .ok (.aload_n 2, 1) := by decide +kernel
theorem dL_law_224 : decode cL_law 224 = .ok (.aload_n 0, 1) := by decide +kernel
theorem dL_law_225 : decode cL_law 225 = .ok (.iload_n 3, 1) := by decide +kernel
theorem dL_law_226 : decode cL_law 226 = .ok (.iconst 1, 1) := by decide +kernel
theorem dL_law_227 : decode cL_law 227 = .ok (.iadd, 1) := by decide +kernel
theorem dL_law_228 : decode cL_law 228 = .ok (.iaload, 1) := by decide +kernel
theorem dL_law_229 : decode cL_law 229 = .ok (.aload_n 0, 1) := by decide +kernel
theorem dL_law_230 : decode cL_law 230 = .ok (.iload_n 3, 1) := by decide +kernel
theorem dL_law_231 : decode cL_law 231 = .ok (.iconst 2, 1) := by decide +kernel
theorem dL_law_232 : decode cL_law 232 = .ok (.iadd, 1) := by decide +kernel
theorem dL_law_233 : decode cL_law 233 = .ok (.iaload, 1) := by decide +kernel
theorem dL_law_234 : decode cL_law 234 = .ok (.invokevirtual 29, 3) := by decide +kernel
theorem dL_law_237 : decode cL_law 237 = .ok (.if_icmp .eq 831, 3) := by decide +kernel
theorem dL_law_240 : decode cL_law 240 = .ok (.iconst 0, 1) := by decide +kernel
theorem dL_law_241 : decode cL_law 241 = .ok (.ireturn, 1) := by decide +kernel
theorem dL_law_242 : decode cL_law 242 = .ok (.aload_n 1, 1) := by decide +kernel
theorem dL_law_243 : decode cL_law 243 = .ok (.aload_n 0, 1) := by decide +kernel
theorem dL_law_244 : decode cL_law 244 = .ok (.iload_n 3, 1) := by decide +kernel
theorem dL_law_245 : decode cL_law 245 = .ok (.iconst 1, 1) := by decide +kernel
theorem dL_law_246 : decode cL_law 246 = .ok (.iadd, 1) := by decide +kernel
theorem dL_law_247 : decode cL_law 247 = .ok (.iaload, 1) := by decide +kernel
theorem dL_law_248 : decode cL_law 248 = .ok (.aload_n 0, 1) := by decide +kernel
theorem dL_law_249 : decode cL_law 249 = .ok (.iload_n 3, 1) := by decide +kernel
theorem dL_law_250 : decode cL_law 250 = .ok (.iconst 2, 1) := by decide +kernel
theorem dL_law_251 : decode cL_law 251 = .ok (.iadd, 1) := by decide +kernel
theorem dL_law_252 : decode cL_law 252 = .ok (.iaload, 1) := by decide +kernel
theorem dL_law_253 : decode cL_law 253 = .ok (.aload_n 0, 1) := by decide +kernel
theorem dL_law_254 : decode cL_law 254 = .ok (.iload_n 3, 1) := by decide +kernel
theorem dL_law_255 : decode cL_law 255 = .ok (.iconst 3, 1) := by decide +kernel
theorem dL_law_256 : decode cL_law 256 = .ok (.iadd, 1) := by decide +kernel
theorem dL_law_257 : decode cL_law 257 = .ok (.iaload, 1) := by decide +kernel
theorem dL_law_258 : decode cL_law 258 = .ok (.aload_n 0, 1) := by decide +kernel
theorem dL_law_259 : decode cL_law 259 = .ok (.iload_n 3, 1) := by decide +kernel
theorem dL_law_260 : decode cL_law 260 = .ok (.iconst 4, 1) := by decide +kernel
theorem dL_law_261 : decode cL_law 261 = .ok (.iadd, 1) := by decide +kernel
theorem dL_law_262 : decode cL_law 262 = .ok (.iaload, 1) := by decide +kernel
theorem dL_law_263 : decode cL_law 263 = .ok (.aload_n 0, 1) := by decide +kernel
theorem dL_law_264 : decode cL_law 264 = .ok (.iload_n 3, 1) := by decide +kernel
theorem dL_law_265 : decode cL_law 265 = .ok (.iconst 5, 1) := by decide +kernel
theorem dL_law_266 : decode cL_law 266 = .ok (.iadd, 1) := by decide +kernel
theorem dL_law_267 : decode cL_law 267 = .ok (.iaload, 1) := by decide +kernel
theorem dL_law_268 : decode cL_law 268 = .ok (.invokevirtual 30, 3) := by decide +kernel
theorem dL_law_271 : decode cL_law 271 = .ok (.aload_n 2, 1) := by decide +kernel
theorem dL_law_272 : decode cL_law 272 = .ok (.aload_n 0, 1) := by decide +kernel
theorem dL_law_273 : decode cL_law 273 = .ok (.iload_n 3, 1) := by decide +kernel
theorem dL_law_274 : decode cL_law 274 = .ok (.iconst 1, 1) := by decide +kernel
theorem dL_law_275 : decode cL_law 275 = .ok (.iadd, 1) := by decide +kernel
theorem dL_law_276 : decode cL_law 276 = .ok (.iaload, 1) := by decide +kernel
theorem dL_law_277 : decode cL_law 277 = .ok (.aload_n 0, 1) := by decide +kernel
theorem dL_law_278 : decode cL_law 278 = .ok (.iload_n 3, 1) := by decide +kernel
theorem dL_law_279 : decode cL_law 279 = .ok (.iconst 2, 1) := by decide +kernel
theorem dL_law_280 : decode cL_law 280 = .ok (.iadd, 1) := by decide +kernel
theorem dL_law_281 : decode cL_law 281 = .ok (.iaload, 1) := by decide +kernel
theorem dL_law_282 : decode cL_law 282 = .ok (.aload_n 0, 1) := by decide +kernel
theorem dL_law_283 : decode cL_law 283 = .ok (.iload_n 3, 1) := by decide +kernel
theorem dL_law_284 : decode cL_law 284 = .ok (.iconst 3, 1) := by decide +kernel
theorem dL_law_285 : decode cL_law 285 = .ok (.iadd, 1) := by decide +kernel
theorem dL_law_286 : decode cL_law 286 = .ok (.iaload, 1) := by decide +kernel
theorem dL_law_287 : decode cL_law 287 = .ok (.aload_n 0, 1) := by decide +kernel
theorem dL_law_288 : decode cL_law 288 = .ok (.iload_n 3, 1) := by decide +kernel
theorem dL_law_289 : decode cL_law 289 = .ok (.iconst 4, 1) := by decide +kernel
theorem dL_law_290 : decode cL_law 290 = .ok (.iadd, 1) := by decide +kernel
theorem dL_law_291 : decode cL_law 291 = .ok (.iaload, 1) := by decide +kernel
theorem dL_law_292 : decode cL_law 292 = .ok (.aload_n 0, 1) := by decide +kernel
theorem dL_law_293 : decode cL_law 293 = .ok (.iload_n 3, 1) := by decide +kernel
theorem dL_law_294 : decode cL_law 294 = .ok (.iconst 5, 1) := by decide +kernel
theorem dL_law_295 : decode cL_law 295 = .ok (.iadd, 1) := by decide +kernel
theorem dL_law_296 : decode cL_law 296 = .ok (.iaload, 1) := by decide +kernel
theorem dL_law_297 : decode cL_law 297 = .ok (.invokevirtual 34, 3) := by decide +kernel
theorem dL_law_300 : decode cL_law 300 = .ok (.if_icmp .eq 768, 3) := by decide +kernel
theorem dL_law_303 : decode cL_law 303 = .ok (.iconst 0, 1) := by decide +kernel
theorem dL_law_304 : decode cL_law 304 = .ok (.ireturn, 1) := by decide +kernel
theorem dL_law_305 : decode cL_law 305 = .ok (.aload_n 1, 1) := by decide +kernel
theorem dL_law_306 : decode cL_law 306 = .ok (.aload_n 0, 1) := by decide +kernel
theorem dL_law_307 : decode cL_law 307 = .ok (.iload_n 3, 1) := by decide +kernel
theorem dL_law_308 : decode cL_law 308 = .ok (.iconst 1, 1) := by decide +kernel
theorem dL_law_309 : decode cL_law 309 = .ok (.iadd, 1) := by decide +kernel
theorem dL_law_310 : decode cL_law 310 = .ok (.iaload, 1) := by decide +kernel
theorem dL_law_311 : decode cL_law 311 = .ok (.invokevirtual 35, 3) := by decide +kernel
theorem dL_law_314 : decode cL_law 314 = .ok (.aload_n 2, 1) := by decide +kernel
theorem dL_law_315 : decode cL_law 315 = .ok (.aload_n 0, 1) := by decide +kernel
theorem dL_law_316 : decode cL_law 316 = .ok (.iload_n 3, 1) := by decide +kernel
theorem dL_law_317 : decode cL_law 317 = .ok (.iconst 1, 1) := by decide +kernel
theorem dL_law_318 : decode cL_law 318 = .ok (.iadd, 1) := by decide +kernel
theorem dL_law_319 : decode cL_law 319 = .ok (.iaload, 1) := by decide +kernel
theorem dL_law_320 : decode cL_law 320 = .ok (.invokevirtual 39, 3) := by decide +kernel
theorem dL_law_323 : decode cL_law 323 = .ok (.if_icmp .eq 745, 3) := by decide +kernel
theorem dL_law_326 : decode cL_law 326 = .ok (.iconst 0, 1) := by decide +kernel
theorem dL_law_327 : decode cL_law 327 = .ok (.ireturn, 1) := by decide +kernel
theorem dL_law_328 : decode cL_law 328 = .ok (.aload_n 1, 1) := by decide +kernel
theorem dL_law_329 : decode cL_law 329 = .ok (.invokevirtual 40, 3) := by decide +kernel
theorem dL_law_332 : decode cL_law 332 = .ok (.aload_n 2, 1) := by decide +kernel
theorem dL_law_333 : decode cL_law 333 = .ok (.invokevirtual 44, 3) := by decide +kernel
theorem dL_law_336 : decode cL_law 336 = .ok (.if_icmp .eq 732, 3) := by decide +kernel
theorem dL_law_339 : decode cL_law 339 = .ok (.iconst 0, 1) := by decide +kernel
theorem dL_law_340 : decode cL_law 340 = .ok (.ireturn, 1) := by decide +kernel
theorem dL_law_341 : decode cL_law 341 = .ok (.aload_n 1, 1) := by decide +kernel
theorem dL_law_342 : decode cL_law 342 = .ok (.aload_n 0, 1) := by decide +kernel
theorem dL_law_343 : decode cL_law 343 = .ok (.iload_n 3, 1) := by decide +kernel
theorem dL_law_344 : decode cL_law 344 = .ok (.iconst 1, 1) := by decide +kernel
theorem dL_law_345 : decode cL_law 345 = .ok (.iadd, 1) := by decide +kernel
theorem dL_law_346 : decode cL_law 346 = .ok (.iaload, 1) := by decide +kernel
theorem dL_law_347 : decode cL_law 347 = .ok (.invokevirtual 45, 3) := by decide +kernel
theorem dL_law_350 : decode cL_law 350 = .ok (.aload_n 2, 1) := by decide +kernel
theorem dL_law_351 : decode cL_law 351 = .ok (.aload_n 0, 1) := by decide +kernel
theorem dL_law_352 : decode cL_law 352 = .ok (.iload_n 3, 1) := by decide +kernel
theorem dL_law_353 : decode cL_law 353 = .ok (.iconst 1, 1) := by decide +kernel
theorem dL_law_354 : decode cL_law 354 = .ok (.iadd, 1) := by decide +kernel
theorem dL_law_355 : decode cL_law 355 = .ok (.iaload, 1) := by decide +kernel
theorem dL_law_356 : decode cL_law 356 = .ok (.invokevirtual 48, 3) := by decide +kernel
theorem dL_law_359 : decode cL_law 359 = .ok (.if_icmp .eq 709, 3) := by decide +kernel
theorem dL_law_362 : decode cL_law 362 = .ok (.iconst 0, 1) := by decide +kernel
theorem dL_law_363 : decode cL_law 363 = .ok (.ireturn, 1) := by decide +kernel
theorem dL_law_364 : decode cL_law 364 = .ok (.aload_n 1, 1) := by decide +kernel
theorem dL_law_365 : decode cL_law 365 = .ok (.aload_n 0, 1) := by decide +kernel
theorem dL_law_366 : decode cL_law 366 = .ok (.iload_n 3, 1) := by decide +kernel
theorem dL_law_367 : decode cL_law 367 = .ok (.iconst 1, 1) := by decide +kernel
theorem dL_law_368 : decode cL_law 368 = .ok (.iadd, 1) := by decide +kernel
theorem dL_law_369 : decode cL_law 369 = .ok (.iaload, 1) := by decide +kernel
theorem dL_law_370 : decode cL_law 370 = .ok (.aload_n 0, 1) := by decide +kernel
theorem dL_law_371 : decode cL_law 371 = .ok (.iload_n 3, 1) := by decide +kernel
theorem dL_law_372 : decode cL_law 372 = .ok (.iconst 2, 1) := by decide +kernel
theorem dL_law_373 : decode cL_law 373 = .ok (.iadd, 1) := by decide +kernel
theorem dL_law_374 : decode cL_law 374 = .ok (.iaload, 1) := by decide +kernel
theorem dL_law_375 : decode cL_law 375 = .ok (.aload_n 0, 1) := by decide +kernel
theorem dL_law_376 : decode cL_law 376 = .ok (.iload_n 3, 1) := by decide +kernel
theorem dL_law_377 : decode cL_law 377 = .ok (.iconst 3, 1) := by decide +kernel
theorem dL_law_378 : decode cL_law 378 = .ok (.iadd, 1) := by decide +kernel
theorem dL_law_379 : decode cL_law 379 = .ok (.iaload, 1) := by decide +kernel
theorem dL_law_380 : decode cL_law 380 = .ok (.invokevirtual 49, 3) := by decide +kernel
theorem dL_law_383 : decode cL_law 383 = .ok (.aload_n 2, 1) := by decide +kernel
theorem dL_law_384 : decode cL_law 384 = .ok (.aload_n 0, 1) := by decide +kernel
theorem dL_law_385 : decode cL_law 385 = .ok (.iload_n 3, 1) := by decide +kernel
theorem dL_law_386 : decode cL_law 386 = .ok (.iconst 1, 1) := by decide +kernel
theorem dL_law_387 : decode cL_law 387 = .ok (.iadd, 1) := by decide +kernel
theorem dL_law_388 : decode cL_law 388 = .ok (.iaload, 1) := by decide +kernel
theorem dL_law_389 : decode cL_law 389 = .ok (.aload_n 0, 1) := by decide +kernel
theorem dL_law_390 : decode cL_law 390 = .ok (.iload_n 3, 1) := by decide +kernel
theorem dL_law_391 : decode cL_law 391 = .ok (.iconst 2, 1) := by decide +kernel
theorem dL_law_392 : decode cL_law 392 = .ok (.iadd, 1) := by decide +kernel
theorem dL_law_393 : decode cL_law 393 = .ok (.iaload, 1) := by decide +kernel
theorem dL_law_394 : decode cL_law 394 = .ok (.aload_n 0, 1) := by decide +kernel
theorem dL_law_395 : decode cL_law 395 = .ok (.iload_n 3, 1) := by decide +kernel
theorem dL_law_396 : decode cL_law 396 = .ok (.iconst 3, 1) := by decide +kernel
theorem dL_law_397 : decode cL_law 397 = .ok (.iadd, 1) := by decide +kernel
theorem dL_law_398 : decode cL_law 398 = .ok (.iaload, 1) := by decide +kernel
theorem dL_law_399 : decode cL_law 399 = .ok (.invokevirtual 53, 3) := by decide +kernel
theorem dL_law_402 : decode cL_law 402 = .ok (.if_icmp .eq 666, 3) := by decide +kernel
theorem dL_law_405 : decode cL_law 405 = .ok (.iconst 0, 1) := by decide +kernel
theorem dL_law_406 : decode cL_law 406 = .ok (.ireturn, 1) := by decide +kernel
theorem dL_law_407 : decode cL_law 407 = .ok (.aload_n 1, 1) := by decide +kernel
theorem dL_law_408 : decode cL_law 408 = .ok (.aload_n 0, 1) := by decide +kernel
theorem dL_law_409 : decode cL_law 409 = .ok (.iload_n 3, 1) := by decide +kernel
theorem dL_law_410 : decode cL_law 410 = .ok (.iconst 1, 1) := by decide +kernel
theorem dL_law_411 : decode cL_law 411 = .ok (.iadd, 1) := by decide +kernel
theorem dL_law_412 : decode cL_law 412 = .ok (.iaload, 1) := by decide +kernel
theorem dL_law_413 : decode cL_law 413 = .ok (.aload_n 0, 1) := by decide +kernel
theorem dL_law_414 : decode cL_law 414 = .ok (.iload_n 3, 1) := by decide +kernel
theorem dL_law_415 : decode cL_law 415 = .ok (.iconst 2, 1) := by decide +kernel
theorem dL_law_416 : decode cL_law 416 = .ok (.iadd, 1) := by decide +kernel
theorem dL_law_417 : decode cL_law 417 = .ok (.iaload, 1) := by decide +kernel
theorem dL_law_418 : decode cL_law 418 = .ok (.invokevirtual 54, 3) := by decide +kernel
theorem dL_law_421 : decode cL_law 421 = .ok (.aload_n 2, 1) := by decide +kernel
theorem dL_law_422 : decode cL_law 422 = .ok (.aload_n 0, 1) := by decide +kernel
theorem dL_law_423 : decode cL_law 423 = .ok (.iload_n 3, 1) := by decide +kernel
theorem dL_law_424 : decode cL_law 424 = .ok (.iconst 1, 1) := by decide +kernel
theorem dL_law_425 : decode cL_law 425 = .ok (.iadd, 1) := by decide +kernel
theorem dL_law_426 : decode cL_law 426 = .ok (.iaload, 1) := by decide +kernel
theorem dL_law_427 : decode cL_law 427 = .ok (.aload_n 0, 1) := by decide +kernel
theorem dL_law_428 : decode cL_law 428 = .ok (.iload_n 3, 1) := by decide +kernel
theorem dL_law_429 : decode cL_law 429 = .ok (.iconst 2, 1) := by decide +kernel
theorem dL_law_430 : decode cL_law 430 = .ok (.iadd, 1) := by decide +kernel
theorem dL_law_431 : decode cL_law 431 = .ok (.iaload, 1) := by decide +kernel
theorem dL_law_432 : decode cL_law 432 = .ok (.invokevirtual 57, 3) := by decide +kernel
theorem dL_law_435 : decode cL_law 435 = .ok (.if_icmp .eq 633, 3) := by decide +kernel
theorem dL_law_438 : decode cL_law 438 = .ok (.iconst 0, 1) := by decide +kernel
theorem dL_law_439 : decode cL_law 439 = .ok (.ireturn, 1) := by decide +kernel
theorem dL_law_440 : decode cL_law 440 = .ok (.aload_n 1, 1) := by decide +kernel
theorem dL_law_441 : decode cL_law 441 = .ok (.aload_n 0, 1) := by decide +kernel
theorem dL_law_442 : decode cL_law 442 = .ok (.iload_n 3, 1) := by decide +kernel
theorem dL_law_443 : decode cL_law 443 = .ok (.iconst 1, 1) := by decide +kernel
theorem dL_law_444 : decode cL_law 444 = .ok (.iadd, 1) := by decide +kernel
theorem dL_law_445 : decode cL_law 445 = .ok (.iaload, 1) := by decide +kernel
theorem dL_law_446 : decode cL_law 446 = .ok (.invokevirtual 58, 3) := by decide +kernel
theorem dL_law_449 : decode cL_law 449 = .ok (.aload_n 2, 1) := by decide +kernel
theorem dL_law_450 : decode cL_law 450 = .ok (.aload_n 0, 1) := by decide +kernel
theorem dL_law_451 : decode cL_law 451 = .ok (.iload_n 3, 1) := by decide +kernel
theorem dL_law_452 : decode cL_law 452 = .ok (.iconst 1, 1) := by decide +kernel
theorem dL_law_453 : decode cL_law 453 = .ok (.iadd, 1) := by decide +kernel
theorem dL_law_454 : decode cL_law 454 = .ok (.iaload, 1) := by decide +kernel
theorem dL_law_455 : decode cL_law 455 = .ok (.invokevirtual 61, 3) := by decide +kernel
theorem dL_law_458 : decode cL_law 458 = .ok (.if_icmp .eq 610, 3) := by decide +kernel
theorem dL_law_461 : decode cL_law 461 = .ok (.iconst 0, 1) := by decide +kernel
theorem dL_law_462 : decode cL_law 462 = .ok (.ireturn, 1) := by decide +kernel
theorem dL_law_463 : decode cL_law 463 = .ok (.aload_n 1, 1) := by decide +kernel
theorem dL_law_464 : decode cL_law 464 = .ok (.aload_n 0, 1) := by decide +kernel
theorem dL_law_465 : decode cL_law 465 = .ok (.iload_n 3, 1) := by decide +kernel
theorem dL_law_466 : decode cL_law 466 = .ok (.iconst 1, 1) := by decide +kernel
theorem dL_law_467 : decode cL_law 467 = .ok (.iadd, 1) := by decide +kernel
theorem dL_law_468 : decode cL_law 468 = .ok (.iaload, 1) := by decide +kernel
theorem dL_law_469 : decode cL_law 469 = .ok (.invokevirtual 62, 3) := by decide +kernel
theorem dL_law_472 : decode cL_law 472 = .ok (.aload_n 2, 1) := by decide +kernel
theorem dL_law_473 : decode cL_law 473 = .ok (.aload_n 0, 1) := by decide +kernel
theorem dL_law_474 : decode cL_law 474 = .ok (.iload_n 3, 1) := by decide +kernel
theorem dL_law_475 : decode cL_law 475 = .ok (.iconst 1, 1) := by decide +kernel
theorem dL_law_476 : decode cL_law 476 = .ok (.iadd, 1) := by decide +kernel
theorem dL_law_477 : decode cL_law 477 = .ok (.iaload, 1) := by decide +kernel
theorem dL_law_478 : decode cL_law 478 = .ok (.invokevirtual 65, 3) := by decide +kernel
theorem dL_law_481 : decode cL_law 481 = .ok (.if_icmp .eq 587, 3) := by decide +kernel
theorem dL_law_484 : decode cL_law 484 = .ok (.iconst 0, 1) := by decide +kernel
theorem dL_law_485 : decode cL_law 485 = .ok (.ireturn, 1) := by decide +kernel
theorem dL_law_486 : decode cL_law 486 = .ok (.aload_n 1, 1) := by decide +kernel
theorem dL_law_487 : decode cL_law 487 = .ok (.invokevirtual 66, 3) := by decide +kernel
theorem dL_law_490 : decode cL_law 490 = .ok (.aload_n 2, 1) := by decide +kernel
theorem dL_law_491 : decode cL_law 491 = .ok (.invokevirtual 69, 3) := by decide +kernel
theorem dL_law_494 : decode cL_law 494 = .ok (.if_icmp .eq 574, 3) := by decide +kernel
theorem dL_law_497 : decode cL_law 497 = .ok (.iconst 0, 1) := by decide +kernel
theorem dL_law_498 : decode cL_law 498 = .ok (.ireturn, 1) := by decide +kernel
theorem dL_law_499 : decode cL_law 499 = .ok (.aload_n 1, 1) := by decide +kernel
theorem dL_law_500 : decode cL_law 500 = .ok (.aload_n 0, 1) := by decide +kernel
theorem dL_law_501 : decode cL_law 501 = .ok (.iload_n 3, 1) := by decide +kernel
theorem dL_law_502 : decode cL_law 502 = .ok (.iconst 1, 1) := by decide +kernel
theorem dL_law_503 : decode cL_law 503 = .ok (.iadd, 1) := by decide +kernel
theorem dL_law_504 : decode cL_law 504 = .ok (.iaload, 1) := by decide +kernel
theorem dL_law_505 : decode cL_law 505 = .ok (.aload_n 0, 1) := by decide +kernel
theorem dL_law_506 : decode cL_law 506 = .ok (.iload_n 3, 1) := by decide +kernel
theorem dL_law_507 : decode cL_law 507 = .ok (.iconst 2, 1) := by decide +kernel
theorem dL_law_508 : decode cL_law 508 = .ok (.iadd, 1) := by decide +kernel
theorem dL_law_509 : decode cL_law 509 = .ok (.iaload, 1) := by decide +kernel
theorem dL_law_510 : decode cL_law 510 = .ok (.invokevirtual 70, 3) := by decide +kernel
theorem dL_law_513 : decode cL_law 513 = .ok (.aload_n 2, 1) := by decide +kernel
theorem dL_law_514 : decode cL_law 514 = .ok (.aload_n 0, 1) := by decide +kernel
theorem dL_law_515 : decode cL_law 515 = .ok (.iload_n 3, 1) := by decide +kernel
theorem dL_law_516 : decode cL_law 516 = .ok (.iconst 1, 1) := by decide +kernel
theorem dL_law_517 : decode cL_law 517 = .ok (.iadd, 1) := by decide +kernel
theorem dL_law_518 : decode cL_law 518 = .ok (.iaload, 1) := by decide +kernel
theorem dL_law_519 : decode cL_law 519 = .ok (.aload_n 0, 1) := by decide +kernel
theorem dL_law_520 : decode cL_law 520 = .ok (.iload_n 3, 1) := by decide +kernel
theorem dL_law_521 : decode cL_law 521 = .ok (.iconst 2, 1) := by decide +kernel
theorem dL_law_522 : decode cL_law 522 = .ok (.iadd, 1) := by decide +kernel
theorem dL_law_523 : decode cL_law 523 = .ok (.iaload, 1) := by decide +kernel
theorem dL_law_524 : decode cL_law 524 = .ok (.invokevirtual 73, 3) := by decide +kernel
theorem dL_law_527 : decode cL_law 527 = .ok (.if_icmp .eq 541, 3) := by decide +kernel
theorem dL_law_530 : decode cL_law 530 = .ok (.iconst 0, 1) := by decide +kernel
theorem dL_law_531 : decode cL_law 531 = .ok (.ireturn, 1) := by decide +kernel
theorem dL_law_532 : decode cL_law 532 = .ok (.aload_n 1, 1) := by decide +kernel
theorem dL_law_533 : decode cL_law 533 = .ok (.aload_n 0, 1) := by decide +kernel
theorem dL_law_534 : decode cL_law 534 = .ok (.iload_n 3, 1) := by decide +kernel
theorem dL_law_535 : decode cL_law 535 = .ok (.iconst 1, 1) := by decide +kernel
theorem dL_law_536 : decode cL_law 536 = .ok (.iadd, 1) := by decide +kernel
theorem dL_law_537 : decode cL_law 537 = .ok (.iaload, 1) := by decide +kernel
theorem dL_law_538 : decode cL_law 538 = .ok (.aload_n 0, 1) := by decide +kernel
theorem dL_law_539 : decode cL_law 539 = .ok (.iload_n 3, 1) := by decide +kernel
theorem dL_law_540 : decode cL_law 540 = .ok (.iconst 2, 1) := by decide +kernel
theorem dL_law_541 : decode cL_law 541 = .ok (.iadd, 1) := by decide +kernel
theorem dL_law_542 : decode cL_law 542 = .ok (.iaload, 1) := by decide +kernel
theorem dL_law_543 : decode cL_law 543 = .ok (.aload_n 0, 1) := by decide +kernel
theorem dL_law_544 : decode cL_law 544 = .ok (.iload_n 3, 1) := by decide +kernel
theorem dL_law_545 : decode cL_law 545 = .ok (.iconst 3, 1) := by decide +kernel
theorem dL_law_546 : decode cL_law 546 = .ok (.iadd, 1) := by decide +kernel
theorem dL_law_547 : decode cL_law 547 = .ok (.iaload, 1) := by decide +kernel
theorem dL_law_548 : decode cL_law 548 = .ok (.aload_n 0, 1) := by decide +kernel
theorem dL_law_549 : decode cL_law 549 = .ok (.iload_n 3, 1) := by decide +kernel
theorem dL_law_550 : decode cL_law 550 = .ok (.iconst 4, 1) := by decide +kernel
theorem dL_law_551 : decode cL_law 551 = .ok (.iadd, 1) := by decide +kernel
theorem dL_law_552 : decode cL_law 552 = .ok (.iaload, 1) := by decide +kernel
theorem dL_law_553 : decode cL_law 553 = .ok (.invokevirtual 74, 3) := by decide +kernel
theorem dL_law_556 : decode cL_law 556 = .ok (.aload_n 2, 1) := by decide +kernel
theorem dL_law_557 : decode cL_law 557 = .ok (.aload_n 0, 1) := by decide +kernel
theorem dL_law_558 : decode cL_law 558 = .ok (.iload_n 3, 1) := by decide +kernel
theorem dL_law_559 : decode cL_law 559 = .ok (.iconst 1, 1) := by decide +kernel
theorem dL_law_560 : decode cL_law 560 = .ok (.iadd, 1) := by decide +kernel
theorem dL_law_561 : decode cL_law 561 = .ok (.iaload, 1) := by decide +kernel
theorem dL_law_562 : decode cL_law 562 = .ok (.aload_n 0, 1) := by decide +kernel
theorem dL_law_563 : decode cL_law 563 = .ok (.iload_n 3, 1) := by decide +kernel
theorem dL_law_564 : decode cL_law 564 = .ok (.iconst 2, 1) := by decide +kernel
theorem dL_law_565 : decode cL_law 565 = .ok (.iadd, 1) := by decide +kernel
theorem dL_law_566 : decode cL_law 566 = .ok (.iaload, 1) := by decide +kernel
theorem dL_law_567 : decode cL_law 567 = .ok (.aload_n 0, 1) := by decide +kernel
theorem dL_law_568 : decode cL_law 568 = .ok (.iload_n 3, 1) := by decide +kernel
theorem dL_law_569 : decode cL_law 569 = .ok (.iconst 3, 1) := by decide +kernel
theorem dL_law_570 : decode cL_law 570 = .ok (.iadd, 1) := by decide +kernel
theorem dL_law_571 : decode cL_law 571 = .ok (.iaload, 1) := by decide +kernel
theorem dL_law_572 : decode cL_law 572 = .ok (.aload_n 0, 1) := by decide +kernel
theorem dL_law_573 : decode cL_law 573 = .ok (.iload_n 3, 1) := by decide +kernel
theorem dL_law_574 : decode cL_law 574 = .ok (.iconst 4, 1) := by decide +kernel
theorem dL_law_575 : decode cL_law 575 = .ok (.iadd, 1) := by decide +kernel
theorem dL_law_576 : decode cL_law 576 = .ok (.iaload, 1) := by decide +kernel
theorem dL_law_577 : decode cL_law 577 = .ok (.invokevirtual 78, 3) := by decide +kernel
theorem dL_law_580 : decode cL_law 580 = .ok (.if_icmp .eq 488, 3) := by decide +kernel
theorem dL_law_583 : decode cL_law 583 = .ok (.iconst 0, 1) := by decide +kernel
theorem dL_law_584 : decode cL_law 584 = .ok (.ireturn, 1) := by decide +kernel
theorem dL_law_585 : decode cL_law 585 = .ok (.aload_n 1, 1) := by decide +kernel
theorem dL_law_586 : decode cL_law 586 = .ok (.aload_n 0, 1) := by decide +kernel
theorem dL_law_587 : decode cL_law 587 = .ok (.iload_n 3, 1) := by decide +kernel
theorem dL_law_588 : decode cL_law 588 = .ok (.iconst 1, 1) := by decide +kernel
theorem dL_law_589 : decode cL_law 589 = .ok (.iadd, 1) := by decide +kernel
theorem dL_law_590 : decode cL_law 590 = .ok (.iaload, 1) := by decide +kernel
theorem dL_law_591 : decode cL_law 591 = .ok (.aload_n 0, 1) := by decide +kernel
theorem dL_law_592 : decode cL_law 592 = .ok (.iload_n 3, 1) := by decide +kernel
theorem dL_law_593 : decode cL_law 593 = .ok (.iconst 2, 1) := by decide +kernel
theorem dL_law_594 : decode cL_law 594 = .ok (.iadd, 1) := by decide +kernel
theorem dL_law_595 : decode cL_law 595 = .ok (.iaload, 1) := by decide +kernel
theorem dL_law_596 : decode cL_law 596 = .ok (.aload_n 0, 1) := by decide +kernel
theorem dL_law_597 : decode cL_law 597 = .ok (.iload_n 3, 1) := by decide +kernel
theorem dL_law_598 : decode cL_law 598 = .ok (.iconst 3, 1) := by decide +kernel
theorem dL_law_599 : decode cL_law 599 = .ok (.iadd, 1) := by decide +kernel
theorem dL_law_600 : decode cL_law 600 = .ok (.iaload, 1) := by decide +kernel
theorem dL_law_601 : decode cL_law 601 = .ok (.aload_n 0, 1) := by decide +kernel
theorem dL_law_602 : decode cL_law 602 = .ok (.iload_n 3, 1) := by decide +kernel
theorem dL_law_603 : decode cL_law 603 = .ok (.iconst 4, 1) := by decide +kernel
theorem dL_law_604 : decode cL_law 604 = .ok (.iadd, 1) := by decide +kernel
theorem dL_law_605 : decode cL_law 605 = .ok (.iaload, 1) := by decide +kernel
theorem dL_law_606 : decode cL_law 606 = .ok (.invokevirtual 79, 3) := by decide +kernel
theorem dL_law_609 : decode cL_law 609 = .ok (.aload_n 2, 1) := by decide +kernel
theorem dL_law_610 : decode cL_law 610 = .ok (.aload_n 0, 1) := by decide +kernel
theorem dL_law_611 : decode cL_law 611 = .ok (.iload_n 3, 1) := by decide +kernel
theorem dL_law_612 : decode cL_law 612 = .ok (.iconst 1, 1) := by decide +kernel
theorem dL_law_613 : decode cL_law 613 = .ok (.iadd, 1) := by decide +kernel
theorem dL_law_614 : decode cL_law 614 = .ok (.iaload, 1) := by decide +kernel
theorem dL_law_615 : decode cL_law 615 = .ok (.aload_n 0, 1) := by decide +kernel
theorem dL_law_616 : decode cL_law 616 = .ok (.iload_n 3, 1) := by decide +kernel
theorem dL_law_617 : decode cL_law 617 = .ok (.iconst 2, 1) := by decide +kernel
theorem dL_law_618 : decode cL_law 618 = .ok (.iadd, 1) := by decide +kernel
theorem dL_law_619 : decode cL_law 619 = .ok (.iaload, 1) := by decide +kernel
theorem dL_law_620 : decode cL_law 620 = .ok (.aload_n 0, 1) := by decide +kernel
theorem dL_law_621 : decode cL_law 621 = .ok (.iload_n 3, 1) := by decide +kernel
theorem dL_law_622 : decode cL_law 622 = .ok (.iconst 3, 1) := by decide +kernel
theorem dL_law_623 : decode cL_law 623 = .ok (.iadd, 1) := by decide +kernel
theorem dL_law_624 : decode cL_law 624 = .ok (.iaload, 1) := by decide +kernel
theorem dL_law_625 : decode cL_law 625 = .ok (.aload_n 0, 1) := by decide +kernel
theorem dL_law_626 : decode cL_law 626 = .ok (.iload_n 3, 1) := by decide +kernel
theorem dL_law_627 : decode cL_law 627 = .ok (.iconst 4, 1) := by decide +kernel
theorem dL_law_628 : decode cL_law 628 = .ok (.iadd, 1) := by decide +kernel
theorem dL_law_629 : decode cL_law 629 = .ok (.iaload, 1) := by decide +kernel
theorem dL_law_630 : decode cL_law 630 = .ok (.invokevirtual 82, 3) := by decide +kernel
theorem dL_law_633 : decode cL_law 633 = .ok (.if_icmp .eq 435, 3) := by decide +kernel
theorem dL_law_636 : decode cL_law 636 = .ok (.iconst 0, 1) := by decide +kernel
theorem dL_law_637 : decode cL_law 637 = .ok (.ireturn, 1) := by decide +kernel
theorem dL_law_638 : decode cL_law 638 = .ok (.aload_n 1, 1) := by decide +kernel
theorem dL_law_639 : decode cL_law 639 = .ok (.aload_n 0, 1) := by decide +kernel
theorem dL_law_640 : decode cL_law 640 = .ok (.iload_n 3, 1) := by decide +kernel
theorem dL_law_641 : decode cL_law 641 = .ok (.iconst 1, 1) := by decide +kernel
theorem dL_law_642 : decode cL_law 642 = .ok (.iadd, 1) := by decide +kernel
theorem dL_law_643 : decode cL_law 643 = .ok (.iaload, 1) := by decide +kernel
theorem dL_law_644 : decode cL_law 644 = .ok (.aload_n 0, 1) := by decide +kernel
theorem dL_law_645 : decode cL_law 645 = .ok (.iload_n 3, 1) := by decide +kernel
theorem dL_law_646 : decode cL_law 646 = .ok (.iconst 2, 1) := by decide +kernel
theorem dL_law_647 : decode cL_law 647 = .ok (.iadd, 1) := by decide +kernel
theorem dL_law_648 : decode cL_law 648 = .ok (.iaload, 1) := by decide +kernel
theorem dL_law_649 : decode cL_law 649 = .ok (.aload_n 0, 1) := by decide +kernel
theorem dL_law_650 : decode cL_law 650 = .ok (.iload_n 3, 1) := by decide +kernel
theorem dL_law_651 : decode cL_law 651 = .ok (.iconst 3, 1) := by decide +kernel
theorem dL_law_652 : decode cL_law 652 = .ok (.iadd, 1) := by decide +kernel
theorem dL_law_653 : decode cL_law 653 = .ok (.iaload, 1) := by decide +kernel
theorem dL_law_654 : decode cL_law 654 = .ok (.aload_n 0, 1) := by decide +kernel
theorem dL_law_655 : decode cL_law 655 = .ok (.iload_n 3, 1) := by decide +kernel
theorem dL_law_656 : decode cL_law 656 = .ok (.iconst 4, 1) := by decide +kernel
theorem dL_law_657 : decode cL_law 657 = .ok (.iadd, 1) := by decide +kernel
theorem dL_law_658 : decode cL_law 658 = .ok (.iaload, 1) := by decide +kernel
theorem dL_law_659 : decode cL_law 659 = .ok (.aload_n 0, 1) := by decide +kernel
theorem dL_law_660 : decode cL_law 660 = .ok (.iload_n 3, 1) := by decide +kernel
theorem dL_law_661 : decode cL_law 661 = .ok (.iconst 5, 1) := by decide +kernel
theorem dL_law_662 : decode cL_law 662 = .ok (.iadd, 1) := by decide +kernel
theorem dL_law_663 : decode cL_law 663 = .ok (.iaload, 1) := by decide +kernel
theorem dL_law_664 : decode cL_law 664 = .ok (.invokevirtual 83, 3) := by decide +kernel
theorem dL_law_667 : decode cL_law 667 = .ok (.aload_n 2, 1) := by decide +kernel
theorem dL_law_668 : decode cL_law 668 = .ok (.aload_n 0, 1) := by decide +kernel
theorem dL_law_669 : decode cL_law 669 = .ok (.iload_n 3, 1) := by decide +kernel
theorem dL_law_670 : decode cL_law 670 = .ok (.iconst 1, 1) := by decide +kernel
theorem dL_law_671 : decode cL_law 671 = .ok (.iadd, 1) := by decide +kernel
theorem dL_law_672 : decode cL_law 672 = .ok (.iaload, 1) := by decide +kernel
theorem dL_law_673 : decode cL_law 673 = .ok (.aload_n 0, 1) := by decide +kernel
theorem dL_law_674 : decode cL_law 674 = .ok (.iload_n 3, 1) := by decide +kernel
theorem dL_law_675 : decode cL_law 675 = .ok (.iconst 2, 1) := by decide +kernel
theorem dL_law_676 : decode cL_law 676 = .ok (.iadd, 1) := by decide +kernel
theorem dL_law_677 : decode cL_law 677 = .ok (.iaload, 1) := by decide +kernel
theorem dL_law_678 : decode cL_law 678 = .ok (.aload_n 0, 1) := by decide +kernel
theorem dL_law_679 : decode cL_law 679 = .ok (.iload_n 3, 1) := by decide +kernel
theorem dL_law_680 : decode cL_law 680 = .ok (.iconst 3, 1) := by decide +kernel
theorem dL_law_681 : decode cL_law 681 = .ok (.iadd, 1) := by decide +kernel
theorem dL_law_682 : decode cL_law 682 = .ok (.iaload, 1) := by decide +kernel
theorem dL_law_683 : decode cL_law 683 = .ok (.aload_n 0, 1) := by decide +kernel
theorem dL_law_684 : decode cL_law 684 = .ok (.iload_n 3, 1) := by decide +kernel
theorem dL_law_685 : decode cL_law 685 = .ok (.iconst 4, 1) := by decide +kernel
theorem dL_law_686 : decode cL_law 686 = .ok (.iadd, 1) := by decide +kernel
theorem dL_law_687 : decode cL_law 687 = .ok (.iaload, 1) := by decide +kernel
theorem dL_law_688 : decode cL_law 688 = .ok (.aload_n 0, 1) := by decide +kernel
theorem dL_law_689 : decode cL_law 689 = .ok (.iload_n 3, 1) := by decide +kernel
theorem dL_law_690 : decode cL_law 690 = .ok (.iconst 5, 1) := by decide +kernel
theorem dL_law_691 : decode cL_law 691 = .ok (.iadd, 1) := by decide +kernel
theorem dL_law_692 : decode cL_law 692 = .ok (.iaload, 1) := by decide +kernel
theorem dL_law_693 : decode cL_law 693 = .ok (.invokevirtual 87, 3) := by decide +kernel
theorem dL_law_696 : decode cL_law 696 = .ok (.lcmp, 1) := by decide +kernel
theorem dL_law_697 : decode cL_law 697 = .ok (.ifCond .eq 371, 3) := by decide +kernel
theorem dL_law_700 : decode cL_law 700 = .ok (.iconst 0, 1) := by decide +kernel
theorem dL_law_701 : decode cL_law 701 = .ok (.ireturn, 1) := by decide +kernel
theorem dL_law_702 : decode cL_law 702 = .ok (.aload_n 1, 1) := by decide +kernel
theorem dL_law_703 : decode cL_law 703 = .ok (.aload_n 0, 1) := by decide +kernel
theorem dL_law_704 : decode cL_law 704 = .ok (.iload_n 3, 1) := by decide +kernel
theorem dL_law_705 : decode cL_law 705 = .ok (.iconst 1, 1) := by decide +kernel
theorem dL_law_706 : decode cL_law 706 = .ok (.iadd, 1) := by decide +kernel
theorem dL_law_707 : decode cL_law 707 = .ok (.iaload, 1) := by decide +kernel
theorem dL_law_708 : decode cL_law 708 = .ok (.aload_n 0, 1) := by decide +kernel
theorem dL_law_709 : decode cL_law 709 = .ok (.iload_n 3, 1) := by decide +kernel
theorem dL_law_710 : decode cL_law 710 = .ok (.iconst 2, 1) := by decide +kernel
theorem dL_law_711 : decode cL_law 711 = .ok (.iadd, 1) := by decide +kernel
theorem dL_law_712 : decode cL_law 712 = .ok (.iaload, 1) := by decide +kernel
theorem dL_law_713 : decode cL_law 713 = .ok (.aload_n 0, 1) := by decide +kernel
theorem dL_law_714 : decode cL_law 714 = .ok (.iload_n 3, 1) := by decide +kernel
theorem dL_law_715 : decode cL_law 715 = .ok (.iconst 3, 1) := by decide +kernel
theorem dL_law_716 : decode cL_law 716 = .ok (.iadd, 1) := by decide +kernel
theorem dL_law_717 : decode cL_law 717 = .ok (.iaload, 1) := by decide +kernel
theorem dL_law_718 : decode cL_law 718 = .ok (.invokevirtual 88, 3) := by decide +kernel
theorem dL_law_721 : decode cL_law 721 = .ok (.aload_n 2, 1) := by decide +kernel
theorem dL_law_722 : decode cL_law 722 = .ok (.aload_n 0, 1) := by decide +kernel
theorem dL_law_723 : decode cL_law 723 = .ok (.iload_n 3, 1) := by decide +kernel
theorem dL_law_724 : decode cL_law 724 = .ok (.iconst 1, 1) := by decide +kernel
theorem dL_law_725 : decode cL_law 725 = .ok (.iadd, 1) := by decide +kernel
theorem dL_law_726 : decode cL_law 726 = .ok (.iaload, 1) := by decide +kernel
theorem dL_law_727 : decode cL_law 727 = .ok (.aload_n 0, 1) := by decide +kernel
theorem dL_law_728 : decode cL_law 728 = .ok (.iload_n 3, 1) := by decide +kernel
theorem dL_law_729 : decode cL_law 729 = .ok (.iconst 2, 1) := by decide +kernel
theorem dL_law_730 : decode cL_law 730 = .ok (.iadd, 1) := by decide +kernel
theorem dL_law_731 : decode cL_law 731 = .ok (.iaload, 1) := by decide +kernel
theorem dL_law_732 : decode cL_law 732 = .ok (.aload_n 0, 1) := by decide +kernel
theorem dL_law_733 : decode cL_law 733 = .ok (.iload_n 3, 1) := by decide +kernel
theorem dL_law_734 : decode cL_law 734 = .ok (.iconst 3, 1) := by decide +kernel
theorem dL_law_735 : decode cL_law 735 = .ok (.iadd, 1) := by decide +kernel
theorem dL_law_736 : decode cL_law 736 = .ok (.iaload, 1) := by decide +kernel
theorem dL_law_737 : decode cL_law 737 = .ok (.invokevirtual 91, 3) := by decide +kernel
theorem dL_law_740 : decode cL_law 740 = .ok (.if_icmp .eq 328, 3) := by decide +kernel
theorem dL_law_743 : decode cL_law 743 = .ok (.iconst 0, 1) := by decide +kernel
theorem dL_law_744 : decode cL_law 744 = .ok (.ireturn, 1) := by decide +kernel
theorem dL_law_745 : decode cL_law 745 = .ok (.aload_n 1, 1) := by decide +kernel
theorem dL_law_746 : decode cL_law 746 = .ok (.invokevirtual 92, 3) := by decide +kernel
theorem dL_law_749 : decode cL_law 749 = .ok (.aload_n 2, 1) := by decide +kernel
theorem dL_law_750 : decode cL_law 750 = .ok (.invokevirtual 95, 3) := by decide +kernel
theorem dL_law_753 : decode cL_law 753 = .ok (.if_icmp .eq 315, 3) := by decide +kernel
theorem dL_law_756 : decode cL_law 756 = .ok (.iconst 0, 1) := by decide +kernel
theorem dL_law_757 : decode cL_law 757 = .ok (.ireturn, 1) := by decide +kernel
theorem dL_law_758 : decode cL_law 758 = .ok (.aload_n 1, 1) := by decide +kernel
theorem dL_law_759 : decode cL_law 759 = .ok (.aload_n 0, 1) := by decide +kernel
theorem dL_law_760 : decode cL_law 760 = .ok (.iload_n 3, 1) := by decide +kernel
theorem dL_law_761 : decode cL_law 761 = .ok (.iconst 1, 1) := by decide +kernel
theorem dL_law_762 : decode cL_law 762 = .ok (.iadd, 1) := by decide +kernel
theorem dL_law_763 : decode cL_law 763 = .ok (.iaload, 1) := by decide +kernel
theorem dL_law_764 : decode cL_law 764 = .ok (.aload_n 0, 1) := by decide +kernel
theorem dL_law_765 : decode cL_law 765 = .ok (.iload_n 3, 1) := by decide +kernel
theorem dL_law_766 : decode cL_law 766 = .ok (.iconst 2, 1) := by decide +kernel
theorem dL_law_767 : decode cL_law 767 = .ok (.iadd, 1) := by decide +kernel
theorem dL_law_768 : decode cL_law 768 = .ok (.iaload, 1) := by decide +kernel
theorem dL_law_769 : decode cL_law 769 = .ok (.aload_n 0, 1) := by decide +kernel
theorem dL_law_770 : decode cL_law 770 = .ok (.iload_n 3, 1) := by decide +kernel
theorem dL_law_771 : decode cL_law 771 = .ok (.iconst 3, 1) := by decide +kernel
theorem dL_law_772 : decode cL_law 772 = .ok (.iadd, 1) := by decide +kernel
theorem dL_law_773 : decode cL_law 773 = .ok (.iaload, 1) := by decide +kernel
theorem dL_law_774 : decode cL_law 774 = .ok (.invokevirtual 96, 3) := by decide +kernel
theorem dL_law_777 : decode cL_law 777 = .ok (.aload_n 2, 1) := by decide +kernel
theorem dL_law_778 : decode cL_law 778 = .ok (.aload_n 0, 1) := by decide +kernel
theorem dL_law_779 : decode cL_law 779 = .ok (.iload_n 3, 1) := by decide +kernel
theorem dL_law_780 : decode cL_law 780 = .ok (.iconst 1, 1) := by decide +kernel
theorem dL_law_781 : decode cL_law 781 = .ok (.iadd, 1) := by decide +kernel
theorem dL_law_782 : decode cL_law 782 = .ok (.iaload, 1) := by decide +kernel
theorem dL_law_783 : decode cL_law 783 = .ok (.aload_n 0, 1) := by decide +kernel
theorem dL_law_784 : decode cL_law 784 = .ok (.iload_n 3, 1) := by decide +kernel
theorem dL_law_785 : decode cL_law 785 = .ok (.iconst 2, 1) := by decide +kernel
theorem dL_law_786 : decode cL_law 786 = .ok (.iadd, 1) := by decide +kernel
theorem dL_law_787 : decode cL_law 787 = .ok (.iaload, 1) := by decide +kernel
theorem dL_law_788 : decode cL_law 788 = .ok (.aload_n 0, 1) := by decide +kernel
theorem dL_law_789 : decode cL_law 789 = .ok (.iload_n 3, 1) := by decide +kernel
theorem dL_law_790 : decode cL_law 790 = .ok (.iconst 3, 1) := by decide +kernel
theorem dL_law_791 : decode cL_law 791 = .ok (.iadd, 1) := by decide +kernel
theorem dL_law_792 : decode cL_law 792 = .ok (.iaload, 1) := by decide +kernel
theorem dL_law_793 : decode cL_law 793 = .ok (.invokevirtual 99, 3) := by decide +kernel
theorem dL_law_796 : decode cL_law 796 = .ok (.if_icmp .eq 272, 3) := by decide +kernel
theorem dL_law_799 : decode cL_law 799 = .ok (.iconst 0, 1) := by decide +kernel
theorem dL_law_800 : decode cL_law 800 = .ok (.ireturn, 1) := by decide +kernel
theorem dL_law_801 : decode cL_law 801 = .ok (.aload_n 1, 1) := by decide +kernel
theorem dL_law_802 : decode cL_law 802 = .ok (.aload_n 0, 1) := by decide +kernel
theorem dL_law_803 : decode cL_law 803 = .ok (.iload_n 3, 1) := by decide +kernel
theorem dL_law_804 : decode cL_law 804 = .ok (.iconst 1, 1) := by decide +kernel
theorem dL_law_805 : decode cL_law 805 = .ok (.iadd, 1) := by decide +kernel
theorem dL_law_806 : decode cL_law 806 = .ok (.iaload, 1) := by decide +kernel
theorem dL_law_807 : decode cL_law 807 = .ok (.invokevirtual 100, 3) := by decide +kernel
theorem dL_law_810 : decode cL_law 810 = .ok (.aload_n 2, 1) := by decide +kernel
theorem dL_law_811 : decode cL_law 811 = .ok (.aload_n 0, 1) := by decide +kernel
theorem dL_law_812 : decode cL_law 812 = .ok (.iload_n 3, 1) := by decide +kernel
theorem dL_law_813 : decode cL_law 813 = .ok (.iconst 1, 1) := by decide +kernel
theorem dL_law_814 : decode cL_law 814 = .ok (.iadd, 1) := by decide +kernel
theorem dL_law_815 : decode cL_law 815 = .ok (.iaload, 1) := by decide +kernel
theorem dL_law_816 : decode cL_law 816 = .ok (.invokevirtual 103, 3) := by decide +kernel
theorem dL_law_819 : decode cL_law 819 = .ok (.if_icmp .eq 249, 3) := by decide +kernel
theorem dL_law_822 : decode cL_law 822 = .ok (.iconst 0, 1) := by decide +kernel
theorem dL_law_823 : decode cL_law 823 = .ok (.ireturn, 1) := by decide +kernel
theorem dL_law_824 : decode cL_law 824 = .ok (.aload_n 1, 1) := by decide +kernel
theorem dL_law_825 : decode cL_law 825 = .ok (.aload_n 0, 1) := by decide +kernel
theorem dL_law_826 : decode cL_law 826 = .ok (.iload_n 3, 1) := by decide +kernel
theorem dL_law_827 : decode cL_law 827 = .ok (.iconst 1, 1) := by decide +kernel
theorem dL_law_828 : decode cL_law 828 = .ok (.iadd, 1) := by decide +kernel
theorem dL_law_829 : decode cL_law 829 = .ok (.iaload, 1) := by decide +kernel
theorem dL_law_830 : decode cL_law 830 = .ok (.invokevirtual 104, 3) := by decide +kernel
theorem dL_law_833 : decode cL_law 833 = .ok (.aload_n 2, 1) := by decide +kernel
theorem dL_law_834 : decode cL_law 834 = .ok (.aload_n 0, 1) := by decide +kernel
theorem dL_law_835 : decode cL_law 835 = .ok (.iload_n 3, 1) := by decide +kernel
theorem dL_law_836 : decode cL_law 836 = .ok (.iconst 1, 1) := by decide +kernel
theorem dL_law_837 : decode cL_law 837 = .ok (.iadd, 1) := by decide +kernel
theorem dL_law_838 : decode cL_law 838 = .ok (.iaload, 1) := by decide +kernel
theorem dL_law_839 : decode cL_law 839 = .ok (.invokevirtual 107, 3) := by decide +kernel
theorem dL_law_842 : decode cL_law 842 = .ok (.if_icmp .eq 226, 3) := by decide +kernel
theorem dL_law_845 : decode cL_law 845 = .ok (.iconst 0, 1) := by decide +kernel
theorem dL_law_846 : decode cL_law 846 = .ok (.ireturn, 1) := by decide +kernel
theorem dL_law_847 : decode cL_law 847 = .ok (.aload_n 1, 1) := by decide +kernel
theorem dL_law_848 : decode cL_law 848 = .ok (.aload_n 0, 1) := by decide +kernel
theorem dL_law_849 : decode cL_law 849 = .ok (.iload_n 3, 1) := by decide +kernel
theorem dL_law_850 : decode cL_law 850 = .ok (.iconst 1, 1) := by decide +kernel
theorem dL_law_851 : decode cL_law 851 = .ok (.iadd, 1) := by decide +kernel
theorem dL_law_852 : decode cL_law 852 = .ok (.iaload, 1) := by decide +kernel
theorem dL_law_853 : decode cL_law 853 = .ok (.aload_n 0, 1) := by decide +kernel
theorem dL_law_854 : decode cL_law 854 = .ok (.iload_n 3, 1) := by decide +kernel
theorem dL_law_855 : decode cL_law 855 = .ok (.iconst 2, 1) := by decide +kernel
theorem dL_law_856 : decode cL_law 856 = .ok (.iadd, 1) := by decide +kernel
theorem dL_law_857 : decode cL_law 857 = .ok (.iaload, 1) := by decide +kernel
theorem dL_law_858 : decode cL_law 858 = .ok (.aload_n 0, 1) := by decide +kernel
theorem dL_law_859 : decode cL_law 859 = .ok (.iload_n 3, 1) := by decide +kernel
theorem dL_law_860 : decode cL_law 860 = .ok (.iconst 3, 1) := by decide +kernel
theorem dL_law_861 : decode cL_law 861 = .ok (.iadd, 1) := by decide +kernel
theorem dL_law_862 : decode cL_law 862 = .ok (.iaload, 1) := by decide +kernel
theorem dL_law_863 : decode cL_law 863 = .ok (.invokevirtual 108, 3) := by decide +kernel
theorem dL_law_866 : decode cL_law 866 = .ok (.aload_n 2, 1) := by decide +kernel
theorem dL_law_867 : decode cL_law 867 = .ok (.aload_n 0, 1) := by decide +kernel
theorem dL_law_868 : decode cL_law 868 = .ok (.iload_n 3, 1) := by decide +kernel
theorem dL_law_869 : decode cL_law 869 = .ok (.iconst 1, 1) := by decide +kernel
theorem dL_law_870 : decode cL_law 870 = .ok (.iadd, 1) := by decide +kernel
theorem dL_law_871 : decode cL_law 871 = .ok (.iaload, 1) := by decide +kernel
theorem dL_law_872 : decode cL_law 872 = .ok (.aload_n 0, 1) := by decide +kernel
theorem dL_law_873 : decode cL_law 873 = .ok (.iload_n 3, 1) := by decide +kernel
theorem dL_law_874 : decode cL_law 874 = .ok (.iconst 2, 1) := by decide +kernel
theorem dL_law_875 : decode cL_law 875 = .ok (.iadd, 1) := by decide +kernel
theorem dL_law_876 : decode cL_law 876 = .ok (.iaload, 1) := by decide +kernel
theorem dL_law_877 : decode cL_law 877 = .ok (.aload_n 0, 1) := by decide +kernel
theorem dL_law_878 : decode cL_law 878 = .ok (.iload_n 3, 1) := by decide +kernel
theorem dL_law_879 : decode cL_law 879 = .ok (.iconst 3, 1) := by decide +kernel
theorem dL_law_880 : decode cL_law 880 = .ok (.iadd, 1) := by decide +kernel
theorem dL_law_881 : decode cL_law 881 = .ok (.iaload, 1) := by decide +kernel
theorem dL_law_882 : decode cL_law 882 = .ok (.invokevirtual 111, 3) := by decide +kernel
theorem dL_law_885 : decode cL_law 885 = .ok (.if_icmp .eq 183, 3) := by decide +kernel
theorem dL_law_888 : decode cL_law 888 = .ok (.iconst 0, 1) := by decide +kernel
theorem dL_law_889 : decode cL_law 889 = .ok (.ireturn, 1) := by decide +kernel
theorem dL_law_890 : decode cL_law 890 = .ok (.aload_n 1, 1) := by decide +kernel
theorem dL_law_891 : decode cL_law 891 = .ok (.aload_n 0, 1) := by decide +kernel
theorem dL_law_892 : decode cL_law 892 = .ok (.iload_n 3, 1) := by decide +kernel
theorem dL_law_893 : decode cL_law 893 = .ok (.iconst 1, 1) := by decide +kernel
theorem dL_law_894 : decode cL_law 894 = .ok (.iadd, 1) := by decide +kernel
theorem dL_law_895 : decode cL_law 895 = .ok (.iaload, 1) := by decide +kernel
theorem dL_law_896 : decode cL_law 896 = .ok (.invokevirtual 112, 3) := by decide +kernel
theorem dL_law_899 : decode cL_law 899 = .ok (.aload_n 2, 1) := by decide +kernel
theorem dL_law_900 : decode cL_law 900 = .ok (.aload_n 0, 1) := by decide +kernel
theorem dL_law_901 : decode cL_law 901 = .ok (.iload_n 3, 1) := by decide +kernel
theorem dL_law_902 : decode cL_law 902 = .ok (.iconst 1, 1) := by decide +kernel
theorem dL_law_903 : decode cL_law 903 = .ok (.iadd, 1) := by decide +kernel
theorem dL_law_904 : decode cL_law 904 = .ok (.iaload, 1) := by decide +kernel
theorem dL_law_905 : decode cL_law 905 = .ok (.invokevirtual 115, 3) := by decide +kernel
theorem dL_law_908 : decode cL_law 908 = .ok (.if_icmp .eq 160, 3) := by decide +kernel
theorem dL_law_911 : decode cL_law 911 = .ok (.iconst 0, 1) := by decide +kernel
theorem dL_law_912 : decode cL_law 912 = .ok (.ireturn, 1) := by decide +kernel
theorem dL_law_913 : decode cL_law 913 = .ok (.aload_n 1, 1) := by decide +kernel
theorem dL_law_914 : decode cL_law 914 = .ok (.aload_n 0, 1) := by decide +kernel
theorem dL_law_915 : decode cL_law 915 = .ok (.iload_n 3, 1) := by decide +kernel
theorem dL_law_916 : decode cL_law 916 = .ok (.iconst 1, 1) := by decide +kernel
theorem dL_law_917 : decode cL_law 917 = .ok (.iadd, 1) := by decide +kernel
theorem dL_law_918 : decode cL_law 918 = .ok (.iaload, 1) := by decide +kernel
theorem dL_law_919 : decode cL_law 919 = .ok (.aload_n 0, 1) := by decide +kernel
theorem dL_law_920 : decode cL_law 920 = .ok (.iload_n 3, 1) := by decide +kernel
theorem dL_law_921 : decode cL_law 921 = .ok (.iconst 2, 1) := by decide +kernel
theorem dL_law_922 : decode cL_law 922 = .ok (.iadd, 1) := by decide +kernel
theorem dL_law_923 : decode cL_law 923 = .ok (.iaload, 1) := by decide +kernel
theorem dL_law_924 : decode cL_law 924 = .ok (.aload_n 0, 1) := by decide +kernel
theorem dL_law_925 : decode cL_law 925 = .ok (.iload_n 3, 1) := by decide +kernel
theorem dL_law_926 : decode cL_law 926 = .ok (.iconst 3, 1) := by decide +kernel
theorem dL_law_927 : decode cL_law 927 = .ok (.iadd, 1) := by decide +kernel
theorem dL_law_928 : decode cL_law 928 = .ok (.iaload, 1) := by decide +kernel
theorem dL_law_929 : decode cL_law 929 = .ok (.aload_n 0, 1) := by decide +kernel
theorem dL_law_930 : decode cL_law 930 = .ok (.iload_n 3, 1) := by decide +kernel
theorem dL_law_931 : decode cL_law 931 = .ok (.iconst 4, 1) := by decide +kernel
theorem dL_law_932 : decode cL_law 932 = .ok (.iadd, 1) := by decide +kernel
theorem dL_law_933 : decode cL_law 933 = .ok (.iaload, 1) := by decide +kernel
theorem dL_law_934 : decode cL_law 934 = .ok (.invokevirtual 116, 3) := by decide +kernel
theorem dL_law_937 : decode cL_law 937 = .ok (.aload_n 2, 1) := by decide +kernel
theorem dL_law_938 : decode cL_law 938 = .ok (.aload_n 0, 1) := by decide +kernel
theorem dL_law_939 : decode cL_law 939 = .ok (.iload_n 3, 1) := by decide +kernel
theorem dL_law_940 : decode cL_law 940 = .ok (.iconst 1, 1) := by decide +kernel
theorem dL_law_941 : decode cL_law 941 = .ok (.iadd, 1) := by decide +kernel
theorem dL_law_942 : decode cL_law 942 = .ok (.iaload, 1) := by decide +kernel
theorem dL_law_943 : decode cL_law 943 = .ok (.aload_n 0, 1) := by decide +kernel
theorem dL_law_944 : decode cL_law 944 = .ok (.iload_n 3, 1) := by decide +kernel
theorem dL_law_945 : decode cL_law 945 = .ok (.iconst 2, 1) := by decide +kernel
theorem dL_law_946 : decode cL_law 946 = .ok (.iadd, 1) := by decide +kernel
theorem dL_law_947 : decode cL_law 947 = .ok (.iaload, 1) := by decide +kernel
theorem dL_law_948 : decode cL_law 948 = .ok (.aload_n 0, 1) := by decide +kernel
theorem dL_law_949 : decode cL_law 949 = .ok (.iload_n 3, 1) := by decide +kernel
theorem dL_law_950 : decode cL_law 950 = .ok (.iconst 3, 1) := by decide +kernel
theorem dL_law_951 : decode cL_law 951 = .ok (.iadd, 1) := by decide +kernel
theorem dL_law_952 : decode cL_law 952 = .ok (.iaload, 1) := by decide +kernel
theorem dL_law_953 : decode cL_law 953 = .ok (.aload_n 0, 1) := by decide +kernel
theorem dL_law_954 : decode cL_law 954 = .ok (.iload_n 3, 1) := by decide +kernel
theorem dL_law_955 : decode cL_law 955 = .ok (.iconst 4, 1) := by decide +kernel
theorem dL_law_956 : decode cL_law 956 = .ok (.iadd, 1) := by decide +kernel
theorem dL_law_957 : decode cL_law 957 = .ok (.iaload, 1) := by decide +kernel
theorem dL_law_958 : decode cL_law 958 = .ok (.invokevirtual 119, 3) := by decide +kernel
theorem dL_law_961 : decode cL_law 961 = .ok (.if_icmp .eq 107, 3) := by decide +kernel
theorem dL_law_964 : decode cL_law 964 = .ok (.iconst 0, 1) := by decide +kernel
theorem dL_law_965 : decode cL_law 965 = .ok (.ireturn, 1) := by decide +kernel
theorem dL_law_966 : decode cL_law 966 = .ok (.aload_n 1, 1) := by decide +kernel
theorem dL_law_967 : decode cL_law 967 = .ok (.aload_n 0, 1) := by decide +kernel
theorem dL_law_968 : decode cL_law 968 = .ok (.iload_n 3, 1) := by decide +kernel
theorem dL_law_969 : decode cL_law 969 = .ok (.iconst 1, 1) := by decide +kernel
theorem dL_law_970 : decode cL_law 970 = .ok (.iadd, 1) := by decide +kernel
theorem dL_law_971 : decode cL_law 971 = .ok (.iaload, 1) := by decide +kernel
theorem dL_law_972 : decode cL_law 972 = .ok (.aload_n 0, 1) := by decide +kernel
theorem dL_law_973 : decode cL_law 973 = .ok (.iload_n 3, 1) := by decide +kernel
theorem dL_law_974 : decode cL_law 974 = .ok (.iconst 2, 1) := by decide +kernel
theorem dL_law_975 : decode cL_law 975 = .ok (.iadd, 1) := by decide +kernel
theorem dL_law_976 : decode cL_law 976 = .ok (.iaload, 1) := by decide +kernel
theorem dL_law_977 : decode cL_law 977 = .ok (.aload_n 0, 1) := by decide +kernel
theorem dL_law_978 : decode cL_law 978 = .ok (.iload_n 3, 1) := by decide +kernel
theorem dL_law_979 : decode cL_law 979 = .ok (.iconst 3, 1) := by decide +kernel
theorem dL_law_980 : decode cL_law 980 = .ok (.iadd, 1) := by decide +kernel
theorem dL_law_981 : decode cL_law 981 = .ok (.iaload, 1) := by decide +kernel
theorem dL_law_982 : decode cL_law 982 = .ok (.aload_n 0, 1) := by decide +kernel
theorem dL_law_983 : decode cL_law 983 = .ok (.iload_n 3, 1) := by decide +kernel
theorem dL_law_984 : decode cL_law 984 = .ok (.iconst 4, 1) := by decide +kernel
theorem dL_law_985 : decode cL_law 985 = .ok (.iadd, 1) := by decide +kernel
theorem dL_law_986 : decode cL_law 986 = .ok (.iaload, 1) := by decide +kernel
theorem dL_law_987 : decode cL_law 987 = .ok (.invokevirtual 120, 3) := by decide +kernel
theorem dL_law_990 : decode cL_law 990 = .ok (.aload_n 2, 1) := by decide +kernel
theorem dL_law_991 : decode cL_law 991 = .ok (.aload_n 0, 1) := by decide +kernel
theorem dL_law_992 : decode cL_law 992 = .ok (.iload_n 3, 1) := by decide +kernel
theorem dL_law_993 : decode cL_law 993 = .ok (.iconst 1, 1) := by decide +kernel
theorem dL_law_994 : decode cL_law 994 = .ok (.iadd, 1) := by decide +kernel
theorem dL_law_995 : decode cL_law 995 = .ok (.iaload, 1) := by decide +kernel
theorem dL_law_996 : decode cL_law 996 = .ok (.aload_n 0, 1) := by decide +kernel
theorem dL_law_997 : decode cL_law 997 = .ok (.iload_n 3, 1) := by decide +kernel
theorem dL_law_998 : decode cL_law 998 = .ok (.iconst 2, 1) := by decide +kernel
theorem dL_law_999 : decode cL_law 999 = .ok (.iadd, 1) := by decide +kernel
theorem dL_law_1000 : decode cL_law 1000 = .ok (.iaload, 1) := by decide +kernel
theorem dL_law_1001 : decode cL_law 1001 = .ok (.aload_n 0, 1) := by decide +kernel
