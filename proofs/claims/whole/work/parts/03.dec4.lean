theorem dX12_clauseOf_7 : decode cX12_clauseOf 7 = .ok (.sipush 620, 3) := by decide +kernel
theorem dX12_clauseOf_10 : decode cX12_clauseOf 10 = .ok (.iload_n 1, 1) := by decide +kernel
theorem dX12_clauseOf_11 : decode cX12_clauseOf 11 = .ok (.imul, 1) := by decide +kernel
theorem dX12_clauseOf_12 : decode cX12_clauseOf 12 = .ok (.iaload, 1) := by decide +kernel
theorem dX12_clauseOf_13 : decode cX12_clauseOf 13 = .ok (.if_icmp .ge 31, 3) := by decide +kernel
theorem dX12_clauseOf_16 : decode cX12_clauseOf 16 = .ok (.aload_n 0, 1) := by decide +kernel
theorem dX12_clauseOf_17 : decode cX12_clauseOf 17 = .ok (.getfield 16, 3) := by decide +kernel
theorem dX12_clauseOf_20 : decode cX12_clauseOf 20 = .ok (.sipush 620, 3) := by decide +kernel
theorem dX12_clauseOf_23 : decode cX12_clauseOf 23 = .ok (.iload_n 1, 1) := by decide +kernel
theorem dX12_clauseOf_24 : decode cX12_clauseOf 24 = .ok (.imul, 1) := by decide +kernel
theorem dX12_clauseOf_25 : decode cX12_clauseOf 25 = .ok (.iconst 1, 1) := by decide +kernel
theorem dX12_clauseOf_26 : decode cX12_clauseOf 26 = .ok (.iadd, 1) := by decide +kernel
theorem dX12_clauseOf_27 : decode cX12_clauseOf 27 = .ok (.iconst 3, 1) := by decide +kernel
theorem dX12_clauseOf_28 : decode cX12_clauseOf 28 = .ok (.iload_n 3, 1) := by decide +kernel
theorem dX12_clauseOf_29 : decode cX12_clauseOf 29 = .ok (.imul, 1) := by decide +kernel
theorem dX12_clauseOf_30 : decode cX12_clauseOf 30 = .ok (.iadd, 1) := by decide +kernel
theorem dX12_clauseOf_31 : decode cX12_clauseOf 31 = .ok (.iaload, 1) := by decide +kernel
theorem dX12_clauseOf_32 : decode cX12_clauseOf 32 = .ok (.iload_n 2, 1) := by decide +kernel
theorem dX12_clauseOf_33 : decode cX12_clauseOf 33 = .ok (.if_icmp .ne 5, 3) := by decide +kernel
theorem dX12_clauseOf_36 : decode cX12_clauseOf 36 = .ok (.iload_n 3, 1) := by decide +kernel
theorem dX12_clauseOf_37 : decode cX12_clauseOf 37 = .ok (.ireturn, 1) := by decide +kernel
theorem dX12_clauseOf_38 : decode cX12_clauseOf 38 = .ok (.iinc 3 1, 3) := by decide +kernel
theorem dX12_clauseOf_41 : decode cX12_clauseOf 41 = .ok (.goto (-39), 3) := by decide +kernel
theorem dX12_clauseOf_44 : decode cX12_clauseOf 44 = .ok (.iconst (-1), 1) := by decide +kernel
theorem dX12_clauseOf_45 : decode cX12_clauseOf 45 = .ok (.ireturn, 1) := by decide +kernel
theorem dX12_doesAt_0 : decode cX12_doesAt 0 = .ok (.aload_n 0, 1) := by decide +kernel
theorem dX12_doesAt_1 : decode cX12_doesAt 1 = .ok (.iload_n 1, 1) := by decide +kernel
theorem dX12_doesAt_2 : decode cX12_doesAt 2 = .ok (.iconst 0, 1) := by decide +kernel
theorem dX12_doesAt_3 : decode cX12_doesAt 3 = .ok (.invokevirtual 279, 3) := by decide +kernel
theorem dX12_doesAt_6 : decode cX12_doesAt 6 = .ok (.istore_n 3, 1) := by decide +kernel
theorem dX12_doesAt_7 : decode cX12_doesAt 7 = .ok (.iload_n 3, 1) := by decide +kernel
theorem dX12_doesAt_8 : decode cX12_doesAt 8 = .ok (.ifCond .ge 9, 3) := by decide +kernel
theorem dX12_doesAt_11 : decode cX12_doesAt 11 = .ok (.iload_n 2, 1) := by decide +kernel
theorem dX12_doesAt_12 : decode cX12_doesAt 12 = .ok (.iconst 1, 1) := by decide +kernel
theorem dX12_doesAt_13 : decode cX12_doesAt 13 = .ok (.iadd, 1) := by decide +kernel
theorem dX12_doesAt_14 : decode cX12_doesAt 14 = .ok (.iconst 4, 1) := by decide +kernel
theorem dX12_doesAt_15 : decode cX12_doesAt 15 = .ok (.irem, 1) := by decide +kernel
theorem dX12_doesAt_16 : decode cX12_doesAt 16 = .ok (.ireturn, 1) := by decide +kernel
theorem dX12_doesAt_17 : decode cX12_doesAt 17 = .ok (.aload_n 0, 1) := by decide +kernel
theorem dX12_doesAt_18 : decode cX12_doesAt 18 = .ok (.iload_n 1, 1) := by decide +kernel
theorem dX12_doesAt_19 : decode cX12_doesAt 19 = .ok (.iload_n 3, 1) := by decide +kernel
theorem dX12_doesAt_20 : decode cX12_doesAt 20 = .ok (.invokevirtual 283, 3) := by decide +kernel
theorem dX12_doesAt_23 : decode cX12_doesAt 23 = .ok (.aload_n 0, 1) := by decide +kernel
theorem dX12_doesAt_24 : decode cX12_doesAt 24 = .ok (.getfield 35, 3) := by decide +kernel
theorem dX12_doesAt_27 : decode cX12_doesAt 27 = .ok (.iconst 0, 1) := by decide +kernel
theorem dX12_doesAt_28 : decode cX12_doesAt 28 = .ok (.laload, 1) := by decide +kernel
theorem dX12_doesAt_29 : decode cX12_doesAt 29 = .ok (.lconst 0, 1) := by decide +kernel
theorem dX12_doesAt_30 : decode cX12_doesAt 30 = .ok (.lcmp, 1) := by decide +kernel
theorem dX12_doesAt_31 : decode cX12_doesAt 31 = .ok (.ifCond .ge 7, 3) := by decide +kernel
theorem dX12_doesAt_34 : decode cX12_doesAt 34 = .ok (.iconst 0, 1) := by decide +kernel
theorem dX12_doesAt_35 : decode cX12_doesAt 35 = .ok (.goto 27, 3) := by decide +kernel
theorem dX12_doesAt_38 : decode cX12_doesAt 38 = .ok (.aload_n 0, 1) := by decide +kernel
theorem dX12_doesAt_39 : decode cX12_doesAt 39 = .ok (.getfield 35, 3) := by decide +kernel
theorem dX12_doesAt_42 : decode cX12_doesAt 42 = .ok (.iconst 0, 1) := by decide +kernel
theorem dX12_doesAt_43 : decode cX12_doesAt 43 = .ok (.laload, 1) := by decide +kernel
theorem dX12_doesAt_44 : decode cX12_doesAt 44 = .ok (.ldc2_w 286, 3) := by decide +kernel
theorem dX12_doesAt_47 : decode cX12_doesAt 47 = .ok (.lcmp, 1) := by decide +kernel
theorem dX12_doesAt_48 : decode cX12_doesAt 48 = .ok (.ifCond .le 7, 3) := by decide +kernel
theorem dX12_doesAt_51 : decode cX12_doesAt 51 = .ok (.iconst 4, 1) := by decide +kernel
theorem dX12_doesAt_52 : decode cX12_doesAt 52 = .ok (.goto 10, 3) := by decide +kernel
theorem dX12_doesAt_55 : decode cX12_doesAt 55 = .ok (.aload_n 0, 1) := by decide +kernel
theorem dX12_doesAt_56 : decode cX12_doesAt 56 = .ok (.getfield 35, 3) := by decide +kernel
theorem dX12_doesAt_59 : decode cX12_doesAt 59 = .ok (.iconst 0, 1) := by decide +kernel
theorem dX12_doesAt_60 : decode cX12_doesAt 60 = .ok (.laload, 1) := by decide +kernel
theorem dX12_doesAt_61 : decode cX12_doesAt 61 = .ok (.l2i, 1) := by decide +kernel
theorem dX12_doesAt_62 : decode cX12_doesAt 62 = .ok (.ireturn, 1) := by decide +kernel
theorem dX12_made_0 : decode cX12_made 0 = .ok (.aload_n 0, 1) := by decide +kernel
theorem dX12_made_1 : decode cX12_made 1 = .ok (.iload_n 2, 1) := by decide +kernel
theorem dX12_made_2 : decode cX12_made 2 = .ok (.invokevirtual 288, 3) := by decide +kernel
theorem dX12_made_5 : decode cX12_made 5 = .ok (.istore 4, 2) := by decide +kernel
theorem dX12_made_7 : decode cX12_made 7 = .ok (.aload_n 0, 1) := by decide +kernel
theorem dX12_made_8 : decode cX12_made 8 = .ok (.getfield 32, 3) := by decide +kernel
theorem dX12_made_11 : decode cX12_made 11 = .ok (.iconst 0, 1) := by decide +kernel
theorem dX12_made_12 : decode cX12_made 12 = .ok (.iload_n 3, 1) := by decide +kernel
theorem dX12_made_13 : decode cX12_made 13 = .ok (.iastore, 1) := by decide +kernel
theorem dX12_made_14 : decode cX12_made 14 = .ok (.aload_n 0, 1) := by decide +kernel
theorem dX12_made_15 : decode cX12_made 15 = .ok (.getfield 32, 3) := by decide +kernel
theorem dX12_made_18 : decode cX12_made 18 = .ok (.iconst 1, 1) := by decide +kernel
theorem dX12_made_19 : decode cX12_made 19 = .ok (.iload_n 2, 1) := by decide +kernel
theorem dX12_made_20 : decode cX12_made 20 = .ok (.iconst 4, 1) := by decide +kernel
theorem dX12_made_21 : decode cX12_made 21 = .ok (.irem, 1) := by decide +kernel
theorem dX12_made_22 : decode cX12_made 22 = .ok (.iastore, 1) := by decide +kernel
theorem dX12_made_23 : decode cX12_made 23 = .ok (.aload_n 0, 1) := by decide +kernel
theorem dX12_made_24 : decode cX12_made 24 = .ok (.getfield 32, 3) := by decide +kernel
theorem dX12_made_27 : decode cX12_made 27 = .ok (.iconst 2, 1) := by decide +kernel
theorem dX12_made_28 : decode cX12_made 28 = .ok (.iload_n 2, 1) := by decide +kernel
theorem dX12_made_29 : decode cX12_made 29 = .ok (.iconst 4, 1) := by decide +kernel
theorem dX12_made_30 : decode cX12_made 30 = .ok (.idiv, 1) := by decide +kernel
theorem dX12_made_31 : decode cX12_made 31 = .ok (.aload_n 0, 1) := by decide +kernel
theorem dX12_made_32 : decode cX12_made 32 = .ok (.getfield 85, 3) := by decide +kernel
theorem dX12_made_35 : decode cX12_made 35 = .ok (.irem, 1) := by decide +kernel
theorem dX12_made_36 : decode cX12_made 36 = .ok (.iastore, 1) := by decide +kernel
theorem dX12_made_37 : decode cX12_made 37 = .ok (.aload_n 0, 1) := by decide +kernel
theorem dX12_made_38 : decode cX12_made 38 = .ok (.getfield 32, 3) := by decide +kernel
theorem dX12_made_41 : decode cX12_made 41 = .ok (.iconst 3, 1) := by decide +kernel
theorem dX12_made_42 : decode cX12_made 42 = .ok (.iload_n 2, 1) := by decide +kernel
theorem dX12_made_43 : decode cX12_made 43 = .ok (.iconst 4, 1) := by decide +kernel
theorem dX12_made_44 : decode cX12_made 44 = .ok (.idiv, 1) := by decide +kernel
theorem dX12_made_45 : decode cX12_made 45 = .ok (.aload_n 0, 1) := by decide +kernel
theorem dX12_made_46 : decode cX12_made 46 = .ok (.getfield 85, 3) := by decide +kernel
theorem dX12_made_49 : decode cX12_made 49 = .ok (.idiv, 1) := by decide +kernel
theorem dX12_made_50 : decode cX12_made 50 = .ok (.iastore, 1) := by decide +kernel
theorem dX12_made_51 : decode cX12_made 51 = .ok (.aload_n 0, 1) := by decide +kernel
theorem dX12_made_52 : decode cX12_made 52 = .ok (.getfield 32, 3) := by decide +kernel
theorem dX12_made_55 : decode cX12_made 55 = .ok (.iconst 4, 1) := by decide +kernel
theorem dX12_made_56 : decode cX12_made 56 = .ok (.aload_n 0, 1) := by decide +kernel
theorem dX12_made_57 : decode cX12_made 57 = .ok (.getfield 7, 3) := by decide +kernel
theorem dX12_made_60 : decode cX12_made 60 = .ok (.bipush 10, 2) := by decide +kernel
theorem dX12_made_62 : decode cX12_made 62 = .ok (.iload_n 2, 1) := by decide +kernel
theorem dX12_made_63 : decode cX12_made 63 = .ok (.iconst 4, 1) := by decide +kernel
theorem dX12_made_64 : decode cX12_made 64 = .ok (.idiv, 1) := by decide +kernel
theorem dX12_made_65 : decode cX12_made 65 = .ok (.iadd, 1) := by decide +kernel
theorem dX12_made_66 : decode cX12_made 66 = .ok (.iaload, 1) := by decide +kernel
theorem dX12_made_67 : decode cX12_made 67 = .ok (.iastore, 1) := by decide +kernel
theorem dX12_made_68 : decode cX12_made 68 = .ok (.aload_n 0, 1) := by decide +kernel
theorem dX12_made_69 : decode cX12_made 69 = .ok (.getfield 32, 3) := by decide +kernel
theorem dX12_made_72 : decode cX12_made 72 = .ok (.iconst 5, 1) := by decide +kernel
theorem dX12_made_73 : decode cX12_made 73 = .ok (.iload 4, 2) := by decide +kernel
theorem dX12_made_75 : decode cX12_made 75 = .ok (.ifCond .ge 7, 3) := by decide +kernel
theorem dX12_made_78 : decode cX12_made 78 = .ok (.iconst 1, 1) := by decide +kernel
theorem dX12_made_79 : decode cX12_made 79 = .ok (.goto 13, 3) := by decide +kernel
theorem dX12_made_82 : decode cX12_made 82 = .ok (.aload_n 0, 1) := by decide +kernel
theorem dX12_made_83 : decode cX12_made 83 = .ok (.getfield 7, 3) := by decide +kernel
theorem dX12_made_86 : decode cX12_made 86 = .ok (.bipush 10, 2) := by decide +kernel
theorem dX12_made_88 : decode cX12_made 88 = .ok (.iload 4, 2) := by decide +kernel
theorem dX12_made_90 : decode cX12_made 90 = .ok (.iadd, 1) := by decide +kernel
theorem dX12_made_91 : decode cX12_made 91 = .ok (.iaload, 1) := by decide +kernel
theorem dX12_made_92 : decode cX12_made 92 = .ok (.iastore, 1) := by decide +kernel
theorem dX12_made_93 : decode cX12_made 93 = .ok (.aload_n 0, 1) := by decide +kernel
theorem dX12_made_94 : decode cX12_made 94 = .ok (.iload_n 1, 1) := by decide +kernel
theorem dX12_made_95 : decode cX12_made 95 = .ok (.iconst 1, 1) := by decide +kernel
theorem dX12_made_96 : decode cX12_made 96 = .ok (.invokevirtual 279, 3) := by decide +kernel
theorem dX12_made_99 : decode cX12_made 99 = .ok (.istore 5, 2) := by decide +kernel
theorem dX12_made_101 : decode cX12_made 101 = .ok (.iload 5, 2) := by decide +kernel
theorem dX12_made_103 : decode cX12_made 103 = .ok (.ifCond .lt 25, 3) := by decide +kernel
theorem dX12_made_106 : decode cX12_made 106 = .ok (.aload_n 0, 1) := by decide +kernel
theorem dX12_made_107 : decode cX12_made 107 = .ok (.iload_n 1, 1) := by decide +kernel
theorem dX12_made_108 : decode cX12_made 108 = .ok (.iload 5, 2) := by decide +kernel
theorem dX12_made_110 : decode cX12_made 110 = .ok (.invokevirtual 283, 3) := by decide +kernel
theorem dX12_made_113 : decode cX12_made 113 = .ok (.aload_n 0, 1) := by decide +kernel
theorem dX12_made_114 : decode cX12_made 114 = .ok (.getfield 39, 3) := by decide +kernel
theorem dX12_made_117 : decode cX12_made 117 = .ok (.iconst 0, 1) := by decide +kernel
theorem dX12_made_118 : decode cX12_made 118 = .ok (.baload, 1) := by decide +kernel
theorem dX12_made_119 : decode cX12_made 119 = .ok (.ifCond .eq 9, 3) := by decide +kernel
theorem dX12_made_122 : decode cX12_made 122 = .ok (.iload_n 2, 1) := by decide +kernel
theorem dX12_made_123 : decode cX12_made 123 = .ok (.sipush 400, 3) := by decide +kernel
theorem dX12_made_126 : decode cX12_made 126 = .ok (.iadd, 1) := by decide +kernel
theorem dX12_made_127 : decode cX12_made 127 = .ok (.ireturn, 1) := by decide +kernel
theorem dX12_made_128 : decode cX12_made 128 = .ok (.aload_n 0, 1) := by decide +kernel
theorem dX12_made_129 : decode cX12_made 129 = .ok (.iload_n 1, 1) := by decide +kernel
theorem dX12_made_130 : decode cX12_made 130 = .ok (.iload_n 3, 1) := by decide +kernel
theorem dX12_made_131 : decode cX12_made 131 = .ok (.invokevirtual 291, 3) := by decide +kernel
theorem dX12_made_134 : decode cX12_made 134 = .ok (.istore 6, 2) := by decide +kernel
theorem dX12_made_136 : decode cX12_made 136 = .ok (.iload_n 2, 1) := by decide +kernel
theorem dX12_made_137 : decode cX12_made 137 = .ok (.iconst 4, 1) := by decide +kernel
theorem dX12_made_138 : decode cX12_made 138 = .ok (.irem, 1) := by decide +kernel
theorem dX12_made_139 : decode cX12_made 139 = .ok (.istore 7, 2) := by decide +kernel
theorem dX12_made_141 : decode cX12_made 141 = .ok (.iload 6, 2) := by decide +kernel
theorem dX12_made_143 : decode cX12_made 143 = .ok (.iconst 1, 1) := by decide +kernel
theorem dX12_made_144 : decode cX12_made 144 = .ok (.if_icmp .ne 33, 3) := by decide +kernel
theorem dX12_made_147 : decode cX12_made 147 = .ok (.iload 4, 2) := by decide +kernel
theorem dX12_made_149 : decode cX12_made 149 = .ok (.ifCond .lt 12, 3) := by decide +kernel
theorem dX12_made_152 : decode cX12_made 152 = .ok (.aload_n 0, 1) := by decide +kernel
theorem dX12_made_153 : decode cX12_made 153 = .ok (.iload 4, 2) := by decide +kernel
theorem dX12_made_155 : decode cX12_made 155 = .ok (.invokevirtual 99, 3) := by decide +kernel
theorem dX12_made_158 : decode cX12_made 158 = .ok (.ifCond .eq 11, 3) := by decide +kernel
theorem dX12_made_161 : decode cX12_made 161 = .ok (.iload_n 2, 1) := by decide +kernel
theorem dX12_made_162 : decode cX12_made 162 = .ok (.sipush 200, 3) := by decide +kernel
theorem dX12_made_165 : decode cX12_made 165 = .ok (.iadd, 1) := by decide +kernel
theorem dX12_made_166 : decode cX12_made 166 = .ok (.goto 10, 3) := by decide +kernel
theorem dX12_made_169 : decode cX12_made 169 = .ok (.iconst 4, 1) := by decide +kernel
theorem dX12_made_170 : decode cX12_made 170 = .ok (.iload 4, 2) := by decide +kernel
theorem dX12_made_172 : decode cX12_made 172 = .ok (.imul, 1) := by decide +kernel
theorem dX12_made_173 : decode cX12_made 173 = .ok (.iload 7, 2) := by decide +kernel
theorem dX12_made_175 : decode cX12_made 175 = .ok (.iadd, 1) := by decide +kernel
theorem dX12_made_176 : decode cX12_made 176 = .ok (.ireturn, 1) := by decide +kernel
theorem dX12_made_177 : decode cX12_made 177 = .ok (.iload_n 2, 1) := by decide +kernel
theorem dX12_made_178 : decode cX12_made 178 = .ok (.iload 7, 2) := by decide +kernel
theorem dX12_made_180 : decode cX12_made 180 = .ok (.isub, 1) := by decide +kernel
theorem dX12_made_181 : decode cX12_made 181 = .ok (.iload 6, 2) := by decide +kernel
theorem dX12_made_183 : decode cX12_made 183 = .ok (.ifCond .ne 8, 3) := by decide +kernel
theorem dX12_made_186 : decode cX12_made 186 = .ok (.iload 7, 2) := by decide +kernel
theorem dX12_made_188 : decode cX12_made 188 = .ok (.goto 39, 3) := by decide +kernel
theorem dX12_made_191 : decode cX12_made 191 = .ok (.iload 6, 2) := by decide +kernel
theorem dX12_made_193 : decode cX12_made 193 = .ok (.iconst 2, 1) := by decide +kernel
theorem dX12_made_194 : decode cX12_made 194 = .ok (.if_icmp .ne 12, 3) := by decide +kernel
theorem dX12_made_197 : decode cX12_made 197 = .ok (.iload 7, 2) := by decide +kernel
theorem dX12_made_199 : decode cX12_made 199 = .ok (.iconst 3, 1) := by decide +kernel
theorem dX12_made_200 : decode cX12_made 200 = .ok (.iadd, 1) := by decide +kernel
theorem dX12_made_201 : decode cX12_made 201 = .ok (.iconst 4, 1) := by decide +kernel
theorem dX12_made_202 : decode cX12_made 202 = .ok (.irem, 1) := by decide +kernel
theorem dX12_made_203 : decode cX12_made 203 = .ok (.goto 24, 3) := by decide +kernel
theorem dX12_made_206 : decode cX12_made 206 = .ok (.iload 6, 2) := by decide +kernel
theorem dX12_made_208 : decode cX12_made 208 = .ok (.iconst 3, 1) := by decide +kernel
theorem dX12_made_209 : decode cX12_made 209 = .ok (.if_icmp .ne 12, 3) := by decide +kernel
theorem dX12_made_212 : decode cX12_made 212 = .ok (.iload 7, 2) := by decide +kernel
theorem dX12_made_214 : decode cX12_made 214 = .ok (.iconst 1, 1) := by decide +kernel
theorem dX12_made_215 : decode cX12_made 215 = .ok (.iadd, 1) := by decide +kernel
theorem dX12_made_216 : decode cX12_made 216 = .ok (.iconst 4, 1) := by decide +kernel
theorem dX12_made_217 : decode cX12_made 217 = .ok (.irem, 1) := by decide +kernel
theorem dX12_made_218 : decode cX12_made 218 = .ok (.goto 9, 3) := by decide +kernel
theorem dX12_made_221 : decode cX12_made 221 = .ok (.iload 7, 2) := by decide +kernel
theorem dX12_made_223 : decode cX12_made 223 = .ok (.iconst 2, 1) := by decide +kernel
theorem dX12_made_224 : decode cX12_made 224 = .ok (.iadd, 1) := by decide +kernel
theorem dX12_made_225 : decode cX12_made 225 = .ok (.iconst 4, 1) := by decide +kernel
theorem dX12_made_226 : decode cX12_made 226 = .ok (.irem, 1) := by decide +kernel
theorem dX12_made_227 : decode cX12_made 227 = .ok (.iadd, 1) := by decide +kernel
theorem dX12_made_228 : decode cX12_made 228 = .ok (.ireturn, 1) := by decide +kernel
theorem dX12_lay_0 : decode cX12_lay 0 = .ok (.iconst 0, 1) := by decide +kernel
theorem dX12_lay_1 : decode cX12_lay 1 = .ok (.istore_n 2, 1) := by decide +kernel
theorem dX12_lay_2 : decode cX12_lay 2 = .ok (.iload_n 2, 1) := by decide +kernel
theorem dX12_lay_3 : decode cX12_lay 3 = .ok (.iconst 4, 1) := by decide +kernel
theorem dX12_lay_4 : decode cX12_lay 4 = .ok (.aload_n 0, 1) := by decide +kernel
theorem dX12_lay_5 : decode cX12_lay 5 = .ok (.getfield 85, 3) := by decide +kernel
theorem dX12_lay_8 : decode cX12_lay 8 = .ok (.imul, 1) := by decide +kernel
theorem dX12_lay_9 : decode cX12_lay 9 = .ok (.aload_n 0, 1) := by decide +kernel
theorem dX12_lay_10 : decode cX12_lay 10 = .ok (.getfield 88, 3) := by decide +kernel
theorem dX12_lay_13 : decode cX12_lay 13 = .ok (.imul, 1) := by decide +kernel
theorem dX12_lay_14 : decode cX12_lay 14 = .ok (.if_icmp .ge 56, 3) := by decide +kernel
theorem dX12_lay_17 : decode cX12_lay 17 = .ok (.iconst 0, 1) := by decide +kernel
theorem dX12_lay_18 : decode cX12_lay 18 = .ok (.istore_n 3, 1) := by decide +kernel
theorem dX12_lay_19 : decode cX12_lay 19 = .ok (.iload_n 3, 1) := by decide +kernel
theorem dX12_lay_20 : decode cX12_lay 20 = .ok (.iconst 4, 1) := by decide +kernel
theorem dX12_lay_21 : decode cX12_lay 21 = .ok (.if_icmp .ge 43, 3) := by decide +kernel
theorem dX12_lay_24 : decode cX12_lay 24 = .ok (.aload_n 0, 1) := by decide +kernel
theorem dX12_lay_25 : decode cX12_lay 25 = .ok (.getfield 43, 3) := by decide +kernel
theorem dX12_lay_28 : decode cX12_lay 28 = .ok (.bipush 100, 2) := by decide +kernel
theorem dX12_lay_30 : decode cX12_lay 30 = .ok (.iload_n 1, 1) := by decide +kernel
theorem dX12_lay_31 : decode cX12_lay 31 = .ok (.imul, 1) := by decide +kernel
theorem dX12_lay_32 : decode cX12_lay 32 = .ok (.iload_n 2, 1) := by decide +kernel
theorem dX12_lay_33 : decode cX12_lay 33 = .ok (.iadd, 1) := by decide +kernel
theorem dX12_lay_34 : decode cX12_lay 34 = .ok (.iconst 4, 1) := by decide +kernel
theorem dX12_lay_35 : decode cX12_lay 35 = .ok (.imul, 1) := by decide +kernel
theorem dX12_lay_36 : decode cX12_lay 36 = .ok (.iload_n 3, 1) := by decide +kernel
theorem dX12_lay_37 : decode cX12_lay 37 = .ok (.iadd, 1) := by decide +kernel
theorem dX12_lay_38 : decode cX12_lay 38 = .ok (.aload_n 0, 1) := by decide +kernel
theorem dX12_lay_39 : decode cX12_lay 39 = .ok (.iload_n 2, 1) := by decide +kernel
theorem dX12_lay_40 : decode cX12_lay 40 = .ok (.invokevirtual 110, 3) := by decide +kernel
theorem dX12_lay_43 : decode cX12_lay 43 = .ok (.ifCond .eq 13, 3) := by decide +kernel
theorem dX12_lay_46 : decode cX12_lay 46 = .ok (.aload_n 0, 1) := by decide +kernel
theorem dX12_lay_47 : decode cX12_lay 47 = .ok (.iload_n 1, 1) := by decide +kernel
theorem dX12_lay_48 : decode cX12_lay 48 = .ok (.iload_n 2, 1) := by decide +kernel
theorem dX12_lay_49 : decode cX12_lay 49 = .ok (.iload_n 3, 1) := by decide +kernel
theorem dX12_lay_50 : decode cX12_lay 50 = .ok (.invokevirtual 294, 3) := by decide +kernel
theorem dX12_lay_53 : decode cX12_lay 53 = .ok (.goto 4, 3) := by decide +kernel
theorem dX12_lay_56 : decode cX12_lay 56 = .ok (.iload_n 2, 1) := by decide +kernel
theorem dX12_lay_57 : decode cX12_lay 57 = .ok (.iastore, 1) := by decide +kernel
theorem dX12_lay_58 : decode cX12_lay 58 = .ok (.iinc 3 1, 3) := by decide +kernel
theorem dX12_lay_61 : decode cX12_lay 61 = .ok (.goto (-42), 3) := by decide +kernel
theorem dX12_lay_64 : decode cX12_lay 64 = .ok (.iinc 2 1, 3) := by decide +kernel
theorem dX12_lay_67 : decode cX12_lay 67 = .ok (.goto (-65), 3) := by decide +kernel
theorem dX12_lay_70 : decode cX12_lay 70 = .ok (.return_, 1) := by decide +kernel
theorem dX12_laid_0 : decode cX12_laid 0 = .ok (.aload_n 0, 1) := by decide +kernel
theorem dX12_laid_1 : decode cX12_laid 1 = .ok (.getfield 43, 3) := by decide +kernel
theorem dX12_laid_4 : decode cX12_laid 4 = .ok (.bipush 100, 2) := by decide +kernel
theorem dX12_laid_6 : decode cX12_laid 6 = .ok (.iload_n 1, 1) := by decide +kernel
theorem dX12_laid_7 : decode cX12_laid 7 = .ok (.imul, 1) := by decide +kernel
theorem dX12_laid_8 : decode cX12_laid 8 = .ok (.iload_n 2, 1) := by decide +kernel
theorem dX12_laid_9 : decode cX12_laid 9 = .ok (.iadd, 1) := by decide +kernel
theorem dX12_laid_10 : decode cX12_laid 10 = .ok (.iconst 4, 1) := by decide +kernel
theorem dX12_laid_11 : decode cX12_laid 11 = .ok (.imul, 1) := by decide +kernel
theorem dX12_laid_12 : decode cX12_laid 12 = .ok (.iload_n 3, 1) := by decide +kernel
theorem dX12_laid_13 : decode cX12_laid 13 = .ok (.iadd, 1) := by decide +kernel
theorem dX12_laid_14 : decode cX12_laid 14 = .ok (.iaload, 1) := by decide +kernel
theorem dX12_laid_15 : decode cX12_laid 15 = .ok (.ireturn, 1) := by decide +kernel
theorem dX12_then_0 : decode cX12_then 0 = .ok (.aload_n 0, 1) := by decide +kernel
theorem dX12_then_1 : decode cX12_then 1 = .ok (.iload_n 1, 1) := by decide +kernel
theorem dX12_then_2 : decode cX12_then 2 = .ok (.iload_n 2, 1) := by decide +kernel
theorem dX12_then_3 : decode cX12_then 3 = .ok (.iload_n 3, 1) := by decide +kernel
theorem dX12_then_4 : decode cX12_then 4 = .ok (.invokevirtual 298, 3) := by decide +kernel
theorem dX12_then_7 : decode cX12_then 7 = .ok (.sipush 200, 3) := by decide +kernel
theorem dX12_then_10 : decode cX12_then 10 = .ok (.irem, 1) := by decide +kernel
theorem dX12_then_11 : decode cX12_then 11 = .ok (.ireturn, 1) := by decide +kernel
theorem dX12_goes_0 : decode cX12_goes 0 = .ok (.aload_n 0, 1) := by decide +kernel
theorem dX12_goes_1 : decode cX12_goes 1 = .ok (.iload_n 1, 1) := by decide +kernel
theorem dX12_goes_2 : decode cX12_goes 2 = .ok (.invokevirtual 113, 3) := by decide +kernel
theorem dX12_goes_5 : decode cX12_goes 5 = .ok (.ifCond .eq 30, 3) := by decide +kernel
theorem dX12_goes_8 : decode cX12_goes 8 = .ok (.aload_n 0, 1) := by decide +kernel
theorem dX12_goes_9 : decode cX12_goes 9 = .ok (.iload_n 2, 1) := by decide +kernel
theorem dX12_goes_10 : decode cX12_goes 10 = .ok (.invokevirtual 110, 3) := by decide +kernel
theorem dX12_goes_13 : decode cX12_goes 13 = .ok (.ifCond .eq 22, 3) := by decide +kernel
theorem dX12_goes_16 : decode cX12_goes 16 = .ok (.iload_n 3, 1) := by decide +kernel
theorem dX12_goes_17 : decode cX12_goes 17 = .ok (.iconst 0, 1) := by decide +kernel
theorem dX12_goes_18 : decode cX12_goes 18 = .ok (.iconst 3, 1) := by decide +kernel
theorem dX12_goes_19 : decode cX12_goes 19 = .ok (.invokestatic 95, 3) := by decide +kernel
theorem dX12_goes_22 : decode cX12_goes 22 = .ok (.ifCond .eq 13, 3) := by decide +kernel
theorem dX12_goes_25 : decode cX12_goes 25 = .ok (.aload_n 0, 1) := by decide +kernel
theorem dX12_goes_26 : decode cX12_goes 26 = .ok (.iload_n 1, 1) := by decide +kernel
theorem dX12_goes_27 : decode cX12_goes 27 = .ok (.iload_n 2, 1) := by decide +kernel
theorem dX12_goes_28 : decode cX12_goes 28 = .ok (.iload_n 3, 1) := by decide +kernel
theorem dX12_goes_29 : decode cX12_goes 29 = .ok (.invokevirtual 294, 3) := by decide +kernel
theorem dX12_goes_32 : decode cX12_goes 32 = .ok (.goto 4, 3) := by decide +kernel
theorem dX12_goes_35 : decode cX12_goes 35 = .ok (.iconst (-1), 1) := by decide +kernel
theorem dX12_goes_36 : decode cX12_goes 36 = .ok (.ireturn, 1) := by decide +kernel
theorem dX12_keep_0 : decode cX12_keep 0 = .ok (.aload_n 0, 1) := by decide +kernel
theorem dX12_keep_1 : decode cX12_keep 1 = .ok (.getfield 7, 3) := by decide +kernel
theorem dX12_keep_4 : decode cX12_keep 4 = .ok (.iconst 3, 1) := by decide +kernel
theorem dX12_keep_5 : decode cX12_keep 5 = .ok (.iaload, 1) := by decide +kernel
theorem dX12_keep_6 : decode cX12_keep 6 = .ok (.bipush 30, 2) := by decide +kernel
theorem dX12_keep_8 : decode cX12_keep 8 = .ok (.if_icmp .ne 47, 3) := by decide +kernel
theorem dX12_keep_11 : decode cX12_keep 11 = .ok (.iconst 0, 1) := by decide +kernel
theorem dX12_keep_12 : decode cX12_keep 12 = .ok (.istore_n 2, 1) := by decide +kernel
theorem dX12_keep_13 : decode cX12_keep 13 = .ok (.iload_n 2, 1) := by decide +kernel
theorem dX12_keep_14 : decode cX12_keep 14 = .ok (.bipush 58, 2) := by decide +kernel
theorem dX12_keep_16 : decode cX12_keep 16 = .ok (.if_icmp .ge 29, 3) := by decide +kernel
theorem dX12_keep_19 : decode cX12_keep 19 = .ok (.aload_n 0, 1) := by decide +kernel
theorem dX12_keep_20 : decode cX12_keep 20 = .ok (.getfield 7, 3) := by decide +kernel
theorem dX12_keep_23 : decode cX12_keep 23 = .ok (.bipush 70, 2) := by decide +kernel
theorem dX12_keep_25 : decode cX12_keep 25 = .ok (.iload_n 2, 1) := by decide +kernel
theorem dX12_keep_26 : decode cX12_keep 26 = .ok (.iadd, 1) := by decide +kernel
theorem dX12_keep_27 : decode cX12_keep 27 = .ok (.aload_n 0, 1) := by decide +kernel
theorem dX12_keep_28 : decode cX12_keep 28 = .ok (.getfield 7, 3) := by decide +kernel
theorem dX12_keep_31 : decode cX12_keep 31 = .ok (.bipush 70, 2) := by decide +kernel
theorem dX12_keep_33 : decode cX12_keep 33 = .ok (.iload_n 2, 1) := by decide +kernel
theorem dX12_keep_34 : decode cX12_keep 34 = .ok (.iadd, 1) := by decide +kernel
theorem dX12_keep_35 : decode cX12_keep 35 = .ok (.iconst 2, 1) := by decide +kernel
theorem dX12_keep_36 : decode cX12_keep 36 = .ok (.iadd, 1) := by decide +kernel
theorem dX12_keep_37 : decode cX12_keep 37 = .ok (.iaload, 1) := by decide +kernel
theorem dX12_keep_38 : decode cX12_keep 38 = .ok (.iastore, 1) := by decide +kernel
theorem dX12_keep_39 : decode cX12_keep 39 = .ok (.iinc 2 1, 3) := by decide +kernel
theorem dX12_keep_42 : decode cX12_keep 42 = .ok (.goto (-29), 3) := by decide +kernel
theorem dX12_keep_45 : decode cX12_keep 45 = .ok (.aload_n 0, 1) := by decide +kernel
theorem dX12_keep_46 : decode cX12_keep 46 = .ok (.getfield 7, 3) := by decide +kernel
theorem dX12_keep_49 : decode cX12_keep 49 = .ok (.iconst 3, 1) := by decide +kernel
theorem dX12_keep_50 : decode cX12_keep 50 = .ok (.dup2, 1) := by decide +kernel
theorem dX12_keep_51 : decode cX12_keep 51 = .ok (.iaload, 1) := by decide +kernel
theorem dX12_keep_52 : decode cX12_keep 52 = .ok (.iconst 1, 1) := by decide +kernel
theorem dX12_keep_53 : decode cX12_keep 53 = .ok (.isub, 1) := by decide +kernel
theorem dX12_keep_54 : decode cX12_keep 54 = .ok (.iastore, 1) := by decide +kernel
theorem dX12_keep_55 : decode cX12_keep 55 = .ok (.aload_n 0, 1) := by decide +kernel
theorem dX12_keep_56 : decode cX12_keep 56 = .ok (.getfield 7, 3) := by decide +kernel
theorem dX12_keep_59 : decode cX12_keep 59 = .ok (.bipush 70, 2) := by decide +kernel
theorem dX12_keep_61 : decode cX12_keep 61 = .ok (.iconst 2, 1) := by decide +kernel
theorem dX12_keep_62 : decode cX12_keep 62 = .ok (.aload_n 0, 1) := by decide +kernel
theorem dX12_keep_63 : decode cX12_keep 63 = .ok (.getfield 7, 3) := by decide +kernel
theorem dX12_keep_66 : decode cX12_keep 66 = .ok (.iconst 3, 1) := by decide +kernel
theorem dX12_keep_67 : decode cX12_keep 67 = .ok (.iaload, 1) := by decide +kernel
theorem dX12_keep_68 : decode cX12_keep 68 = .ok (.imul, 1) := by decide +kernel
theorem dX12_keep_69 : decode cX12_keep 69 = .ok (.iadd, 1) := by decide +kernel
theorem dX12_keep_70 : decode cX12_keep 70 = .ok (.iload_n 1, 1) := by decide +kernel
theorem dX12_keep_71 : decode cX12_keep 71 = .ok (.iastore, 1) := by decide +kernel
theorem dX12_keep_72 : decode cX12_keep 72 = .ok (.aload_n 0, 1) := by decide +kernel
theorem dX12_keep_73 : decode cX12_keep 73 = .ok (.getfield 7, 3) := by decide +kernel
theorem dX12_keep_76 : decode cX12_keep 76 = .ok (.bipush 70, 2) := by decide +kernel
theorem dX12_keep_78 : decode cX12_keep 78 = .ok (.iconst 2, 1) := by decide +kernel
theorem dX12_keep_79 : decode cX12_keep 79 = .ok (.aload_n 0, 1) := by decide +kernel
theorem dX12_keep_80 : decode cX12_keep 80 = .ok (.getfield 7, 3) := by decide +kernel
theorem dX12_keep_83 : decode cX12_keep 83 = .ok (.iconst 3, 1) := by decide +kernel
theorem dX12_keep_84 : decode cX12_keep 84 = .ok (.iaload, 1) := by decide +kernel
theorem dX12_keep_85 : decode cX12_keep 85 = .ok (.imul, 1) := by decide +kernel
theorem dX12_keep_86 : decode cX12_keep 86 = .ok (.iadd, 1) := by decide +kernel
theorem dX12_keep_87 : decode cX12_keep 87 = .ok (.iconst 1, 1) := by decide +kernel
theorem dX12_keep_88 : decode cX12_keep 88 = .ok (.iadd, 1) := by decide +kernel
theorem dX12_keep_89 : decode cX12_keep 89 = .ok (.aload_n 0, 1) := by decide +kernel
theorem dX12_keep_90 : decode cX12_keep 90 = .ok (.iload_n 1, 1) := by decide +kernel
theorem dX12_keep_91 : decode cX12_keep 91 = .ok (.invokevirtual 106, 3) := by decide +kernel
theorem dX12_keep_94 : decode cX12_keep 94 = .ok (.iastore, 1) := by decide +kernel
theorem dX12_keep_95 : decode cX12_keep 95 = .ok (.aload_n 0, 1) := by decide +kernel
theorem dX12_keep_96 : decode cX12_keep 96 = .ok (.getfield 7, 3) := by decide +kernel
theorem dX12_keep_99 : decode cX12_keep 99 = .ok (.iconst 3, 1) := by decide +kernel
theorem dX12_keep_100 : decode cX12_keep 100 = .ok (.dup2, 1) := by decide +kernel
theorem dX12_keep_101 : decode cX12_keep 101 = .ok (.iaload, 1) := by decide +kernel
theorem dX12_keep_102 : decode cX12_keep 102 = .ok (.iconst 1, 1) := by decide +kernel
theorem dX12_keep_103 : decode cX12_keep 103 = .ok (.iadd, 1) := by decide +kernel
theorem dX12_keep_104 : decode cX12_keep 104 = .ok (.iastore, 1) := by decide +kernel
theorem dX12_keep_105 : decode cX12_keep 105 = .ok (.return_, 1) := by decide +kernel
theorem dX12_tap_0 : decode cX12_tap 0 = .ok (.aload_n 0, 1) := by decide +kernel
theorem dX12_tap_1 : decode cX12_tap 1 = .ok (.iload_n 1, 1) := by decide +kernel
theorem dX12_tap_2 : decode cX12_tap 2 = .ok (.invokevirtual 301, 3) := by decide +kernel
theorem dX12_tap_5 : decode cX12_tap 5 = .ok (.ifCond .eq 12, 3) := by decide +kernel
theorem dX12_tap_8 : decode cX12_tap 8 = .ok (.iload_n 2, 1) := by decide +kernel
theorem dX12_tap_9 : decode cX12_tap 9 = .ok (.iconst 0, 1) := by decide +kernel
theorem dX12_tap_10 : decode cX12_tap 10 = .ok (.iconst 3, 1) := by decide +kernel
theorem dX12_tap_11 : decode cX12_tap 11 = .ok (.invokestatic 95, 3) := by decide +kernel
theorem dX12_tap_14 : decode cX12_tap 14 = .ok (.ifCond .ne 5, 3) := by decide +kernel
theorem dX12_tap_17 : decode cX12_tap 17 = .ok (.iconst (-1), 1) := by decide +kernel
theorem dX12_tap_18 : decode cX12_tap 18 = .ok (.ireturn, 1) := by decide +kernel
theorem dX12_tap_19 : decode cX12_tap 19 = .ok (.aload_n 0, 1) := by decide +kernel
theorem dX12_tap_20 : decode cX12_tap 20 = .ok (.iload_n 1, 1) := by decide +kernel
theorem dX12_tap_21 : decode cX12_tap 21 = .ok (.invokevirtual 304, 3) := by decide +kernel
theorem dX12_tap_24 : decode cX12_tap 24 = .ok (.aload_n 0, 1) := by decide +kernel
theorem dX12_tap_25 : decode cX12_tap 25 = .ok (.aload_n 0, 1) := by decide +kernel
theorem dX12_tap_26 : decode cX12_tap 26 = .ok (.iload_n 1, 1) := by decide +kernel
theorem dX12_tap_27 : decode cX12_tap 27 = .ok (.invokevirtual 307, 3) := by decide +kernel
theorem dX12_tap_30 : decode cX12_tap 30 = .ok (.aload_n 0, 1) := by decide +kernel
theorem dX12_tap_31 : decode cX12_tap 31 = .ok (.iload_n 1, 1) := by decide +kernel
theorem dX12_tap_32 : decode cX12_tap 32 = .ok (.invokevirtual 106, 3) := by decide +kernel
theorem dX12_tap_35 : decode cX12_tap 35 = .ok (.iload_n 2, 1) := by decide +kernel
theorem dX12_tap_36 : decode cX12_tap 36 = .ok (.invokevirtual 294, 3) := by decide +kernel
theorem dX12_tap_39 : decode cX12_tap 39 = .ok (.istore_n 3, 1) := by decide +kernel
theorem dX12_tap_40 : decode cX12_tap 40 = .ok (.aload_n 0, 1) := by decide +kernel
theorem dX12_tap_41 : decode cX12_tap 41 = .ok (.getfield 7, 3) := by decide +kernel
theorem dX12_tap_44 : decode cX12_tap 44 = .ok (.bipush 35, 2) := by decide +kernel
theorem dX12_tap_46 : decode cX12_tap 46 = .ok (.iconst 2, 1) := by decide +kernel
theorem dX12_tap_47 : decode cX12_tap 47 = .ok (.iload_n 1, 1) := by decide +kernel
theorem dX12_tap_48 : decode cX12_tap 48 = .ok (.imul, 1) := by decide +kernel
theorem dX12_tap_49 : decode cX12_tap 49 = .ok (.iadd, 1) := by decide +kernel
theorem dX12_tap_50 : decode cX12_tap 50 = .ok (.iload_n 3, 1) := by decide +kernel
theorem dX12_tap_51 : decode cX12_tap 51 = .ok (.sipush 200, 3) := by decide +kernel
theorem dX12_tap_54 : decode cX12_tap 54 = .ok (.irem, 1) := by decide +kernel
theorem dX12_tap_55 : decode cX12_tap 55 = .ok (.iastore, 1) := by decide +kernel
theorem dX12_tap_56 : decode cX12_tap 56 = .ok (.iload_n 3, 1) := by decide +kernel
theorem dX12_tap_57 : decode cX12_tap 57 = .ok (.ireturn, 1) := by decide +kernel
theorem dX12_row_0 : decode cX12_row 0 = .ok (.iload_n 1, 1) := by decide +kernel
theorem dX12_row_1 : decode cX12_row 1 = .ok (.iconst (-1), 1) := by decide +kernel
theorem dX12_row_2 : decode cX12_row 2 = .ok (.if_icmp .ne 12, 3) := by decide +kernel
theorem dX12_row_5 : decode cX12_row 5 = .ok (.aload_n 0, 1) := by decide +kernel
theorem dX12_row_6 : decode cX12_row 6 = .ok (.getfield 7, 3) := by decide +kernel
theorem dX12_row_9 : decode cX12_row 9 = .ok (.iconst 2, 1) := by decide +kernel
theorem dX12_row_10 : decode cX12_row 10 = .ok (.iconst 0, 1) := by decide +kernel
theorem dX12_row_11 : decode cX12_row 11 = .ok (.iastore, 1) := by decide +kernel
theorem dX12_row_12 : decode cX12_row 12 = .ok (.iconst 0, 1) := by decide +kernel
theorem dX12_row_13 : decode cX12_row 13 = .ok (.ireturn, 1) := by decide +kernel
theorem dX12_row_14 : decode cX12_row 14 = .ok (.iload_n 1, 1) := by decide +kernel
theorem dX12_row_15 : decode cX12_row 15 = .ok (.iconst 0, 1) := by decide +kernel
theorem dX12_row_16 : decode cX12_row 16 = .ok (.iconst 3, 1) := by decide +kernel
theorem dX12_row_17 : decode cX12_row 17 = .ok (.invokestatic 95, 3) := by decide +kernel
theorem dX12_row_20 : decode cX12_row 20 = .ok (.ifCond .eq 14, 3) := by decide +kernel
theorem dX12_row_23 : decode cX12_row 23 = .ok (.aload_n 0, 1) := by decide +kernel
theorem dX12_row_24 : decode cX12_row 24 = .ok (.getfield 7, 3) := by decide +kernel
theorem dX12_row_27 : decode cX12_row 27 = .ok (.iconst 2, 1) := by decide +kernel
theorem dX12_row_28 : decode cX12_row 28 = .ok (.iaload, 1) := by decide +kernel
theorem dX12_row_29 : decode cX12_row 29 = .ok (.bipush 16, 2) := by decide +kernel
theorem dX12_row_31 : decode cX12_row 31 = .ok (.if_icmp .ne 5, 3) := by decide +kernel
theorem dX12_row_34 : decode cX12_row 34 = .ok (.iconst (-1), 1) := by decide +kernel
theorem dX12_row_35 : decode cX12_row 35 = .ok (.ireturn, 1) := by decide +kernel
theorem dX12_row_36 : decode cX12_row 36 = .ok (.aload_n 0, 1) := by decide +kernel
theorem dX12_row_37 : decode cX12_row 37 = .ok (.getfield 7, 3) := by decide +kernel
theorem dX12_row_40 : decode cX12_row 40 = .ok (.bipush 50, 2) := by decide +kernel
theorem dX12_row_42 : decode cX12_row 42 = .ok (.aload_n 0, 1) := by decide +kernel
theorem dX12_row_43 : decode cX12_row 43 = .ok (.getfield 7, 3) := by decide +kernel
theorem dX12_row_46 : decode cX12_row 46 = .ok (.iconst 2, 1) := by decide +kernel
theorem dX12_row_47 : decode cX12_row 47 = .ok (.iaload, 1) := by decide +kernel
theorem dX12_row_48 : decode cX12_row 48 = .ok (.iadd, 1) := by decide +kernel
theorem dX12_row_49 : decode cX12_row 49 = .ok (.iload_n 1, 1) := by decide +kernel
theorem dX12_row_50 : decode cX12_row 50 = .ok (.iastore, 1) := by decide +kernel
theorem dX12_row_51 : decode cX12_row 51 = .ok (.aload_n 0, 1) := by decide +kernel
theorem dX12_row_52 : decode cX12_row 52 = .ok (.getfield 7, 3) := by decide +kernel
theorem dX12_row_55 : decode cX12_row 55 = .ok (.iconst 2, 1) := by decide +kernel
theorem dX12_row_56 : decode cX12_row 56 = .ok (.dup2, 1) := by decide +kernel
theorem dX12_row_57 : decode cX12_row 57 = .ok (.iaload, 1) := by decide +kernel
theorem dX12_row_58 : decode cX12_row 58 = .ok (.iconst 1, 1) := by decide +kernel
theorem dX12_row_59 : decode cX12_row 59 = .ok (.iadd, 1) := by decide +kernel
theorem dX12_row_60 : decode cX12_row 60 = .ok (.iastore, 1) := by decide +kernel
theorem dX12_row_61 : decode cX12_row 61 = .ok (.aload_n 0, 1) := by decide +kernel
theorem dX12_row_62 : decode cX12_row 62 = .ok (.getfield 7, 3) := by decide +kernel
theorem dX12_row_65 : decode cX12_row 65 = .ok (.iconst 2, 1) := by decide +kernel
theorem dX12_row_66 : decode cX12_row 66 = .ok (.iaload, 1) := by decide +kernel
theorem dX12_row_67 : decode cX12_row 67 = .ok (.ireturn, 1) := by decide +kernel
theorem dX12_walk_0 : decode cX12_walk 0 = .ok (.aload_n 0, 1) := by decide +kernel
theorem dX12_walk_1 : decode cX12_walk 1 = .ok (.iload_n 1, 1) := by decide +kernel
theorem dX12_walk_2 : decode cX12_walk 2 = .ok (.invokevirtual 301, 3) := by decide +kernel
theorem dX12_walk_5 : decode cX12_walk 5 = .ok (.ifCond .ne 5, 3) := by decide +kernel
theorem dX12_walk_8 : decode cX12_walk 8 = .ok (.iconst (-1), 1) := by decide +kernel
theorem dX12_walk_9 : decode cX12_walk 9 = .ok (.ireturn, 1) := by decide +kernel
theorem dX12_walk_10 : decode cX12_walk 10 = .ok (.aload_n 0, 1) := by decide +kernel
theorem dX12_walk_11 : decode cX12_walk 11 = .ok (.iload_n 1, 1) := by decide +kernel
theorem dX12_walk_12 : decode cX12_walk 12 = .ok (.invokevirtual 304, 3) := by decide +kernel
theorem dX12_walk_15 : decode cX12_walk 15 = .ok (.iconst 0, 1) := by decide +kernel
theorem dX12_walk_16 : decode cX12_walk 16 = .ok (.istore_n 2, 1) := by decide +kernel
theorem dX12_walk_17 : decode cX12_walk 17 = .ok (.iconst 0, 1) := by decide +kernel
theorem dX12_walk_18 : decode cX12_walk 18 = .ok (.istore_n 3, 1) := by decide +kernel
theorem dX12_walk_19 : decode cX12_walk 19 = .ok (.iload_n 3, 1) := by decide +kernel
theorem dX12_walk_20 : decode cX12_walk 20 = .ok (.aload_n 0, 1) := by decide +kernel
theorem dX12_walk_21 : decode cX12_walk 21 = .ok (.getfield 7, 3) := by decide +kernel
theorem dX12_walk_24 : decode cX12_walk 24 = .ok (.iconst 2, 1) := by decide +kernel
theorem dX12_walk_25 : decode cX12_walk 25 = .ok (.iaload, 1) := by decide +kernel
theorem dX12_walk_26 : decode cX12_walk 26 = .ok (.if_icmp .ge 73, 3) := by decide +kernel
theorem dX12_walk_29 : decode cX12_walk 29 = .ok (.aload_n 0, 1) := by decide +kernel
theorem dX12_walk_30 : decode cX12_walk 30 = .ok (.aload_n 0, 1) := by decide +kernel
theorem dX12_walk_31 : decode cX12_walk 31 = .ok (.iload_n 1, 1) := by decide +kernel
theorem dX12_walk_32 : decode cX12_walk 32 = .ok (.invokevirtual 307, 3) := by decide +kernel
theorem dX12_walk_35 : decode cX12_walk 35 = .ok (.aload_n 0, 1) := by decide +kernel
theorem dX12_walk_36 : decode cX12_walk 36 = .ok (.iload_n 1, 1) := by decide +kernel
theorem dX12_walk_37 : decode cX12_walk 37 = .ok (.invokevirtual 106, 3) := by decide +kernel
theorem dX12_walk_40 : decode cX12_walk 40 = .ok (.aload_n 0, 1) := by decide +kernel
theorem dX12_walk_41 : decode cX12_walk 41 = .ok (.getfield 7, 3) := by decide +kernel
theorem dX12_walk_44 : decode cX12_walk 44 = .ok (.bipush 50, 2) := by decide +kernel
theorem dX12_walk_46 : decode cX12_walk 46 = .ok (.iload_n 3, 1) := by decide +kernel
theorem dX12_walk_47 : decode cX12_walk 47 = .ok (.iadd, 1) := by decide +kernel
theorem dX12_walk_48 : decode cX12_walk 48 = .ok (.iaload, 1) := by decide +kernel
theorem dX12_walk_49 : decode cX12_walk 49 = .ok (.invokevirtual 294, 3) := by decide +kernel
theorem dX12_walk_52 : decode cX12_walk 52 = .ok (.istore 4, 2) := by decide +kernel
theorem dX12_walk_54 : decode cX12_walk 54 = .ok (.iload_n 2, 1) := by decide +kernel
theorem dX12_walk_55 : decode cX12_walk 55 = .ok (.iload 4, 2) := by decide +kernel
theorem dX12_walk_57 : decode cX12_walk 57 = .ok (.sipush 200, 3) := by decide +kernel
theorem dX12_walk_60 : decode cX12_walk 60 = .ok (.sipush 399, 3) := by decide +kernel
theorem dX12_walk_63 : decode cX12_walk 63 = .ok (.invokestatic 95, 3) := by decide +kernel
theorem dX12_walk_66 : decode cX12_walk 66 = .ok (.ifCond .eq 7, 3) := by decide +kernel
theorem dX12_walk_69 : decode cX12_walk 69 = .ok (.iconst 1, 1) := by decide +kernel
theorem dX12_walk_70 : decode cX12_walk 70 = .ok (.goto 4, 3) := by decide +kernel
theorem dX12_walk_73 : decode cX12_walk 73 = .ok (.iconst 0, 1) := by decide +kernel
theorem dX12_walk_74 : decode cX12_walk 74 = .ok (.iadd, 1) := by decide +kernel
theorem dX12_walk_75 : decode cX12_walk 75 = .ok (.istore_n 2, 1) := by decide +kernel
theorem dX12_walk_76 : decode cX12_walk 76 = .ok (.aload_n 0, 1) := by decide +kernel
theorem dX12_walk_77 : decode cX12_walk 77 = .ok (.getfield 7, 3) := by decide +kernel
theorem dX12_walk_80 : decode cX12_walk 80 = .ok (.bipush 35, 2) := by decide +kernel
theorem dX12_walk_82 : decode cX12_walk 82 = .ok (.iconst 2, 1) := by decide +kernel
theorem dX12_walk_83 : decode cX12_walk 83 = .ok (.iload_n 1, 1) := by decide +kernel
theorem dX12_walk_84 : decode cX12_walk 84 = .ok (.imul, 1) := by decide +kernel
theorem dX12_walk_85 : decode cX12_walk 85 = .ok (.iadd, 1) := by decide +kernel
theorem dX12_walk_86 : decode cX12_walk 86 = .ok (.iload 4, 2) := by decide +kernel
theorem dX12_walk_88 : decode cX12_walk 88 = .ok (.sipush 200, 3) := by decide +kernel
theorem dX12_walk_91 : decode cX12_walk 91 = .ok (.irem, 1) := by decide +kernel
theorem dX12_walk_92 : decode cX12_walk 92 = .ok (.iastore, 1) := by decide +kernel
theorem dX12_walk_93 : decode cX12_walk 93 = .ok (.iinc 3 1, 3) := by decide +kernel
theorem dX12_walk_96 : decode cX12_walk 96 = .ok (.goto (-77), 3) := by decide +kernel
theorem dX12_walk_99 : decode cX12_walk 99 = .ok (.iload_n 2, 1) := by decide +kernel
theorem dX12_walk_100 : decode cX12_walk 100 = .ok (.ireturn, 1) := by decide +kernel
theorem dX12_undo_0 : decode cX12_undo 0 = .ok (.aload_n 0, 1) := by decide +kernel
theorem dX12_undo_1 : decode cX12_undo 1 = .ok (.getfield 7, 3) := by decide +kernel
theorem dX12_undo_4 : decode cX12_undo 4 = .ok (.iconst 3, 1) := by decide +kernel
theorem dX12_undo_5 : decode cX12_undo 5 = .ok (.iaload, 1) := by decide +kernel
theorem dX12_undo_6 : decode cX12_undo 6 = .ok (.ifCond .ne 5, 3) := by decide +kernel
theorem dX12_undo_9 : decode cX12_undo 9 = .ok (.iconst (-1), 1) := by decide +kernel
theorem dX12_undo_10 : decode cX12_undo 10 = .ok (.ireturn, 1) := by decide +kernel
theorem dX12_undo_11 : decode cX12_undo 11 = .ok (.aload_n 0, 1) := by decide +kernel
theorem dX12_undo_12 : decode cX12_undo 12 = .ok (.getfield 7, 3) := by decide +kernel
theorem dX12_undo_15 : decode cX12_undo 15 = .ok (.iconst 3, 1) := by decide +kernel
theorem dX12_undo_16 : decode cX12_undo 16 = .ok (.dup2, 1) := by decide +kernel
theorem dX12_undo_17 : decode cX12_undo 17 = .ok (.iaload, 1) := by decide +kernel
theorem dX12_undo_18 : decode cX12_undo 18 = .ok (.iconst 1, 1) := by decide +kernel
theorem dX12_undo_19 : decode cX12_undo 19 = .ok (.isub, 1) := by decide +kernel
theorem dX12_undo_20 : decode cX12_undo 20 = .ok (.iastore, 1) := by decide +kernel
theorem dX12_undo_21 : decode cX12_undo 21 = .ok (.aload_n 0, 1) := by decide +kernel
theorem dX12_undo_22 : decode cX12_undo 22 = .ok (.getfield 7, 3) := by decide +kernel
theorem dX12_undo_25 : decode cX12_undo 25 = .ok (.bipush 70, 2) := by decide +kernel
theorem dX12_undo_27 : decode cX12_undo 27 = .ok (.iconst 2, 1) := by decide +kernel
theorem dX12_undo_28 : decode cX12_undo 28 = .ok (.aload_n 0, 1) := by decide +kernel
theorem dX12_undo_29 : decode cX12_undo 29 = .ok (.getfield 7, 3) := by decide +kernel
theorem dX12_undo_32 : decode cX12_undo 32 = .ok (.iconst 3, 1) := by decide +kernel
theorem dX12_undo_33 : decode cX12_undo 33 = .ok (.iaload, 1) := by decide +kernel
theorem dX12_undo_34 : decode cX12_undo 34 = .ok (.imul, 1) := by decide +kernel
theorem dX12_undo_35 : decode cX12_undo 35 = .ok (.iadd, 1) := by decide +kernel
theorem dX12_undo_36 : decode cX12_undo 36 = .ok (.iaload, 1) := by decide +kernel
theorem dX12_undo_37 : decode cX12_undo 37 = .ok (.istore_n 1, 1) := by decide +kernel
theorem dX12_undo_38 : decode cX12_undo 38 = .ok (.aload_n 0, 1) := by decide +kernel
theorem dX12_undo_39 : decode cX12_undo 39 = .ok (.getfield 7, 3) := by decide +kernel
theorem dX12_undo_42 : decode cX12_undo 42 = .ok (.bipush 35, 2) := by decide +kernel
theorem dX12_undo_44 : decode cX12_undo 44 = .ok (.iconst 2, 1) := by decide +kernel
theorem dX12_undo_45 : decode cX12_undo 45 = .ok (.iload_n 1, 1) := by decide +kernel
theorem dX12_undo_46 : decode cX12_undo 46 = .ok (.imul, 1) := by decide +kernel
theorem dX12_undo_47 : decode cX12_undo 47 = .ok (.iadd, 1) := by decide +kernel
theorem dX12_undo_48 : decode cX12_undo 48 = .ok (.aload_n 0, 1) := by decide +kernel
theorem dX12_undo_49 : decode cX12_undo 49 = .ok (.getfield 7, 3) := by decide +kernel
theorem dX12_undo_52 : decode cX12_undo 52 = .ok (.bipush 70, 2) := by decide +kernel
theorem dX12_undo_54 : decode cX12_undo 54 = .ok (.iconst 2, 1) := by decide +kernel
theorem dX12_undo_55 : decode cX12_undo 55 = .ok (.aload_n 0, 1) := by decide +kernel
theorem dX12_undo_56 : decode cX12_undo 56 = .ok (.getfield 7, 3) := by decide +kernel
theorem dX12_undo_59 : decode cX12_undo 59 = .ok (.iconst 3, 1) := by decide +kernel
theorem dX12_undo_60 : decode cX12_undo 60 = .ok (.iaload, 1) := by decide +kernel
theorem dX12_undo_61 : decode cX12_undo 61 = .ok (.imul, 1) := by decide +kernel
theorem dX12_undo_62 : decode cX12_undo 62 = .ok (.iadd, 1) := by decide +kernel
theorem dX12_undo_63 : decode cX12_undo 63 = .ok (.iconst 1, 1) := by decide +kernel
theorem dX12_undo_64 : decode cX12_undo 64 = .ok (.iadd, 1) := by decide +kernel
theorem dX12_undo_65 : decode cX12_undo 65 = .ok (.iaload, 1) := by decide +kernel
theorem dX12_undo_66 : decode cX12_undo 66 = .ok (.iastore, 1) := by decide +kernel
theorem dX12_undo_67 : decode cX12_undo 67 = .ok (.iload_n 1, 1) := by decide +kernel
theorem dX12_undo_68 : decode cX12_undo 68 = .ok (.ireturn, 1) := by decide +kernel
theorem dX12_of_0 : decode cX12_of 0 = .ok (.aload_n 0, 1) := by decide +kernel
theorem dX12_of_1 : decode cX12_of 1 = .ok (.iload_n 1, 1) := by decide +kernel
theorem dX12_of_2 : decode cX12_of 2 = .ok (.invokevirtual 301, 3) := by decide +kernel
theorem dX12_of_5 : decode cX12_of 5 = .ok (.ifCond .eq 28, 3) := by decide +kernel
theorem dX12_of_8 : decode cX12_of 8 = .ok (.iload_n 2, 1) := by decide +kernel
theorem dX12_of_9 : decode cX12_of 9 = .ok (.iconst 0, 1) := by decide +kernel
theorem dX12_of_10 : decode cX12_of 10 = .ok (.iconst 1, 1) := by decide +kernel
theorem dX12_of_11 : decode cX12_of 11 = .ok (.invokestatic 95, 3) := by decide +kernel
theorem dX12_of_14 : decode cX12_of 14 = .ok (.ifCond .eq 19, 3) := by decide +kernel
theorem dX12_of_17 : decode cX12_of 17 = .ok (.aload_n 0, 1) := by decide +kernel
theorem dX12_of_18 : decode cX12_of 18 = .ok (.getfield 7, 3) := by decide +kernel
theorem dX12_of_21 : decode cX12_of 21 = .ok (.bipush 35, 2) := by decide +kernel
theorem dX12_of_23 : decode cX12_of 23 = .ok (.iconst 2, 1) := by decide +kernel
theorem dX12_of_24 : decode cX12_of 24 = .ok (.iload_n 1, 1) := by decide +kernel
theorem dX12_of_25 : decode cX12_of 25 = .ok (.imul, 1) := by decide +kernel
theorem dX12_of_26 : decode cX12_of 26 = .ok (.iadd, 1) := by decide +kernel
theorem dX12_of_27 : decode cX12_of 27 = .ok (.iload_n 2, 1) := by decide +kernel
theorem dX12_of_28 : decode cX12_of 28 = .ok (.iadd, 1) := by decide +kernel
theorem dX12_of_29 : decode cX12_of 29 = .ok (.iaload, 1) := by decide +kernel
theorem dX12_of_30 : decode cX12_of 30 = .ok (.goto 4, 3) := by decide +kernel
theorem dX12_of_33 : decode cX12_of 33 = .ok (.iconst (-1), 1) := by decide +kernel
theorem dX12_of_34 : decode cX12_of 34 = .ok (.ireturn, 1) := by decide +kernel
theorem dX12_sumOf_0 : decode cX12_sumOf 0 = .ok (.iload_n 0, 1) := by decide +kernel
theorem dX12_sumOf_1 : decode cX12_sumOf 1 = .ok (.bipush 101, 2) := by decide +kernel
theorem dX12_sumOf_3 : decode cX12_sumOf 3 = .ok (.imul, 1) := by decide +kernel
theorem dX12_sumOf_4 : decode cX12_sumOf 4 = .ok (.iload_n 1, 1) := by decide +kernel
theorem dX12_sumOf_5 : decode cX12_sumOf 5 = .ok (.iadd, 1) := by decide +kernel
theorem dX12_sumOf_6 : decode cX12_sumOf 6 = .ok (.bipush 101, 2) := by decide +kernel
theorem dX12_sumOf_8 : decode cX12_sumOf 8 = .ok (.imul, 1) := by decide +kernel
theorem dX12_sumOf_9 : decode cX12_sumOf 9 = .ok (.iload_n 2, 1) := by decide +kernel
theorem dX12_sumOf_10 : decode cX12_sumOf 10 = .ok (.iadd, 1) := by decide +kernel
theorem dX12_sumOf_11 : decode cX12_sumOf 11 = .ok (.sipush 4095, 3) := by decide +kernel
theorem dX12_sumOf_14 : decode cX12_sumOf 14 = .ok (.iand, 1) := by decide +kernel
theorem dX12_sumOf_15 : decode cX12_sumOf 15 = .ok (.ireturn, 1) := by decide +kernel
theorem dX12_isKept_0 : decode cX12_isKept 0 = .ok (.iload_n 1, 1) := by decide +kernel
theorem dX12_isKept_1 : decode cX12_isKept 1 = .ok (.iload_n 2, 1) := by decide +kernel
theorem dX12_isKept_2 : decode cX12_isKept 2 = .ok (.iload_n 3, 1) := by decide +kernel
theorem dX12_isKept_3 : decode cX12_isKept 3 = .ok (.invokestatic 310, 3) := by decide +kernel
theorem dX12_isKept_6 : decode cX12_isKept 6 = .ok (.istore 6, 2) := by decide +kernel
theorem dX12_isKept_8 : decode cX12_isKept 8 = .ok (.aload_n 0, 1) := by decide +kernel
theorem dX12_isKept_9 : decode cX12_isKept 9 = .ok (.getfield 58, 3) := by decide +kernel
theorem dX12_isKept_12 : decode cX12_isKept 12 = .ok (.iload 6, 2) := by decide +kernel
theorem dX12_isKept_14 : decode cX12_isKept 14 = .ok (.iaload, 1) := by decide +kernel
theorem dX12_isKept_15 : decode cX12_isKept 15 = .ok (.istore 7, 2) := by decide +kernel
theorem dX12_isKept_17 : decode cX12_isKept 17 = .ok (.iload 7, 2) := by decide +kernel
theorem dX12_isKept_19 : decode cX12_isKept 19 = .ok (.ifCond .lt 60, 3) := by decide +kernel
theorem dX12_isKept_22 : decode cX12_isKept 22 = .ok (.aload_n 0, 1) := by decide +kernel
theorem dX12_isKept_23 : decode cX12_isKept 23 = .ok (.getfield 46, 3) := by decide +kernel
theorem dX12_isKept_26 : decode cX12_isKept 26 = .ok (.iconst 3, 1) := by decide +kernel
theorem dX12_isKept_27 : decode cX12_isKept 27 = .ok (.iload 7, 2) := by decide +kernel
theorem dX12_isKept_29 : decode cX12_isKept 29 = .ok (.imul, 1) := by decide +kernel
theorem dX12_isKept_30 : decode cX12_isKept 30 = .ok (.iaload, 1) := by decide +kernel
theorem dX12_isKept_31 : decode cX12_isKept 31 = .ok (.iload_n 1, 1) := by decide +kernel
theorem dX12_isKept_32 : decode cX12_isKept 32 = .ok (.if_icmp .ne 35, 3) := by decide +kernel
theorem dX12_isKept_35 : decode cX12_isKept 35 = .ok (.aload_n 0, 1) := by decide +kernel
theorem dX12_isKept_36 : decode cX12_isKept 36 = .ok (.getfield 46, 3) := by decide +kernel
theorem dX12_isKept_39 : decode cX12_isKept 39 = .ok (.iconst 3, 1) := by decide +kernel
theorem dX12_isKept_40 : decode cX12_isKept 40 = .ok (.iload 7, 2) := by decide +kernel
theorem dX12_isKept_42 : decode cX12_isKept 42 = .ok (.imul, 1) := by decide +kernel
theorem dX12_isKept_43 : decode cX12_isKept 43 = .ok (.iconst 1, 1) := by decide +kernel
theorem dX12_isKept_44 : decode cX12_isKept 44 = .ok (.iadd, 1) := by decide +kernel
theorem dX12_isKept_45 : decode cX12_isKept 45 = .ok (.iaload, 1) := by decide +kernel
theorem dX12_isKept_46 : decode cX12_isKept 46 = .ok (.iload_n 2, 1) := by decide +kernel
theorem dX12_isKept_47 : decode cX12_isKept 47 = .ok (.if_icmp .ne 20, 3) := by decide +kernel
theorem dX12_isKept_50 : decode cX12_isKept 50 = .ok (.aload_n 0, 1) := by decide +kernel
theorem dX12_isKept_51 : decode cX12_isKept 51 = .ok (.getfield 46, 3) := by decide +kernel
theorem dX12_isKept_54 : decode cX12_isKept 54 = .ok (.iconst 3, 1) := by decide +kernel
theorem dX12_isKept_55 : decode cX12_isKept 55 = .ok (.iload 7, 2) := by decide +kernel
theorem dX12_isKept_57 : decode cX12_isKept 57 = .ok (.imul, 1) := by decide +kernel
theorem dX12_isKept_58 : decode cX12_isKept 58 = .ok (.iconst 2, 1) := by decide +kernel
theorem dX12_isKept_59 : decode cX12_isKept 59 = .ok (.iadd, 1) := by decide +kernel
theorem dX12_isKept_60 : decode cX12_isKept 60 = .ok (.iaload, 1) := by decide +kernel
theorem dX12_isKept_61 : decode cX12_isKept 61 = .ok (.iload_n 3, 1) := by decide +kernel
theorem dX12_isKept_62 : decode cX12_isKept 62 = .ok (.if_icmp .ne 5, 3) := by decide +kernel
theorem dX12_isKept_65 : decode cX12_isKept 65 = .ok (.iconst 1, 1) := by decide +kernel
theorem dX12_isKept_66 : decode cX12_isKept 66 = .ok (.ireturn, 1) := by decide +kernel
theorem dX12_isKept_67 : decode cX12_isKept 67 = .ok (.aload_n 0, 1) := by decide +kernel
theorem dX12_isKept_68 : decode cX12_isKept 68 = .ok (.getfield 55, 3) := by decide +kernel
theorem dX12_isKept_71 : decode cX12_isKept 71 = .ok (.iload 7, 2) := by decide +kernel
theorem dX12_isKept_73 : decode cX12_isKept 73 = .ok (.iaload, 1) := by decide +kernel
theorem dX12_isKept_74 : decode cX12_isKept 74 = .ok (.istore 7, 2) := by decide +kernel
theorem dX12_isKept_76 : decode cX12_isKept 76 = .ok (.goto (-59), 3) := by decide +kernel
theorem dX12_isKept_79 : decode cX12_isKept 79 = .ok (.aload_n 0, 1) := by decide +kernel
theorem dX12_isKept_80 : decode cX12_isKept 80 = .ok (.getfield 313, 3) := by decide +kernel
theorem dX12_isKept_83 : decode cX12_isKept 83 = .ok (.sipush 3000, 3) := by decide +kernel
theorem dX12_isKept_86 : decode cX12_isKept 86 = .ok (.if_icmp .ne 5, 3) := by decide +kernel
theorem dX12_isKept_89 : decode cX12_isKept 89 = .ok (.iconst 0, 1) := by decide +kernel
theorem dX12_isKept_90 : decode cX12_isKept 90 = .ok (.ireturn, 1) := by decide +kernel
theorem dX12_isKept_91 : decode cX12_isKept 91 = .ok (.aload_n 0, 1) := by decide +kernel
theorem dX12_isKept_92 : decode cX12_isKept 92 = .ok (.getfield 46, 3) := by decide +kernel
theorem dX12_isKept_95 : decode cX12_isKept 95 = .ok (.iconst 3, 1) := by decide +kernel
theorem dX12_isKept_96 : decode cX12_isKept 96 = .ok (.aload_n 0, 1) := by decide +kernel
theorem dX12_isKept_97 : decode cX12_isKept 97 = .ok (.getfield 313, 3) := by decide +kernel
theorem dX12_isKept_100 : decode cX12_isKept 100 = .ok (.imul, 1) := by decide +kernel
theorem dX12_isKept_101 : decode cX12_isKept 101 = .ok (.iload_n 1, 1) := by decide +kernel
theorem dX12_isKept_102 : decode cX12_isKept 102 = .ok (.iastore, 1) := by decide +kernel
theorem dX12_isKept_103 : decode cX12_isKept 103 = .ok (.aload_n 0, 1) := by decide +kernel
theorem dX12_isKept_104 : decode cX12_isKept 104 = .ok (.getfield 46, 3) := by decide +kernel
theorem dX12_isKept_107 : decode cX12_isKept 107 = .ok (.iconst 3, 1) := by decide +kernel
theorem dX12_isKept_108 : decode cX12_isKept 108 = .ok (.aload_n 0, 1) := by decide +kernel
theorem dX12_isKept_109 : decode cX12_isKept 109 = .ok (.getfield 313, 3) := by decide +kernel
theorem dX12_isKept_112 : decode cX12_isKept 112 = .ok (.imul, 1) := by decide +kernel
theorem dX12_isKept_113 : decode cX12_isKept 113 = .ok (.iconst 1, 1) := by decide +kernel
theorem dX12_isKept_114 : decode cX12_isKept 114 = .ok (.iadd, 1) := by decide +kernel
theorem dX12_isKept_115 : decode cX12_isKept 115 = .ok (.iload_n 2, 1) := by decide +kernel
theorem dX12_isKept_116 : decode cX12_isKept 116 = .ok (.iastore, 1) := by decide +kernel
theorem dX12_isKept_117 : decode cX12_isKept 117 = .ok (.aload_n 0, 1) := by decide +kernel
theorem dX12_isKept_118 : decode cX12_isKept 118 = .ok (.getfield 46, 3) := by decide +kernel
theorem dX12_isKept_121 : decode cX12_isKept 121 = .ok (.iconst 3, 1) := by decide +kernel
theorem dX12_isKept_122 : decode cX12_isKept 122 = .ok (.aload_n 0, 1) := by decide +kernel
theorem dX12_isKept_123 : decode cX12_isKept 123 = .ok (.getfield 313, 3) := by decide +kernel
theorem dX12_isKept_126 : decode cX12_isKept 126 = .ok (.imul, 1) := by decide +kernel
theorem dX12_isKept_127 : decode cX12_isKept 127 = .ok (.iconst 2, 1) := by decide +kernel
theorem dX12_isKept_128 : decode cX12_isKept 128 = .ok (.iadd, 1) := by decide +kernel
theorem dX12_isKept_129 : decode cX12_isKept 129 = .ok (.iload_n 3, 1) := by decide +kernel
theorem dX12_isKept_130 : decode cX12_isKept 130 = .ok (.iastore, 1) := by decide +kernel
theorem dX12_isKept_131 : decode cX12_isKept 131 = .ok (.aload_n 0, 1) := by decide +kernel
theorem dX12_isKept_132 : decode cX12_isKept 132 = .ok (.getfield 49, 3) := by decide +kernel
theorem dX12_isKept_135 : decode cX12_isKept 135 = .ok (.aload_n 0, 1) := by decide +kernel
theorem dX12_isKept_136 : decode cX12_isKept 136 = .ok (.getfield 313, 3) := by decide +kernel
theorem dX12_isKept_139 : decode cX12_isKept 139 = .ok (.iload 4, 2) := by decide +kernel
theorem dX12_isKept_141 : decode cX12_isKept 141 = .ok (.iastore, 1) := by decide +kernel
theorem dX12_isKept_142 : decode cX12_isKept 142 = .ok (.aload_n 0, 1) := by decide +kernel
theorem dX12_isKept_143 : decode cX12_isKept 143 = .ok (.getfield 52, 3) := by decide +kernel
theorem dX12_isKept_146 : decode cX12_isKept 146 = .ok (.aload_n 0, 1) := by decide +kernel
theorem dX12_isKept_147 : decode cX12_isKept 147 = .ok (.getfield 313, 3) := by decide +kernel
theorem dX12_isKept_150 : decode cX12_isKept 150 = .ok (.iload 5, 2) := by decide +kernel
theorem dX12_isKept_152 : decode cX12_isKept 152 = .ok (.iastore, 1) := by decide +kernel
theorem dX12_isKept_153 : decode cX12_isKept 153 = .ok (.aload_n 0, 1) := by decide +kernel
theorem dX12_isKept_154 : decode cX12_isKept 154 = .ok (.getfield 55, 3) := by decide +kernel
theorem dX12_isKept_157 : decode cX12_isKept 157 = .ok (.aload_n 0, 1) := by decide +kernel
theorem dX12_isKept_158 : decode cX12_isKept 158 = .ok (.getfield 313, 3) := by decide +kernel
theorem dX12_isKept_161 : decode cX12_isKept 161 = .ok (.aload_n 0, 1) := by decide +kernel
theorem dX12_isKept_162 : decode cX12_isKept 162 = .ok (.getfield 58, 3) := by decide +kernel
theorem dX12_isKept_165 : decode cX12_isKept 165 = .ok (.iload 6, 2) := by decide +kernel
theorem dX12_isKept_167 : decode cX12_isKept 167 = .ok (.iaload, 1) := by decide +kernel
theorem dX12_isKept_168 : decode cX12_isKept 168 = .ok (.iastore, 1) := by decide +kernel
theorem dX12_isKept_169 : decode cX12_isKept 169 = .ok (.aload_n 0, 1) := by decide +kernel
theorem dX12_isKept_170 : decode cX12_isKept 170 = .ok (.getfield 58, 3) := by decide +kernel
theorem dX12_isKept_173 : decode cX12_isKept 173 = .ok (.iload 6, 2) := by decide +kernel
theorem dX12_isKept_175 : decode cX12_isKept 175 = .ok (.aload_n 0, 1) := by decide +kernel
theorem dX12_isKept_176 : decode cX12_isKept 176 = .ok (.getfield 313, 3) := by decide +kernel
theorem dX12_isKept_179 : decode cX12_isKept 179 = .ok (.iastore, 1) := by decide +kernel
theorem dX12_isKept_180 : decode cX12_isKept 180 = .ok (.aload_n 0, 1) := by decide +kernel
theorem dX12_isKept_181 : decode cX12_isKept 181 = .ok (.dup, 1) := by decide +kernel
theorem dX12_isKept_182 : decode cX12_isKept 182 = .ok (.getfield 313, 3) := by decide +kernel
theorem dX12_isKept_185 : decode cX12_isKept 185 = .ok (.iconst 1, 1) := by decide +kernel
theorem dX12_isKept_186 : decode cX12_isKept 186 = .ok (.iadd, 1) := by decide +kernel
theorem dX12_isKept_187 : decode cX12_isKept 187 = .ok (.putfield 313, 3) := by decide +kernel
theorem dX12_isKept_190 : decode cX12_isKept 190 = .ok (.iconst 1, 1) := by decide +kernel
theorem dX12_isKept_191 : decode cX12_isKept 191 = .ok (.ireturn, 1) := by decide +kernel
theorem dX12_next_0 : decode cX12_next 0 = .ok (.iload_n 2, 1) := by decide +kernel
theorem dX12_next_1 : decode cX12_next 1 = .ok (.aload_n 0, 1) := by decide +kernel
theorem dX12_next_2 : decode cX12_next 2 = .ok (.getfield 316, 3) := by decide +kernel
theorem dX12_next_5 : decode cX12_next 5 = .ok (.if_icmp .ge 27, 3) := by decide +kernel
theorem dX12_next_8 : decode cX12_next 8 = .ok (.aload_n 0, 1) := by decide +kernel
theorem dX12_next_9 : decode cX12_next 9 = .ok (.aload_n 0, 1) := by decide +kernel
theorem dX12_next_10 : decode cX12_next 10 = .ok (.getfield 61, 3) := by decide +kernel
theorem dX12_next_13 : decode cX12_next 13 = .ok (.iload_n 2, 1) := by decide +kernel
theorem dX12_next_14 : decode cX12_next 14 = .ok (.iaload, 1) := by decide +kernel
theorem dX12_next_15 : decode cX12_next 15 = .ok (.aload_n 0, 1) := by decide +kernel
theorem dX12_next_16 : decode cX12_next 16 = .ok (.getfield 46, 3) := by decide +kernel
theorem dX12_next_19 : decode cX12_next 19 = .ok (.iconst 3, 1) := by decide +kernel
theorem dX12_next_20 : decode cX12_next 20 = .ok (.iload_n 1, 1) := by decide +kernel
theorem dX12_next_21 : decode cX12_next 21 = .ok (.imul, 1) := by decide +kernel
theorem dX12_next_22 : decode cX12_next 22 = .ok (.iload_n 2, 1) := by decide +kernel
theorem dX12_next_23 : decode cX12_next 23 = .ok (.iadd, 1) := by decide +kernel
theorem dX12_next_24 : decode cX12_next 24 = .ok (.iaload, 1) := by decide +kernel
theorem dX12_next_25 : decode cX12_next 25 = .ok (.iload_n 3, 1) := by decide +kernel
theorem dX12_next_26 : decode cX12_next 26 = .ok (.invokevirtual 319, 3) := by decide +kernel
theorem dX12_next_29 : decode cX12_next 29 = .ok (.goto 4, 3) := by decide +kernel
theorem dX12_next_32 : decode cX12_next 32 = .ok (.iconst 0, 1) := by decide +kernel
theorem dX12_next_33 : decode cX12_next 33 = .ok (.ireturn, 1) := by decide +kernel
theorem dX12_isSought_0 : decode cX12_isSought 0 = .ok (.iload_n 2, 1) := by decide +kernel
theorem dX12_isSought_1 : decode cX12_isSought 1 = .ok (.ifCond .ge 30, 3) := by decide +kernel
theorem dX12_isSought_4 : decode cX12_isSought 4 = .ok (.aload_n 0, 1) := by decide +kernel
theorem dX12_isSought_5 : decode cX12_isSought 5 = .ok (.getfield 46, 3) := by decide +kernel
theorem dX12_isSought_8 : decode cX12_isSought 8 = .ok (.iconst 3, 1) := by decide +kernel
theorem dX12_isSought_9 : decode cX12_isSought 9 = .ok (.iload_n 1, 1) := by decide +kernel
theorem dX12_isSought_10 : decode cX12_isSought 10 = .ok (.imul, 1) := by decide +kernel
theorem dX12_isSought_11 : decode cX12_isSought 11 = .ok (.iaload, 1) := by decide +kernel
theorem dX12_isSought_12 : decode cX12_isSought 12 = .ok (.aload_n 0, 1) := by decide +kernel
theorem dX12_isSought_13 : decode cX12_isSought 13 = .ok (.getfield 46, 3) := by decide +kernel
theorem dX12_isSought_16 : decode cX12_isSought 16 = .ok (.iconst 3, 1) := by decide +kernel
theorem dX12_isSought_17 : decode cX12_isSought 17 = .ok (.iload_n 1, 1) := by decide +kernel
theorem dX12_isSought_18 : decode cX12_isSought 18 = .ok (.imul, 1) := by decide +kernel
theorem dX12_isSought_19 : decode cX12_isSought 19 = .ok (.iconst 1, 1) := by decide +kernel
theorem dX12_isSought_20 : decode cX12_isSought 20 = .ok (.iadd, 1) := by decide +kernel
theorem dX12_isSought_21 : decode cX12_isSought 21 = .ok (.iaload, 1) := by decide +kernel
theorem dX12_isSought_22 : decode cX12_isSought 22 = .ok (.if_icmp .eq 7, 3) := by decide +kernel
theorem dX12_isSought_25 : decode cX12_isSought 25 = .ok (.iconst 1, 1) := by decide +kernel
theorem dX12_isSought_26 : decode cX12_isSought 26 = .ok (.goto 4, 3) := by decide +kernel
theorem dX12_isSought_29 : decode cX12_isSought 29 = .ok (.iconst 0, 1) := by decide +kernel
theorem dX12_isSought_30 : decode cX12_isSought 30 = .ok (.ireturn, 1) := by decide +kernel
theorem dX12_isSought_31 : decode cX12_isSought 31 = .ok (.iconst 0, 1) := by decide +kernel
theorem dX12_isSought_32 : decode cX12_isSought 32 = .ok (.istore_n 3, 1) := by decide +kernel
theorem dX12_isSought_33 : decode cX12_isSought 33 = .ok (.iload_n 3, 1) := by decide +kernel
theorem dX12_isSought_34 : decode cX12_isSought 34 = .ok (.aload_n 0, 1) := by decide +kernel
theorem dX12_isSought_35 : decode cX12_isSought 35 = .ok (.getfield 316, 3) := by decide +kernel
theorem dX12_isSought_38 : decode cX12_isSought 38 = .ok (.if_icmp .ge 27, 3) := by decide +kernel
theorem dX12_isSought_41 : decode cX12_isSought 41 = .ok (.aload_n 0, 1) := by decide +kernel
theorem dX12_isSought_42 : decode cX12_isSought 42 = .ok (.getfield 46, 3) := by decide +kernel
theorem dX12_isSought_45 : decode cX12_isSought 45 = .ok (.iconst 3, 1) := by decide +kernel
theorem dX12_isSought_46 : decode cX12_isSought 46 = .ok (.iload_n 1, 1) := by decide +kernel
theorem dX12_isSought_47 : decode cX12_isSought 47 = .ok (.imul, 1) := by decide +kernel
theorem dX12_isSought_48 : decode cX12_isSought 48 = .ok (.iload_n 3, 1) := by decide +kernel
theorem dX12_isSought_49 : decode cX12_isSought 49 = .ok (.iadd, 1) := by decide +kernel
theorem dX12_isSought_50 : decode cX12_isSought 50 = .ok (.iaload, 1) := by decide +kernel
theorem dX12_isSought_51 : decode cX12_isSought 51 = .ok (.iconst 4, 1) := by decide +kernel
theorem dX12_isSought_52 : decode cX12_isSought 52 = .ok (.idiv, 1) := by decide +kernel
theorem dX12_isSought_53 : decode cX12_isSought 53 = .ok (.iload_n 2, 1) := by decide +kernel
theorem dX12_isSought_54 : decode cX12_isSought 54 = .ok (.if_icmp .eq 5, 3) := by decide +kernel
theorem dX12_isSought_57 : decode cX12_isSought 57 = .ok (.iconst 0, 1) := by decide +kernel
theorem dX12_isSought_58 : decode cX12_isSought 58 = .ok (.ireturn, 1) := by decide +kernel
theorem dX12_isSought_59 : decode cX12_isSought 59 = .ok (.iinc 3 1, 3) := by decide +kernel
theorem dX12_isSought_62 : decode cX12_isSought 62 = .ok (.goto (-29), 3) := by decide +kernel
theorem dX12_isSought_65 : decode cX12_isSought 65 = .ok (.iconst 1, 1) := by decide +kernel
theorem dX12_isSought_66 : decode cX12_isSought 66 = .ok (.ireturn, 1) := by decide +kernel
theorem dX12_search_0 : decode cX12_search 0 = .ok (.iconst 0, 1) := by decide +kernel
theorem dX12_search_1 : decode cX12_search 1 = .ok (.istore_n 3, 1) := by decide +kernel
theorem dX12_search_2 : decode cX12_search 2 = .ok (.iload_n 3, 1) := by decide +kernel
theorem dX12_search_3 : decode cX12_search 3 = .ok (.sipush 4096, 3) := by decide +kernel
theorem dX12_search_6 : decode cX12_search 6 = .ok (.if_icmp .ge 16, 3) := by decide +kernel
theorem dX12_search_9 : decode cX12_search 9 = .ok (.aload_n 0, 1) := by decide +kernel
theorem dX12_search_10 : decode cX12_search 10 = .ok (.getfield 58, 3) := by decide +kernel
theorem dX12_search_13 : decode cX12_search 13 = .ok (.iload_n 3, 1) := by decide +kernel
theorem dX12_search_14 : decode cX12_search 14 = .ok (.iconst (-1), 1) := by decide +kernel
theorem dX12_search_15 : decode cX12_search 15 = .ok (.iastore, 1) := by decide +kernel
theorem dX12_search_16 : decode cX12_search 16 = .ok (.iinc 3 1, 3) := by decide +kernel
theorem dX12_search_19 : decode cX12_search 19 = .ok (.goto (-17), 3) := by decide +kernel
theorem dX12_search_22 : decode cX12_search 22 = .ok (.aload_n 0, 1) := by decide +kernel
theorem dX12_search_23 : decode cX12_search 23 = .ok (.iconst 0, 1) := by decide +kernel
theorem dX12_search_24 : decode cX12_search 24 = .ok (.putfield 313, 3) := by decide +kernel
theorem dX12_search_27 : decode cX12_search 27 = .ok (.iconst 0, 1) := by decide +kernel
theorem dX12_search_28 : decode cX12_search 28 = .ok (.istore_n 3, 1) := by decide +kernel
theorem dX12_search_29 : decode cX12_search 29 = .ok (.iload_n 3, 1) := by decide +kernel
theorem dX12_search_30 : decode cX12_search 30 = .ok (.aload_n 0, 1) := by decide +kernel
theorem dX12_search_31 : decode cX12_search 31 = .ok (.getfield 316, 3) := by decide +kernel
theorem dX12_search_34 : decode cX12_search 34 = .ok (.if_icmp .ge 19, 3) := by decide +kernel
theorem dX12_search_37 : decode cX12_search 37 = .ok (.aload_n 0, 1) := by decide +kernel
theorem dX12_search_38 : decode cX12_search 38 = .ok (.aload_n 0, 1) := by decide +kernel
theorem dX12_search_39 : decode cX12_search 39 = .ok (.getfield 61, 3) := by decide +kernel
theorem dX12_search_42 : decode cX12_search 42 = .ok (.iload_n 3, 1) := by decide +kernel
theorem dX12_search_43 : decode cX12_search 43 = .ok (.iaload, 1) := by decide +kernel
theorem dX12_search_44 : decode cX12_search 44 = .ok (.invokevirtual 322, 3) := by decide +kernel
theorem dX12_search_47 : decode cX12_search 47 = .ok (.iinc 3 1, 3) := by decide +kernel
theorem dX12_search_50 : decode cX12_search 50 = .ok (.goto (-21), 3) := by decide +kernel
theorem dX12_search_53 : decode cX12_search 53 = .ok (.aload_n 0, 1) := by decide +kernel
theorem dX12_search_54 : decode cX12_search 54 = .ok (.iload_n 1, 1) := by decide +kernel
theorem dX12_search_55 : decode cX12_search 55 = .ok (.aload_n 0, 1) := by decide +kernel
theorem dX12_search_56 : decode cX12_search 56 = .ok (.getfield 316, 3) := by decide +kernel
theorem dX12_search_59 : decode cX12_search 59 = .ok (.iconst 1, 1) := by decide +kernel
theorem dX12_search_60 : decode cX12_search 60 = .ok (.if_icmp .le 7, 3) := by decide +kernel
theorem dX12_search_63 : decode cX12_search 63 = .ok (.iload_n 1, 1) := by decide +kernel
theorem dX12_search_64 : decode cX12_search 64 = .ok (.goto 4, 3) := by decide +kernel
theorem dX12_search_67 : decode cX12_search 67 = .ok (.iconst 0, 1) := by decide +kernel
theorem dX12_search_68 : decode cX12_search 68 = .ok (.aload_n 0, 1) := by decide +kernel
theorem dX12_search_69 : decode cX12_search 69 = .ok (.getfield 316, 3) := by decide +kernel
theorem dX12_search_72 : decode cX12_search 72 = .ok (.iconst 2, 1) := by decide +kernel
theorem dX12_search_73 : decode cX12_search 73 = .ok (.if_icmp .le 7, 3) := by decide +kernel
theorem dX12_search_76 : decode cX12_search 76 = .ok (.iload_n 1, 1) := by decide +kernel
theorem dX12_search_77 : decode cX12_search 77 = .ok (.goto 4, 3) := by decide +kernel
theorem dX12_search_80 : decode cX12_search 80 = .ok (.iconst 0, 1) := by decide +kernel
theorem dX12_search_81 : decode cX12_search 81 = .ok (.iconst (-1), 1) := by decide +kernel
theorem dX12_search_82 : decode cX12_search 82 = .ok (.iconst 0, 1) := by decide +kernel
theorem dX12_search_83 : decode cX12_search 83 = .ok (.invokevirtual 325, 3) := by decide +kernel
theorem dX12_search_86 : decode cX12_search 86 = .ok (.istore_n 3, 1) := by decide +kernel
theorem dX12_search_87 : decode cX12_search 87 = .ok (.aload_n 0, 1) := by decide +kernel
theorem dX12_search_88 : decode cX12_search 88 = .ok (.iconst 0, 1) := by decide +kernel
theorem dX12_search_89 : decode cX12_search 89 = .ok (.iload_n 2, 1) := by decide +kernel
theorem dX12_search_90 : decode cX12_search 90 = .ok (.invokevirtual 329, 3) := by decide +kernel
theorem dX12_search_93 : decode cX12_search 93 = .ok (.ifCond .eq 5, 3) := by decide +kernel
theorem dX12_search_96 : decode cX12_search 96 = .ok (.iconst 0, 1) := by decide +kernel
theorem dX12_search_97 : decode cX12_search 97 = .ok (.ireturn, 1) := by decide +kernel
theorem dX12_search_98 : decode cX12_search 98 = .ok (.iconst 0, 1) := by decide +kernel
theorem dX12_search_99 : decode cX12_search 99 = .ok (.istore 4, 2) := by decide +kernel
theorem dX12_search_101 : decode cX12_search 101 = .ok (.iload 4, 2) := by decide +kernel
theorem dX12_search_103 : decode cX12_search 103 = .ok (.aload_n 0, 1) := by decide +kernel
theorem dX12_search_104 : decode cX12_search 104 = .ok (.getfield 313, 3) := by decide +kernel
theorem dX12_search_107 : decode cX12_search 107 = .ok (.if_icmp .ge 93, 3) := by decide +kernel
theorem dX12_search_110 : decode cX12_search 110 = .ok (.iconst 0, 1) := by decide +kernel
theorem dX12_search_111 : decode cX12_search 111 = .ok (.istore 5, 2) := by decide +kernel
theorem dX12_search_113 : decode cX12_search 113 = .ok (.iload 5, 2) := by decide +kernel
theorem dX12_search_115 : decode cX12_search 115 = .ok (.iconst 4, 1) := by decide +kernel
theorem dX12_search_116 : decode cX12_search 116 = .ok (.if_icmp .ge 78, 3) := by decide +kernel
theorem dX12_search_119 : decode cX12_search 119 = .ok (.aload_n 0, 1) := by decide +kernel
theorem dX12_search_120 : decode cX12_search 120 = .ok (.getfield 313, 3) := by decide +kernel
theorem dX12_search_123 : decode cX12_search 123 = .ok (.istore 6, 2) := by decide +kernel
theorem dX12_search_125 : decode cX12_search 125 = .ok (.aload_n 0, 1) := by decide +kernel
theorem dX12_search_126 : decode cX12_search 126 = .ok (.aload_n 0, 1) := by decide +kernel
theorem dX12_search_127 : decode cX12_search 127 = .ok (.iload 4, 2) := by decide +kernel
theorem dX12_search_129 : decode cX12_search 129 = .ok (.iconst 0, 1) := by decide +kernel
theorem dX12_search_130 : decode cX12_search 130 = .ok (.iload 5, 2) := by decide +kernel
theorem dX12_search_132 : decode cX12_search 132 = .ok (.invokevirtual 333, 3) := by decide +kernel
theorem dX12_search_135 : decode cX12_search 135 = .ok (.aload_n 0, 1) := by decide +kernel
theorem dX12_search_136 : decode cX12_search 136 = .ok (.iload 4, 2) := by decide +kernel
theorem dX12_search_138 : decode cX12_search 138 = .ok (.iconst 1, 1) := by decide +kernel
theorem dX12_search_139 : decode cX12_search 139 = .ok (.iload 5, 2) := by decide +kernel
theorem dX12_search_141 : decode cX12_search 141 = .ok (.invokevirtual 333, 3) := by decide +kernel
theorem dX12_search_144 : decode cX12_search 144 = .ok (.aload_n 0, 1) := by decide +kernel
theorem dX12_search_145 : decode cX12_search 145 = .ok (.iload 4, 2) := by decide +kernel
theorem dX12_search_147 : decode cX12_search 147 = .ok (.iconst 2, 1) := by decide +kernel
theorem dX12_search_148 : decode cX12_search 148 = .ok (.iload 5, 2) := by decide +kernel
theorem dX12_search_150 : decode cX12_search 150 = .ok (.invokevirtual 333, 3) := by decide +kernel
theorem dX12_search_153 : decode cX12_search 153 = .ok (.iload 4, 2) := by decide +kernel
theorem dX12_search_155 : decode cX12_search 155 = .ok (.iload 5, 2) := by decide +kernel
theorem dX12_search_157 : decode cX12_search 157 = .ok (.invokevirtual 325, 3) := by decide +kernel
theorem dX12_search_160 : decode cX12_search 160 = .ok (.ifCond .ne 6, 3) := by decide +kernel
theorem dX12_search_163 : decode cX12_search 163 = .ok (.bipush (-2), 2) := by decide +kernel
theorem dX12_search_165 : decode cX12_search 165 = .ok (.ireturn, 1) := by decide +kernel
theorem dX12_search_166 : decode cX12_search 166 = .ok (.aload_n 0, 1) := by decide +kernel
theorem dX12_search_167 : decode cX12_search 167 = .ok (.getfield 313, 3) := by decide +kernel
theorem dX12_search_170 : decode cX12_search 170 = .ok (.iload 6, 2) := by decide +kernel
theorem dX12_search_172 : decode cX12_search 172 = .ok (.if_icmp .le 16, 3) := by decide +kernel
theorem dX12_search_175 : decode cX12_search 175 = .ok (.aload_n 0, 1) := by decide +kernel
theorem dX12_search_176 : decode cX12_search 176 = .ok (.iload 6, 2) := by decide +kernel
theorem dX12_search_178 : decode cX12_search 178 = .ok (.iload_n 2, 1) := by decide +kernel
theorem dX12_search_179 : decode cX12_search 179 = .ok (.invokevirtual 329, 3) := by decide +kernel
theorem dX12_search_182 : decode cX12_search 182 = .ok (.ifCond .eq 6, 3) := by decide +kernel
theorem dX12_search_185 : decode cX12_search 185 = .ok (.iload 6, 2) := by decide +kernel
theorem dX12_search_187 : decode cX12_search 187 = .ok (.ireturn, 1) := by decide +kernel
theorem dX12_search_188 : decode cX12_search 188 = .ok (.iinc 5 1, 3) := by decide +kernel
theorem dX12_search_191 : decode cX12_search 191 = .ok (.goto (-78), 3) := by decide +kernel
theorem dX12_search_194 : decode cX12_search 194 = .ok (.iinc 4 1, 3) := by decide +kernel
theorem dX12_search_197 : decode cX12_search 197 = .ok (.goto (-96), 3) := by decide +kernel
theorem dX12_search_200 : decode cX12_search 200 = .ok (.iconst (-1), 1) := by decide +kernel
theorem dX12_search_201 : decode cX12_search 201 = .ok (.ireturn, 1) := by decide +kernel
theorem dX12_tapsTo_0 : decode cX12_tapsTo 0 = .ok (.iload_n 1, 1) := by decide +kernel
theorem dX12_tapsTo_1 : decode cX12_tapsTo 1 = .ok (.ifCond .ge 5, 3) := by decide +kernel
theorem dX12_tapsTo_4 : decode cX12_tapsTo 4 = .ok (.iload_n 1, 1) := by decide +kernel
theorem dX12_tapsTo_5 : decode cX12_tapsTo 5 = .ok (.ireturn, 1) := by decide +kernel
theorem dX12_tapsTo_6 : decode cX12_tapsTo 6 = .ok (.iconst 0, 1) := by decide +kernel
theorem dX12_tapsTo_7 : decode cX12_tapsTo 7 = .ok (.istore_n 3, 1) := by decide +kernel
theorem dX12_tapsTo_8 : decode cX12_tapsTo 8 = .ok (.iload_n 1, 1) := by decide +kernel
theorem dX12_tapsTo_9 : decode cX12_tapsTo 9 = .ok (.istore 4, 2) := by decide +kernel
theorem dX12_tapsTo_11 : decode cX12_tapsTo 11 = .ok (.iload 4, 2) := by decide +kernel
theorem dX12_tapsTo_13 : decode cX12_tapsTo 13 = .ok (.ifCond .le 18, 3) := by decide +kernel
theorem dX12_tapsTo_16 : decode cX12_tapsTo 16 = .ok (.iinc 3 1, 3) := by decide +kernel
theorem dX12_tapsTo_19 : decode cX12_tapsTo 19 = .ok (.aload_n 0, 1) := by decide +kernel
theorem dX12_tapsTo_20 : decode cX12_tapsTo 20 = .ok (.getfield 49, 3) := by decide +kernel
theorem dX12_tapsTo_23 : decode cX12_tapsTo 23 = .ok (.iload 4, 2) := by decide +kernel
theorem dX12_tapsTo_25 : decode cX12_tapsTo 25 = .ok (.iaload, 1) := by decide +kernel
theorem dX12_tapsTo_26 : decode cX12_tapsTo 26 = .ok (.istore 4, 2) := by decide +kernel
theorem dX12_tapsTo_28 : decode cX12_tapsTo 28 = .ok (.goto (-17), 3) := by decide +kernel
theorem dX12_tapsTo_31 : decode cX12_tapsTo 31 = .ok (.iload_n 2, 1) := by decide +kernel
theorem dX12_tapsTo_32 : decode cX12_tapsTo 32 = .ok (.iconst (-1), 1) := by decide +kernel
theorem dX12_tapsTo_33 : decode cX12_tapsTo 33 = .ok (.if_icmp .ne 5, 3) := by decide +kernel
theorem dX12_tapsTo_36 : decode cX12_tapsTo 36 = .ok (.iload_n 3, 1) := by decide +kernel
theorem dX12_tapsTo_37 : decode cX12_tapsTo 37 = .ok (.ireturn, 1) := by decide +kernel
theorem dX12_tapsTo_38 : decode cX12_tapsTo 38 = .ok (.iload_n 2, 1) := by decide +kernel
theorem dX12_tapsTo_39 : decode cX12_tapsTo 39 = .ok (.iload_n 3, 1) := by decide +kernel
theorem dX12_tapsTo_40 : decode cX12_tapsTo 40 = .ok (.if_icmp .lt 5, 3) := by decide +kernel
theorem dX12_tapsTo_43 : decode cX12_tapsTo 43 = .ok (.iconst (-1), 1) := by decide +kernel
theorem dX12_tapsTo_44 : decode cX12_tapsTo 44 = .ok (.ireturn, 1) := by decide +kernel
theorem dX12_tapsTo_45 : decode cX12_tapsTo 45 = .ok (.iload_n 1, 1) := by decide +kernel
theorem dX12_tapsTo_46 : decode cX12_tapsTo 46 = .ok (.istore 4, 2) := by decide +kernel
theorem dX12_tapsTo_48 : decode cX12_tapsTo 48 = .ok (.iload_n 3, 1) := by decide +kernel
theorem dX12_tapsTo_49 : decode cX12_tapsTo 49 = .ok (.iconst 1, 1) := by decide +kernel
theorem dX12_tapsTo_50 : decode cX12_tapsTo 50 = .ok (.isub, 1) := by decide +kernel
theorem dX12_tapsTo_51 : decode cX12_tapsTo 51 = .ok (.istore 5, 2) := by decide +kernel
theorem dX12_tapsTo_53 : decode cX12_tapsTo 53 = .ok (.iload 5, 2) := by decide +kernel
theorem dX12_tapsTo_55 : decode cX12_tapsTo 55 = .ok (.iload_n 2, 1) := by decide +kernel
theorem dX12_tapsTo_56 : decode cX12_tapsTo 56 = .ok (.if_icmp .le 18, 3) := by decide +kernel
theorem dX12_tapsTo_59 : decode cX12_tapsTo 59 = .ok (.aload_n 0, 1) := by decide +kernel
theorem dX12_tapsTo_60 : decode cX12_tapsTo 60 = .ok (.getfield 49, 3) := by decide +kernel
theorem dX12_tapsTo_63 : decode cX12_tapsTo 63 = .ok (.iload 4, 2) := by decide +kernel
theorem dX12_tapsTo_65 : decode cX12_tapsTo 65 = .ok (.iaload, 1) := by decide +kernel
theorem dX12_tapsTo_66 : decode cX12_tapsTo 66 = .ok (.istore 4, 2) := by decide +kernel
theorem dX12_tapsTo_68 : decode cX12_tapsTo 68 = .ok (.iinc 5 (-1), 3) := by decide +kernel
theorem dX12_tapsTo_71 : decode cX12_tapsTo 71 = .ok (.goto (-18), 3) := by decide +kernel
theorem dX12_tapsTo_74 : decode cX12_tapsTo 74 = .ok (.aload_n 0, 1) := by decide +kernel
theorem dX12_tapsTo_75 : decode cX12_tapsTo 75 = .ok (.getfield 52, 3) := by decide +kernel
theorem dX12_tapsTo_78 : decode cX12_tapsTo 78 = .ok (.iload 4, 2) := by decide +kernel
theorem dX12_tapsTo_80 : decode cX12_tapsTo 80 = .ok (.iaload, 1) := by decide +kernel
theorem dX12_tapsTo_81 : decode cX12_tapsTo 81 = .ok (.ireturn, 1) := by decide +kernel
theorem dX12_fewest_0 : decode cX12_fewest 0 = .ok (.iload_n 1, 1) := by decide +kernel
theorem dX12_fewest_1 : decode cX12_fewest 1 = .ok (.iconst 1, 1) := by decide +kernel
theorem dX12_fewest_2 : decode cX12_fewest 2 = .ok (.iconst 1, 1) := by decide +kernel
theorem dX12_fewest_3 : decode cX12_fewest 3 = .ok (.aload_n 0, 1) := by decide +kernel
theorem dX12_fewest_4 : decode cX12_fewest 4 = .ok (.getfield 7, 3) := by decide +kernel
theorem dX12_fewest_7 : decode cX12_fewest 7 = .ok (.iconst 1, 1) := by decide +kernel
theorem dX12_fewest_8 : decode cX12_fewest 8 = .ok (.iaload, 1) := by decide +kernel
theorem dX12_fewest_9 : decode cX12_fewest 9 = .ok (.ishl, 1) := by decide +kernel
theorem dX12_fewest_10 : decode cX12_fewest 10 = .ok (.iconst 1, 1) := by decide +kernel
theorem dX12_fewest_11 : decode cX12_fewest 11 = .ok (.isub, 1) := by decide +kernel
theorem dX12_fewest_12 : decode cX12_fewest 12 = .ok (.invokestatic 95, 3) := by decide +kernel
theorem dX12_fewest_15 : decode cX12_fewest 15 = .ok (.ifCond .eq 25, 3) := by decide +kernel
theorem dX12_fewest_18 : decode cX12_fewest 18 = .ok (.aload_n 0, 1) := by decide +kernel
theorem dX12_fewest_19 : decode cX12_fewest 19 = .ok (.iload_n 2, 1) := by decide +kernel
theorem dX12_fewest_20 : decode cX12_fewest 20 = .ok (.invokevirtual 110, 3) := by decide +kernel
theorem dX12_fewest_23 : decode cX12_fewest 23 = .ok (.ifCond .eq 17, 3) := by decide +kernel
theorem dX12_fewest_26 : decode cX12_fewest 26 = .ok (.aload_n 0, 1) := by decide +kernel
theorem dX12_fewest_27 : decode cX12_fewest 27 = .ok (.iload_n 3, 1) := by decide +kernel
theorem dX12_fewest_28 : decode cX12_fewest 28 = .ok (.invokevirtual 103, 3) := by decide +kernel
theorem dX12_fewest_31 : decode cX12_fewest 31 = .ok (.ifCond .eq 9, 3) := by decide +kernel
theorem dX12_fewest_34 : decode cX12_fewest 34 = .ok (.iload 4, 2) := by decide +kernel
theorem dX12_fewest_36 : decode cX12_fewest 36 = .ok (.iconst (-1), 1) := by decide +kernel
theorem dX12_fewest_37 : decode cX12_fewest 37 = .ok (.if_icmp .ge 5, 3) := by decide +kernel
theorem dX12_fewest_40 : decode cX12_fewest 40 = .ok (.iconst (-1), 1) := by decide +kernel
theorem dX12_fewest_41 : decode cX12_fewest 41 = .ok (.ireturn, 1) := by decide +kernel
theorem dX12_fewest_42 : decode cX12_fewest 42 = .ok (.iconst 0, 1) := by decide +kernel
theorem dX12_fewest_43 : decode cX12_fewest 43 = .ok (.istore 5, 2) := by decide +kernel
theorem dX12_fewest_45 : decode cX12_fewest 45 = .ok (.iconst 0, 1) := by decide +kernel
theorem dX12_fewest_46 : decode cX12_fewest 46 = .ok (.istore 6, 2) := by decide +kernel
theorem dX12_fewest_48 : decode cX12_fewest 48 = .ok (.iload 6, 2) := by decide +kernel
theorem dX12_fewest_50 : decode cX12_fewest 50 = .ok (.aload_n 0, 1) := by decide +kernel
theorem dX12_fewest_51 : decode cX12_fewest 51 = .ok (.getfield 7, 3) := by decide +kernel
theorem dX12_fewest_54 : decode cX12_fewest 54 = .ok (.iconst 1, 1) := by decide +kernel
theorem dX12_fewest_55 : decode cX12_fewest 55 = .ok (.iaload, 1) := by decide +kernel
theorem dX12_fewest_56 : decode cX12_fewest 56 = .ok (.if_icmp .ge 20, 3) := by decide +kernel
theorem dX12_fewest_59 : decode cX12_fewest 59 = .ok (.iload 5, 2) := by decide +kernel
theorem dX12_fewest_61 : decode cX12_fewest 61 = .ok (.iload_n 1, 1) := by decide +kernel
theorem dX12_fewest_62 : decode cX12_fewest 62 = .ok (.iload 6, 2) := by decide +kernel
theorem dX12_fewest_64 : decode cX12_fewest 64 = .ok (.ishr, 1) := by decide +kernel
theorem dX12_fewest_65 : decode cX12_fewest 65 = .ok (.iconst 1, 1) := by decide +kernel
theorem dX12_fewest_66 : decode cX12_fewest 66 = .ok (.iand, 1) := by decide +kernel
theorem dX12_fewest_67 : decode cX12_fewest 67 = .ok (.iadd, 1) := by decide +kernel
theorem dX12_fewest_68 : decode cX12_fewest 68 = .ok (.istore 5, 2) := by decide +kernel
theorem dX12_fewest_70 : decode cX12_fewest 70 = .ok (.iinc 6 1, 3) := by decide +kernel
theorem dX12_fewest_73 : decode cX12_fewest 73 = .ok (.goto (-25), 3) := by decide +kernel
theorem dX12_fewest_76 : decode cX12_fewest 76 = .ok (.iload 5, 2) := by decide +kernel
theorem dX12_fewest_78 : decode cX12_fewest 78 = .ok (.iconst 3, 1) := by decide +kernel
theorem dX12_fewest_79 : decode cX12_fewest 79 = .ok (.if_icmp .le 5, 3) := by decide +kernel
theorem dX12_fewest_82 : decode cX12_fewest 82 = .ok (.iconst (-1), 1) := by decide +kernel
theorem dX12_fewest_83 : decode cX12_fewest 83 = .ok (.ireturn, 1) := by decide +kernel
theorem dX12_fewest_84 : decode cX12_fewest 84 = .ok (.aload_n 0, 1) := by decide +kernel
theorem dX12_fewest_85 : decode cX12_fewest 85 = .ok (.iconst 0, 1) := by decide +kernel
theorem dX12_fewest_86 : decode cX12_fewest 86 = .ok (.putfield 316, 3) := by decide +kernel
theorem dX12_fewest_89 : decode cX12_fewest 89 = .ok (.iconst 0, 1) := by decide +kernel
theorem dX12_fewest_90 : decode cX12_fewest 90 = .ok (.istore 6, 2) := by decide +kernel
theorem dX12_fewest_92 : decode cX12_fewest 92 = .ok (.iload 6, 2) := by decide +kernel
theorem dX12_fewest_94 : decode cX12_fewest 94 = .ok (.aload_n 0, 1) := by decide +kernel
theorem dX12_fewest_95 : decode cX12_fewest 95 = .ok (.getfield 7, 3) := by decide +kernel
theorem dX12_fewest_98 : decode cX12_fewest 98 = .ok (.iconst 1, 1) := by decide +kernel
theorem dX12_fewest_99 : decode cX12_fewest 99 = .ok (.iaload, 1) := by decide +kernel
theorem dX12_fewest_100 : decode cX12_fewest 100 = .ok (.if_icmp .ge 42, 3) := by decide +kernel
theorem dX12_fewest_103 : decode cX12_fewest 103 = .ok (.iload_n 1, 1) := by decide +kernel
theorem dX12_fewest_104 : decode cX12_fewest 104 = .ok (.iload 6, 2) := by decide +kernel
theorem dX12_fewest_106 : decode cX12_fewest 106 = .ok (.ishr, 1) := by decide +kernel
theorem dX12_fewest_107 : decode cX12_fewest 107 = .ok (.iconst 1, 1) := by decide +kernel
theorem dX12_fewest_108 : decode cX12_fewest 108 = .ok (.iand, 1) := by decide +kernel
theorem dX12_fewest_109 : decode cX12_fewest 109 = .ok (.ifCond .ne 6, 3) := by decide +kernel
theorem dX12_fewest_112 : decode cX12_fewest 112 = .ok (.goto 24, 3) := by decide +kernel
theorem dX12_fewest_115 : decode cX12_fewest 115 = .ok (.aload_n 0, 1) := by decide +kernel
theorem dX12_fewest_116 : decode cX12_fewest 116 = .ok (.getfield 61, 3) := by decide +kernel
theorem dX12_fewest_119 : decode cX12_fewest 119 = .ok (.aload_n 0, 1) := by decide +kernel
theorem dX12_fewest_120 : decode cX12_fewest 120 = .ok (.getfield 316, 3) := by decide +kernel
theorem dX12_fewest_123 : decode cX12_fewest 123 = .ok (.iload 6, 2) := by decide +kernel
theorem dX12_fewest_125 : decode cX12_fewest 125 = .ok (.iastore, 1) := by decide +kernel
theorem dX12_fewest_126 : decode cX12_fewest 126 = .ok (.aload_n 0, 1) := by decide +kernel
theorem dX12_fewest_127 : decode cX12_fewest 127 = .ok (.dup, 1) := by decide +kernel
theorem dX12_fewest_128 : decode cX12_fewest 128 = .ok (.getfield 316, 3) := by decide +kernel
theorem dX12_fewest_131 : decode cX12_fewest 131 = .ok (.iconst 1, 1) := by decide +kernel
theorem dX12_fewest_132 : decode cX12_fewest 132 = .ok (.iadd, 1) := by decide +kernel
theorem dX12_fewest_133 : decode cX12_fewest 133 = .ok (.putfield 316, 3) := by decide +kernel
theorem dX12_fewest_136 : decode cX12_fewest 136 = .ok (.iinc 6 1, 3) := by decide +kernel
theorem dX12_fewest_139 : decode cX12_fewest 139 = .ok (.goto (-47), 3) := by decide +kernel
theorem dX12_fewest_142 : decode cX12_fewest 142 = .ok (.aload_n 0, 1) := by decide +kernel
theorem dX12_fewest_143 : decode cX12_fewest 143 = .ok (.aload_n 0, 1) := by decide +kernel
theorem dX12_fewest_144 : decode cX12_fewest 144 = .ok (.iload_n 2, 1) := by decide +kernel
theorem dX12_fewest_145 : decode cX12_fewest 145 = .ok (.iload_n 3, 1) := by decide +kernel
theorem dX12_fewest_146 : decode cX12_fewest 146 = .ok (.invokevirtual 336, 3) := by decide +kernel
theorem dX12_fewest_149 : decode cX12_fewest 149 = .ok (.iload 4, 2) := by decide +kernel
theorem dX12_fewest_151 : decode cX12_fewest 151 = .ok (.invokevirtual 339, 3) := by decide +kernel
theorem dX12_fewest_154 : decode cX12_fewest 154 = .ok (.ireturn, 1) := by decide +kernel
theorem dX12_tells_0 : decode cX12_tells 0 = .ok (.aload_n 0, 1) := by decide +kernel
theorem dX12_tells_1 : decode cX12_tells 1 = .ok (.iload_n 1, 1) := by decide +kernel
theorem dX12_tells_2 : decode cX12_tells 2 = .ok (.invokevirtual 113, 3) := by decide +kernel
theorem dX12_tells_5 : decode cX12_tells 5 = .ok (.ifCond .eq 25, 3) := by decide +kernel
theorem dX12_tells_8 : decode cX12_tells 8 = .ok (.aload_n 0, 1) := by decide +kernel
theorem dX12_tells_9 : decode cX12_tells 9 = .ok (.iload_n 2, 1) := by decide +kernel
theorem dX12_tells_10 : decode cX12_tells 10 = .ok (.invokevirtual 113, 3) := by decide +kernel
theorem dX12_tells_13 : decode cX12_tells 13 = .ok (.ifCond .eq 17, 3) := by decide +kernel
theorem dX12_tells_16 : decode cX12_tells 16 = .ok (.aload_n 0, 1) := by decide +kernel
theorem dX12_tells_17 : decode cX12_tells 17 = .ok (.iload_n 3, 1) := by decide +kernel
theorem dX12_tells_18 : decode cX12_tells 18 = .ok (.invokevirtual 110, 3) := by decide +kernel
theorem dX12_tells_21 : decode cX12_tells 21 = .ok (.ifCond .eq 9, 3) := by decide +kernel
theorem dX12_tells_24 : decode cX12_tells 24 = .ok (.iload 4, 2) := by decide +kernel
theorem dX12_tells_26 : decode cX12_tells 26 = .ok (.iconst (-1), 1) := by decide +kernel
theorem dX12_tells_27 : decode cX12_tells 27 = .ok (.if_icmp .ge 5, 3) := by decide +kernel
theorem dX12_tells_30 : decode cX12_tells 30 = .ok (.iconst (-1), 1) := by decide +kernel
theorem dX12_tells_31 : decode cX12_tells 31 = .ok (.ireturn, 1) := by decide +kernel
theorem dX12_tells_32 : decode cX12_tells 32 = .ok (.aload_n 0, 1) := by decide +kernel
theorem dX12_tells_33 : decode cX12_tells 33 = .ok (.getfield 61, 3) := by decide +kernel
theorem dX12_tells_36 : decode cX12_tells 36 = .ok (.iconst 0, 1) := by decide +kernel
theorem dX12_tells_37 : decode cX12_tells 37 = .ok (.iload_n 1, 1) := by decide +kernel
theorem dX12_tells_38 : decode cX12_tells 38 = .ok (.iastore, 1) := by decide +kernel
theorem dX12_tells_39 : decode cX12_tells 39 = .ok (.aload_n 0, 1) := by decide +kernel
theorem dX12_tells_40 : decode cX12_tells 40 = .ok (.getfield 61, 3) := by decide +kernel
theorem dX12_tells_43 : decode cX12_tells 43 = .ok (.iconst 1, 1) := by decide +kernel
theorem dX12_tells_44 : decode cX12_tells 44 = .ok (.iload_n 2, 1) := by decide +kernel
theorem dX12_tells_45 : decode cX12_tells 45 = .ok (.iastore, 1) := by decide +kernel
theorem dX12_tells_46 : decode cX12_tells 46 = .ok (.aload_n 0, 1) := by decide +kernel
theorem dX12_tells_47 : decode cX12_tells 47 = .ok (.iconst 2, 1) := by decide +kernel
theorem dX12_tells_48 : decode cX12_tells 48 = .ok (.putfield 316, 3) := by decide +kernel
theorem dX12_tells_51 : decode cX12_tells 51 = .ok (.aload_n 0, 1) := by decide +kernel
theorem dX12_tells_52 : decode cX12_tells 52 = .ok (.aload_n 0, 1) := by decide +kernel
theorem dX12_tells_53 : decode cX12_tells 53 = .ok (.iload_n 3, 1) := by decide +kernel
theorem dX12_tells_54 : decode cX12_tells 54 = .ok (.iconst (-1), 1) := by decide +kernel
theorem dX12_tells_55 : decode cX12_tells 55 = .ok (.invokevirtual 336, 3) := by decide +kernel
theorem dX12_tells_58 : decode cX12_tells 58 = .ok (.iload 4, 2) := by decide +kernel
theorem dX12_tells_60 : decode cX12_tells 60 = .ok (.invokevirtual 339, 3) := by decide +kernel
theorem dX12_tells_63 : decode cX12_tells 63 = .ok (.ireturn, 1) := by decide +kernel
theorem dX12_common_0 : decode cX12_common 0 = .ok (.lload_n 0, 1) := by decide +kernel
theorem dX12_common_1 : decode cX12_common 1 = .ok (.lstore 4, 2) := by decide +kernel
theorem dX12_common_3 : decode cX12_common 3 = .ok (.lload_n 2, 1) := by decide +kernel
theorem dX12_common_4 : decode cX12_common 4 = .ok (.lstore 6, 2) := by decide +kernel
theorem dX12_common_6 : decode cX12_common 6 = .ok (.lload 6, 2) := by decide +kernel
theorem dX12_common_8 : decode cX12_common 8 = .ok (.lconst 0, 1) := by decide +kernel
theorem dX12_common_9 : decode cX12_common 9 = .ok (.lcmp, 1) := by decide +kernel
theorem dX12_common_10 : decode cX12_common 10 = .ok (.ifCond .eq 21, 3) := by decide +kernel
theorem dX12_common_13 : decode cX12_common 13 = .ok (.lload 4, 2) := by decide +kernel
theorem dX12_common_15 : decode cX12_common 15 = .ok (.lload 6, 2) := by decide +kernel
theorem dX12_common_17 : decode cX12_common 17 = .ok (.lrem, 1) := by decide +kernel
theorem dX12_common_18 : decode cX12_common 18 = .ok (.lstore 8, 2) := by decide +kernel
theorem dX12_common_20 : decode cX12_common 20 = .ok (.lload 6, 2) := by decide +kernel
theorem dX12_common_22 : decode cX12_common 22 = .ok (.lstore 4, 2) := by decide +kernel
theorem dX12_common_24 : decode cX12_common 24 = .ok (.lload 8, 2) := by decide +kernel
theorem dX12_common_26 : decode cX12_common 26 = .ok (.lstore 6, 2) := by decide +kernel
theorem dX12_common_28 : decode cX12_common 28 = .ok (.goto (-22), 3) := by decide +kernel
theorem dX12_common_31 : decode cX12_common 31 = .ok (.lload 4, 2) := by decide +kernel
theorem dX12_common_33 : decode cX12_common 33 = .ok (.lreturn, 1) := by decide +kernel
theorem dX12_odds_0 : decode cX12_odds 0 = .ok (.aload_n 0, 1) := by decide +kernel
theorem dX12_odds_1 : decode cX12_odds 1 = .ok (.iload_n 1, 1) := by decide +kernel
theorem dX12_odds_2 : decode cX12_odds 2 = .ok (.invokevirtual 113, 3) := by decide +kernel
theorem dX12_odds_5 : decode cX12_odds 5 = .ok (.ifCond .eq 51, 3) := by decide +kernel
theorem dX12_odds_8 : decode cX12_odds 8 = .ok (.aload_n 0, 1) := by decide +kernel
theorem dX12_odds_9 : decode cX12_odds 9 = .ok (.iload_n 2, 1) := by decide +kernel
theorem dX12_odds_10 : decode cX12_odds 10 = .ok (.invokevirtual 110, 3) := by decide +kernel
theorem dX12_odds_13 : decode cX12_odds 13 = .ok (.ifCond .eq 43, 3) := by decide +kernel
theorem dX12_odds_16 : decode cX12_odds 16 = .ok (.aload_n 0, 1) := by decide +kernel
theorem dX12_odds_17 : decode cX12_odds 17 = .ok (.iload_n 3, 1) := by decide +kernel
theorem dX12_odds_18 : decode cX12_odds 18 = .ok (.invokevirtual 103, 3) := by decide +kernel
theorem dX12_odds_21 : decode cX12_odds 21 = .ok (.ifCond .eq 35, 3) := by decide +kernel
theorem dX12_odds_24 : decode cX12_odds 24 = .ok (.iload 4, 2) := by decide +kernel
theorem dX12_odds_26 : decode cX12_odds 26 = .ok (.iconst 0, 1) := by decide +kernel
theorem dX12_odds_27 : decode cX12_odds 27 = .ok (.bipush 10, 2) := by decide +kernel
theorem dX12_odds_29 : decode cX12_odds 29 = .ok (.invokestatic 95, 3) := by decide +kernel
theorem dX12_odds_32 : decode cX12_odds 32 = .ok (.ifCond .eq 24, 3) := by decide +kernel
theorem dX12_odds_35 : decode cX12_odds 35 = .ok (.iload 5, 2) := by decide +kernel
theorem dX12_odds_37 : decode cX12_odds 37 = .ok (.iconst 0, 1) := by decide +kernel
theorem dX12_odds_38 : decode cX12_odds 38 = .ok (.iconst 1, 1) := by decide +kernel
theorem dX12_odds_39 : decode cX12_odds 39 = .ok (.invokestatic 95, 3) := by decide +kernel
theorem dX12_odds_42 : decode cX12_odds 42 = .ok (.ifCond .eq 14, 3) := by decide +kernel
theorem dX12_odds_45 : decode cX12_odds 45 = .ok (.aload_n 0, 1) := by decide +kernel
theorem dX12_odds_46 : decode cX12_odds 46 = .ok (.getfield 7, 3) := by decide +kernel
theorem dX12_odds_49 : decode cX12_odds 49 = .ok (.iconst 2, 1) := by decide +kernel
theorem dX12_odds_50 : decode cX12_odds 50 = .ok (.iaload, 1) := by decide +kernel
theorem dX12_odds_51 : decode cX12_odds 51 = .ok (.bipush 12, 2) := by decide +kernel
theorem dX12_odds_53 : decode cX12_odds 53 = .ok (.if_icmp .le 7, 3) := by decide +kernel
theorem dX12_odds_56 : decode cX12_odds 56 = .ok (.ldc2_w 342, 3) := by decide +kernel
theorem dX12_odds_59 : decode cX12_odds 59 = .ok (.lreturn, 1) := by decide +kernel
theorem dX12_odds_60 : decode cX12_odds 60 = .ok (.aload_n 0, 1) := by decide +kernel
theorem dX12_odds_61 : decode cX12_odds 61 = .ok (.iload_n 1, 1) := by decide +kernel
theorem dX12_odds_62 : decode cX12_odds 62 = .ok (.invokevirtual 322, 3) := by decide +kernel
theorem dX12_odds_65 : decode cX12_odds 65 = .ok (.iconst 0, 1) := by decide +kernel
theorem dX12_odds_66 : decode cX12_odds 66 = .ok (.istore 6, 2) := by decide +kernel
theorem dX12_odds_68 : decode cX12_odds 68 = .ok (.iload 6, 2) := by decide +kernel
theorem dX12_odds_70 : decode cX12_odds 70 = .ok (.bipush 100, 2) := by decide +kernel
theorem dX12_odds_72 : decode cX12_odds 72 = .ok (.if_icmp .ge 27, 3) := by decide +kernel
theorem dX12_odds_75 : decode cX12_odds 75 = .ok (.aload_n 0, 1) := by decide +kernel
theorem dX12_odds_76 : decode cX12_odds 76 = .ok (.getfield 64, 3) := by decide +kernel
theorem dX12_odds_79 : decode cX12_odds 79 = .ok (.iload 6, 2) := by decide +kernel
theorem dX12_odds_81 : decode cX12_odds 81 = .ok (.iload 6, 2) := by decide +kernel
theorem dX12_odds_83 : decode cX12_odds 83 = .ok (.iload_n 2, 1) := by decide +kernel
theorem dX12_odds_84 : decode cX12_odds 84 = .ok (.if_icmp .ne 7, 3) := by decide +kernel
theorem dX12_odds_87 : decode cX12_odds 87 = .ok (.lconst 1, 1) := by decide +kernel
theorem dX12_odds_88 : decode cX12_odds 88 = .ok (.goto 4, 3) := by decide +kernel
theorem dX12_odds_91 : decode cX12_odds 91 = .ok (.lconst 0, 1) := by decide +kernel
theorem dX12_odds_92 : decode cX12_odds 92 = .ok (.lastore, 1) := by decide +kernel
theorem dX12_odds_93 : decode cX12_odds 93 = .ok (.iinc 6 1, 3) := by decide +kernel
theorem dX12_odds_96 : decode cX12_odds 96 = .ok (.goto (-28), 3) := by decide +kernel
theorem dX12_odds_99 : decode cX12_odds 99 = .ok (.lconst 1, 1) := by decide +kernel
theorem dX12_odds_100 : decode cX12_odds 100 = .ok (.lstore 6, 2) := by decide +kernel
theorem dX12_odds_102 : decode cX12_odds 102 = .ok (.iconst 0, 1) := by decide +kernel
theorem dX12_odds_103 : decode cX12_odds 103 = .ok (.istore 8, 2) := by decide +kernel
theorem dX12_odds_105 : decode cX12_odds 105 = .ok (.iload 8, 2) := by decide +kernel
theorem dX12_odds_107 : decode cX12_odds 107 = .ok (.aload_n 0, 1) := by decide +kernel
theorem dX12_odds_108 : decode cX12_odds 108 = .ok (.getfield 7, 3) := by decide +kernel
theorem dX12_odds_111 : decode cX12_odds 111 = .ok (.iconst 2, 1) := by decide +kernel
theorem dX12_odds_112 : decode cX12_odds 112 = .ok (.iaload, 1) := by decide +kernel
theorem dX12_odds_113 : decode cX12_odds 113 = .ok (.if_icmp .ge 177, 3) := by decide +kernel
theorem dX12_odds_116 : decode cX12_odds 116 = .ok (.aload_n 0, 1) := by decide +kernel
theorem dX12_odds_117 : decode cX12_odds 117 = .ok (.getfield 7, 3) := by decide +kernel
theorem dX12_odds_120 : decode cX12_odds 120 = .ok (.bipush 50, 2) := by decide +kernel
theorem dX12_odds_122 : decode cX12_odds 122 = .ok (.iload 8, 2) := by decide +kernel
theorem dX12_odds_124 : decode cX12_odds 124 = .ok (.iadd, 1) := by decide +kernel
theorem dX12_odds_125 : decode cX12_odds 125 = .ok (.iaload, 1) := by decide +kernel
theorem dX12_odds_126 : decode cX12_odds 126 = .ok (.istore 9, 2) := by decide +kernel
theorem dX12_odds_128 : decode cX12_odds 128 = .ok (.iconst 0, 1) := by decide +kernel
theorem dX12_odds_129 : decode cX12_odds 129 = .ok (.istore 10, 2) := by decide +kernel
theorem dX12_odds_131 : decode cX12_odds 131 = .ok (.iload 10, 2) := by decide +kernel
theorem dX12_odds_133 : decode cX12_odds 133 = .ok (.bipush 100, 2) := by decide +kernel
theorem dX12_odds_135 : decode cX12_odds 135 = .ok (.if_icmp .ge 17, 3) := by decide +kernel
theorem dX12_odds_138 : decode cX12_odds 138 = .ok (.aload_n 0, 1) := by decide +kernel
theorem dX12_odds_139 : decode cX12_odds 139 = .ok (.getfield 67, 3) := by decide +kernel
theorem dX12_odds_142 : decode cX12_odds 142 = .ok (.iload 10, 2) := by decide +kernel
theorem dX12_odds_144 : decode cX12_odds 144 = .ok (.lconst 0, 1) := by decide +kernel
theorem dX12_odds_145 : decode cX12_odds 145 = .ok (.lastore, 1) := by decide +kernel
theorem dX12_odds_146 : decode cX12_odds 146 = .ok (.iinc 10 1, 3) := by decide +kernel
theorem dX12_odds_149 : decode cX12_odds 149 = .ok (.goto (-18), 3) := by decide +kernel
theorem dX12_odds_152 : decode cX12_odds 152 = .ok (.iconst 0, 1) := by decide +kernel
theorem dX12_odds_153 : decode cX12_odds 153 = .ok (.istore 10, 2) := by decide +kernel
theorem dX12_odds_155 : decode cX12_odds 155 = .ok (.iload 10, 2) := by decide +kernel
theorem dX12_odds_157 : decode cX12_odds 157 = .ok (.bipush 100, 2) := by decide +kernel
theorem dX12_odds_159 : decode cX12_odds 159 = .ok (.if_icmp .ge 87, 3) := by decide +kernel
theorem dX12_odds_162 : decode cX12_odds 162 = .ok (.aload_n 0, 1) := by decide +kernel
theorem dX12_odds_163 : decode cX12_odds 163 = .ok (.getfield 64, 3) := by decide +kernel
theorem dX12_odds_166 : decode cX12_odds 166 = .ok (.iload 10, 2) := by decide +kernel
theorem dX12_odds_168 : decode cX12_odds 168 = .ok (.laload, 1) := by decide +kernel
theorem dX12_odds_169 : decode cX12_odds 169 = .ok (.lconst 0, 1) := by decide +kernel
theorem dX12_odds_170 : decode cX12_odds 170 = .ok (.lcmp, 1) := by decide +kernel
theorem dX12_odds_171 : decode cX12_odds 171 = .ok (.ifCond .ne 6, 3) := by decide +kernel
theorem dX12_odds_174 : decode cX12_odds 174 = .ok (.goto 66, 3) := by decide +kernel
theorem dX12_odds_177 : decode cX12_odds 177 = .ok (.aload_n 0, 1) := by decide +kernel
theorem dX12_odds_178 : decode cX12_odds 178 = .ok (.getfield 67, 3) := by decide +kernel
theorem dX12_odds_181 : decode cX12_odds 181 = .ok (.aload_n 0, 1) := by decide +kernel
theorem dX12_odds_182 : decode cX12_odds 182 = .ok (.iload_n 1, 1) := by decide +kernel
theorem dX12_odds_183 : decode cX12_odds 183 = .ok (.iload 10, 2) := by decide +kernel
theorem dX12_odds_185 : decode cX12_odds 185 = .ok (.iload 9, 2) := by decide +kernel
theorem dX12_odds_187 : decode cX12_odds 187 = .ok (.invokevirtual 319, 3) := by decide +kernel
theorem dX12_odds_190 : decode cX12_odds 190 = .ok (.dup2, 1) := by decide +kernel
theorem dX12_odds_191 : decode cX12_odds 191 = .ok (.laload, 1) := by decide +kernel
theorem dX12_odds_192 : decode cX12_odds 192 = .ok (.aload_n 0, 1) := by decide +kernel
theorem dX12_odds_193 : decode cX12_odds 193 = .ok (.getfield 64, 3) := by decide +kernel
theorem dX12_odds_196 : decode cX12_odds 196 = .ok (.iload 10, 2) := by decide +kernel
theorem dX12_odds_198 : decode cX12_odds 198 = .ok (.laload, 1) := by decide +kernel
theorem dX12_odds_199 : decode cX12_odds 199 = .ok (.bipush 10, 2) := by decide +kernel
theorem dX12_odds_201 : decode cX12_odds 201 = .ok (.iload 4, 2) := by decide +kernel
theorem dX12_odds_203 : decode cX12_odds 203 = .ok (.isub, 1) := by decide +kernel
theorem dX12_odds_204 : decode cX12_odds 204 = .ok (.i2l, 1) := by decide +kernel
theorem dX12_odds_205 : decode cX12_odds 205 = .ok (.lmul, 1) := by decide +kernel
theorem dX12_odds_206 : decode cX12_odds 206 = .ok (.ladd, 1) := by decide +kernel
theorem dX12_odds_207 : decode cX12_odds 207 = .ok (.lastore, 1) := by decide +kernel
theorem dX12_odds_208 : decode cX12_odds 208 = .ok (.aload_n 0, 1) := by decide +kernel
theorem dX12_odds_209 : decode cX12_odds 209 = .ok (.getfield 67, 3) := by decide +kernel
theorem dX12_odds_212 : decode cX12_odds 212 = .ok (.aload_n 0, 1) := by decide +kernel
theorem dX12_odds_213 : decode cX12_odds 213 = .ok (.iload_n 1, 1) := by decide +kernel
theorem dX12_odds_214 : decode cX12_odds 214 = .ok (.iload 10, 2) := by decide +kernel
theorem dX12_odds_216 : decode cX12_odds 216 = .ok (.iload 9, 2) := by decide +kernel
theorem dX12_odds_218 : decode cX12_odds 218 = .ok (.iconst 1, 1) := by decide +kernel
theorem dX12_odds_219 : decode cX12_odds 219 = .ok (.iadd, 1) := by decide +kernel
theorem dX12_odds_220 : decode cX12_odds 220 = .ok (.iconst 4, 1) := by decide +kernel
theorem dX12_odds_221 : decode cX12_odds 221 = .ok (.irem, 1) := by decide +kernel
theorem dX12_odds_222 : decode cX12_odds 222 = .ok (.invokevirtual 319, 3) := by decide +kernel
theorem dX12_odds_225 : decode cX12_odds 225 = .ok (.dup2, 1) := by decide +kernel
theorem dX12_odds_226 : decode cX12_odds 226 = .ok (.laload, 1) := by decide +kernel
theorem dX12_odds_227 : decode cX12_odds 227 = .ok (.aload_n 0, 1) := by decide +kernel
theorem dX12_odds_228 : decode cX12_odds 228 = .ok (.getfield 64, 3) := by decide +kernel
theorem dX12_odds_231 : decode cX12_odds 231 = .ok (.iload 10, 2) := by decide +kernel
theorem dX12_odds_233 : decode cX12_odds 233 = .ok (.laload, 1) := by decide +kernel
theorem dX12_odds_234 : decode cX12_odds 234 = .ok (.iload 4, 2) := by decide +kernel
theorem dX12_odds_236 : decode cX12_odds 236 = .ok (.i2l, 1) := by decide +kernel
theorem dX12_odds_237 : decode cX12_odds 237 = .ok (.lmul, 1) := by decide +kernel
theorem dX12_odds_238 : decode cX12_odds 238 = .ok (.ladd, 1) := by decide +kernel
theorem dX12_odds_239 : decode cX12_odds 239 = .ok (.lastore, 1) := by decide +kernel
theorem dX12_odds_240 : decode cX12_odds 240 = .ok (.iinc 10 1, 3) := by decide +kernel
theorem dX12_odds_243 : decode cX12_odds 243 = .ok (.goto (-88), 3) := by decide +kernel
theorem dX12_odds_246 : decode cX12_odds 246 = .ok (.iconst 0, 1) := by decide +kernel
theorem dX12_odds_247 : decode cX12_odds 247 = .ok (.istore 10, 2) := by decide +kernel
theorem dX12_odds_249 : decode cX12_odds 249 = .ok (.iload 10, 2) := by decide +kernel
theorem dX12_odds_251 : decode cX12_odds 251 = .ok (.bipush 100, 2) := by decide +kernel
theorem dX12_odds_253 : decode cX12_odds 253 = .ok (.if_icmp .ge 23, 3) := by decide +kernel
theorem dX12_odds_256 : decode cX12_odds 256 = .ok (.aload_n 0, 1) := by decide +kernel
theorem dX12_odds_257 : decode cX12_odds 257 = .ok (.getfield 64, 3) := by decide +kernel
theorem dX12_odds_260 : decode cX12_odds 260 = .ok (.iload 10, 2) := by decide +kernel
theorem dX12_odds_262 : decode cX12_odds 262 = .ok (.aload_n 0, 1) := by decide +kernel
theorem dX12_odds_263 : decode cX12_odds 263 = .ok (.getfield 67, 3) := by decide +kernel
theorem dX12_odds_266 : decode cX12_odds 266 = .ok (.iload 10, 2) := by decide +kernel
theorem dX12_odds_268 : decode cX12_odds 268 = .ok (.laload, 1) := by decide +kernel
theorem dX12_odds_269 : decode cX12_odds 269 = .ok (.lastore, 1) := by decide +kernel
theorem dX12_odds_270 : decode cX12_odds 270 = .ok (.iinc 10 1, 3) := by decide +kernel
theorem dX12_odds_273 : decode cX12_odds 273 = .ok (.goto (-24), 3) := by decide +kernel
theorem dX12_odds_276 : decode cX12_odds 276 = .ok (.lload 6, 2) := by decide +kernel
theorem dX12_odds_278 : decode cX12_odds 278 = .ok (.ldc2_w 344, 3) := by decide +kernel
theorem dX12_odds_281 : decode cX12_odds 281 = .ok (.lmul, 1) := by decide +kernel
theorem dX12_odds_282 : decode cX12_odds 282 = .ok (.lstore 6, 2) := by decide +kernel
theorem dX12_odds_284 : decode cX12_odds 284 = .ok (.iinc 8 1, 3) := by decide +kernel
theorem dX12_odds_287 : decode cX12_odds 287 = .ok (.goto (-182), 3) := by decide +kernel
theorem dX12_odds_290 : decode cX12_odds 290 = .ok (.lconst 0, 1) := by decide +kernel
theorem dX12_odds_291 : decode cX12_odds 291 = .ok (.lstore 8, 2) := by decide +kernel
theorem dX12_odds_293 : decode cX12_odds 293 = .ok (.iconst 0, 1) := by decide +kernel
theorem dX12_odds_294 : decode cX12_odds 294 = .ok (.istore 10, 2) := by decide +kernel
theorem dX12_odds_296 : decode cX12_odds 296 = .ok (.iload 10, 2) := by decide +kernel
theorem dX12_odds_298 : decode cX12_odds 298 = .ok (.iconst 4, 1) := by decide +kernel
theorem dX12_odds_299 : decode cX12_odds 299 = .ok (.if_icmp .ge 25, 3) := by decide +kernel
theorem dX12_odds_302 : decode cX12_odds 302 = .ok (.lload 8, 2) := by decide +kernel
theorem dX12_odds_304 : decode cX12_odds 304 = .ok (.aload_n 0, 1) := by decide +kernel
theorem dX12_odds_305 : decode cX12_odds 305 = .ok (.getfield 64, 3) := by decide +kernel
theorem dX12_odds_308 : decode cX12_odds 308 = .ok (.iconst 4, 1) := by decide +kernel
theorem dX12_odds_309 : decode cX12_odds 309 = .ok (.iload_n 3, 1) := by decide +kernel
theorem dX12_odds_310 : decode cX12_odds 310 = .ok (.imul, 1) := by decide +kernel
theorem dX12_odds_311 : decode cX12_odds 311 = .ok (.iload 10, 2) := by decide +kernel
theorem dX12_odds_313 : decode cX12_odds 313 = .ok (.iadd, 1) := by decide +kernel
theorem dX12_odds_314 : decode cX12_odds 314 = .ok (.laload, 1) := by decide +kernel
theorem dX12_odds_315 : decode cX12_odds 315 = .ok (.ladd, 1) := by decide +kernel
theorem dX12_odds_316 : decode cX12_odds 316 = .ok (.lstore 8, 2) := by decide +kernel
theorem dX12_odds_318 : decode cX12_odds 318 = .ok (.iinc 10 1, 3) := by decide +kernel
theorem dX12_odds_321 : decode cX12_odds 321 = .ok (.goto (-25), 3) := by decide +kernel
theorem dX12_odds_324 : decode cX12_odds 324 = .ok (.iload 5, 2) := by decide +kernel
theorem dX12_odds_326 : decode cX12_odds 326 = .ok (.ifCond .ne 8, 3) := by decide +kernel
theorem dX12_odds_329 : decode cX12_odds 329 = .ok (.lload 8, 2) := by decide +kernel
theorem dX12_odds_331 : decode cX12_odds 331 = .ok (.goto 5, 3) := by decide +kernel
theorem dX12_odds_334 : decode cX12_odds 334 = .ok (.lload 6, 2) := by decide +kernel
theorem dX12_odds_336 : decode cX12_odds 336 = .ok (.lload 8, 2) := by decide +kernel
theorem dX12_odds_338 : decode cX12_odds 338 = .ok (.lload 6, 2) := by decide +kernel
theorem dX12_odds_340 : decode cX12_odds 340 = .ok (.invokestatic 346, 3) := by decide +kernel
theorem dX12_odds_343 : decode cX12_odds 343 = .ok (.ldiv, 1) := by decide +kernel
theorem dX12_odds_344 : decode cX12_odds 344 = .ok (.lreturn, 1) := by decide +kernel
theorem dX12_seen_0 : decode cX12_seen 0 = .ok (.aload_n 0, 1) := by decide +kernel
theorem dX12_seen_1 : decode cX12_seen 1 = .ok (.iload_n 1, 1) := by decide +kernel
theorem dX12_seen_2 : decode cX12_seen 2 = .ok (.invokevirtual 110, 3) := by decide +kernel
theorem dX12_seen_5 : decode cX12_seen 5 = .ok (.ifCond .eq 31, 3) := by decide +kernel
theorem dX12_seen_8 : decode cX12_seen 8 = .ok (.iload_n 2, 1) := by decide +kernel
theorem dX12_seen_9 : decode cX12_seen 9 = .ok (.iconst 0, 1) := by decide +kernel
theorem dX12_seen_10 : decode cX12_seen 10 = .ok (.iconst 3, 1) := by decide +kernel
theorem dX12_seen_11 : decode cX12_seen 11 = .ok (.invokestatic 95, 3) := by decide +kernel
theorem dX12_seen_14 : decode cX12_seen 14 = .ok (.ifCond .eq 22, 3) := by decide +kernel
theorem dX12_seen_17 : decode cX12_seen 17 = .ok (.aload_n 0, 1) := by decide +kernel
theorem dX12_seen_18 : decode cX12_seen 18 = .ok (.iload_n 3, 1) := by decide +kernel
theorem dX12_seen_19 : decode cX12_seen 19 = .ok (.invokevirtual 110, 3) := by decide +kernel
theorem dX12_seen_22 : decode cX12_seen 22 = .ok (.ifCond .eq 14, 3) := by decide +kernel
theorem dX12_seen_25 : decode cX12_seen 25 = .ok (.aload_n 0, 1) := by decide +kernel
theorem dX12_seen_26 : decode cX12_seen 26 = .ok (.getfield 7, 3) := by decide +kernel
theorem dX12_seen_29 : decode cX12_seen 29 = .ok (.iconst 4, 1) := by decide +kernel
theorem dX12_seen_30 : decode cX12_seen 30 = .ok (.iaload, 1) := by decide +kernel
theorem dX12_seen_31 : decode cX12_seen 31 = .ok (.bipush 20, 2) := by decide +kernel
theorem dX12_seen_33 : decode cX12_seen 33 = .ok (.if_icmp .ne 5, 3) := by decide +kernel
theorem dX12_seen_36 : decode cX12_seen 36 = .ok (.iconst (-1), 1) := by decide +kernel
theorem dX12_seen_37 : decode cX12_seen 37 = .ok (.ireturn, 1) := by decide +kernel
theorem dX12_seen_38 : decode cX12_seen 38 = .ok (.sipush 130, 3) := by decide +kernel
theorem dX12_seen_41 : decode cX12_seen 41 = .ok (.iconst 3, 1) := by decide +kernel
theorem dX12_seen_42 : decode cX12_seen 42 = .ok (.aload_n 0, 1) := by decide +kernel
theorem dX12_seen_43 : decode cX12_seen 43 = .ok (.getfield 7, 3) := by decide +kernel
theorem dX12_seen_46 : decode cX12_seen 46 = .ok (.iconst 4, 1) := by decide +kernel
theorem dX12_seen_47 : decode cX12_seen 47 = .ok (.iaload, 1) := by decide +kernel
theorem dX12_seen_48 : decode cX12_seen 48 = .ok (.imul, 1) := by decide +kernel
theorem dX12_seen_49 : decode cX12_seen 49 = .ok (.iadd, 1) := by decide +kernel
theorem dX12_seen_50 : decode cX12_seen 50 = .ok (.istore 4, 2) := by decide +kernel
theorem dX12_seen_52 : decode cX12_seen 52 = .ok (.aload_n 0, 1) := by decide +kernel
theorem dX12_seen_53 : decode cX12_seen 53 = .ok (.getfield 7, 3) := by decide +kernel
theorem dX12_seen_56 : decode cX12_seen 56 = .ok (.iload 4, 2) := by decide +kernel
theorem dX12_seen_58 : decode cX12_seen 58 = .ok (.iload_n 1, 1) := by decide +kernel
theorem dX12_seen_59 : decode cX12_seen 59 = .ok (.iastore, 1) := by decide +kernel
theorem dX12_seen_60 : decode cX12_seen 60 = .ok (.aload_n 0, 1) := by decide +kernel
theorem dX12_seen_61 : decode cX12_seen 61 = .ok (.getfield 7, 3) := by decide +kernel
theorem dX12_seen_64 : decode cX12_seen 64 = .ok (.iload 4, 2) := by decide +kernel
theorem dX12_seen_66 : decode cX12_seen 66 = .ok (.iconst 1, 1) := by decide +kernel
theorem dX12_seen_67 : decode cX12_seen 67 = .ok (.iadd, 1) := by decide +kernel
theorem dX12_seen_68 : decode cX12_seen 68 = .ok (.iload_n 2, 1) := by decide +kernel
theorem dX12_seen_69 : decode cX12_seen 69 = .ok (.iastore, 1) := by decide +kernel
theorem dX12_seen_70 : decode cX12_seen 70 = .ok (.aload_n 0, 1) := by decide +kernel
theorem dX12_seen_71 : decode cX12_seen 71 = .ok (.getfield 7, 3) := by decide +kernel
theorem dX12_seen_74 : decode cX12_seen 74 = .ok (.iload 4, 2) := by decide +kernel
theorem dX12_seen_76 : decode cX12_seen 76 = .ok (.iconst 2, 1) := by decide +kernel
theorem dX12_seen_77 : decode cX12_seen 77 = .ok (.iadd, 1) := by decide +kernel
theorem dX12_seen_78 : decode cX12_seen 78 = .ok (.iload_n 3, 1) := by decide +kernel
theorem dX12_seen_79 : decode cX12_seen 79 = .ok (.iastore, 1) := by decide +kernel
theorem dX12_seen_80 : decode cX12_seen 80 = .ok (.aload_n 0, 1) := by decide +kernel
theorem dX12_seen_81 : decode cX12_seen 81 = .ok (.getfield 7, 3) := by decide +kernel
theorem dX12_seen_84 : decode cX12_seen 84 = .ok (.iconst 4, 1) := by decide +kernel
theorem dX12_seen_85 : decode cX12_seen 85 = .ok (.dup2, 1) := by decide +kernel
theorem dX12_seen_86 : decode cX12_seen 86 = .ok (.iaload, 1) := by decide +kernel
theorem dX12_seen_87 : decode cX12_seen 87 = .ok (.iconst 1, 1) := by decide +kernel
theorem dX12_seen_88 : decode cX12_seen 88 = .ok (.iadd, 1) := by decide +kernel
theorem dX12_seen_89 : decode cX12_seen 89 = .ok (.iastore, 1) := by decide +kernel
theorem dX12_seen_90 : decode cX12_seen 90 = .ok (.aload_n 0, 1) := by decide +kernel
theorem dX12_seen_91 : decode cX12_seen 91 = .ok (.getfield 7, 3) := by decide +kernel
theorem dX12_seen_94 : decode cX12_seen 94 = .ok (.iconst 4, 1) := by decide +kernel
theorem dX12_seen_95 : decode cX12_seen 95 = .ok (.iaload, 1) := by decide +kernel
theorem dX12_seen_96 : decode cX12_seen 96 = .ok (.ireturn, 1) := by decide +kernel
theorem dX12_holds_0 : decode cX12_holds 0 = .ok (.iconst 0, 1) := by decide +kernel
theorem dX12_holds_1 : decode cX12_holds 1 = .ok (.istore_n 1, 1) := by decide +kernel
theorem dX12_holds_2 : decode cX12_holds 2 = .ok (.iconst 0, 1) := by decide +kernel
theorem dX12_holds_3 : decode cX12_holds 3 = .ok (.istore_n 2, 1) := by decide +kernel
theorem dX12_holds_4 : decode cX12_holds 4 = .ok (.iload_n 2, 1) := by decide +kernel
theorem dX12_holds_5 : decode cX12_holds 5 = .ok (.aload_n 0, 1) := by decide +kernel
theorem dX12_holds_6 : decode cX12_holds 6 = .ok (.getfield 7, 3) := by decide +kernel
theorem dX12_holds_9 : decode cX12_holds 9 = .ok (.iconst 1, 1) := by decide +kernel
theorem dX12_holds_10 : decode cX12_holds 10 = .ok (.iaload, 1) := by decide +kernel
theorem dX12_holds_11 : decode cX12_holds 11 = .ok (.if_icmp .ge 116, 3) := by decide +kernel
theorem dX12_holds_14 : decode cX12_holds 14 = .ok (.iconst 1, 1) := by decide +kernel
theorem dX12_holds_15 : decode cX12_holds 15 = .ok (.istore_n 3, 1) := by decide +kernel
theorem dX12_holds_16 : decode cX12_holds 16 = .ok (.iconst 0, 1) := by decide +kernel
theorem dX12_holds_17 : decode cX12_holds 17 = .ok (.istore 4, 2) := by decide +kernel
theorem dX12_holds_19 : decode cX12_holds 19 = .ok (.iload 4, 2) := by decide +kernel
theorem dX12_holds_21 : decode cX12_holds 21 = .ok (.aload_n 0, 1) := by decide +kernel
theorem dX12_holds_22 : decode cX12_holds 22 = .ok (.getfield 7, 3) := by decide +kernel
theorem dX12_holds_25 : decode cX12_holds 25 = .ok (.iconst 4, 1) := by decide +kernel
theorem dX12_holds_26 : decode cX12_holds 26 = .ok (.iaload, 1) := by decide +kernel
theorem dX12_holds_27 : decode cX12_holds 27 = .ok (.if_icmp .ge 80, 3) := by decide +kernel
theorem dX12_holds_30 : decode cX12_holds 30 = .ok (.sipush 130, 3) := by decide +kernel
theorem dX12_holds_33 : decode cX12_holds 33 = .ok (.iconst 3, 1) := by decide +kernel
theorem dX12_holds_34 : decode cX12_holds 34 = .ok (.iload 4, 2) := by decide +kernel
theorem dX12_holds_36 : decode cX12_holds 36 = .ok (.imul, 1) := by decide +kernel
theorem dX12_holds_37 : decode cX12_holds 37 = .ok (.iadd, 1) := by decide +kernel
theorem dX12_holds_38 : decode cX12_holds 38 = .ok (.istore 5, 2) := by decide +kernel
theorem dX12_holds_40 : decode cX12_holds 40 = .ok (.iload_n 3, 1) := by decide +kernel
theorem dX12_holds_41 : decode cX12_holds 41 = .ok (.ifCond .eq 58, 3) := by decide +kernel
theorem dX12_holds_44 : decode cX12_holds 44 = .ok (.aload_n 0, 1) := by decide +kernel
theorem dX12_holds_45 : decode cX12_holds 45 = .ok (.aload_n 0, 1) := by decide +kernel
theorem dX12_holds_46 : decode cX12_holds 46 = .ok (.getfield 7, 3) := by decide +kernel
theorem dX12_holds_49 : decode cX12_holds 49 = .ok (.iload 5, 2) := by decide +kernel
theorem dX12_holds_51 : decode cX12_holds 51 = .ok (.iaload, 1) := by decide +kernel
theorem dX12_holds_52 : decode cX12_holds 52 = .ok (.invokevirtual 110, 3) := by decide +kernel
theorem dX12_holds_55 : decode cX12_holds 55 = .ok (.ifCond .eq 44, 3) := by decide +kernel
theorem dX12_holds_58 : decode cX12_holds 58 = .ok (.aload_n 0, 1) := by decide +kernel
theorem dX12_holds_59 : decode cX12_holds 59 = .ok (.iload_n 2, 1) := by decide +kernel
theorem dX12_holds_60 : decode cX12_holds 60 = .ok (.aload_n 0, 1) := by decide +kernel
theorem dX12_holds_61 : decode cX12_holds 61 = .ok (.getfield 7, 3) := by decide +kernel
theorem dX12_holds_64 : decode cX12_holds 64 = .ok (.iload 5, 2) := by decide +kernel
theorem dX12_holds_66 : decode cX12_holds 66 = .ok (.iaload, 1) := by decide +kernel
theorem dX12_holds_67 : decode cX12_holds 67 = .ok (.aload_n 0, 1) := by decide +kernel
theorem dX12_holds_68 : decode cX12_holds 68 = .ok (.getfield 7, 3) := by decide +kernel
theorem dX12_holds_71 : decode cX12_holds 71 = .ok (.iload 5, 2) := by decide +kernel
theorem dX12_holds_73 : decode cX12_holds 73 = .ok (.iconst 1, 1) := by decide +kernel
theorem dX12_holds_74 : decode cX12_holds 74 = .ok (.iadd, 1) := by decide +kernel
theorem dX12_holds_75 : decode cX12_holds 75 = .ok (.iaload, 1) := by decide +kernel
theorem dX12_holds_76 : decode cX12_holds 76 = .ok (.invokevirtual 294, 3) := by decide +kernel
theorem dX12_holds_79 : decode cX12_holds 79 = .ok (.sipush 200, 3) := by decide +kernel
theorem dX12_holds_82 : decode cX12_holds 82 = .ok (.irem, 1) := by decide +kernel
theorem dX12_holds_83 : decode cX12_holds 83 = .ok (.aload_n 0, 1) := by decide +kernel
theorem dX12_holds_84 : decode cX12_holds 84 = .ok (.getfield 7, 3) := by decide +kernel
theorem dX12_holds_87 : decode cX12_holds 87 = .ok (.iload 5, 2) := by decide +kernel
theorem dX12_holds_89 : decode cX12_holds 89 = .ok (.iconst 2, 1) := by decide +kernel
theorem dX12_holds_90 : decode cX12_holds 90 = .ok (.iadd, 1) := by decide +kernel
theorem dX12_holds_91 : decode cX12_holds 91 = .ok (.iaload, 1) := by decide +kernel
theorem dX12_holds_92 : decode cX12_holds 92 = .ok (.if_icmp .ne 7, 3) := by decide +kernel
theorem dX12_holds_95 : decode cX12_holds 95 = .ok (.iconst 1, 1) := by decide +kernel
theorem dX12_holds_96 : decode cX12_holds 96 = .ok (.goto 4, 3) := by decide +kernel
theorem dX12_holds_99 : decode cX12_holds 99 = .ok (.iconst 0, 1) := by decide +kernel
theorem dX12_holds_100 : decode cX12_holds 100 = .ok (.istore_n 3, 1) := by decide +kernel
theorem dX12_holds_101 : decode cX12_holds 101 = .ok (.iinc 4 1, 3) := by decide +kernel
theorem dX12_holds_104 : decode cX12_holds 104 = .ok (.goto (-85), 3) := by decide +kernel
theorem dX12_holds_107 : decode cX12_holds 107 = .ok (.iload_n 1, 1) := by decide +kernel
theorem dX12_holds_108 : decode cX12_holds 108 = .ok (.iload_n 3, 1) := by decide +kernel
theorem dX12_holds_109 : decode cX12_holds 109 = .ok (.ifCond .eq 9, 3) := by decide +kernel
theorem dX12_holds_112 : decode cX12_holds 112 = .ok (.iconst 1, 1) := by decide +kernel
theorem dX12_holds_113 : decode cX12_holds 113 = .ok (.iload_n 2, 1) := by decide +kernel
theorem dX12_holds_114 : decode cX12_holds 114 = .ok (.ishl, 1) := by decide +kernel
theorem dX12_holds_115 : decode cX12_holds 115 = .ok (.goto 4, 3) := by decide +kernel
theorem dX12_holds_118 : decode cX12_holds 118 = .ok (.iconst 0, 1) := by decide +kernel
theorem dX12_holds_119 : decode cX12_holds 119 = .ok (.ior, 1) := by decide +kernel
theorem dX12_holds_120 : decode cX12_holds 120 = .ok (.istore_n 1, 1) := by decide +kernel
theorem dX12_holds_121 : decode cX12_holds 121 = .ok (.iinc 2 1, 3) := by decide +kernel
theorem dX12_holds_124 : decode cX12_holds 124 = .ok (.goto (-120), 3) := by decide +kernel
theorem dX12_holds_127 : decode cX12_holds 127 = .ok (.iload_n 1, 1) := by decide +kernel
theorem dX12_holds_128 : decode cX12_holds 128 = .ok (.ireturn, 1) := by decide +kernel
theorem dX12_bumpsFrom_0 : decode cX12_bumpsFrom 0 = .ok (.iconst 0, 1) := by decide +kernel
theorem dX12_bumpsFrom_1 : decode cX12_bumpsFrom 1 = .ok (.istore_n 3, 1) := by decide +kernel
theorem dX12_bumpsFrom_2 : decode cX12_bumpsFrom 2 = .ok (.iload_n 2, 1) := by decide +kernel
theorem dX12_bumpsFrom_3 : decode cX12_bumpsFrom 3 = .ok (.istore 4, 2) := by decide +kernel
theorem dX12_bumpsFrom_5 : decode cX12_bumpsFrom 5 = .ok (.iconst 0, 1) := by decide +kernel
theorem dX12_bumpsFrom_6 : decode cX12_bumpsFrom 6 = .ok (.istore 5, 2) := by decide +kernel
theorem dX12_bumpsFrom_8 : decode cX12_bumpsFrom 8 = .ok (.iload 5, 2) := by decide +kernel
theorem dX12_bumpsFrom_10 : decode cX12_bumpsFrom 10 = .ok (.aload_n 0, 1) := by decide +kernel
theorem dX12_bumpsFrom_11 : decode cX12_bumpsFrom 11 = .ok (.getfield 7, 3) := by decide +kernel
theorem dX12_bumpsFrom_14 : decode cX12_bumpsFrom 14 = .ok (.iconst 2, 1) := by decide +kernel
theorem dX12_bumpsFrom_15 : decode cX12_bumpsFrom 15 = .ok (.iaload, 1) := by decide +kernel
theorem dX12_bumpsFrom_16 : decode cX12_bumpsFrom 16 = .ok (.if_icmp .ge 61, 3) := by decide +kernel
theorem dX12_bumpsFrom_19 : decode cX12_bumpsFrom 19 = .ok (.aload_n 0, 1) := by decide +kernel
theorem dX12_bumpsFrom_20 : decode cX12_bumpsFrom 20 = .ok (.iload_n 1, 1) := by decide +kernel
theorem dX12_bumpsFrom_21 : decode cX12_bumpsFrom 21 = .ok (.iload 4, 2) := by decide +kernel
theorem dX12_bumpsFrom_23 : decode cX12_bumpsFrom 23 = .ok (.aload_n 0, 1) := by decide +kernel
theorem dX12_bumpsFrom_24 : decode cX12_bumpsFrom 24 = .ok (.getfield 7, 3) := by decide +kernel
theorem dX12_bumpsFrom_27 : decode cX12_bumpsFrom 27 = .ok (.bipush 50, 2) := by decide +kernel
theorem dX12_bumpsFrom_29 : decode cX12_bumpsFrom 29 = .ok (.iload 5, 2) := by decide +kernel
theorem dX12_bumpsFrom_31 : decode cX12_bumpsFrom 31 = .ok (.iadd, 1) := by decide +kernel
theorem dX12_bumpsFrom_32 : decode cX12_bumpsFrom 32 = .ok (.iaload, 1) := by decide +kernel
theorem dX12_bumpsFrom_33 : decode cX12_bumpsFrom 33 = .ok (.invokevirtual 298, 3) := by decide +kernel
theorem dX12_bumpsFrom_36 : decode cX12_bumpsFrom 36 = .ok (.istore 6, 2) := by decide +kernel
theorem dX12_bumpsFrom_38 : decode cX12_bumpsFrom 38 = .ok (.iload_n 3, 1) := by decide +kernel
theorem dX12_bumpsFrom_39 : decode cX12_bumpsFrom 39 = .ok (.iload 6, 2) := by decide +kernel
theorem dX12_bumpsFrom_41 : decode cX12_bumpsFrom 41 = .ok (.sipush 200, 3) := by decide +kernel
theorem dX12_bumpsFrom_44 : decode cX12_bumpsFrom 44 = .ok (.sipush 399, 3) := by decide +kernel
theorem dX12_bumpsFrom_47 : decode cX12_bumpsFrom 47 = .ok (.invokestatic 95, 3) := by decide +kernel
theorem dX12_bumpsFrom_50 : decode cX12_bumpsFrom 50 = .ok (.ifCond .eq 10, 3) := by decide +kernel
theorem dX12_bumpsFrom_53 : decode cX12_bumpsFrom 53 = .ok (.iconst 1, 1) := by decide +kernel
theorem dX12_bumpsFrom_54 : decode cX12_bumpsFrom 54 = .ok (.iload 5, 2) := by decide +kernel
theorem dX12_bumpsFrom_56 : decode cX12_bumpsFrom 56 = .ok (.ishl, 1) := by decide +kernel
theorem dX12_bumpsFrom_57 : decode cX12_bumpsFrom 57 = .ok (.goto 4, 3) := by decide +kernel
theorem dX12_bumpsFrom_60 : decode cX12_bumpsFrom 60 = .ok (.iconst 0, 1) := by decide +kernel
theorem dX12_bumpsFrom_61 : decode cX12_bumpsFrom 61 = .ok (.ior, 1) := by decide +kernel
theorem dX12_bumpsFrom_62 : decode cX12_bumpsFrom 62 = .ok (.istore_n 3, 1) := by decide +kernel
theorem dX12_bumpsFrom_63 : decode cX12_bumpsFrom 63 = .ok (.iload 6, 2) := by decide +kernel
theorem dX12_bumpsFrom_65 : decode cX12_bumpsFrom 65 = .ok (.sipush 200, 3) := by decide +kernel
theorem dX12_bumpsFrom_68 : decode cX12_bumpsFrom 68 = .ok (.irem, 1) := by decide +kernel
theorem dX12_bumpsFrom_69 : decode cX12_bumpsFrom 69 = .ok (.istore 4, 2) := by decide +kernel
theorem dX12_bumpsFrom_71 : decode cX12_bumpsFrom 71 = .ok (.iinc 5 1, 3) := by decide +kernel
theorem dX12_bumpsFrom_74 : decode cX12_bumpsFrom 74 = .ok (.goto (-66), 3) := by decide +kernel
theorem dX12_bumpsFrom_77 : decode cX12_bumpsFrom 77 = .ok (.iload_n 3, 1) := by decide +kernel
theorem dX12_bumpsFrom_78 : decode cX12_bumpsFrom 78 = .ok (.ireturn, 1) := by decide +kernel
theorem dX12_dark_0 : decode cX12_dark 0 = .ok (.aload_n 0, 1) := by decide +kernel
theorem dX12_dark_1 : decode cX12_dark 1 = .ok (.iload_n 1, 1) := by decide +kernel
theorem dX12_dark_2 : decode cX12_dark 2 = .ok (.invokevirtual 113, 3) := by decide +kernel
theorem dX12_dark_5 : decode cX12_dark 5 = .ok (.ifCond .eq 26, 3) := by decide +kernel
theorem dX12_dark_8 : decode cX12_dark 8 = .ok (.iload_n 2, 1) := by decide +kernel
theorem dX12_dark_9 : decode cX12_dark 9 = .ok (.iconst 0, 1) := by decide +kernel
theorem dX12_dark_10 : decode cX12_dark 10 = .ok (.iconst 1, 1) := by decide +kernel
theorem dX12_dark_11 : decode cX12_dark 11 = .ok (.aload_n 0, 1) := by decide +kernel
theorem dX12_dark_12 : decode cX12_dark 12 = .ok (.getfield 7, 3) := by decide +kernel
theorem dX12_dark_15 : decode cX12_dark 15 = .ok (.iconst 2, 1) := by decide +kernel
theorem dX12_dark_16 : decode cX12_dark 16 = .ok (.iaload, 1) := by decide +kernel
theorem dX12_dark_17 : decode cX12_dark 17 = .ok (.ishl, 1) := by decide +kernel
theorem dX12_dark_18 : decode cX12_dark 18 = .ok (.iconst 1, 1) := by decide +kernel
theorem dX12_dark_19 : decode cX12_dark 19 = .ok (.isub, 1) := by decide +kernel
theorem dX12_dark_20 : decode cX12_dark 20 = .ok (.invokestatic 95, 3) := by decide +kernel
theorem dX12_dark_23 : decode cX12_dark 23 = .ok (.ifCond .eq 8, 3) := by decide +kernel
theorem dX12_dark_26 : decode cX12_dark 26 = .ok (.iload_n 3, 1) := by decide +kernel
theorem dX12_dark_27 : decode cX12_dark 27 = .ok (.iconst (-1), 1) := by decide +kernel
theorem dX12_dark_28 : decode cX12_dark 28 = .ok (.if_icmp .ge 5, 3) := by decide +kernel
theorem dX12_dark_31 : decode cX12_dark 31 = .ok (.iconst (-1), 1) := by decide +kernel
theorem dX12_dark_32 : decode cX12_dark 32 = .ok (.ireturn, 1) := by decide +kernel
theorem dX12_dark_33 : decode cX12_dark 33 = .ok (.aload_n 0, 1) := by decide +kernel
theorem dX12_dark_34 : decode cX12_dark 34 = .ok (.iload_n 1, 1) := by decide +kernel
theorem dX12_dark_35 : decode cX12_dark 35 = .ok (.invokevirtual 322, 3) := by decide +kernel
theorem dX12_dark_38 : decode cX12_dark 38 = .ok (.iconst 0, 1) := by decide +kernel
theorem dX12_dark_39 : decode cX12_dark 39 = .ok (.istore 4, 2) := by decide +kernel
theorem dX12_dark_41 : decode cX12_dark 41 = .ok (.iconst 0, 1) := by decide +kernel
theorem dX12_dark_42 : decode cX12_dark 42 = .ok (.istore 5, 2) := by decide +kernel
theorem dX12_dark_44 : decode cX12_dark 44 = .ok (.iload 5, 2) := by decide +kernel
theorem dX12_dark_46 : decode cX12_dark 46 = .ok (.iconst 4, 1) := by decide +kernel
theorem dX12_dark_47 : decode cX12_dark 47 = .ok (.aload_n 0, 1) := by decide +kernel
theorem dX12_dark_48 : decode cX12_dark 48 = .ok (.getfield 85, 3) := by decide +kernel
theorem dX12_dark_51 : decode cX12_dark 51 = .ok (.imul, 1) := by decide +kernel
theorem dX12_dark_52 : decode cX12_dark 52 = .ok (.aload_n 0, 1) := by decide +kernel
theorem dX12_dark_53 : decode cX12_dark 53 = .ok (.getfield 88, 3) := by decide +kernel
theorem dX12_dark_56 : decode cX12_dark 56 = .ok (.imul, 1) := by decide +kernel
theorem dX12_dark_57 : decode cX12_dark 57 = .ok (.if_icmp .ge 44, 3) := by decide +kernel
theorem dX12_dark_60 : decode cX12_dark 60 = .ok (.aload_n 0, 1) := by decide +kernel
theorem dX12_dark_61 : decode cX12_dark 61 = .ok (.iload 5, 2) := by decide +kernel
theorem dX12_dark_63 : decode cX12_dark 63 = .ok (.invokevirtual 110, 3) := by decide +kernel
theorem dX12_dark_66 : decode cX12_dark 66 = .ok (.ifCond .eq 29, 3) := by decide +kernel
theorem dX12_dark_69 : decode cX12_dark 69 = .ok (.aload_n 0, 1) := by decide +kernel
theorem dX12_dark_70 : decode cX12_dark 70 = .ok (.iload_n 1, 1) := by decide +kernel
theorem dX12_dark_71 : decode cX12_dark 71 = .ok (.iload 5, 2) := by decide +kernel
theorem dX12_dark_73 : decode cX12_dark 73 = .ok (.invokevirtual 350, 3) := by decide +kernel
theorem dX12_dark_76 : decode cX12_dark 76 = .ok (.iload_n 2, 1) := by decide +kernel
theorem dX12_dark_77 : decode cX12_dark 77 = .ok (.if_icmp .eq 6, 3) := by decide +kernel
theorem dX12_dark_80 : decode cX12_dark 80 = .ok (.goto 15, 3) := by decide +kernel
theorem dX12_dark_83 : decode cX12_dark 83 = .ok (.iload 4, 2) := by decide +kernel
theorem dX12_dark_85 : decode cX12_dark 85 = .ok (.iload_n 3, 1) := by decide +kernel
theorem dX12_dark_86 : decode cX12_dark 86 = .ok (.if_icmp .ne 6, 3) := by decide +kernel
theorem dX12_dark_89 : decode cX12_dark 89 = .ok (.iload 5, 2) := by decide +kernel
theorem dX12_dark_91 : decode cX12_dark 91 = .ok (.ireturn, 1) := by decide +kernel
theorem dX12_dark_92 : decode cX12_dark 92 = .ok (.iinc 4 1, 3) := by decide +kernel
theorem dX12_dark_95 : decode cX12_dark 95 = .ok (.iinc 5 1, 3) := by decide +kernel
theorem dX12_dark_98 : decode cX12_dark 98 = .ok (.goto (-54), 3) := by decide +kernel
theorem dX12_dark_101 : decode cX12_dark 101 = .ok (.iload_n 3, 1) := by decide +kernel
theorem dX12_dark_102 : decode cX12_dark 102 = .ok (.iconst (-1), 1) := by decide +kernel
theorem dX12_dark_103 : decode cX12_dark 103 = .ok (.if_icmp .ne 8, 3) := by decide +kernel
theorem dX12_dark_106 : decode cX12_dark 106 = .ok (.iload 4, 2) := by decide +kernel
theorem dX12_dark_108 : decode cX12_dark 108 = .ok (.goto 4, 3) := by decide +kernel
theorem dX12_dark_111 : decode cX12_dark 111 = .ok (.iconst (-1), 1) := by decide +kernel
theorem dX12_dark_112 : decode cX12_dark 112 = .ok (.ireturn, 1) := by decide +kernel
theorem dX12_findLikings_0 : decode cX12_findLikings 0 = .ok (.aload_n 0, 1) := by decide +kernel
theorem dX12_findLikings_1 : decode cX12_findLikings 1 = .ok (.iload_n 1, 1) := by decide +kernel
theorem dX12_findLikings_2 : decode cX12_findLikings 2 = .ok (.iconst 2, 1) := by decide +kernel
theorem dX12_findLikings_3 : decode cX12_findLikings 3 = .ok (.invokevirtual 279, 3) := by decide +kernel
theorem dX12_findLikings_6 : decode cX12_findLikings 6 = .ok (.istore_n 2, 1) := by decide +kernel
theorem dX12_findLikings_7 : decode cX12_findLikings 7 = .ok (.iconst 0, 1) := by decide +kernel
theorem dX12_findLikings_8 : decode cX12_findLikings 8 = .ok (.istore_n 3, 1) := by decide +kernel
theorem dX12_findLikings_9 : decode cX12_findLikings 9 = .ok (.iload_n 3, 1) := by decide +kernel
theorem dX12_findLikings_10 : decode cX12_findLikings 10 = .ok (.aload_n 0, 1) := by decide +kernel
theorem dX12_findLikings_11 : decode cX12_findLikings 11 = .ok (.getfield 7, 3) := by decide +kernel
theorem dX12_findLikings_14 : decode cX12_findLikings 14 = .ok (.iconst 5, 1) := by decide +kernel
theorem dX12_findLikings_15 : decode cX12_findLikings 15 = .ok (.iaload, 1) := by decide +kernel
theorem dX12_findLikings_16 : decode cX12_findLikings 16 = .ok (.if_icmp .ge 148, 3) := by decide +kernel
theorem dX12_findLikings_19 : decode cX12_findLikings 19 = .ok (.iconst 0, 1) := by decide +kernel
theorem dX12_findLikings_20 : decode cX12_findLikings 20 = .ok (.istore 4, 2) := by decide +kernel
theorem dX12_findLikings_22 : decode cX12_findLikings 22 = .ok (.iload 4, 2) := by decide +kernel
theorem dX12_findLikings_24 : decode cX12_findLikings 24 = .ok (.aload_n 0, 1) := by decide +kernel
theorem dX12_findLikings_25 : decode cX12_findLikings 25 = .ok (.getfield 7, 3) := by decide +kernel
theorem dX12_findLikings_28 : decode cX12_findLikings 28 = .ok (.bipush 6, 2) := by decide +kernel
theorem dX12_findLikings_30 : decode cX12_findLikings 30 = .ok (.iaload, 1) := by decide +kernel
theorem dX12_findLikings_31 : decode cX12_findLikings 31 = .ok (.if_icmp .ge 127, 3) := by decide +kernel
theorem dX12_findLikings_34 : decode cX12_findLikings 34 = .ok (.iconst 0, 1) := by decide +kernel
theorem dX12_findLikings_35 : decode cX12_findLikings 35 = .ok (.istore 5, 2) := by decide +kernel
theorem dX12_findLikings_37 : decode cX12_findLikings 37 = .ok (.iload 5, 2) := by decide +kernel
theorem dX12_findLikings_39 : decode cX12_findLikings 39 = .ok (.iconst 2, 1) := by decide +kernel
theorem dX12_findLikings_40 : decode cX12_findLikings 40 = .ok (.if_icmp .ge 112, 3) := by decide +kernel
theorem dX12_findLikings_43 : decode cX12_findLikings 43 = .ok (.aload_n 0, 1) := by decide +kernel
theorem dX12_findLikings_44 : decode cX12_findLikings 44 = .ok (.getfield 32, 3) := by decide +kernel
theorem dX12_findLikings_47 : decode cX12_findLikings 47 = .ok (.bipush 6, 2) := by decide +kernel
theorem dX12_findLikings_49 : decode cX12_findLikings 49 = .ok (.iload_n 3, 1) := by decide +kernel
theorem dX12_findLikings_50 : decode cX12_findLikings 50 = .ok (.iastore, 1) := by decide +kernel
theorem dX12_findLikings_51 : decode cX12_findLikings 51 = .ok (.aload_n 0, 1) := by decide +kernel
theorem dX12_findLikings_52 : decode cX12_findLikings 52 = .ok (.getfield 32, 3) := by decide +kernel
theorem dX12_findLikings_55 : decode cX12_findLikings 55 = .ok (.bipush 7, 2) := by decide +kernel
theorem dX12_findLikings_57 : decode cX12_findLikings 57 = .ok (.iload 4, 2) := by decide +kernel
theorem dX12_findLikings_59 : decode cX12_findLikings 59 = .ok (.iastore, 1) := by decide +kernel
theorem dX12_findLikings_60 : decode cX12_findLikings 60 = .ok (.aload_n 0, 1) := by decide +kernel
theorem dX12_findLikings_61 : decode cX12_findLikings 61 = .ok (.getfield 32, 3) := by decide +kernel
theorem dX12_findLikings_64 : decode cX12_findLikings 64 = .ok (.bipush 8, 2) := by decide +kernel
theorem dX12_findLikings_66 : decode cX12_findLikings 66 = .ok (.aload_n 0, 1) := by decide +kernel
theorem dX12_findLikings_67 : decode cX12_findLikings 67 = .ok (.getfield 7, 3) := by decide +kernel
theorem dX12_findLikings_70 : decode cX12_findLikings 70 = .ok (.sipush 190, 3) := by decide +kernel
theorem dX12_findLikings_73 : decode cX12_findLikings 73 = .ok (.iload_n 3, 1) := by decide +kernel
theorem dX12_findLikings_74 : decode cX12_findLikings 74 = .ok (.iadd, 1) := by decide +kernel
theorem dX12_findLikings_75 : decode cX12_findLikings 75 = .ok (.iaload, 1) := by decide +kernel
theorem dX12_findLikings_76 : decode cX12_findLikings 76 = .ok (.iastore, 1) := by decide +kernel
theorem dX12_findLikings_77 : decode cX12_findLikings 77 = .ok (.aload_n 0, 1) := by decide +kernel
theorem dX12_findLikings_78 : decode cX12_findLikings 78 = .ok (.getfield 32, 3) := by decide +kernel
theorem dX12_findLikings_81 : decode cX12_findLikings 81 = .ok (.bipush 9, 2) := by decide +kernel
theorem dX12_findLikings_83 : decode cX12_findLikings 83 = .ok (.aload_n 0, 1) := by decide +kernel
theorem dX12_findLikings_84 : decode cX12_findLikings 84 = .ok (.getfield 7, 3) := by decide +kernel
theorem dX12_findLikings_87 : decode cX12_findLikings 87 = .ok (.sipush 196, 3) := by decide +kernel
theorem dX12_findLikings_90 : decode cX12_findLikings 90 = .ok (.iload 4, 2) := by decide +kernel
theorem dX12_findLikings_92 : decode cX12_findLikings 92 = .ok (.iadd, 1) := by decide +kernel
theorem dX12_findLikings_93 : decode cX12_findLikings 93 = .ok (.iaload, 1) := by decide +kernel
theorem dX12_findLikings_94 : decode cX12_findLikings 94 = .ok (.iastore, 1) := by decide +kernel
theorem dX12_findLikings_95 : decode cX12_findLikings 95 = .ok (.aload_n 0, 1) := by decide +kernel
theorem dX12_findLikings_96 : decode cX12_findLikings 96 = .ok (.getfield 32, 3) := by decide +kernel
theorem dX12_findLikings_99 : decode cX12_findLikings 99 = .ok (.bipush 10, 2) := by decide +kernel
theorem dX12_findLikings_101 : decode cX12_findLikings 101 = .ok (.iload 5, 2) := by decide +kernel
theorem dX12_findLikings_103 : decode cX12_findLikings 103 = .ok (.iastore, 1) := by decide +kernel
theorem dX12_findLikings_104 : decode cX12_findLikings 104 = .ok (.iload_n 2, 1) := by decide +kernel
theorem dX12_findLikings_105 : decode cX12_findLikings 105 = .ok (.ifCond .lt 9, 3) := by decide +kernel
theorem dX12_findLikings_108 : decode cX12_findLikings 108 = .ok (.aload_n 0, 1) := by decide +kernel
theorem dX12_findLikings_109 : decode cX12_findLikings 109 = .ok (.iload_n 1, 1) := by decide +kernel
theorem dX12_findLikings_110 : decode cX12_findLikings 110 = .ok (.iload_n 2, 1) := by decide +kernel
theorem dX12_findLikings_111 : decode cX12_findLikings 111 = .ok (.invokevirtual 283, 3) := by decide +kernel
theorem dX12_findLikings_114 : decode cX12_findLikings 114 = .ok (.aload_n 0, 1) := by decide +kernel
theorem dX12_findLikings_115 : decode cX12_findLikings 115 = .ok (.getfield 70, 3) := by decide +kernel
theorem dX12_findLikings_118 : decode cX12_findLikings 118 = .ok (.bipush 36, 2) := by decide +kernel
theorem dX12_findLikings_120 : decode cX12_findLikings 120 = .ok (.iload 5, 2) := by decide +kernel
theorem dX12_findLikings_122 : decode cX12_findLikings 122 = .ok (.imul, 1) := by decide +kernel
theorem dX12_findLikings_123 : decode cX12_findLikings 123 = .ok (.bipush 6, 2) := by decide +kernel
theorem dX12_findLikings_125 : decode cX12_findLikings 125 = .ok (.iload_n 3, 1) := by decide +kernel
theorem dX12_findLikings_126 : decode cX12_findLikings 126 = .ok (.imul, 1) := by decide +kernel
theorem dX12_findLikings_127 : decode cX12_findLikings 127 = .ok (.iadd, 1) := by decide +kernel
theorem dX12_findLikings_128 : decode cX12_findLikings 128 = .ok (.iload 4, 2) := by decide +kernel
theorem dX12_findLikings_130 : decode cX12_findLikings 130 = .ok (.iadd, 1) := by decide +kernel
theorem dX12_findLikings_131 : decode cX12_findLikings 131 = .ok (.iload_n 2, 1) := by decide +kernel
theorem dX12_findLikings_132 : decode cX12_findLikings 132 = .ok (.ifCond .ge 7, 3) := by decide +kernel
theorem dX12_findLikings_135 : decode cX12_findLikings 135 = .ok (.lconst 0, 1) := by decide +kernel
theorem dX12_findLikings_136 : decode cX12_findLikings 136 = .ok (.goto 9, 3) := by decide +kernel
theorem dX12_findLikings_139 : decode cX12_findLikings 139 = .ok (.aload_n 0, 1) := by decide +kernel
theorem dX12_findLikings_140 : decode cX12_findLikings 140 = .ok (.getfield 35, 3) := by decide +kernel
theorem dX12_findLikings_143 : decode cX12_findLikings 143 = .ok (.iconst 0, 1) := by decide +kernel
theorem dX12_findLikings_144 : decode cX12_findLikings 144 = .ok (.laload, 1) := by decide +kernel
theorem dX12_findLikings_145 : decode cX12_findLikings 145 = .ok (.lastore, 1) := by decide +kernel
theorem dX12_findLikings_146 : decode cX12_findLikings 146 = .ok (.iinc 5 1, 3) := by decide +kernel
theorem dX12_findLikings_149 : decode cX12_findLikings 149 = .ok (.goto (-112), 3) := by decide +kernel
theorem dX12_findLikings_152 : decode cX12_findLikings 152 = .ok (.iinc 4 1, 3) := by decide +kernel
theorem dX12_findLikings_155 : decode cX12_findLikings 155 = .ok (.goto (-133), 3) := by decide +kernel
theorem dX12_findLikings_158 : decode cX12_findLikings 158 = .ok (.iinc 3 1, 3) := by decide +kernel
theorem dX12_findLikings_161 : decode cX12_findLikings 161 = .ok (.goto (-152), 3) := by decide +kernel
theorem dX12_findLikings_164 : decode cX12_findLikings 164 = .ok (.return_, 1) := by decide +kernel
theorem dX12_likes_0 : decode cX12_likes 0 = .ok (.iload_n 1, 1) := by decide +kernel
theorem dX12_likes_1 : decode cX12_likes 1 = .ok (.ifCond .ne 17, 3) := by decide +kernel
theorem dX12_likes_4 : decode cX12_likes 4 = .ok (.aload_n 0, 1) := by decide +kernel
theorem dX12_likes_5 : decode cX12_likes 5 = .ok (.getfield 70, 3) := by decide +kernel
theorem dX12_likes_8 : decode cX12_likes 8 = .ok (.bipush 6, 2) := by decide +kernel
theorem dX12_likes_10 : decode cX12_likes 10 = .ok (.iload_n 2, 1) := by decide +kernel
theorem dX12_likes_11 : decode cX12_likes 11 = .ok (.imul, 1) := by decide +kernel
theorem dX12_likes_12 : decode cX12_likes 12 = .ok (.iload_n 3, 1) := by decide +kernel
theorem dX12_likes_13 : decode cX12_likes 13 = .ok (.iadd, 1) := by decide +kernel
theorem dX12_likes_14 : decode cX12_likes 14 = .ok (.laload, 1) := by decide +kernel
theorem dX12_likes_15 : decode cX12_likes 15 = .ok (.goto 17, 3) := by decide +kernel
theorem dX12_likes_18 : decode cX12_likes 18 = .ok (.aload_n 0, 1) := by decide +kernel
theorem dX12_likes_19 : decode cX12_likes 19 = .ok (.getfield 70, 3) := by decide +kernel
theorem dX12_likes_22 : decode cX12_likes 22 = .ok (.bipush 36, 2) := by decide +kernel
theorem dX12_likes_24 : decode cX12_likes 24 = .ok (.bipush 6, 2) := by decide +kernel
theorem dX12_likes_26 : decode cX12_likes 26 = .ok (.iload_n 3, 1) := by decide +kernel
theorem dX12_likes_27 : decode cX12_likes 27 = .ok (.imul, 1) := by decide +kernel
theorem dX12_likes_28 : decode cX12_likes 28 = .ok (.iadd, 1) := by decide +kernel
theorem dX12_likes_29 : decode cX12_likes 29 = .ok (.iload_n 2, 1) := by decide +kernel
theorem dX12_likes_30 : decode cX12_likes 30 = .ok (.iadd, 1) := by decide +kernel
theorem dX12_likes_31 : decode cX12_likes 31 = .ok (.laload, 1) := by decide +kernel
theorem dX12_likes_32 : decode cX12_likes 32 = .ok (.lreturn, 1) := by decide +kernel
theorem dX12_bestOf_0 : decode cX12_bestOf 0 = .ok (.iconst (-1), 1) := by decide +kernel
theorem dX12_bestOf_1 : decode cX12_bestOf 1 = .ok (.istore_n 3, 1) := by decide +kernel
theorem dX12_bestOf_2 : decode cX12_bestOf 2 = .ok (.iconst 0, 1) := by decide +kernel
theorem dX12_bestOf_3 : decode cX12_bestOf 3 = .ok (.istore 4, 2) := by decide +kernel
theorem dX12_bestOf_5 : decode cX12_bestOf 5 = .ok (.iload 4, 2) := by decide +kernel
theorem dX12_bestOf_7 : decode cX12_bestOf 7 = .ok (.aload_n 0, 1) := by decide +kernel
theorem dX12_bestOf_8 : decode cX12_bestOf 8 = .ok (.getfield 7, 3) := by decide +kernel
theorem dX12_bestOf_11 : decode cX12_bestOf 11 = .ok (.iload_n 1, 1) := by decide +kernel
theorem dX12_bestOf_12 : decode cX12_bestOf 12 = .ok (.ifCond .ne 8, 3) := by decide +kernel
theorem dX12_bestOf_15 : decode cX12_bestOf 15 = .ok (.bipush 6, 2) := by decide +kernel
theorem dX12_bestOf_17 : decode cX12_bestOf 17 = .ok (.goto 4, 3) := by decide +kernel
theorem dX12_bestOf_20 : decode cX12_bestOf 20 = .ok (.iconst 5, 1) := by decide +kernel
theorem dX12_bestOf_21 : decode cX12_bestOf 21 = .ok (.iaload, 1) := by decide +kernel
theorem dX12_bestOf_22 : decode cX12_bestOf 22 = .ok (.if_icmp .ge 50, 3) := by decide +kernel
theorem dX12_bestOf_25 : decode cX12_bestOf 25 = .ok (.aload_n 0, 1) := by decide +kernel
theorem dX12_bestOf_26 : decode cX12_bestOf 26 = .ok (.getfield 76, 3) := by decide +kernel
theorem dX12_bestOf_29 : decode cX12_bestOf 29 = .ok (.bipush 6, 2) := by decide +kernel
theorem dX12_bestOf_31 : decode cX12_bestOf 31 = .ok (.iload_n 2, 1) := by decide +kernel
theorem dX12_bestOf_32 : decode cX12_bestOf 32 = .ok (.imul, 1) := by decide +kernel
theorem dX12_bestOf_33 : decode cX12_bestOf 33 = .ok (.iload 4, 2) := by decide +kernel
theorem dX12_bestOf_35 : decode cX12_bestOf 35 = .ok (.iadd, 1) := by decide +kernel
theorem dX12_bestOf_36 : decode cX12_bestOf 36 = .ok (.iaload, 1) := by decide +kernel
theorem dX12_bestOf_37 : decode cX12_bestOf 37 = .ok (.ifCond .ne 29, 3) := by decide +kernel
theorem dX12_bestOf_40 : decode cX12_bestOf 40 = .ok (.iload_n 3, 1) := by decide +kernel
theorem dX12_bestOf_41 : decode cX12_bestOf 41 = .ok (.ifCond .lt 22, 3) := by decide +kernel
theorem dX12_bestOf_44 : decode cX12_bestOf 44 = .ok (.aload_n 0, 1) := by decide +kernel
theorem dX12_bestOf_45 : decode cX12_bestOf 45 = .ok (.iload_n 1, 1) := by decide +kernel
theorem dX12_bestOf_46 : decode cX12_bestOf 46 = .ok (.iload_n 2, 1) := by decide +kernel
theorem dX12_bestOf_47 : decode cX12_bestOf 47 = .ok (.iload 4, 2) := by decide +kernel
theorem dX12_bestOf_49 : decode cX12_bestOf 49 = .ok (.invokevirtual 353, 3) := by decide +kernel
theorem dX12_bestOf_52 : decode cX12_bestOf 52 = .ok (.aload_n 0, 1) := by decide +kernel
theorem dX12_bestOf_53 : decode cX12_bestOf 53 = .ok (.iload_n 1, 1) := by decide +kernel
theorem dX12_bestOf_54 : decode cX12_bestOf 54 = .ok (.iload_n 2, 1) := by decide +kernel
theorem dX12_bestOf_55 : decode cX12_bestOf 55 = .ok (.iload_n 3, 1) := by decide +kernel
theorem dX12_bestOf_56 : decode cX12_bestOf 56 = .ok (.invokevirtual 353, 3) := by decide +kernel
theorem dX12_bestOf_59 : decode cX12_bestOf 59 = .ok (.lcmp, 1) := by decide +kernel
theorem dX12_bestOf_60 : decode cX12_bestOf 60 = .ok (.ifCond .le 6, 3) := by decide +kernel
theorem dX12_bestOf_63 : decode cX12_bestOf 63 = .ok (.iload 4, 2) := by decide +kernel
theorem dX12_bestOf_65 : decode cX12_bestOf 65 = .ok (.istore_n 3, 1) := by decide +kernel
theorem dX12_bestOf_66 : decode cX12_bestOf 66 = .ok (.iinc 4 1, 3) := by decide +kernel
theorem dX12_bestOf_69 : decode cX12_bestOf 69 = .ok (.goto (-64), 3) := by decide +kernel
theorem dX12_bestOf_72 : decode cX12_bestOf 72 = .ok (.iload_n 3, 1) := by decide +kernel
theorem dX12_bestOf_73 : decode cX12_bestOf 73 = .ok (.ireturn, 1) := by decide +kernel
theorem dX12_isMore_0 : decode cX12_isMore 0 = .ok (.aload_n 0, 1) := by decide +kernel
theorem dX12_isMore_1 : decode cX12_isMore 1 = .ok (.getfield 73, 3) := by decide +kernel
theorem dX12_isMore_4 : decode cX12_isMore 4 = .ok (.bipush 6, 2) := by decide +kernel
theorem dX12_isMore_6 : decode cX12_isMore 6 = .ok (.iload_n 2, 1) := by decide +kernel
theorem dX12_isMore_7 : decode cX12_isMore 7 = .ok (.iadd, 1) := by decide +kernel
theorem dX12_isMore_8 : decode cX12_isMore 8 = .ok (.iaload, 1) := by decide +kernel
theorem dX12_isMore_9 : decode cX12_isMore 9 = .ok (.istore 4, 2) := by decide +kernel
theorem dX12_isMore_11 : decode cX12_isMore 11 = .ok (.iload 4, 2) := by decide +kernel
theorem dX12_isMore_13 : decode cX12_isMore 13 = .ok (.ifCond .ge 5, 3) := by decide +kernel
theorem dX12_isMore_16 : decode cX12_isMore 16 = .ok (.iconst 1, 1) := by decide +kernel
theorem dX12_isMore_17 : decode cX12_isMore 17 = .ok (.ireturn, 1) := by decide +kernel
theorem dX12_isMore_18 : decode cX12_isMore 18 = .ok (.aload_n 0, 1) := by decide +kernel
theorem dX12_isMore_19 : decode cX12_isMore 19 = .ok (.iconst 1, 1) := by decide +kernel
theorem dX12_isMore_20 : decode cX12_isMore 20 = .ok (.iload_n 1, 1) := by decide +kernel
theorem dX12_isMore_21 : decode cX12_isMore 21 = .ok (.isub, 1) := by decide +kernel
theorem dX12_isMore_22 : decode cX12_isMore 22 = .ok (.iload_n 2, 1) := by decide +kernel
theorem dX12_isMore_23 : decode cX12_isMore 23 = .ok (.iload_n 3, 1) := by decide +kernel
theorem dX12_isMore_24 : decode cX12_isMore 24 = .ok (.invokevirtual 353, 3) := by decide +kernel
theorem dX12_isMore_27 : decode cX12_isMore 27 = .ok (.lstore 5, 2) := by decide +kernel
theorem dX12_isMore_29 : decode cX12_isMore 29 = .ok (.aload_n 0, 1) := by decide +kernel
theorem dX12_isMore_30 : decode cX12_isMore 30 = .ok (.iconst 1, 1) := by decide +kernel
theorem dX12_isMore_31 : decode cX12_isMore 31 = .ok (.iload_n 1, 1) := by decide +kernel
theorem dX12_isMore_32 : decode cX12_isMore 32 = .ok (.isub, 1) := by decide +kernel
theorem dX12_isMore_33 : decode cX12_isMore 33 = .ok (.iload_n 2, 1) := by decide +kernel
theorem dX12_isMore_34 : decode cX12_isMore 34 = .ok (.iload 4, 2) := by decide +kernel
theorem dX12_isMore_36 : decode cX12_isMore 36 = .ok (.invokevirtual 353, 3) := by decide +kernel
theorem dX12_isMore_39 : decode cX12_isMore 39 = .ok (.lstore 7, 2) := by decide +kernel
