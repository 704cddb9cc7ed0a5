theorem dX12_carrier_17 : decode cX12_carrier 17 = .ok (.bipush 6, 2) := by decide +kernel
theorem dX12_carrier_19 : decode cX12_carrier 19 = .ok (.if_icmp .ne 5, 3) := by decide +kernel
theorem dX12_carrier_22 : decode cX12_carrier 22 = .ok (.iconst (-1), 1) := by decide +kernel
theorem dX12_carrier_23 : decode cX12_carrier 23 = .ok (.ireturn, 1) := by decide +kernel
theorem dX12_carrier_24 : decode cX12_carrier 24 = .ok (.aload_n 0, 1) := by decide +kernel
theorem dX12_carrier_25 : decode cX12_carrier 25 = .ok (.getfield 7, 3) := by decide +kernel
theorem dX12_carrier_28 : decode cX12_carrier 28 = .ok (.sipush 196, 3) := by decide +kernel
theorem dX12_carrier_31 : decode cX12_carrier 31 = .ok (.aload_n 0, 1) := by decide +kernel
theorem dX12_carrier_32 : decode cX12_carrier 32 = .ok (.getfield 7, 3) := by decide +kernel
theorem dX12_carrier_35 : decode cX12_carrier 35 = .ok (.bipush 6, 2) := by decide +kernel
theorem dX12_carrier_37 : decode cX12_carrier 37 = .ok (.iaload, 1) := by decide +kernel
theorem dX12_carrier_38 : decode cX12_carrier 38 = .ok (.iadd, 1) := by decide +kernel
theorem dX12_carrier_39 : decode cX12_carrier 39 = .ok (.iload_n 1, 1) := by decide +kernel
theorem dX12_carrier_40 : decode cX12_carrier 40 = .ok (.iastore, 1) := by decide +kernel
theorem dX12_carrier_41 : decode cX12_carrier 41 = .ok (.aload_n 0, 1) := by decide +kernel
theorem dX12_carrier_42 : decode cX12_carrier 42 = .ok (.getfield 7, 3) := by decide +kernel
theorem dX12_carrier_45 : decode cX12_carrier 45 = .ok (.bipush 6, 2) := by decide +kernel
theorem dX12_carrier_47 : decode cX12_carrier 47 = .ok (.dup2, 1) := by decide +kernel
theorem dX12_carrier_48 : decode cX12_carrier 48 = .ok (.iaload, 1) := by decide +kernel
theorem dX12_carrier_49 : decode cX12_carrier 49 = .ok (.iconst 1, 1) := by decide +kernel
theorem dX12_carrier_50 : decode cX12_carrier 50 = .ok (.iadd, 1) := by decide +kernel
theorem dX12_carrier_51 : decode cX12_carrier 51 = .ok (.iastore, 1) := by decide +kernel
theorem dX12_carrier_52 : decode cX12_carrier 52 = .ok (.aload_n 0, 1) := by decide +kernel
theorem dX12_carrier_53 : decode cX12_carrier 53 = .ok (.getfield 7, 3) := by decide +kernel
theorem dX12_carrier_56 : decode cX12_carrier 56 = .ok (.bipush 6, 2) := by decide +kernel
theorem dX12_carrier_58 : decode cX12_carrier 58 = .ok (.iaload, 1) := by decide +kernel
theorem dX12_carrier_59 : decode cX12_carrier 59 = .ok (.ireturn, 1) := by decide +kernel
theorem dX12_four_0 : decode cX12_four 0 = .ok (.bipush 24, 2) := by decide +kernel
theorem dX12_four_2 : decode cX12_four 2 = .ok (.istore_n 2, 1) := by decide +kernel
theorem dX12_four_3 : decode cX12_four 3 = .ok (.iload_n 2, 1) := by decide +kernel
theorem dX12_four_4 : decode cX12_four 4 = .ok (.ifCond .lt 35, 3) := by decide +kernel
theorem dX12_four_7 : decode cX12_four 7 = .ok (.aload_n 0, 1) := by decide +kernel
theorem dX12_four_8 : decode cX12_four 8 = .ok (.getfield 19, 3) := by decide +kernel
theorem dX12_four_11 : decode cX12_four 11 = .ok (.aload_n 0, 1) := by decide +kernel
theorem dX12_four_12 : decode cX12_four 12 = .ok (.getfield 116, 3) := by decide +kernel
theorem dX12_four_15 : decode cX12_four 15 = .ok (.iload_n 1, 1) := by decide +kernel
theorem dX12_four_16 : decode cX12_four 16 = .ok (.iload_n 2, 1) := by decide +kernel
theorem dX12_four_17 : decode cX12_four 17 = .ok (.ishr, 1) := by decide +kernel
theorem dX12_four_18 : decode cX12_four 18 = .ok (.sipush 255, 3) := by decide +kernel
theorem dX12_four_21 : decode cX12_four 21 = .ok (.iand, 1) := by decide +kernel
theorem dX12_four_22 : decode cX12_four 22 = .ok (.iastore, 1) := by decide +kernel
theorem dX12_four_23 : decode cX12_four 23 = .ok (.aload_n 0, 1) := by decide +kernel
theorem dX12_four_24 : decode cX12_four 24 = .ok (.dup, 1) := by decide +kernel
theorem dX12_four_25 : decode cX12_four 25 = .ok (.getfield 116, 3) := by decide +kernel
theorem dX12_four_28 : decode cX12_four 28 = .ok (.iconst 1, 1) := by decide +kernel
theorem dX12_four_29 : decode cX12_four 29 = .ok (.iadd, 1) := by decide +kernel
theorem dX12_four_30 : decode cX12_four 30 = .ok (.putfield 116, 3) := by decide +kernel
theorem dX12_four_33 : decode cX12_four 33 = .ok (.iinc 2 (-8), 3) := by decide +kernel
theorem dX12_four_36 : decode cX12_four 36 = .ok (.goto (-33), 3) := by decide +kernel
theorem dX12_four_39 : decode cX12_four 39 = .ok (.return_, 1) := by decide +kernel
theorem dX12_feed_0 : decode cX12_feed 0 = .ok (.aload_n 0, 1) := by decide +kernel
theorem dX12_feed_1 : decode cX12_feed 1 = .ok (.getfield 116, 3) := by decide +kernel
theorem dX12_feed_4 : decode cX12_feed 4 = .ok (.bipush 20, 2) := by decide +kernel
theorem dX12_feed_6 : decode cX12_feed 6 = .ok (.iadd, 1) := by decide +kernel
theorem dX12_feed_7 : decode cX12_feed 7 = .ok (.sipush 300, 3) := by decide +kernel
theorem dX12_feed_10 : decode cX12_feed 10 = .ok (.if_icmp .le 5, 3) := by decide +kernel
theorem dX12_feed_13 : decode cX12_feed 13 = .ok (.iconst (-1), 1) := by decide +kernel
theorem dX12_feed_14 : decode cX12_feed 14 = .ok (.ireturn, 1) := by decide +kernel
theorem dX12_feed_15 : decode cX12_feed 15 = .ok (.aload_n 0, 1) := by decide +kernel
theorem dX12_feed_16 : decode cX12_feed 16 = .ok (.iload_n 1, 1) := by decide +kernel
theorem dX12_feed_17 : decode cX12_feed 17 = .ok (.invokevirtual 119, 3) := by decide +kernel
theorem dX12_feed_20 : decode cX12_feed 20 = .ok (.aload_n 0, 1) := by decide +kernel
theorem dX12_feed_21 : decode cX12_feed 21 = .ok (.iload_n 2, 1) := by decide +kernel
theorem dX12_feed_22 : decode cX12_feed 22 = .ok (.invokevirtual 119, 3) := by decide +kernel
theorem dX12_feed_25 : decode cX12_feed 25 = .ok (.aload_n 0, 1) := by decide +kernel
theorem dX12_feed_26 : decode cX12_feed 26 = .ok (.iload_n 3, 1) := by decide +kernel
theorem dX12_feed_27 : decode cX12_feed 27 = .ok (.invokevirtual 119, 3) := by decide +kernel
theorem dX12_feed_30 : decode cX12_feed 30 = .ok (.aload_n 0, 1) := by decide +kernel
theorem dX12_feed_31 : decode cX12_feed 31 = .ok (.iload 4, 2) := by decide +kernel
theorem dX12_feed_33 : decode cX12_feed 33 = .ok (.invokevirtual 119, 3) := by decide +kernel
theorem dX12_feed_36 : decode cX12_feed 36 = .ok (.aload_n 0, 1) := by decide +kernel
theorem dX12_feed_37 : decode cX12_feed 37 = .ok (.iload 5, 2) := by decide +kernel
theorem dX12_feed_39 : decode cX12_feed 39 = .ok (.invokevirtual 119, 3) := by decide +kernel
theorem dX12_feed_42 : decode cX12_feed 42 = .ok (.aload_n 0, 1) := by decide +kernel
theorem dX12_feed_43 : decode cX12_feed 43 = .ok (.getfield 116, 3) := by decide +kernel
theorem dX12_feed_46 : decode cX12_feed 46 = .ok (.ireturn, 1) := by decide +kernel
theorem dX12_end_0 : decode cX12_end 0 = .ok (.iload_n 1, 1) := by decide +kernel
theorem dX12_end_1 : decode cX12_end 1 = .ok (.iconst 0, 1) := by decide +kernel
theorem dX12_end_2 : decode cX12_end 2 = .ok (.aload_n 0, 1) := by decide +kernel
theorem dX12_end_3 : decode cX12_end 3 = .ok (.getfield 116, 3) := by decide +kernel
theorem dX12_end_6 : decode cX12_end 6 = .ok (.invokestatic 95, 3) := by decide +kernel
theorem dX12_end_9 : decode cX12_end 9 = .ok (.ifCond .ne 5, 3) := by decide +kernel
theorem dX12_end_12 : decode cX12_end 12 = .ok (.iconst (-1), 1) := by decide +kernel
theorem dX12_end_13 : decode cX12_end 13 = .ok (.ireturn, 1) := by decide +kernel
theorem dX12_end_14 : decode cX12_end 14 = .ok (.aload_n 0, 1) := by decide +kernel
theorem dX12_end_15 : decode cX12_end 15 = .ok (.iload_n 1, 1) := by decide +kernel
theorem dX12_end_16 : decode cX12_end 16 = .ok (.putfield 116, 3) := by decide +kernel
theorem dX12_end_19 : decode cX12_end 19 = .ok (.iload_n 1, 1) := by decide +kernel
theorem dX12_end_20 : decode cX12_end 20 = .ok (.ireturn, 1) := by decide +kernel
theorem dX12_byteAt_0 : decode cX12_byteAt 0 = .ok (.iload_n 1, 1) := by decide +kernel
theorem dX12_byteAt_1 : decode cX12_byteAt 1 = .ok (.aload_n 0, 1) := by decide +kernel
theorem dX12_byteAt_2 : decode cX12_byteAt 2 = .ok (.getfield 116, 3) := by decide +kernel
theorem dX12_byteAt_5 : decode cX12_byteAt 5 = .ok (.if_icmp .ge 12, 3) := by decide +kernel
theorem dX12_byteAt_8 : decode cX12_byteAt 8 = .ok (.aload_n 0, 1) := by decide +kernel
theorem dX12_byteAt_9 : decode cX12_byteAt 9 = .ok (.getfield 19, 3) := by decide +kernel
theorem dX12_byteAt_12 : decode cX12_byteAt 12 = .ok (.iload_n 1, 1) := by decide +kernel
theorem dX12_byteAt_13 : decode cX12_byteAt 13 = .ok (.iaload, 1) := by decide +kernel
theorem dX12_byteAt_14 : decode cX12_byteAt 14 = .ok (.goto 4, 3) := by decide +kernel
theorem dX12_byteAt_17 : decode cX12_byteAt 17 = .ok (.iconst (-1), 1) := by decide +kernel
theorem dX12_byteAt_18 : decode cX12_byteAt 18 = .ok (.ireturn, 1) := by decide +kernel
theorem dX12_isLetter_0 : decode cX12_isLetter 0 = .ok (.iload_n 0, 1) := by decide +kernel
theorem dX12_isLetter_1 : decode cX12_isLetter 1 = .ok (.bipush 97, 2) := by decide +kernel
theorem dX12_isLetter_3 : decode cX12_isLetter 3 = .ok (.bipush 122, 2) := by decide +kernel
theorem dX12_isLetter_5 : decode cX12_isLetter 5 = .ok (.invokestatic 95, 3) := by decide +kernel
theorem dX12_isLetter_8 : decode cX12_isLetter 8 = .ok (.ifCond .ne 14, 3) := by decide +kernel
theorem dX12_isLetter_11 : decode cX12_isLetter 11 = .ok (.iload_n 0, 1) := by decide +kernel
theorem dX12_isLetter_12 : decode cX12_isLetter 12 = .ok (.bipush 65, 2) := by decide +kernel
theorem dX12_isLetter_14 : decode cX12_isLetter 14 = .ok (.bipush 90, 2) := by decide +kernel
theorem dX12_isLetter_16 : decode cX12_isLetter 16 = .ok (.invokestatic 95, 3) := by decide +kernel
theorem dX12_isLetter_19 : decode cX12_isLetter 19 = .ok (.ifCond .eq 7, 3) := by decide +kernel
theorem dX12_isLetter_22 : decode cX12_isLetter 22 = .ok (.iconst 1, 1) := by decide +kernel
theorem dX12_isLetter_23 : decode cX12_isLetter 23 = .ok (.goto 4, 3) := by decide +kernel
theorem dX12_isLetter_26 : decode cX12_isLetter 26 = .ok (.iconst 0, 1) := by decide +kernel
theorem dX12_isLetter_27 : decode cX12_isLetter 27 = .ok (.ireturn, 1) := by decide +kernel
theorem dX12_isDigit_0 : decode cX12_isDigit 0 = .ok (.iload_n 0, 1) := by decide +kernel
theorem dX12_isDigit_1 : decode cX12_isDigit 1 = .ok (.bipush 48, 2) := by decide +kernel
theorem dX12_isDigit_3 : decode cX12_isDigit 3 = .ok (.bipush 57, 2) := by decide +kernel
theorem dX12_isDigit_5 : decode cX12_isDigit 5 = .ok (.invokestatic 95, 3) := by decide +kernel
theorem dX12_isDigit_8 : decode cX12_isDigit 8 = .ok (.ireturn, 1) := by decide +kernel
theorem dX12_nextToken_0 : decode cX12_nextToken 0 = .ok (.aload_n 0, 1) := by decide +kernel
theorem dX12_nextToken_1 : decode cX12_nextToken 1 = .ok (.aload_n 0, 1) := by decide +kernel
theorem dX12_nextToken_2 : decode cX12_nextToken 2 = .ok (.getfield 123, 3) := by decide +kernel
theorem dX12_nextToken_5 : decode cX12_nextToken 5 = .ok (.invokevirtual 126, 3) := by decide +kernel
theorem dX12_nextToken_8 : decode cX12_nextToken 8 = .ok (.bipush 32, 2) := by decide +kernel
theorem dX12_nextToken_10 : decode cX12_nextToken 10 = .ok (.if_icmp .eq 16, 3) := by decide +kernel
theorem dX12_nextToken_13 : decode cX12_nextToken 13 = .ok (.aload_n 0, 1) := by decide +kernel
theorem dX12_nextToken_14 : decode cX12_nextToken 14 = .ok (.aload_n 0, 1) := by decide +kernel
theorem dX12_nextToken_15 : decode cX12_nextToken 15 = .ok (.getfield 123, 3) := by decide +kernel
theorem dX12_nextToken_18 : decode cX12_nextToken 18 = .ok (.invokevirtual 126, 3) := by decide +kernel
theorem dX12_nextToken_21 : decode cX12_nextToken 21 = .ok (.bipush 10, 2) := by decide +kernel
theorem dX12_nextToken_23 : decode cX12_nextToken 23 = .ok (.if_icmp .ne 16, 3) := by decide +kernel
theorem dX12_nextToken_26 : decode cX12_nextToken 26 = .ok (.aload_n 0, 1) := by decide +kernel
theorem dX12_nextToken_27 : decode cX12_nextToken 27 = .ok (.dup, 1) := by decide +kernel
theorem dX12_nextToken_28 : decode cX12_nextToken 28 = .ok (.getfield 123, 3) := by decide +kernel
theorem dX12_nextToken_31 : decode cX12_nextToken 31 = .ok (.iconst 1, 1) := by decide +kernel
theorem dX12_nextToken_32 : decode cX12_nextToken 32 = .ok (.iadd, 1) := by decide +kernel
theorem dX12_nextToken_33 : decode cX12_nextToken 33 = .ok (.putfield 123, 3) := by decide +kernel
theorem dX12_nextToken_36 : decode cX12_nextToken 36 = .ok (.goto (-36), 3) := by decide +kernel
theorem dX12_nextToken_39 : decode cX12_nextToken 39 = .ok (.aload_n 0, 1) := by decide +kernel
theorem dX12_nextToken_40 : decode cX12_nextToken 40 = .ok (.aload_n 0, 1) := by decide +kernel
theorem dX12_nextToken_41 : decode cX12_nextToken 41 = .ok (.getfield 123, 3) := by decide +kernel
theorem dX12_nextToken_44 : decode cX12_nextToken 44 = .ok (.putfield 129, 3) := by decide +kernel
theorem dX12_nextToken_47 : decode cX12_nextToken 47 = .ok (.aload_n 0, 1) := by decide +kernel
theorem dX12_nextToken_48 : decode cX12_nextToken 48 = .ok (.aload_n 0, 1) := by decide +kernel
theorem dX12_nextToken_49 : decode cX12_nextToken 49 = .ok (.getfield 123, 3) := by decide +kernel
theorem dX12_nextToken_52 : decode cX12_nextToken 52 = .ok (.invokevirtual 126, 3) := by decide +kernel
theorem dX12_nextToken_55 : decode cX12_nextToken 55 = .ok (.istore_n 1, 1) := by decide +kernel
theorem dX12_nextToken_56 : decode cX12_nextToken 56 = .ok (.iload_n 1, 1) := by decide +kernel
theorem dX12_nextToken_57 : decode cX12_nextToken 57 = .ok (.ifCond .ge 11, 3) := by decide +kernel
theorem dX12_nextToken_60 : decode cX12_nextToken 60 = .ok (.aload_n 0, 1) := by decide +kernel
theorem dX12_nextToken_61 : decode cX12_nextToken 61 = .ok (.iconst 0, 1) := by decide +kernel
theorem dX12_nextToken_62 : decode cX12_nextToken 62 = .ok (.putfield 132, 3) := by decide +kernel
theorem dX12_nextToken_65 : decode cX12_nextToken 65 = .ok (.goto 343, 3) := by decide +kernel
theorem dX12_nextToken_68 : decode cX12_nextToken 68 = .ok (.iload_n 1, 1) := by decide +kernel
theorem dX12_nextToken_69 : decode cX12_nextToken 69 = .ok (.invokestatic 135, 3) := by decide +kernel
theorem dX12_nextToken_72 : decode cX12_nextToken 72 = .ok (.ifCond .eq 72, 3) := by decide +kernel
theorem dX12_nextToken_75 : decode cX12_nextToken 75 = .ok (.aload_n 0, 1) := by decide +kernel
theorem dX12_nextToken_76 : decode cX12_nextToken 76 = .ok (.iconst 1, 1) := by decide +kernel
theorem dX12_nextToken_77 : decode cX12_nextToken 77 = .ok (.putfield 132, 3) := by decide +kernel
theorem dX12_nextToken_80 : decode cX12_nextToken 80 = .ok (.aload_n 0, 1) := by decide +kernel
theorem dX12_nextToken_81 : decode cX12_nextToken 81 = .ok (.iconst 0, 1) := by decide +kernel
theorem dX12_nextToken_82 : decode cX12_nextToken 82 = .ok (.putfield 138, 3) := by decide +kernel
theorem dX12_nextToken_85 : decode cX12_nextToken 85 = .ok (.aload_n 0, 1) := by decide +kernel
theorem dX12_nextToken_86 : decode cX12_nextToken 86 = .ok (.aload_n 0, 1) := by decide +kernel
theorem dX12_nextToken_87 : decode cX12_nextToken 87 = .ok (.getfield 123, 3) := by decide +kernel
theorem dX12_nextToken_90 : decode cX12_nextToken 90 = .ok (.invokevirtual 126, 3) := by decide +kernel
theorem dX12_nextToken_93 : decode cX12_nextToken 93 = .ok (.invokestatic 135, 3) := by decide +kernel
theorem dX12_nextToken_96 : decode cX12_nextToken 96 = .ok (.ifCond .eq 312, 3) := by decide +kernel
theorem dX12_nextToken_99 : decode cX12_nextToken 99 = .ok (.aload_n 0, 1) := by decide +kernel
theorem dX12_nextToken_100 : decode cX12_nextToken 100 = .ok (.getfield 138, 3) := by decide +kernel
theorem dX12_nextToken_103 : decode cX12_nextToken 103 = .ok (.ldc 141, 2) := by decide +kernel
theorem dX12_nextToken_105 : decode cX12_nextToken 105 = .ok (.if_icmp .ge 26, 3) := by decide +kernel
theorem dX12_nextToken_108 : decode cX12_nextToken 108 = .ok (.aload_n 0, 1) := by decide +kernel
theorem dX12_nextToken_109 : decode cX12_nextToken 109 = .ok (.bipush 10, 2) := by decide +kernel
theorem dX12_nextToken_111 : decode cX12_nextToken 111 = .ok (.aload_n 0, 1) := by decide +kernel
theorem dX12_nextToken_112 : decode cX12_nextToken 112 = .ok (.getfield 138, 3) := by decide +kernel
theorem dX12_nextToken_115 : decode cX12_nextToken 115 = .ok (.imul, 1) := by decide +kernel
theorem dX12_nextToken_116 : decode cX12_nextToken 116 = .ok (.aload_n 0, 1) := by decide +kernel
theorem dX12_nextToken_117 : decode cX12_nextToken 117 = .ok (.aload_n 0, 1) := by decide +kernel
theorem dX12_nextToken_118 : decode cX12_nextToken 118 = .ok (.getfield 123, 3) := by decide +kernel
theorem dX12_nextToken_121 : decode cX12_nextToken 121 = .ok (.invokevirtual 126, 3) := by decide +kernel
theorem dX12_nextToken_124 : decode cX12_nextToken 124 = .ok (.iadd, 1) := by decide +kernel
theorem dX12_nextToken_125 : decode cX12_nextToken 125 = .ok (.bipush 48, 2) := by decide +kernel
theorem dX12_nextToken_127 : decode cX12_nextToken 127 = .ok (.isub, 1) := by decide +kernel
theorem dX12_nextToken_128 : decode cX12_nextToken 128 = .ok (.putfield 138, 3) := by decide +kernel
theorem dX12_nextToken_131 : decode cX12_nextToken 131 = .ok (.aload_n 0, 1) := by decide +kernel
theorem dX12_nextToken_132 : decode cX12_nextToken 132 = .ok (.dup, 1) := by decide +kernel
theorem dX12_nextToken_133 : decode cX12_nextToken 133 = .ok (.getfield 123, 3) := by decide +kernel
theorem dX12_nextToken_136 : decode cX12_nextToken 136 = .ok (.iconst 1, 1) := by decide +kernel
theorem dX12_nextToken_137 : decode cX12_nextToken 137 = .ok (.iadd, 1) := by decide +kernel
theorem dX12_nextToken_138 : decode cX12_nextToken 138 = .ok (.putfield 123, 3) := by decide +kernel
theorem dX12_nextToken_141 : decode cX12_nextToken 141 = .ok (.goto (-56), 3) := by decide +kernel
theorem dX12_nextToken_144 : decode cX12_nextToken 144 = .ok (.iload_n 1, 1) := by decide +kernel
theorem dX12_nextToken_145 : decode cX12_nextToken 145 = .ok (.invokestatic 142, 3) := by decide +kernel
theorem dX12_nextToken_148 : decode cX12_nextToken 148 = .ok (.ifCond .eq 97, 3) := by decide +kernel
theorem dX12_nextToken_151 : decode cX12_nextToken 151 = .ok (.aload_n 0, 1) := by decide +kernel
theorem dX12_nextToken_152 : decode cX12_nextToken 152 = .ok (.iconst 2, 1) := by decide +kernel
theorem dX12_nextToken_153 : decode cX12_nextToken 153 = .ok (.putfield 132, 3) := by decide +kernel
theorem dX12_nextToken_156 : decode cX12_nextToken 156 = .ok (.aload_n 0, 1) := by decide +kernel
theorem dX12_nextToken_157 : decode cX12_nextToken 157 = .ok (.lconst 0, 1) := by decide +kernel
theorem dX12_nextToken_158 : decode cX12_nextToken 158 = .ok (.putfield 145, 3) := by decide +kernel
theorem dX12_nextToken_161 : decode cX12_nextToken 161 = .ok (.aload_n 0, 1) := by decide +kernel
theorem dX12_nextToken_162 : decode cX12_nextToken 162 = .ok (.aload_n 0, 1) := by decide +kernel
theorem dX12_nextToken_163 : decode cX12_nextToken 163 = .ok (.getfield 123, 3) := by decide +kernel
theorem dX12_nextToken_166 : decode cX12_nextToken 166 = .ok (.invokevirtual 126, 3) := by decide +kernel
theorem dX12_nextToken_169 : decode cX12_nextToken 169 = .ok (.invokestatic 142, 3) := by decide +kernel
theorem dX12_nextToken_172 : decode cX12_nextToken 172 = .ok (.ifCond .eq 51, 3) := by decide +kernel
theorem dX12_nextToken_175 : decode cX12_nextToken 175 = .ok (.aload_n 0, 1) := by decide +kernel
theorem dX12_nextToken_176 : decode cX12_nextToken 176 = .ok (.getfield 123, 3) := by decide +kernel
theorem dX12_nextToken_179 : decode cX12_nextToken 179 = .ok (.aload_n 0, 1) := by decide +kernel
theorem dX12_nextToken_180 : decode cX12_nextToken 180 = .ok (.getfield 129, 3) := by decide +kernel
theorem dX12_nextToken_183 : decode cX12_nextToken 183 = .ok (.isub, 1) := by decide +kernel
theorem dX12_nextToken_184 : decode cX12_nextToken 184 = .ok (.bipush 7, 2) := by decide +kernel
theorem dX12_nextToken_186 : decode cX12_nextToken 186 = .ok (.if_icmp .ge 24, 3) := by decide +kernel
theorem dX12_nextToken_189 : decode cX12_nextToken 189 = .ok (.aload_n 0, 1) := by decide +kernel
theorem dX12_nextToken_190 : decode cX12_nextToken 190 = .ok (.aload_n 0, 1) := by decide +kernel
theorem dX12_nextToken_191 : decode cX12_nextToken 191 = .ok (.getfield 145, 3) := by decide +kernel
theorem dX12_nextToken_194 : decode cX12_nextToken 194 = .ok (.bipush 8, 2) := by decide +kernel
theorem dX12_nextToken_196 : decode cX12_nextToken 196 = .ok (.lshl, 1) := by decide +kernel
theorem dX12_nextToken_197 : decode cX12_nextToken 197 = .ok (.aload_n 0, 1) := by decide +kernel
theorem dX12_nextToken_198 : decode cX12_nextToken 198 = .ok (.aload_n 0, 1) := by decide +kernel
theorem dX12_nextToken_199 : decode cX12_nextToken 199 = .ok (.getfield 123, 3) := by decide +kernel
theorem dX12_nextToken_202 : decode cX12_nextToken 202 = .ok (.invokevirtual 126, 3) := by decide +kernel
theorem dX12_nextToken_205 : decode cX12_nextToken 205 = .ok (.i2l, 1) := by decide +kernel
theorem dX12_nextToken_206 : decode cX12_nextToken 206 = .ok (.lor, 1) := by decide +kernel
theorem dX12_nextToken_207 : decode cX12_nextToken 207 = .ok (.putfield 145, 3) := by decide +kernel
theorem dX12_nextToken_210 : decode cX12_nextToken 210 = .ok (.aload_n 0, 1) := by decide +kernel
theorem dX12_nextToken_211 : decode cX12_nextToken 211 = .ok (.dup, 1) := by decide +kernel
theorem dX12_nextToken_212 : decode cX12_nextToken 212 = .ok (.getfield 123, 3) := by decide +kernel
theorem dX12_nextToken_215 : decode cX12_nextToken 215 = .ok (.iconst 1, 1) := by decide +kernel
theorem dX12_nextToken_216 : decode cX12_nextToken 216 = .ok (.iadd, 1) := by decide +kernel
theorem dX12_nextToken_217 : decode cX12_nextToken 217 = .ok (.putfield 123, 3) := by decide +kernel
theorem dX12_nextToken_220 : decode cX12_nextToken 220 = .ok (.goto (-59), 3) := by decide +kernel
theorem dX12_nextToken_223 : decode cX12_nextToken 223 = .ok (.aload_n 0, 1) := by decide +kernel
theorem dX12_nextToken_224 : decode cX12_nextToken 224 = .ok (.getfield 123, 3) := by decide +kernel
theorem dX12_nextToken_227 : decode cX12_nextToken 227 = .ok (.aload_n 0, 1) := by decide +kernel
theorem dX12_nextToken_228 : decode cX12_nextToken 228 = .ok (.getfield 129, 3) := by decide +kernel
theorem dX12_nextToken_231 : decode cX12_nextToken 231 = .ok (.isub, 1) := by decide +kernel
theorem dX12_nextToken_232 : decode cX12_nextToken 232 = .ok (.bipush 7, 2) := by decide +kernel
theorem dX12_nextToken_234 : decode cX12_nextToken 234 = .ok (.if_icmp .le 174, 3) := by decide +kernel
theorem dX12_nextToken_237 : decode cX12_nextToken 237 = .ok (.aload_n 0, 1) := by decide +kernel
theorem dX12_nextToken_238 : decode cX12_nextToken 238 = .ok (.lconst 0, 1) := by decide +kernel
theorem dX12_nextToken_239 : decode cX12_nextToken 239 = .ok (.putfield 145, 3) := by decide +kernel
theorem dX12_nextToken_242 : decode cX12_nextToken 242 = .ok (.goto 166, 3) := by decide +kernel
theorem dX12_nextToken_245 : decode cX12_nextToken 245 = .ok (.aload_n 0, 1) := by decide +kernel
theorem dX12_nextToken_246 : decode cX12_nextToken 246 = .ok (.dup, 1) := by decide +kernel
theorem dX12_nextToken_247 : decode cX12_nextToken 247 = .ok (.getfield 123, 3) := by decide +kernel
theorem dX12_nextToken_250 : decode cX12_nextToken 250 = .ok (.iconst 1, 1) := by decide +kernel
theorem dX12_nextToken_251 : decode cX12_nextToken 251 = .ok (.iadd, 1) := by decide +kernel
theorem dX12_nextToken_252 : decode cX12_nextToken 252 = .ok (.putfield 123, 3) := by decide +kernel
theorem dX12_nextToken_255 : decode cX12_nextToken 255 = .ok (.iload_n 1, 1) := by decide +kernel
theorem dX12_nextToken_256 : decode cX12_nextToken 256 = .ok (.bipush 60, 2) := by decide +kernel
theorem dX12_nextToken_258 : decode cX12_nextToken 258 = .ok (.if_icmp .eq 81, 3) := by decide +kernel
theorem dX12_nextToken_261 : decode cX12_nextToken 261 = .ok (.iload_n 1, 1) := by decide +kernel
theorem dX12_nextToken_262 : decode cX12_nextToken 262 = .ok (.bipush 62, 2) := by decide +kernel
theorem dX12_nextToken_264 : decode cX12_nextToken 264 = .ok (.if_icmp .eq 75, 3) := by decide +kernel
theorem dX12_nextToken_267 : decode cX12_nextToken 267 = .ok (.iload_n 1, 1) := by decide +kernel
theorem dX12_nextToken_268 : decode cX12_nextToken 268 = .ok (.bipush 61, 2) := by decide +kernel
theorem dX12_nextToken_270 : decode cX12_nextToken 270 = .ok (.if_icmp .eq 69, 3) := by decide +kernel
theorem dX12_nextToken_273 : decode cX12_nextToken 273 = .ok (.iload_n 1, 1) := by decide +kernel
theorem dX12_nextToken_274 : decode cX12_nextToken 274 = .ok (.bipush 35, 2) := by decide +kernel
theorem dX12_nextToken_276 : decode cX12_nextToken 276 = .ok (.if_icmp .eq 63, 3) := by decide +kernel
theorem dX12_nextToken_279 : decode cX12_nextToken 279 = .ok (.iload_n 1, 1) := by decide +kernel
theorem dX12_nextToken_280 : decode cX12_nextToken 280 = .ok (.bipush 43, 2) := by decide +kernel
theorem dX12_nextToken_282 : decode cX12_nextToken 282 = .ok (.if_icmp .eq 57, 3) := by decide +kernel
theorem dX12_nextToken_285 : decode cX12_nextToken 285 = .ok (.iload_n 1, 1) := by decide +kernel
theorem dX12_nextToken_286 : decode cX12_nextToken 286 = .ok (.bipush 45, 2) := by decide +kernel
theorem dX12_nextToken_288 : decode cX12_nextToken 288 = .ok (.if_icmp .eq 51, 3) := by decide +kernel
theorem dX12_nextToken_291 : decode cX12_nextToken 291 = .ok (.iload_n 1, 1) := by decide +kernel
theorem dX12_nextToken_292 : decode cX12_nextToken 292 = .ok (.bipush 42, 2) := by decide +kernel
theorem dX12_nextToken_294 : decode cX12_nextToken 294 = .ok (.if_icmp .eq 45, 3) := by decide +kernel
theorem dX12_nextToken_297 : decode cX12_nextToken 297 = .ok (.iload_n 1, 1) := by decide +kernel
theorem dX12_nextToken_298 : decode cX12_nextToken 298 = .ok (.bipush 47, 2) := by decide +kernel
theorem dX12_nextToken_300 : decode cX12_nextToken 300 = .ok (.if_icmp .eq 39, 3) := by decide +kernel
theorem dX12_nextToken_303 : decode cX12_nextToken 303 = .ok (.iload_n 1, 1) := by decide +kernel
theorem dX12_nextToken_304 : decode cX12_nextToken 304 = .ok (.bipush 40, 2) := by decide +kernel
theorem dX12_nextToken_306 : decode cX12_nextToken 306 = .ok (.if_icmp .eq 33, 3) := by decide +kernel
theorem dX12_nextToken_309 : decode cX12_nextToken 309 = .ok (.iload_n 1, 1) := by decide +kernel
theorem dX12_nextToken_310 : decode cX12_nextToken 310 = .ok (.bipush 41, 2) := by decide +kernel
theorem dX12_nextToken_312 : decode cX12_nextToken 312 = .ok (.if_icmp .eq 27, 3) := by decide +kernel
theorem dX12_nextToken_315 : decode cX12_nextToken 315 = .ok (.iload_n 1, 1) := by decide +kernel
theorem dX12_nextToken_316 : decode cX12_nextToken 316 = .ok (.bipush 59, 2) := by decide +kernel
theorem dX12_nextToken_318 : decode cX12_nextToken 318 = .ok (.if_icmp .eq 21, 3) := by decide +kernel
theorem dX12_nextToken_321 : decode cX12_nextToken 321 = .ok (.iload_n 1, 1) := by decide +kernel
theorem dX12_nextToken_322 : decode cX12_nextToken 322 = .ok (.bipush 44, 2) := by decide +kernel
theorem dX12_nextToken_324 : decode cX12_nextToken 324 = .ok (.if_icmp .eq 15, 3) := by decide +kernel
theorem dX12_nextToken_327 : decode cX12_nextToken 327 = .ok (.iload_n 1, 1) := by decide +kernel
theorem dX12_nextToken_328 : decode cX12_nextToken 328 = .ok (.bipush 63, 2) := by decide +kernel
theorem dX12_nextToken_330 : decode cX12_nextToken 330 = .ok (.if_icmp .eq 9, 3) := by decide +kernel
theorem dX12_nextToken_333 : decode cX12_nextToken 333 = .ok (.iload_n 1, 1) := by decide +kernel
theorem dX12_nextToken_334 : decode cX12_nextToken 334 = .ok (.bipush 58, 2) := by decide +kernel
theorem dX12_nextToken_336 : decode cX12_nextToken 336 = .ok (.if_icmp .ne 7, 3) := by decide +kernel
theorem dX12_nextToken_339 : decode cX12_nextToken 339 = .ok (.iconst 1, 1) := by decide +kernel
theorem dX12_nextToken_340 : decode cX12_nextToken 340 = .ok (.goto 4, 3) := by decide +kernel
theorem dX12_nextToken_343 : decode cX12_nextToken 343 = .ok (.iconst 0, 1) := by decide +kernel
theorem dX12_nextToken_344 : decode cX12_nextToken 344 = .ok (.istore_n 2, 1) := by decide +kernel
theorem dX12_nextToken_345 : decode cX12_nextToken 345 = .ok (.aload_n 0, 1) := by decide +kernel
theorem dX12_nextToken_346 : decode cX12_nextToken 346 = .ok (.iload_n 2, 1) := by decide +kernel
theorem dX12_nextToken_347 : decode cX12_nextToken 347 = .ok (.ifCond .eq 7, 3) := by decide +kernel
theorem dX12_nextToken_350 : decode cX12_nextToken 350 = .ok (.iload_n 1, 1) := by decide +kernel
theorem dX12_nextToken_351 : decode cX12_nextToken 351 = .ok (.goto 4, 3) := by decide +kernel
theorem dX12_nextToken_354 : decode cX12_nextToken 354 = .ok (.iconst 3, 1) := by decide +kernel
theorem dX12_nextToken_355 : decode cX12_nextToken 355 = .ok (.putfield 132, 3) := by decide +kernel
theorem dX12_nextToken_358 : decode cX12_nextToken 358 = .ok (.iload_n 1, 1) := by decide +kernel
theorem dX12_nextToken_359 : decode cX12_nextToken 359 = .ok (.bipush 60, 2) := by decide +kernel
theorem dX12_nextToken_361 : decode cX12_nextToken 361 = .ok (.if_icmp .eq 9, 3) := by decide +kernel
theorem dX12_nextToken_364 : decode cX12_nextToken 364 = .ok (.iload_n 1, 1) := by decide +kernel
theorem dX12_nextToken_365 : decode cX12_nextToken 365 = .ok (.bipush 62, 2) := by decide +kernel
theorem dX12_nextToken_367 : decode cX12_nextToken 367 = .ok (.if_icmp .ne 41, 3) := by decide +kernel
theorem dX12_nextToken_370 : decode cX12_nextToken 370 = .ok (.aload_n 0, 1) := by decide +kernel
theorem dX12_nextToken_371 : decode cX12_nextToken 371 = .ok (.aload_n 0, 1) := by decide +kernel
theorem dX12_nextToken_372 : decode cX12_nextToken 372 = .ok (.getfield 123, 3) := by decide +kernel
theorem dX12_nextToken_375 : decode cX12_nextToken 375 = .ok (.invokevirtual 126, 3) := by decide +kernel
theorem dX12_nextToken_378 : decode cX12_nextToken 378 = .ok (.bipush 61, 2) := by decide +kernel
theorem dX12_nextToken_380 : decode cX12_nextToken 380 = .ok (.if_icmp .ne 28, 3) := by decide +kernel
theorem dX12_nextToken_383 : decode cX12_nextToken 383 = .ok (.aload_n 0, 1) := by decide +kernel
theorem dX12_nextToken_384 : decode cX12_nextToken 384 = .ok (.dup, 1) := by decide +kernel
theorem dX12_nextToken_385 : decode cX12_nextToken 385 = .ok (.getfield 123, 3) := by decide +kernel
theorem dX12_nextToken_388 : decode cX12_nextToken 388 = .ok (.iconst 1, 1) := by decide +kernel
theorem dX12_nextToken_389 : decode cX12_nextToken 389 = .ok (.iadd, 1) := by decide +kernel
theorem dX12_nextToken_390 : decode cX12_nextToken 390 = .ok (.putfield 123, 3) := by decide +kernel
theorem dX12_nextToken_393 : decode cX12_nextToken 393 = .ok (.aload_n 0, 1) := by decide +kernel
theorem dX12_nextToken_394 : decode cX12_nextToken 394 = .ok (.iload_n 1, 1) := by decide +kernel
theorem dX12_nextToken_395 : decode cX12_nextToken 395 = .ok (.bipush 60, 2) := by decide +kernel
theorem dX12_nextToken_397 : decode cX12_nextToken 397 = .ok (.if_icmp .ne 7, 3) := by decide +kernel
theorem dX12_nextToken_400 : decode cX12_nextToken 400 = .ok (.iconst 4, 1) := by decide +kernel
theorem dX12_nextToken_401 : decode cX12_nextToken 401 = .ok (.goto 4, 3) := by decide +kernel
theorem dX12_nextToken_404 : decode cX12_nextToken 404 = .ok (.iconst 5, 1) := by decide +kernel
theorem dX12_nextToken_405 : decode cX12_nextToken 405 = .ok (.putfield 132, 3) := by decide +kernel
theorem dX12_nextToken_408 : decode cX12_nextToken 408 = .ok (.return_, 1) := by decide +kernel
theorem dX12_w3_0 : decode cX12_w3 0 = .ok (.iload_n 0, 1) := by decide +kernel
theorem dX12_w3_1 : decode cX12_w3 1 = .ok (.i2l, 1) := by decide +kernel
theorem dX12_w3_2 : decode cX12_w3 2 = .ok (.bipush 8, 2) := by decide +kernel
theorem dX12_w3_4 : decode cX12_w3 4 = .ok (.lshl, 1) := by decide +kernel
theorem dX12_w3_5 : decode cX12_w3 5 = .ok (.iload_n 1, 1) := by decide +kernel
theorem dX12_w3_6 : decode cX12_w3 6 = .ok (.i2l, 1) := by decide +kernel
theorem dX12_w3_7 : decode cX12_w3 7 = .ok (.lor, 1) := by decide +kernel
theorem dX12_w3_8 : decode cX12_w3 8 = .ok (.bipush 8, 2) := by decide +kernel
theorem dX12_w3_10 : decode cX12_w3 10 = .ok (.lshl, 1) := by decide +kernel
theorem dX12_w3_11 : decode cX12_w3 11 = .ok (.iload_n 2, 1) := by decide +kernel
theorem dX12_w3_12 : decode cX12_w3 12 = .ok (.i2l, 1) := by decide +kernel
theorem dX12_w3_13 : decode cX12_w3 13 = .ok (.lor, 1) := by decide +kernel
theorem dX12_w3_14 : decode cX12_w3 14 = .ok (.lreturn, 1) := by decide +kernel
theorem dX12_w5_0 : decode cX12_w5 0 = .ok (.iload_n 0, 1) := by decide +kernel
theorem dX12_w5_1 : decode cX12_w5 1 = .ok (.iload_n 1, 1) := by decide +kernel
theorem dX12_w5_2 : decode cX12_w5 2 = .ok (.iload_n 2, 1) := by decide +kernel
theorem dX12_w5_3 : decode cX12_w5 3 = .ok (.invokestatic 149, 3) := by decide +kernel
theorem dX12_w5_6 : decode cX12_w5 6 = .ok (.bipush 8, 2) := by decide +kernel
theorem dX12_w5_8 : decode cX12_w5 8 = .ok (.lshl, 1) := by decide +kernel
theorem dX12_w5_9 : decode cX12_w5 9 = .ok (.iload_n 3, 1) := by decide +kernel
theorem dX12_w5_10 : decode cX12_w5 10 = .ok (.i2l, 1) := by decide +kernel
theorem dX12_w5_11 : decode cX12_w5 11 = .ok (.lor, 1) := by decide +kernel
theorem dX12_w5_12 : decode cX12_w5 12 = .ok (.bipush 8, 2) := by decide +kernel
theorem dX12_w5_14 : decode cX12_w5 14 = .ok (.lshl, 1) := by decide +kernel
theorem dX12_w5_15 : decode cX12_w5 15 = .ok (.iload 4, 2) := by decide +kernel
theorem dX12_w5_17 : decode cX12_w5 17 = .ok (.i2l, 1) := by decide +kernel
theorem dX12_w5_18 : decode cX12_w5 18 = .ok (.lor, 1) := by decide +kernel
theorem dX12_w5_19 : decode cX12_w5 19 = .ok (.lreturn, 1) := by decide +kernel
theorem dX12_w4_0 : decode cX12_w4 0 = .ok (.iload_n 0, 1) := by decide +kernel
theorem dX12_w4_1 : decode cX12_w4 1 = .ok (.iload_n 1, 1) := by decide +kernel
theorem dX12_w4_2 : decode cX12_w4 2 = .ok (.iload_n 2, 1) := by decide +kernel
theorem dX12_w4_3 : decode cX12_w4 3 = .ok (.invokestatic 149, 3) := by decide +kernel
theorem dX12_w4_6 : decode cX12_w4 6 = .ok (.bipush 8, 2) := by decide +kernel
theorem dX12_w4_8 : decode cX12_w4 8 = .ok (.lshl, 1) := by decide +kernel
theorem dX12_w4_9 : decode cX12_w4 9 = .ok (.iload_n 3, 1) := by decide +kernel
theorem dX12_w4_10 : decode cX12_w4 10 = .ok (.i2l, 1) := by decide +kernel
theorem dX12_w4_11 : decode cX12_w4 11 = .ok (.lor, 1) := by decide +kernel
theorem dX12_w4_12 : decode cX12_w4 12 = .ok (.lreturn, 1) := by decide +kernel
theorem dX12_isWord_0 : decode cX12_isWord 0 = .ok (.aload_n 0, 1) := by decide +kernel
theorem dX12_isWord_1 : decode cX12_isWord 1 = .ok (.getfield 132, 3) := by decide +kernel
theorem dX12_isWord_4 : decode cX12_isWord 4 = .ok (.iconst 2, 1) := by decide +kernel
theorem dX12_isWord_5 : decode cX12_isWord 5 = .ok (.if_icmp .ne 16, 3) := by decide +kernel
theorem dX12_isWord_8 : decode cX12_isWord 8 = .ok (.aload_n 0, 1) := by decide +kernel
theorem dX12_isWord_9 : decode cX12_isWord 9 = .ok (.getfield 145, 3) := by decide +kernel
theorem dX12_isWord_12 : decode cX12_isWord 12 = .ok (.lload_n 1, 1) := by decide +kernel
theorem dX12_isWord_13 : decode cX12_isWord 13 = .ok (.lcmp, 1) := by decide +kernel
theorem dX12_isWord_14 : decode cX12_isWord 14 = .ok (.ifCond .ne 7, 3) := by decide +kernel
theorem dX12_isWord_17 : decode cX12_isWord 17 = .ok (.iconst 1, 1) := by decide +kernel
theorem dX12_isWord_18 : decode cX12_isWord 18 = .ok (.goto 4, 3) := by decide +kernel
theorem dX12_isWord_21 : decode cX12_isWord 21 = .ok (.iconst 0, 1) := by decide +kernel
theorem dX12_isWord_22 : decode cX12_isWord 22 = .ok (.ireturn, 1) := by decide +kernel
theorem dX12_emit_0 : decode cX12_emit 0 = .ok (.aload_n 0, 1) := by decide +kernel
theorem dX12_emit_1 : decode cX12_emit 1 = .ok (.getfield 16, 3) := by decide +kernel
theorem dX12_emit_4 : decode cX12_emit 4 = .ok (.aload_n 0, 1) := by decide +kernel
theorem dX12_emit_5 : decode cX12_emit 5 = .ok (.getfield 157, 3) := by decide +kernel
theorem dX12_emit_8 : decode cX12_emit 8 = .ok (.bipush 15, 2) := by decide +kernel
theorem dX12_emit_10 : decode cX12_emit 10 = .ok (.iadd, 1) := by decide +kernel
theorem dX12_emit_11 : decode cX12_emit 11 = .ok (.iconst 2, 1) := by decide +kernel
theorem dX12_emit_12 : decode cX12_emit 12 = .ok (.aload_n 0, 1) := by decide +kernel
theorem dX12_emit_13 : decode cX12_emit 13 = .ok (.getfield 160, 3) := by decide +kernel
theorem dX12_emit_16 : decode cX12_emit 16 = .ok (.imul, 1) := by decide +kernel
theorem dX12_emit_17 : decode cX12_emit 17 = .ok (.iadd, 1) := by decide +kernel
theorem dX12_emit_18 : decode cX12_emit 18 = .ok (.iload_n 1, 1) := by decide +kernel
theorem dX12_emit_19 : decode cX12_emit 19 = .ok (.iastore, 1) := by decide +kernel
theorem dX12_emit_20 : decode cX12_emit 20 = .ok (.aload_n 0, 1) := by decide +kernel
theorem dX12_emit_21 : decode cX12_emit 21 = .ok (.getfield 16, 3) := by decide +kernel
theorem dX12_emit_24 : decode cX12_emit 24 = .ok (.aload_n 0, 1) := by decide +kernel
theorem dX12_emit_25 : decode cX12_emit 25 = .ok (.getfield 157, 3) := by decide +kernel
theorem dX12_emit_28 : decode cX12_emit 28 = .ok (.bipush 15, 2) := by decide +kernel
theorem dX12_emit_30 : decode cX12_emit 30 = .ok (.iadd, 1) := by decide +kernel
theorem dX12_emit_31 : decode cX12_emit 31 = .ok (.iconst 2, 1) := by decide +kernel
theorem dX12_emit_32 : decode cX12_emit 32 = .ok (.aload_n 0, 1) := by decide +kernel
theorem dX12_emit_33 : decode cX12_emit 33 = .ok (.getfield 160, 3) := by decide +kernel
theorem dX12_emit_36 : decode cX12_emit 36 = .ok (.imul, 1) := by decide +kernel
theorem dX12_emit_37 : decode cX12_emit 37 = .ok (.iadd, 1) := by decide +kernel
theorem dX12_emit_38 : decode cX12_emit 38 = .ok (.iconst 1, 1) := by decide +kernel
theorem dX12_emit_39 : decode cX12_emit 39 = .ok (.iadd, 1) := by decide +kernel
theorem dX12_emit_40 : decode cX12_emit 40 = .ok (.iload_n 2, 1) := by decide +kernel
theorem dX12_emit_41 : decode cX12_emit 41 = .ok (.iastore, 1) := by decide +kernel
theorem dX12_emit_42 : decode cX12_emit 42 = .ok (.aload_n 0, 1) := by decide +kernel
theorem dX12_emit_43 : decode cX12_emit 43 = .ok (.dup, 1) := by decide +kernel
theorem dX12_emit_44 : decode cX12_emit 44 = .ok (.getfield 160, 3) := by decide +kernel
theorem dX12_emit_47 : decode cX12_emit 47 = .ok (.iconst 1, 1) := by decide +kernel
theorem dX12_emit_48 : decode cX12_emit 48 = .ok (.iadd, 1) := by decide +kernel
theorem dX12_emit_49 : decode cX12_emit 49 = .ok (.putfield 160, 3) := by decide +kernel
theorem dX12_emit_52 : decode cX12_emit 52 = .ok (.return_, 1) := by decide +kernel
theorem dX12_push_0 : decode cX12_push 0 = .ok (.aload_n 0, 1) := by decide +kernel
theorem dX12_push_1 : decode cX12_push 1 = .ok (.getfield 29, 3) := by decide +kernel
theorem dX12_push_4 : decode cX12_push 4 = .ok (.aload_n 0, 1) := by decide +kernel
theorem dX12_push_5 : decode cX12_push 5 = .ok (.getfield 163, 3) := by decide +kernel
theorem dX12_push_8 : decode cX12_push 8 = .ok (.iload_n 1, 1) := by decide +kernel
theorem dX12_push_9 : decode cX12_push 9 = .ok (.iastore, 1) := by decide +kernel
theorem dX12_push_10 : decode cX12_push 10 = .ok (.aload_n 0, 1) := by decide +kernel
theorem dX12_push_11 : decode cX12_push 11 = .ok (.dup, 1) := by decide +kernel
theorem dX12_push_12 : decode cX12_push 12 = .ok (.getfield 163, 3) := by decide +kernel
theorem dX12_push_15 : decode cX12_push 15 = .ok (.iconst 1, 1) := by decide +kernel
theorem dX12_push_16 : decode cX12_push 16 = .ok (.iadd, 1) := by decide +kernel
theorem dX12_push_17 : decode cX12_push 17 = .ok (.putfield 163, 3) := by decide +kernel
theorem dX12_push_20 : decode cX12_push 20 = .ok (.return_, 1) := by decide +kernel
theorem dX12_rank_0 : decode cX12_rank 0 = .ok (.iload_n 0, 1) := by decide +kernel
theorem dX12_rank_1 : decode cX12_rank 1 = .ok (.bipush 40, 2) := by decide +kernel
theorem dX12_rank_3 : decode cX12_rank 3 = .ok (.if_icmp .lt 7, 3) := by decide +kernel
theorem dX12_rank_6 : decode cX12_rank 6 = .ok (.iconst 0, 1) := by decide +kernel
theorem dX12_rank_7 : decode cX12_rank 7 = .ok (.goto 64, 3) := by decide +kernel
theorem dX12_rank_10 : decode cX12_rank 10 = .ok (.iload_n 0, 1) := by decide +kernel
theorem dX12_rank_11 : decode cX12_rank 11 = .ok (.bipush 22, 2) := by decide +kernel
theorem dX12_rank_13 : decode cX12_rank 13 = .ok (.if_icmp .ne 7, 3) := by decide +kernel
theorem dX12_rank_16 : decode cX12_rank 16 = .ok (.iconst 1, 1) := by decide +kernel
theorem dX12_rank_17 : decode cX12_rank 17 = .ok (.goto 54, 3) := by decide +kernel
theorem dX12_rank_20 : decode cX12_rank 20 = .ok (.iload_n 0, 1) := by decide +kernel
theorem dX12_rank_21 : decode cX12_rank 21 = .ok (.bipush 21, 2) := by decide +kernel
theorem dX12_rank_23 : decode cX12_rank 23 = .ok (.if_icmp .ne 7, 3) := by decide +kernel
theorem dX12_rank_26 : decode cX12_rank 26 = .ok (.iconst 2, 1) := by decide +kernel
theorem dX12_rank_27 : decode cX12_rank 27 = .ok (.goto 44, 3) := by decide +kernel
theorem dX12_rank_30 : decode cX12_rank 30 = .ok (.iload_n 0, 1) := by decide +kernel
theorem dX12_rank_31 : decode cX12_rank 31 = .ok (.bipush 20, 2) := by decide +kernel
theorem dX12_rank_33 : decode cX12_rank 33 = .ok (.if_icmp .ne 7, 3) := by decide +kernel
theorem dX12_rank_36 : decode cX12_rank 36 = .ok (.iconst 3, 1) := by decide +kernel
theorem dX12_rank_37 : decode cX12_rank 37 = .ok (.goto 34, 3) := by decide +kernel
theorem dX12_rank_40 : decode cX12_rank 40 = .ok (.iload_n 0, 1) := by decide +kernel
theorem dX12_rank_41 : decode cX12_rank 41 = .ok (.bipush 10, 2) := by decide +kernel
theorem dX12_rank_43 : decode cX12_rank 43 = .ok (.if_icmp .lt 7, 3) := by decide +kernel
theorem dX12_rank_46 : decode cX12_rank 46 = .ok (.iconst 4, 1) := by decide +kernel
theorem dX12_rank_47 : decode cX12_rank 47 = .ok (.goto 24, 3) := by decide +kernel
theorem dX12_rank_50 : decode cX12_rank 50 = .ok (.iload_n 0, 1) := by decide +kernel
theorem dX12_rank_51 : decode cX12_rank 51 = .ok (.iconst 2, 1) := by decide +kernel
theorem dX12_rank_52 : decode cX12_rank 52 = .ok (.if_icmp .ne 8, 3) := by decide +kernel
theorem dX12_rank_55 : decode cX12_rank 55 = .ok (.bipush 7, 2) := by decide +kernel
theorem dX12_rank_57 : decode cX12_rank 57 = .ok (.goto 14, 3) := by decide +kernel
theorem dX12_rank_60 : decode cX12_rank 60 = .ok (.iload_n 0, 1) := by decide +kernel
theorem dX12_rank_61 : decode cX12_rank 61 = .ok (.iconst 5, 1) := by decide +kernel
theorem dX12_rank_62 : decode cX12_rank 62 = .ok (.if_icmp .lt 8, 3) := by decide +kernel
theorem dX12_rank_65 : decode cX12_rank 65 = .ok (.bipush 6, 2) := by decide +kernel
theorem dX12_rank_67 : decode cX12_rank 67 = .ok (.goto 4, 3) := by decide +kernel
theorem dX12_rank_70 : decode cX12_rank 70 = .ok (.iconst 5, 1) := by decide +kernel
theorem dX12_rank_71 : decode cX12_rank 71 = .ok (.ireturn, 1) := by decide +kernel
theorem dX12_settle_0 : decode cX12_settle 0 = .ok (.aload_n 0, 1) := by decide +kernel
theorem dX12_settle_1 : decode cX12_settle 1 = .ok (.getfield 163, 3) := by decide +kernel
theorem dX12_settle_4 : decode cX12_settle 4 = .ok (.ifCond .le 85, 3) := by decide +kernel
theorem dX12_settle_7 : decode cX12_settle 7 = .ok (.aload_n 0, 1) := by decide +kernel
theorem dX12_settle_8 : decode cX12_settle 8 = .ok (.getfield 29, 3) := by decide +kernel
theorem dX12_settle_11 : decode cX12_settle 11 = .ok (.aload_n 0, 1) := by decide +kernel
theorem dX12_settle_12 : decode cX12_settle 12 = .ok (.getfield 163, 3) := by decide +kernel
theorem dX12_settle_15 : decode cX12_settle 15 = .ok (.iconst 1, 1) := by decide +kernel
theorem dX12_settle_16 : decode cX12_settle 16 = .ok (.isub, 1) := by decide +kernel
theorem dX12_settle_17 : decode cX12_settle 17 = .ok (.iaload, 1) := by decide +kernel
theorem dX12_settle_18 : decode cX12_settle 18 = .ok (.invokestatic 166, 3) := by decide +kernel
theorem dX12_settle_21 : decode cX12_settle 21 = .ok (.iload_n 1, 1) := by decide +kernel
theorem dX12_settle_22 : decode cX12_settle 22 = .ok (.if_icmp .lt 67, 3) := by decide +kernel
theorem dX12_settle_25 : decode cX12_settle 25 = .ok (.aload_n 0, 1) := by decide +kernel
theorem dX12_settle_26 : decode cX12_settle 26 = .ok (.dup, 1) := by decide +kernel
theorem dX12_settle_27 : decode cX12_settle 27 = .ok (.getfield 163, 3) := by decide +kernel
theorem dX12_settle_30 : decode cX12_settle 30 = .ok (.iconst 1, 1) := by decide +kernel
theorem dX12_settle_31 : decode cX12_settle 31 = .ok (.isub, 1) := by decide +kernel
theorem dX12_settle_32 : decode cX12_settle 32 = .ok (.putfield 163, 3) := by decide +kernel
theorem dX12_settle_35 : decode cX12_settle 35 = .ok (.aload_n 0, 1) := by decide +kernel
theorem dX12_settle_36 : decode cX12_settle 36 = .ok (.aload_n 0, 1) := by decide +kernel
theorem dX12_settle_37 : decode cX12_settle 37 = .ok (.getfield 29, 3) := by decide +kernel
theorem dX12_settle_40 : decode cX12_settle 40 = .ok (.aload_n 0, 1) := by decide +kernel
theorem dX12_settle_41 : decode cX12_settle 41 = .ok (.getfield 163, 3) := by decide +kernel
theorem dX12_settle_44 : decode cX12_settle 44 = .ok (.iaload, 1) := by decide +kernel
theorem dX12_settle_45 : decode cX12_settle 45 = .ok (.iconst 0, 1) := by decide +kernel
theorem dX12_settle_46 : decode cX12_settle 46 = .ok (.invokevirtual 169, 3) := by decide +kernel
theorem dX12_settle_49 : decode cX12_settle 49 = .ok (.aload_n 0, 1) := by decide +kernel
theorem dX12_settle_50 : decode cX12_settle 50 = .ok (.getfield 29, 3) := by decide +kernel
theorem dX12_settle_53 : decode cX12_settle 53 = .ok (.aload_n 0, 1) := by decide +kernel
theorem dX12_settle_54 : decode cX12_settle 54 = .ok (.getfield 163, 3) := by decide +kernel
theorem dX12_settle_57 : decode cX12_settle 57 = .ok (.iaload, 1) := by decide +kernel
theorem dX12_settle_58 : decode cX12_settle 58 = .ok (.iconst 2, 1) := by decide +kernel
theorem dX12_settle_59 : decode cX12_settle 59 = .ok (.if_icmp .eq 17, 3) := by decide +kernel
theorem dX12_settle_62 : decode cX12_settle 62 = .ok (.aload_n 0, 1) := by decide +kernel
theorem dX12_settle_63 : decode cX12_settle 63 = .ok (.getfield 29, 3) := by decide +kernel
theorem dX12_settle_66 : decode cX12_settle 66 = .ok (.aload_n 0, 1) := by decide +kernel
theorem dX12_settle_67 : decode cX12_settle 67 = .ok (.getfield 163, 3) := by decide +kernel
theorem dX12_settle_70 : decode cX12_settle 70 = .ok (.iaload, 1) := by decide +kernel
theorem dX12_settle_71 : decode cX12_settle 71 = .ok (.bipush 20, 2) := by decide +kernel
theorem dX12_settle_73 : decode cX12_settle 73 = .ok (.if_icmp .ne (-73), 3) := by decide +kernel
theorem dX12_settle_76 : decode cX12_settle 76 = .ok (.aload_n 0, 1) := by decide +kernel
theorem dX12_settle_77 : decode cX12_settle 77 = .ok (.dup, 1) := by decide +kernel
theorem dX12_settle_78 : decode cX12_settle 78 = .ok (.getfield 173, 3) := by decide +kernel
theorem dX12_settle_81 : decode cX12_settle 81 = .ok (.iconst 1, 1) := by decide +kernel
theorem dX12_settle_82 : decode cX12_settle 82 = .ok (.isub, 1) := by decide +kernel
theorem dX12_settle_83 : decode cX12_settle 83 = .ok (.putfield 173, 3) := by decide +kernel
theorem dX12_settle_86 : decode cX12_settle 86 = .ok (.goto (-86), 3) := by decide +kernel
theorem dX12_settle_89 : decode cX12_settle 89 = .ok (.return_, 1) := by decide +kernel
theorem dX12_whole_0 : decode cX12_whole 0 = .ok (.aload_n 0, 1) := by decide +kernel
theorem dX12_whole_1 : decode cX12_whole 1 = .ok (.iconst 1, 1) := by decide +kernel
theorem dX12_whole_2 : decode cX12_whole 2 = .ok (.putfield 176, 3) := by decide +kernel
theorem dX12_whole_5 : decode cX12_whole 5 = .ok (.aload_n 0, 1) := by decide +kernel
theorem dX12_whole_6 : decode cX12_whole 6 = .ok (.bipush 7, 2) := by decide +kernel
theorem dX12_whole_8 : decode cX12_whole 8 = .ok (.invokevirtual 180, 3) := by decide +kernel
theorem dX12_whole_11 : decode cX12_whole 11 = .ok (.return_, 1) := by decide +kernel
theorem dX12_marker_0 : decode cX12_marker 0 = .ok (.aload_n 0, 1) := by decide +kernel
theorem dX12_marker_1 : decode cX12_marker 1 = .ok (.getfield 163, 3) := by decide +kernel
theorem dX12_marker_4 : decode cX12_marker 4 = .ok (.iconst 1, 1) := by decide +kernel
theorem dX12_marker_5 : decode cX12_marker 5 = .ok (.isub, 1) := by decide +kernel
theorem dX12_marker_6 : decode cX12_marker 6 = .ok (.istore_n 1, 1) := by decide +kernel
theorem dX12_marker_7 : decode cX12_marker 7 = .ok (.iload_n 1, 1) := by decide +kernel
theorem dX12_marker_8 : decode cX12_marker 8 = .ok (.ifCond .lt 20, 3) := by decide +kernel
theorem dX12_marker_11 : decode cX12_marker 11 = .ok (.aload_n 0, 1) := by decide +kernel
theorem dX12_marker_12 : decode cX12_marker 12 = .ok (.getfield 29, 3) := by decide +kernel
theorem dX12_marker_15 : decode cX12_marker 15 = .ok (.iload_n 1, 1) := by decide +kernel
theorem dX12_marker_16 : decode cX12_marker 16 = .ok (.iaload, 1) := by decide +kernel
theorem dX12_marker_17 : decode cX12_marker 17 = .ok (.bipush 40, 2) := by decide +kernel
theorem dX12_marker_19 : decode cX12_marker 19 = .ok (.if_icmp .ge 9, 3) := by decide +kernel
theorem dX12_marker_22 : decode cX12_marker 22 = .ok (.iinc 1 (-1), 3) := by decide +kernel
theorem dX12_marker_25 : decode cX12_marker 25 = .ok (.goto (-18), 3) := by decide +kernel
theorem dX12_marker_28 : decode cX12_marker 28 = .ok (.iload_n 1, 1) := by decide +kernel
theorem dX12_marker_29 : decode cX12_marker 29 = .ok (.ireturn, 1) := by decide +kernel
theorem dX12_kindOpen_0 : decode cX12_kindOpen 0 = .ok (.aload_n 0, 1) := by decide +kernel
theorem dX12_kindOpen_1 : decode cX12_kindOpen 1 = .ok (.invokevirtual 183, 3) := by decide +kernel
theorem dX12_kindOpen_4 : decode cX12_kindOpen 4 = .ok (.istore_n 2, 1) := by decide +kernel
theorem dX12_kindOpen_5 : decode cX12_kindOpen 5 = .ok (.iload_n 2, 1) := by decide +kernel
theorem dX12_kindOpen_6 : decode cX12_kindOpen 6 = .ok (.ifCond .lt 12, 3) := by decide +kernel
theorem dX12_kindOpen_9 : decode cX12_kindOpen 9 = .ok (.aload_n 0, 1) := by decide +kernel
theorem dX12_kindOpen_10 : decode cX12_kindOpen 10 = .ok (.getfield 29, 3) := by decide +kernel
theorem dX12_kindOpen_13 : decode cX12_kindOpen 13 = .ok (.iload_n 2, 1) := by decide +kernel
theorem dX12_kindOpen_14 : decode cX12_kindOpen 14 = .ok (.iaload, 1) := by decide +kernel
theorem dX12_kindOpen_15 : decode cX12_kindOpen 15 = .ok (.goto 14, 3) := by decide +kernel
theorem dX12_kindOpen_18 : decode cX12_kindOpen 18 = .ok (.iload_n 1, 1) := by decide +kernel
theorem dX12_kindOpen_19 : decode cX12_kindOpen 19 = .ok (.ifCond .eq 8, 3) := by decide +kernel
theorem dX12_kindOpen_22 : decode cX12_kindOpen 22 = .ok (.bipush 41, 2) := by decide +kernel
theorem dX12_kindOpen_24 : decode cX12_kindOpen 24 = .ok (.goto 5, 3) := by decide +kernel
theorem dX12_kindOpen_27 : decode cX12_kindOpen 27 = .ok (.bipush 40, 2) := by decide +kernel
theorem dX12_kindOpen_29 : decode cX12_kindOpen 29 = .ok (.ireturn, 1) := by decide +kernel
theorem dX12_isCompared_0 : decode cX12_isCompared 0 = .ok (.aload_n 0, 1) := by decide +kernel
theorem dX12_isCompared_1 : decode cX12_isCompared 1 = .ok (.getfield 163, 3) := by decide +kernel
theorem dX12_isCompared_4 : decode cX12_isCompared 4 = .ok (.iconst 1, 1) := by decide +kernel
theorem dX12_isCompared_5 : decode cX12_isCompared 5 = .ok (.isub, 1) := by decide +kernel
theorem dX12_isCompared_6 : decode cX12_isCompared 6 = .ok (.istore_n 1, 1) := by decide +kernel
theorem dX12_isCompared_7 : decode cX12_isCompared 7 = .ok (.iload_n 1, 1) := by decide +kernel
theorem dX12_isCompared_8 : decode cX12_isCompared 8 = .ok (.ifCond .lt 22, 3) := by decide +kernel
theorem dX12_isCompared_11 : decode cX12_isCompared 11 = .ok (.aload_n 0, 1) := by decide +kernel
theorem dX12_isCompared_12 : decode cX12_isCompared 12 = .ok (.getfield 29, 3) := by decide +kernel
theorem dX12_isCompared_15 : decode cX12_isCompared 15 = .ok (.iload_n 1, 1) := by decide +kernel
theorem dX12_isCompared_16 : decode cX12_isCompared 16 = .ok (.iaload, 1) := by decide +kernel
theorem dX12_isCompared_17 : decode cX12_isCompared 17 = .ok (.invokestatic 166, 3) := by decide +kernel
theorem dX12_isCompared_20 : decode cX12_isCompared 20 = .ok (.iconst 4, 1) := by decide +kernel
theorem dX12_isCompared_21 : decode cX12_isCompared 21 = .ok (.if_icmp .le 9, 3) := by decide +kernel
theorem dX12_isCompared_24 : decode cX12_isCompared 24 = .ok (.iinc 1 (-1), 3) := by decide +kernel
theorem dX12_isCompared_27 : decode cX12_isCompared 27 = .ok (.goto (-20), 3) := by decide +kernel
theorem dX12_isCompared_30 : decode cX12_isCompared 30 = .ok (.iload_n 1, 1) := by decide +kernel
theorem dX12_isCompared_31 : decode cX12_isCompared 31 = .ok (.ifCond .lt 20, 3) := by decide +kernel
theorem dX12_isCompared_34 : decode cX12_isCompared 34 = .ok (.aload_n 0, 1) := by decide +kernel
theorem dX12_isCompared_35 : decode cX12_isCompared 35 = .ok (.getfield 29, 3) := by decide +kernel
theorem dX12_isCompared_38 : decode cX12_isCompared 38 = .ok (.iload_n 1, 1) := by decide +kernel
theorem dX12_isCompared_39 : decode cX12_isCompared 39 = .ok (.iaload, 1) := by decide +kernel
theorem dX12_isCompared_40 : decode cX12_isCompared 40 = .ok (.invokestatic 166, 3) := by decide +kernel
theorem dX12_isCompared_43 : decode cX12_isCompared 43 = .ok (.iconst 4, 1) := by decide +kernel
theorem dX12_isCompared_44 : decode cX12_isCompared 44 = .ok (.if_icmp .ne 7, 3) := by decide +kernel
theorem dX12_isCompared_47 : decode cX12_isCompared 47 = .ok (.iconst 1, 1) := by decide +kernel
theorem dX12_isCompared_48 : decode cX12_isCompared 48 = .ok (.goto 4, 3) := by decide +kernel
theorem dX12_isCompared_51 : decode cX12_isCompared 51 = .ok (.iconst 0, 1) := by decide +kernel
theorem dX12_isCompared_52 : decode cX12_isCompared 52 = .ok (.ireturn, 1) := by decide +kernel
theorem dX12_isAskAhead_0 : decode cX12_isAskAhead 0 = .ok (.aload_n 0, 1) := by decide +kernel
theorem dX12_isAskAhead_1 : decode cX12_isAskAhead 1 = .ok (.iload_n 1, 1) := by decide +kernel
theorem dX12_isAskAhead_2 : decode cX12_isAskAhead 2 = .ok (.invokevirtual 187, 3) := by decide +kernel
theorem dX12_isAskAhead_5 : decode cX12_isAskAhead 5 = .ok (.bipush 41, 2) := by decide +kernel
theorem dX12_isAskAhead_7 : decode cX12_isAskAhead 7 = .ok (.if_icmp .ne 52, 3) := by decide +kernel
theorem dX12_isAskAhead_10 : decode cX12_isAskAhead 10 = .ok (.aload_n 0, 1) := by decide +kernel
theorem dX12_isAskAhead_11 : decode cX12_isAskAhead 11 = .ok (.getfield 163, 3) := by decide +kernel
theorem dX12_isAskAhead_14 : decode cX12_isAskAhead 14 = .ok (.ifCond .eq 41, 3) := by decide +kernel
theorem dX12_isAskAhead_17 : decode cX12_isAskAhead 17 = .ok (.aload_n 0, 1) := by decide +kernel
theorem dX12_isAskAhead_18 : decode cX12_isAskAhead 18 = .ok (.getfield 29, 3) := by decide +kernel
theorem dX12_isAskAhead_21 : decode cX12_isAskAhead 21 = .ok (.aload_n 0, 1) := by decide +kernel
theorem dX12_isAskAhead_22 : decode cX12_isAskAhead 22 = .ok (.getfield 163, 3) := by decide +kernel
theorem dX12_isAskAhead_25 : decode cX12_isAskAhead 25 = .ok (.iconst 1, 1) := by decide +kernel
theorem dX12_isAskAhead_26 : decode cX12_isAskAhead 26 = .ok (.isub, 1) := by decide +kernel
theorem dX12_isAskAhead_27 : decode cX12_isAskAhead 27 = .ok (.iaload, 1) := by decide +kernel
theorem dX12_isAskAhead_28 : decode cX12_isAskAhead 28 = .ok (.bipush 41, 2) := by decide +kernel
theorem dX12_isAskAhead_30 : decode cX12_isAskAhead 30 = .ok (.if_icmp .eq 25, 3) := by decide +kernel
theorem dX12_isAskAhead_33 : decode cX12_isAskAhead 33 = .ok (.aload_n 0, 1) := by decide +kernel
theorem dX12_isAskAhead_34 : decode cX12_isAskAhead 34 = .ok (.getfield 29, 3) := by decide +kernel
theorem dX12_isAskAhead_37 : decode cX12_isAskAhead 37 = .ok (.aload_n 0, 1) := by decide +kernel
theorem dX12_isAskAhead_38 : decode cX12_isAskAhead 38 = .ok (.getfield 163, 3) := by decide +kernel
theorem dX12_isAskAhead_41 : decode cX12_isAskAhead 41 = .ok (.iconst 1, 1) := by decide +kernel
theorem dX12_isAskAhead_42 : decode cX12_isAskAhead 42 = .ok (.isub, 1) := by decide +kernel
theorem dX12_isAskAhead_43 : decode cX12_isAskAhead 43 = .ok (.iaload, 1) := by decide +kernel
theorem dX12_isAskAhead_44 : decode cX12_isAskAhead 44 = .ok (.invokestatic 166, 3) := by decide +kernel
theorem dX12_isAskAhead_47 : decode cX12_isAskAhead 47 = .ok (.iconst 1, 1) := by decide +kernel
theorem dX12_isAskAhead_48 : decode cX12_isAskAhead 48 = .ok (.iconst 3, 1) := by decide +kernel
theorem dX12_isAskAhead_49 : decode cX12_isAskAhead 49 = .ok (.invokestatic 95, 3) := by decide +kernel
theorem dX12_isAskAhead_52 : decode cX12_isAskAhead 52 = .ok (.ifCond .eq 7, 3) := by decide +kernel
theorem dX12_isAskAhead_55 : decode cX12_isAskAhead 55 = .ok (.iconst 1, 1) := by decide +kernel
theorem dX12_isAskAhead_56 : decode cX12_isAskAhead 56 = .ok (.goto 4, 3) := by decide +kernel
theorem dX12_isAskAhead_59 : decode cX12_isAskAhead 59 = .ok (.iconst 0, 1) := by decide +kernel
theorem dX12_isAskAhead_60 : decode cX12_isAskAhead 60 = .ok (.ireturn, 1) := by decide +kernel
theorem dX12_opensBy_0 : decode cX12_opensBy 0 = .ok (.aload_n 0, 1) := by decide +kernel
theorem dX12_opensBy_1 : decode cX12_opensBy 1 = .ok (.getfield 173, 3) := by decide +kernel
theorem dX12_opensBy_4 : decode cX12_opensBy 4 = .ok (.bipush 8, 2) := by decide +kernel
theorem dX12_opensBy_6 : decode cX12_opensBy 6 = .ok (.if_icmp .ne 5, 3) := by decide +kernel
theorem dX12_opensBy_9 : decode cX12_opensBy 9 = .ok (.iconst 3, 1) := by decide +kernel
theorem dX12_opensBy_10 : decode cX12_opensBy 10 = .ok (.ireturn, 1) := by decide +kernel
theorem dX12_opensBy_11 : decode cX12_opensBy 11 = .ok (.aload_n 0, 1) := by decide +kernel
theorem dX12_opensBy_12 : decode cX12_opensBy 12 = .ok (.dup, 1) := by decide +kernel
theorem dX12_opensBy_13 : decode cX12_opensBy 13 = .ok (.getfield 173, 3) := by decide +kernel
theorem dX12_opensBy_16 : decode cX12_opensBy 16 = .ok (.iconst 1, 1) := by decide +kernel
theorem dX12_opensBy_17 : decode cX12_opensBy 17 = .ok (.iadd, 1) := by decide +kernel
theorem dX12_opensBy_18 : decode cX12_opensBy 18 = .ok (.putfield 173, 3) := by decide +kernel
theorem dX12_opensBy_21 : decode cX12_opensBy 21 = .ok (.aload_n 0, 1) := by decide +kernel
theorem dX12_opensBy_22 : decode cX12_opensBy 22 = .ok (.iload_n 1, 1) := by decide +kernel
theorem dX12_opensBy_23 : decode cX12_opensBy 23 = .ok (.invokevirtual 191, 3) := by decide +kernel
theorem dX12_opensBy_26 : decode cX12_opensBy 26 = .ok (.aload_n 0, 1) := by decide +kernel
theorem dX12_opensBy_27 : decode cX12_opensBy 27 = .ok (.invokevirtual 194, 3) := by decide +kernel
theorem dX12_opensBy_30 : decode cX12_opensBy 30 = .ok (.iconst 0, 1) := by decide +kernel
theorem dX12_opensBy_31 : decode cX12_opensBy 31 = .ok (.ireturn, 1) := by decide +kernel
theorem dX12_beginOne_0 : decode cX12_beginOne 0 = .ok (.aload_n 0, 1) := by decide +kernel
theorem dX12_beginOne_1 : decode cX12_beginOne 1 = .ok (.getfield 132, 3) := by decide +kernel
theorem dX12_beginOne_4 : decode cX12_beginOne 4 = .ok (.iconst 1, 1) := by decide +kernel
theorem dX12_beginOne_5 : decode cX12_beginOne 5 = .ok (.if_icmp .ne 15, 3) := by decide +kernel
theorem dX12_beginOne_8 : decode cX12_beginOne 8 = .ok (.aload_n 0, 1) := by decide +kernel
theorem dX12_beginOne_9 : decode cX12_beginOne 9 = .ok (.getfield 138, 3) := by decide +kernel
theorem dX12_beginOne_12 : decode cX12_beginOne 12 = .ok (.sipush 9999, 3) := by decide +kernel
theorem dX12_beginOne_15 : decode cX12_beginOne 15 = .ok (.if_icmp .le 5, 3) := by decide +kernel
theorem dX12_beginOne_18 : decode cX12_beginOne 18 = .ok (.iconst 2, 1) := by decide +kernel
theorem dX12_beginOne_19 : decode cX12_beginOne 19 = .ok (.ireturn, 1) := by decide +kernel
theorem dX12_beginOne_20 : decode cX12_beginOne 20 = .ok (.aload_n 0, 1) := by decide +kernel
theorem dX12_beginOne_21 : decode cX12_beginOne 21 = .ok (.invokevirtual 197, 3) := by decide +kernel
theorem dX12_beginOne_24 : decode cX12_beginOne 24 = .ok (.istore_n 2, 1) := by decide +kernel
theorem dX12_beginOne_25 : decode cX12_beginOne 25 = .ok (.iload_n 2, 1) := by decide +kernel
theorem dX12_beginOne_26 : decode cX12_beginOne 26 = .ok (.ifCond .lt 13, 3) := by decide +kernel
theorem dX12_beginOne_29 : decode cX12_beginOne 29 = .ok (.aload_n 0, 1) := by decide +kernel
theorem dX12_beginOne_30 : decode cX12_beginOne 30 = .ok (.iload_n 2, 1) := by decide +kernel
theorem dX12_beginOne_31 : decode cX12_beginOne 31 = .ok (.invokevirtual 200, 3) := by decide +kernel
theorem dX12_beginOne_34 : decode cX12_beginOne 34 = .ok (.ifCond .ne 5, 3) := by decide +kernel
theorem dX12_beginOne_37 : decode cX12_beginOne 37 = .ok (.iconst 5, 1) := by decide +kernel
theorem dX12_beginOne_38 : decode cX12_beginOne 38 = .ok (.ireturn, 1) := by decide +kernel
theorem dX12_beginOne_39 : decode cX12_beginOne 39 = .ok (.aload_n 0, 1) := by decide +kernel
theorem dX12_beginOne_40 : decode cX12_beginOne 40 = .ok (.getfield 132, 3) := by decide +kernel
theorem dX12_beginOne_43 : decode cX12_beginOne 43 = .ok (.iconst 1, 1) := by decide +kernel
theorem dX12_beginOne_44 : decode cX12_beginOne 44 = .ok (.if_icmp .eq 7, 3) := by decide +kernel
theorem dX12_beginOne_47 : decode cX12_beginOne 47 = .ok (.iload_n 2, 1) := by decide +kernel
theorem dX12_beginOne_48 : decode cX12_beginOne 48 = .ok (.ifCond .lt 46, 3) := by decide +kernel
theorem dX12_beginOne_51 : decode cX12_beginOne 51 = .ok (.aload_n 0, 1) := by decide +kernel
theorem dX12_beginOne_52 : decode cX12_beginOne 52 = .ok (.aload_n 0, 1) := by decide +kernel
theorem dX12_beginOne_53 : decode cX12_beginOne 53 = .ok (.getfield 132, 3) := by decide +kernel
theorem dX12_beginOne_56 : decode cX12_beginOne 56 = .ok (.iconst 1, 1) := by decide +kernel
theorem dX12_beginOne_57 : decode cX12_beginOne 57 = .ok (.if_icmp .ne 7, 3) := by decide +kernel
theorem dX12_beginOne_60 : decode cX12_beginOne 60 = .ok (.iconst 0, 1) := by decide +kernel
theorem dX12_beginOne_61 : decode cX12_beginOne 61 = .ok (.goto 4, 3) := by decide +kernel
theorem dX12_beginOne_64 : decode cX12_beginOne 64 = .ok (.iconst 1, 1) := by decide +kernel
theorem dX12_beginOne_65 : decode cX12_beginOne 65 = .ok (.aload_n 0, 1) := by decide +kernel
theorem dX12_beginOne_66 : decode cX12_beginOne 66 = .ok (.getfield 132, 3) := by decide +kernel
theorem dX12_beginOne_69 : decode cX12_beginOne 69 = .ok (.iconst 1, 1) := by decide +kernel
theorem dX12_beginOne_70 : decode cX12_beginOne 70 = .ok (.if_icmp .ne 10, 3) := by decide +kernel
theorem dX12_beginOne_73 : decode cX12_beginOne 73 = .ok (.aload_n 0, 1) := by decide +kernel
theorem dX12_beginOne_74 : decode cX12_beginOne 74 = .ok (.getfield 138, 3) := by decide +kernel
theorem dX12_beginOne_77 : decode cX12_beginOne 77 = .ok (.goto 4, 3) := by decide +kernel
theorem dX12_beginOne_80 : decode cX12_beginOne 80 = .ok (.iload_n 2, 1) := by decide +kernel
theorem dX12_beginOne_81 : decode cX12_beginOne 81 = .ok (.invokevirtual 169, 3) := by decide +kernel
theorem dX12_beginOne_84 : decode cX12_beginOne 84 = .ok (.aload_n 0, 1) := by decide +kernel
theorem dX12_beginOne_85 : decode cX12_beginOne 85 = .ok (.invokevirtual 194, 3) := by decide +kernel
theorem dX12_beginOne_88 : decode cX12_beginOne 88 = .ok (.aload_n 0, 1) := by decide +kernel
theorem dX12_beginOne_89 : decode cX12_beginOne 89 = .ok (.invokevirtual 203, 3) := by decide +kernel
theorem dX12_beginOne_92 : decode cX12_beginOne 92 = .ok (.iconst 0, 1) := by decide +kernel
theorem dX12_beginOne_93 : decode cX12_beginOne 93 = .ok (.ireturn, 1) := by decide +kernel
theorem dX12_beginOne_94 : decode cX12_beginOne 94 = .ok (.aload_n 0, 1) := by decide +kernel
theorem dX12_beginOne_95 : decode cX12_beginOne 95 = .ok (.getfield 132, 3) := by decide +kernel
theorem dX12_beginOne_98 : decode cX12_beginOne 98 = .ok (.bipush 40, 2) := by decide +kernel
theorem dX12_beginOne_100 : decode cX12_beginOne 100 = .ok (.if_icmp .ne 10, 3) := by decide +kernel
theorem dX12_beginOne_103 : decode cX12_beginOne 103 = .ok (.aload_n 0, 1) := by decide +kernel
theorem dX12_beginOne_104 : decode cX12_beginOne 104 = .ok (.bipush 40, 2) := by decide +kernel
theorem dX12_beginOne_106 : decode cX12_beginOne 106 = .ok (.invokevirtual 206, 3) := by decide +kernel
theorem dX12_beginOne_109 : decode cX12_beginOne 109 = .ok (.ireturn, 1) := by decide +kernel
theorem dX12_beginOne_110 : decode cX12_beginOne 110 = .ok (.aload_n 0, 1) := by decide +kernel
theorem dX12_beginOne_111 : decode cX12_beginOne 111 = .ok (.getfield 132, 3) := by decide +kernel
theorem dX12_beginOne_114 : decode cX12_beginOne 114 = .ok (.bipush 45, 2) := by decide +kernel
theorem dX12_beginOne_116 : decode cX12_beginOne 116 = .ok (.if_icmp .ne 9, 3) := by decide +kernel
theorem dX12_beginOne_119 : decode cX12_beginOne 119 = .ok (.aload_n 0, 1) := by decide +kernel
theorem dX12_beginOne_120 : decode cX12_beginOne 120 = .ok (.iconst 2, 1) := by decide +kernel
theorem dX12_beginOne_121 : decode cX12_beginOne 121 = .ok (.invokevirtual 206, 3) := by decide +kernel
theorem dX12_beginOne_124 : decode cX12_beginOne 124 = .ok (.ireturn, 1) := by decide +kernel
theorem dX12_beginOne_125 : decode cX12_beginOne 125 = .ok (.aload_n 0, 1) := by decide +kernel
theorem dX12_beginOne_126 : decode cX12_beginOne 126 = .ok (.getfield 132, 3) := by decide +kernel
theorem dX12_beginOne_129 : decode cX12_beginOne 129 = .ok (.iconst 2, 1) := by decide +kernel
theorem dX12_beginOne_130 : decode cX12_beginOne 130 = .ok (.if_icmp .ne 21, 3) := by decide +kernel
theorem dX12_beginOne_133 : decode cX12_beginOne 133 = .ok (.aload_n 0, 1) := by decide +kernel
theorem dX12_beginOne_134 : decode cX12_beginOne 134 = .ok (.getfield 145, 3) := by decide +kernel
theorem dX12_beginOne_137 : decode cX12_beginOne 137 = .ok (.ldc2_w 209, 3) := by decide +kernel
theorem dX12_beginOne_140 : decode cX12_beginOne 140 = .ok (.lcmp, 1) := by decide +kernel
theorem dX12_beginOne_141 : decode cX12_beginOne 141 = .ok (.ifCond .ne 10, 3) := by decide +kernel
theorem dX12_beginOne_144 : decode cX12_beginOne 144 = .ok (.aload_n 0, 1) := by decide +kernel
theorem dX12_beginOne_145 : decode cX12_beginOne 145 = .ok (.bipush 41, 2) := by decide +kernel
theorem dX12_beginOne_147 : decode cX12_beginOne 147 = .ok (.invokevirtual 206, 3) := by decide +kernel
theorem dX12_beginOne_150 : decode cX12_beginOne 150 = .ok (.ireturn, 1) := by decide +kernel
theorem dX12_beginOne_151 : decode cX12_beginOne 151 = .ok (.aload_n 0, 1) := by decide +kernel
theorem dX12_beginOne_152 : decode cX12_beginOne 152 = .ok (.bipush 110, 2) := by decide +kernel
theorem dX12_beginOne_154 : decode cX12_beginOne 154 = .ok (.bipush 111, 2) := by decide +kernel
theorem dX12_beginOne_156 : decode cX12_beginOne 156 = .ok (.bipush 116, 2) := by decide +kernel
theorem dX12_beginOne_158 : decode cX12_beginOne 158 = .ok (.invokestatic 149, 3) := by decide +kernel
theorem dX12_beginOne_161 : decode cX12_beginOne 161 = .ok (.invokevirtual 211, 3) := by decide +kernel
theorem dX12_beginOne_164 : decode cX12_beginOne 164 = .ok (.ifCond .eq 20, 3) := by decide +kernel
theorem dX12_beginOne_167 : decode cX12_beginOne 167 = .ok (.aload_n 0, 1) := by decide +kernel
theorem dX12_beginOne_168 : decode cX12_beginOne 168 = .ok (.iload_n 1, 1) := by decide +kernel
theorem dX12_beginOne_169 : decode cX12_beginOne 169 = .ok (.invokevirtual 215, 3) := by decide +kernel
theorem dX12_beginOne_172 : decode cX12_beginOne 172 = .ok (.ifCond .eq 12, 3) := by decide +kernel
theorem dX12_beginOne_175 : decode cX12_beginOne 175 = .ok (.aload_n 0, 1) := by decide +kernel
theorem dX12_beginOne_176 : decode cX12_beginOne 176 = .ok (.bipush 20, 2) := by decide +kernel
theorem dX12_beginOne_178 : decode cX12_beginOne 178 = .ok (.invokevirtual 206, 3) := by decide +kernel
theorem dX12_beginOne_181 : decode cX12_beginOne 181 = .ok (.goto 4, 3) := by decide +kernel
theorem dX12_beginOne_184 : decode cX12_beginOne 184 = .ok (.iconst 1, 1) := by decide +kernel
theorem dX12_beginOne_185 : decode cX12_beginOne 185 = .ok (.ireturn, 1) := by decide +kernel
theorem dX12_compareOf_0 : decode cX12_compareOf 0 = .ok (.aload_n 0, 1) := by decide +kernel
theorem dX12_compareOf_1 : decode cX12_compareOf 1 = .ok (.getfield 132, 3) := by decide +kernel
theorem dX12_compareOf_4 : decode cX12_compareOf 4 = .ok (.bipush 60, 2) := by decide +kernel
theorem dX12_compareOf_6 : decode cX12_compareOf 6 = .ok (.if_icmp .ne 8, 3) := by decide +kernel
theorem dX12_compareOf_9 : decode cX12_compareOf 9 = .ok (.bipush 10, 2) := by decide +kernel
theorem dX12_compareOf_11 : decode cX12_compareOf 11 = .ok (.goto 72, 3) := by decide +kernel
theorem dX12_compareOf_14 : decode cX12_compareOf 14 = .ok (.aload_n 0, 1) := by decide +kernel
theorem dX12_compareOf_15 : decode cX12_compareOf 15 = .ok (.getfield 132, 3) := by decide +kernel
theorem dX12_compareOf_18 : decode cX12_compareOf 18 = .ok (.iconst 4, 1) := by decide +kernel
theorem dX12_compareOf_19 : decode cX12_compareOf 19 = .ok (.if_icmp .ne 8, 3) := by decide +kernel
theorem dX12_compareOf_22 : decode cX12_compareOf 22 = .ok (.bipush 11, 2) := by decide +kernel
theorem dX12_compareOf_24 : decode cX12_compareOf 24 = .ok (.goto 59, 3) := by decide +kernel
theorem dX12_compareOf_27 : decode cX12_compareOf 27 = .ok (.aload_n 0, 1) := by decide +kernel
theorem dX12_compareOf_28 : decode cX12_compareOf 28 = .ok (.getfield 132, 3) := by decide +kernel
theorem dX12_compareOf_31 : decode cX12_compareOf 31 = .ok (.bipush 62, 2) := by decide +kernel
theorem dX12_compareOf_33 : decode cX12_compareOf 33 = .ok (.if_icmp .ne 8, 3) := by decide +kernel
theorem dX12_compareOf_36 : decode cX12_compareOf 36 = .ok (.bipush 12, 2) := by decide +kernel
theorem dX12_compareOf_38 : decode cX12_compareOf 38 = .ok (.goto 45, 3) := by decide +kernel
theorem dX12_compareOf_41 : decode cX12_compareOf 41 = .ok (.aload_n 0, 1) := by decide +kernel
theorem dX12_compareOf_42 : decode cX12_compareOf 42 = .ok (.getfield 132, 3) := by decide +kernel
theorem dX12_compareOf_45 : decode cX12_compareOf 45 = .ok (.iconst 5, 1) := by decide +kernel
theorem dX12_compareOf_46 : decode cX12_compareOf 46 = .ok (.if_icmp .ne 8, 3) := by decide +kernel
theorem dX12_compareOf_49 : decode cX12_compareOf 49 = .ok (.bipush 13, 2) := by decide +kernel
theorem dX12_compareOf_51 : decode cX12_compareOf 51 = .ok (.goto 32, 3) := by decide +kernel
theorem dX12_compareOf_54 : decode cX12_compareOf 54 = .ok (.aload_n 0, 1) := by decide +kernel
theorem dX12_compareOf_55 : decode cX12_compareOf 55 = .ok (.getfield 132, 3) := by decide +kernel
theorem dX12_compareOf_58 : decode cX12_compareOf 58 = .ok (.bipush 61, 2) := by decide +kernel
theorem dX12_compareOf_60 : decode cX12_compareOf 60 = .ok (.if_icmp .ne 8, 3) := by decide +kernel
theorem dX12_compareOf_63 : decode cX12_compareOf 63 = .ok (.bipush 14, 2) := by decide +kernel
theorem dX12_compareOf_65 : decode cX12_compareOf 65 = .ok (.goto 18, 3) := by decide +kernel
theorem dX12_compareOf_68 : decode cX12_compareOf 68 = .ok (.aload_n 0, 1) := by decide +kernel
theorem dX12_compareOf_69 : decode cX12_compareOf 69 = .ok (.getfield 132, 3) := by decide +kernel
theorem dX12_compareOf_72 : decode cX12_compareOf 72 = .ok (.bipush 35, 2) := by decide +kernel
theorem dX12_compareOf_74 : decode cX12_compareOf 74 = .ok (.if_icmp .ne 8, 3) := by decide +kernel
theorem dX12_compareOf_77 : decode cX12_compareOf 77 = .ok (.bipush 15, 2) := by decide +kernel
theorem dX12_compareOf_79 : decode cX12_compareOf 79 = .ok (.goto 4, 3) := by decide +kernel
theorem dX12_compareOf_82 : decode cX12_compareOf 82 = .ok (.iconst (-1), 1) := by decide +kernel
theorem dX12_compareOf_83 : decode cX12_compareOf 83 = .ok (.ireturn, 1) := by decide +kernel
theorem dX12_betweenOf_0 : decode cX12_betweenOf 0 = .ok (.aload_n 0, 1) := by decide +kernel
theorem dX12_betweenOf_1 : decode cX12_betweenOf 1 = .ok (.getfield 132, 3) := by decide +kernel
theorem dX12_betweenOf_4 : decode cX12_betweenOf 4 = .ok (.bipush 43, 2) := by decide +kernel
theorem dX12_betweenOf_6 : decode cX12_betweenOf 6 = .ok (.if_icmp .ne 5, 3) := by decide +kernel
theorem dX12_betweenOf_9 : decode cX12_betweenOf 9 = .ok (.iconst 3, 1) := by decide +kernel
theorem dX12_betweenOf_10 : decode cX12_betweenOf 10 = .ok (.ireturn, 1) := by decide +kernel
theorem dX12_betweenOf_11 : decode cX12_betweenOf 11 = .ok (.aload_n 0, 1) := by decide +kernel
theorem dX12_betweenOf_12 : decode cX12_betweenOf 12 = .ok (.getfield 132, 3) := by decide +kernel
theorem dX12_betweenOf_15 : decode cX12_betweenOf 15 = .ok (.bipush 45, 2) := by decide +kernel
theorem dX12_betweenOf_17 : decode cX12_betweenOf 17 = .ok (.if_icmp .ne 5, 3) := by decide +kernel
theorem dX12_betweenOf_20 : decode cX12_betweenOf 20 = .ok (.iconst 4, 1) := by decide +kernel
theorem dX12_betweenOf_21 : decode cX12_betweenOf 21 = .ok (.ireturn, 1) := by decide +kernel
theorem dX12_betweenOf_22 : decode cX12_betweenOf 22 = .ok (.aload_n 0, 1) := by decide +kernel
theorem dX12_betweenOf_23 : decode cX12_betweenOf 23 = .ok (.getfield 132, 3) := by decide +kernel
theorem dX12_betweenOf_26 : decode cX12_betweenOf 26 = .ok (.bipush 42, 2) := by decide +kernel
theorem dX12_betweenOf_28 : decode cX12_betweenOf 28 = .ok (.if_icmp .ne 5, 3) := by decide +kernel
theorem dX12_betweenOf_31 : decode cX12_betweenOf 31 = .ok (.iconst 5, 1) := by decide +kernel
theorem dX12_betweenOf_32 : decode cX12_betweenOf 32 = .ok (.ireturn, 1) := by decide +kernel
theorem dX12_betweenOf_33 : decode cX12_betweenOf 33 = .ok (.aload_n 0, 1) := by decide +kernel
theorem dX12_betweenOf_34 : decode cX12_betweenOf 34 = .ok (.getfield 132, 3) := by decide +kernel
theorem dX12_betweenOf_37 : decode cX12_betweenOf 37 = .ok (.bipush 47, 2) := by decide +kernel
theorem dX12_betweenOf_39 : decode cX12_betweenOf 39 = .ok (.if_icmp .ne 6, 3) := by decide +kernel
theorem dX12_betweenOf_42 : decode cX12_betweenOf 42 = .ok (.bipush 6, 2) := by decide +kernel
theorem dX12_betweenOf_44 : decode cX12_betweenOf 44 = .ok (.ireturn, 1) := by decide +kernel
theorem dX12_betweenOf_45 : decode cX12_betweenOf 45 = .ok (.aload_n 0, 1) := by decide +kernel
theorem dX12_betweenOf_46 : decode cX12_betweenOf 46 = .ok (.iload_n 1, 1) := by decide +kernel
theorem dX12_betweenOf_47 : decode cX12_betweenOf 47 = .ok (.invokevirtual 187, 3) := by decide +kernel
theorem dX12_betweenOf_50 : decode cX12_betweenOf 50 = .ok (.bipush 41, 2) := by decide +kernel
theorem dX12_betweenOf_52 : decode cX12_betweenOf 52 = .ok (.if_icmp .eq 5, 3) := by decide +kernel
theorem dX12_betweenOf_55 : decode cX12_betweenOf 55 = .ok (.iconst (-1), 1) := by decide +kernel
theorem dX12_betweenOf_56 : decode cX12_betweenOf 56 = .ok (.ireturn, 1) := by decide +kernel
theorem dX12_betweenOf_57 : decode cX12_betweenOf 57 = .ok (.aload_n 0, 1) := by decide +kernel
theorem dX12_betweenOf_58 : decode cX12_betweenOf 58 = .ok (.invokevirtual 219, 3) := by decide +kernel
theorem dX12_betweenOf_61 : decode cX12_betweenOf 61 = .ok (.ifCond .ne 8, 3) := by decide +kernel
theorem dX12_betweenOf_64 : decode cX12_betweenOf 64 = .ok (.aload_n 0, 1) := by decide +kernel
theorem dX12_betweenOf_65 : decode cX12_betweenOf 65 = .ok (.invokevirtual 223, 3) := by decide +kernel
theorem dX12_betweenOf_68 : decode cX12_betweenOf 68 = .ok (.ireturn, 1) := by decide +kernel
theorem dX12_betweenOf_69 : decode cX12_betweenOf 69 = .ok (.aload_n 0, 1) := by decide +kernel
theorem dX12_betweenOf_70 : decode cX12_betweenOf 70 = .ok (.bipush 97, 2) := by decide +kernel
theorem dX12_betweenOf_72 : decode cX12_betweenOf 72 = .ok (.bipush 110, 2) := by decide +kernel
theorem dX12_betweenOf_74 : decode cX12_betweenOf 74 = .ok (.bipush 100, 2) := by decide +kernel
theorem dX12_betweenOf_76 : decode cX12_betweenOf 76 = .ok (.invokestatic 149, 3) := by decide +kernel
theorem dX12_betweenOf_79 : decode cX12_betweenOf 79 = .ok (.invokevirtual 211, 3) := by decide +kernel
theorem dX12_betweenOf_82 : decode cX12_betweenOf 82 = .ok (.ifCond .eq 8, 3) := by decide +kernel
theorem dX12_betweenOf_85 : decode cX12_betweenOf 85 = .ok (.bipush 21, 2) := by decide +kernel
theorem dX12_betweenOf_87 : decode cX12_betweenOf 87 = .ok (.goto 28, 3) := by decide +kernel
theorem dX12_betweenOf_90 : decode cX12_betweenOf 90 = .ok (.aload_n 0, 1) := by decide +kernel
theorem dX12_betweenOf_91 : decode cX12_betweenOf 91 = .ok (.getfield 132, 3) := by decide +kernel
theorem dX12_betweenOf_94 : decode cX12_betweenOf 94 = .ok (.iconst 2, 1) := by decide +kernel
theorem dX12_betweenOf_95 : decode cX12_betweenOf 95 = .ok (.if_icmp .ne 19, 3) := by decide +kernel
theorem dX12_betweenOf_98 : decode cX12_betweenOf 98 = .ok (.aload_n 0, 1) := by decide +kernel
theorem dX12_betweenOf_99 : decode cX12_betweenOf 99 = .ok (.getfield 145, 3) := by decide +kernel
theorem dX12_betweenOf_102 : decode cX12_betweenOf 102 = .ok (.ldc2_w 226, 3) := by decide +kernel
theorem dX12_betweenOf_105 : decode cX12_betweenOf 105 = .ok (.lcmp, 1) := by decide +kernel
theorem dX12_betweenOf_106 : decode cX12_betweenOf 106 = .ok (.ifCond .ne 8, 3) := by decide +kernel
theorem dX12_betweenOf_109 : decode cX12_betweenOf 109 = .ok (.bipush 22, 2) := by decide +kernel
theorem dX12_betweenOf_111 : decode cX12_betweenOf 111 = .ok (.goto 4, 3) := by decide +kernel
theorem dX12_betweenOf_114 : decode cX12_betweenOf 114 = .ok (.iconst (-1), 1) := by decide +kernel
theorem dX12_betweenOf_115 : decode cX12_betweenOf 115 = .ok (.ireturn, 1) := by decide +kernel
theorem dX12_behindOne_0 : decode cX12_behindOne 0 = .ok (.aload_n 0, 1) := by decide +kernel
theorem dX12_behindOne_1 : decode cX12_behindOne 1 = .ok (.iload_n 1, 1) := by decide +kernel
theorem dX12_behindOne_2 : decode cX12_behindOne 2 = .ok (.invokevirtual 228, 3) := by decide +kernel
theorem dX12_behindOne_5 : decode cX12_behindOne 5 = .ok (.istore_n 2, 1) := by decide +kernel
theorem dX12_behindOne_6 : decode cX12_behindOne 6 = .ok (.aload_n 0, 1) := by decide +kernel
theorem dX12_behindOne_7 : decode cX12_behindOne 7 = .ok (.invokevirtual 183, 3) := by decide +kernel
theorem dX12_behindOne_10 : decode cX12_behindOne 10 = .ok (.istore_n 3, 1) := by decide +kernel
theorem dX12_behindOne_11 : decode cX12_behindOne 11 = .ok (.iload_n 3, 1) := by decide +kernel
theorem dX12_behindOne_12 : decode cX12_behindOne 12 = .ok (.ifCond .ge 7, 3) := by decide +kernel
theorem dX12_behindOne_15 : decode cX12_behindOne 15 = .ok (.iconst (-1), 1) := by decide +kernel
theorem dX12_behindOne_16 : decode cX12_behindOne 16 = .ok (.goto 9, 3) := by decide +kernel
theorem dX12_behindOne_19 : decode cX12_behindOne 19 = .ok (.aload_n 0, 1) := by decide +kernel
theorem dX12_behindOne_20 : decode cX12_behindOne 20 = .ok (.getfield 29, 3) := by decide +kernel
theorem dX12_behindOne_23 : decode cX12_behindOne 23 = .ok (.iload_n 3, 1) := by decide +kernel
theorem dX12_behindOne_24 : decode cX12_behindOne 24 = .ok (.iaload, 1) := by decide +kernel
theorem dX12_behindOne_25 : decode cX12_behindOne 25 = .ok (.istore 4, 2) := by decide +kernel
theorem dX12_behindOne_27 : decode cX12_behindOne 27 = .ok (.iload_n 2, 1) := by decide +kernel
theorem dX12_behindOne_28 : decode cX12_behindOne 28 = .ok (.ifCond .lt 24, 3) := by decide +kernel
theorem dX12_behindOne_31 : decode cX12_behindOne 31 = .ok (.aload_n 0, 1) := by decide +kernel
theorem dX12_behindOne_32 : decode cX12_behindOne 32 = .ok (.iload_n 2, 1) := by decide +kernel
theorem dX12_behindOne_33 : decode cX12_behindOne 33 = .ok (.invokestatic 166, 3) := by decide +kernel
theorem dX12_behindOne_36 : decode cX12_behindOne 36 = .ok (.invokevirtual 180, 3) := by decide +kernel
theorem dX12_behindOne_39 : decode cX12_behindOne 39 = .ok (.aload_n 0, 1) := by decide +kernel
theorem dX12_behindOne_40 : decode cX12_behindOne 40 = .ok (.iload_n 2, 1) := by decide +kernel
theorem dX12_behindOne_41 : decode cX12_behindOne 41 = .ok (.invokevirtual 191, 3) := by decide +kernel
theorem dX12_behindOne_44 : decode cX12_behindOne 44 = .ok (.aload_n 0, 1) := by decide +kernel
theorem dX12_behindOne_45 : decode cX12_behindOne 45 = .ok (.iconst 0, 1) := by decide +kernel
theorem dX12_behindOne_46 : decode cX12_behindOne 46 = .ok (.putfield 176, 3) := by decide +kernel
theorem dX12_behindOne_49 : decode cX12_behindOne 49 = .ok (.goto 152, 3) := by decide +kernel
theorem dX12_behindOne_52 : decode cX12_behindOne 52 = .ok (.aload_n 0, 1) := by decide +kernel
theorem dX12_behindOne_53 : decode cX12_behindOne 53 = .ok (.getfield 132, 3) := by decide +kernel
theorem dX12_behindOne_56 : decode cX12_behindOne 56 = .ok (.bipush 41, 2) := by decide +kernel
theorem dX12_behindOne_58 : decode cX12_behindOne 58 = .ok (.if_icmp .ne 10, 3) := by decide +kernel
theorem dX12_behindOne_61 : decode cX12_behindOne 61 = .ok (.iload 4, 2) := by decide +kernel
theorem dX12_behindOne_63 : decode cX12_behindOne 63 = .ok (.bipush 40, 2) := by decide +kernel
theorem dX12_behindOne_65 : decode cX12_behindOne 65 = .ok (.if_icmp .eq 26, 3) := by decide +kernel
theorem dX12_behindOne_68 : decode cX12_behindOne 68 = .ok (.aload_n 0, 1) := by decide +kernel
theorem dX12_behindOne_69 : decode cX12_behindOne 69 = .ok (.bipush 101, 2) := by decide +kernel
theorem dX12_behindOne_71 : decode cX12_behindOne 71 = .ok (.bipush 110, 2) := by decide +kernel
theorem dX12_behindOne_73 : decode cX12_behindOne 73 = .ok (.bipush 100, 2) := by decide +kernel
theorem dX12_behindOne_75 : decode cX12_behindOne 75 = .ok (.invokestatic 149, 3) := by decide +kernel
theorem dX12_behindOne_78 : decode cX12_behindOne 78 = .ok (.invokevirtual 211, 3) := by decide +kernel
theorem dX12_behindOne_81 : decode cX12_behindOne 81 = .ok (.ifCond .eq 56, 3) := by decide +kernel
theorem dX12_behindOne_84 : decode cX12_behindOne 84 = .ok (.iload 4, 2) := by decide +kernel
theorem dX12_behindOne_86 : decode cX12_behindOne 86 = .ok (.bipush 43, 2) := by decide +kernel
theorem dX12_behindOne_88 : decode cX12_behindOne 88 = .ok (.if_icmp .ne 49, 3) := by decide +kernel
theorem dX12_behindOne_91 : decode cX12_behindOne 91 = .ok (.aload_n 0, 1) := by decide +kernel
theorem dX12_behindOne_92 : decode cX12_behindOne 92 = .ok (.iconst 1, 1) := by decide +kernel
theorem dX12_behindOne_93 : decode cX12_behindOne 93 = .ok (.invokevirtual 180, 3) := by decide +kernel
theorem dX12_behindOne_96 : decode cX12_behindOne 96 = .ok (.aload_n 0, 1) := by decide +kernel
theorem dX12_behindOne_97 : decode cX12_behindOne 97 = .ok (.dup, 1) := by decide +kernel
theorem dX12_behindOne_98 : decode cX12_behindOne 98 = .ok (.getfield 163, 3) := by decide +kernel
theorem dX12_behindOne_101 : decode cX12_behindOne 101 = .ok (.iconst 1, 1) := by decide +kernel
theorem dX12_behindOne_102 : decode cX12_behindOne 102 = .ok (.isub, 1) := by decide +kernel
theorem dX12_behindOne_103 : decode cX12_behindOne 103 = .ok (.putfield 163, 3) := by decide +kernel
theorem dX12_behindOne_106 : decode cX12_behindOne 106 = .ok (.aload_n 0, 1) := by decide +kernel
theorem dX12_behindOne_107 : decode cX12_behindOne 107 = .ok (.dup, 1) := by decide +kernel
theorem dX12_behindOne_108 : decode cX12_behindOne 108 = .ok (.getfield 173, 3) := by decide +kernel
theorem dX12_behindOne_111 : decode cX12_behindOne 111 = .ok (.iconst 1, 1) := by decide +kernel
theorem dX12_behindOne_112 : decode cX12_behindOne 112 = .ok (.isub, 1) := by decide +kernel
theorem dX12_behindOne_113 : decode cX12_behindOne 113 = .ok (.putfield 173, 3) := by decide +kernel
theorem dX12_behindOne_116 : decode cX12_behindOne 116 = .ok (.iload 4, 2) := by decide +kernel
theorem dX12_behindOne_118 : decode cX12_behindOne 118 = .ok (.bipush 43, 2) := by decide +kernel
theorem dX12_behindOne_120 : decode cX12_behindOne 120 = .ok (.if_icmp .ne 10, 3) := by decide +kernel
theorem dX12_behindOne_123 : decode cX12_behindOne 123 = .ok (.aload_n 0, 1) := by decide +kernel
theorem dX12_behindOne_124 : decode cX12_behindOne 124 = .ok (.bipush 23, 2) := by decide +kernel
theorem dX12_behindOne_126 : decode cX12_behindOne 126 = .ok (.iconst 0, 1) := by decide +kernel
theorem dX12_behindOne_127 : decode cX12_behindOne 127 = .ok (.invokevirtual 169, 3) := by decide +kernel
theorem dX12_behindOne_130 : decode cX12_behindOne 130 = .ok (.aload_n 0, 1) := by decide +kernel
theorem dX12_behindOne_131 : decode cX12_behindOne 131 = .ok (.invokevirtual 203, 3) := by decide +kernel
theorem dX12_behindOne_134 : decode cX12_behindOne 134 = .ok (.goto 67, 3) := by decide +kernel
theorem dX12_behindOne_137 : decode cX12_behindOne 137 = .ok (.aload_n 0, 1) := by decide +kernel
theorem dX12_behindOne_138 : decode cX12_behindOne 138 = .ok (.getfield 132, 3) := by decide +kernel
theorem dX12_behindOne_141 : decode cX12_behindOne 141 = .ok (.bipush 63, 2) := by decide +kernel
theorem dX12_behindOne_143 : decode cX12_behindOne 143 = .ok (.if_icmp .ne 17, 3) := by decide +kernel
theorem dX12_behindOne_146 : decode cX12_behindOne 146 = .ok (.iload 4, 2) := by decide +kernel
theorem dX12_behindOne_148 : decode cX12_behindOne 148 = .ok (.bipush 41, 2) := by decide +kernel
theorem dX12_behindOne_150 : decode cX12_behindOne 150 = .ok (.if_icmp .ne 10, 3) := by decide +kernel
theorem dX12_behindOne_153 : decode cX12_behindOne 153 = .ok (.aload_n 0, 1) := by decide +kernel
theorem dX12_behindOne_154 : decode cX12_behindOne 154 = .ok (.invokevirtual 219, 3) := by decide +kernel
theorem dX12_behindOne_157 : decode cX12_behindOne 157 = .ok (.ifCond .ne 19, 3) := by decide +kernel
theorem dX12_behindOne_160 : decode cX12_behindOne 160 = .ok (.aload_n 0, 1) := by decide +kernel
theorem dX12_behindOne_161 : decode cX12_behindOne 161 = .ok (.getfield 132, 3) := by decide +kernel
theorem dX12_behindOne_164 : decode cX12_behindOne 164 = .ok (.bipush 58, 2) := by decide +kernel
theorem dX12_behindOne_166 : decode cX12_behindOne 166 = .ok (.if_icmp .ne 33, 3) := by decide +kernel
theorem dX12_behindOne_169 : decode cX12_behindOne 169 = .ok (.iload 4, 2) := by decide +kernel
theorem dX12_behindOne_171 : decode cX12_behindOne 171 = .ok (.bipush 42, 2) := by decide +kernel
theorem dX12_behindOne_173 : decode cX12_behindOne 173 = .ok (.if_icmp .ne 26, 3) := by decide +kernel
theorem dX12_behindOne_176 : decode cX12_behindOne 176 = .ok (.aload_n 0, 1) := by decide +kernel
theorem dX12_behindOne_177 : decode cX12_behindOne 177 = .ok (.iconst 1, 1) := by decide +kernel
theorem dX12_behindOne_178 : decode cX12_behindOne 178 = .ok (.invokevirtual 180, 3) := by decide +kernel
theorem dX12_behindOne_181 : decode cX12_behindOne 181 = .ok (.aload_n 0, 1) := by decide +kernel
theorem dX12_behindOne_182 : decode cX12_behindOne 182 = .ok (.getfield 29, 3) := by decide +kernel
theorem dX12_behindOne_185 : decode cX12_behindOne 185 = .ok (.iload_n 3, 1) := by decide +kernel
theorem dX12_behindOne_186 : decode cX12_behindOne 186 = .ok (.iload 4, 2) := by decide +kernel
theorem dX12_behindOne_188 : decode cX12_behindOne 188 = .ok (.iconst 1, 1) := by decide +kernel
theorem dX12_behindOne_189 : decode cX12_behindOne 189 = .ok (.iadd, 1) := by decide +kernel
theorem dX12_behindOne_190 : decode cX12_behindOne 190 = .ok (.iastore, 1) := by decide +kernel
theorem dX12_behindOne_191 : decode cX12_behindOne 191 = .ok (.aload_n 0, 1) := by decide +kernel
theorem dX12_behindOne_192 : decode cX12_behindOne 192 = .ok (.iconst 0, 1) := by decide +kernel
theorem dX12_behindOne_193 : decode cX12_behindOne 193 = .ok (.putfield 176, 3) := by decide +kernel
theorem dX12_behindOne_196 : decode cX12_behindOne 196 = .ok (.goto 5, 3) := by decide +kernel
theorem dX12_behindOne_199 : decode cX12_behindOne 199 = .ok (.iconst 0, 1) := by decide +kernel
theorem dX12_behindOne_200 : decode cX12_behindOne 200 = .ok (.ireturn, 1) := by decide +kernel
theorem dX12_behindOne_201 : decode cX12_behindOne 201 = .ok (.aload_n 0, 1) := by decide +kernel
theorem dX12_behindOne_202 : decode cX12_behindOne 202 = .ok (.invokevirtual 194, 3) := by decide +kernel
theorem dX12_behindOne_205 : decode cX12_behindOne 205 = .ok (.iconst 1, 1) := by decide +kernel
theorem dX12_behindOne_206 : decode cX12_behindOne 206 = .ok (.ireturn, 1) := by decide +kernel
theorem dX12_parsed_0 : decode cX12_parsed 0 = .ok (.aload_n 0, 1) := by decide +kernel
theorem dX12_parsed_1 : decode cX12_parsed 1 = .ok (.iconst 0, 1) := by decide +kernel
theorem dX12_parsed_2 : decode cX12_parsed 2 = .ok (.putfield 163, 3) := by decide +kernel
theorem dX12_parsed_5 : decode cX12_parsed 5 = .ok (.aload_n 0, 1) := by decide +kernel
theorem dX12_parsed_6 : decode cX12_parsed 6 = .ok (.iconst 0, 1) := by decide +kernel
theorem dX12_parsed_7 : decode cX12_parsed 7 = .ok (.putfield 176, 3) := by decide +kernel
theorem dX12_parsed_10 : decode cX12_parsed 10 = .ok (.iconst 1, 1) := by decide +kernel
theorem dX12_parsed_11 : decode cX12_parsed 11 = .ok (.istore_n 2, 1) := by decide +kernel
theorem dX12_parsed_12 : decode cX12_parsed 12 = .ok (.iload_n 2, 1) := by decide +kernel
theorem dX12_parsed_13 : decode cX12_parsed 13 = .ok (.ifCond .eq 34, 3) := by decide +kernel
theorem dX12_parsed_16 : decode cX12_parsed 16 = .ok (.aload_n 0, 1) := by decide +kernel
theorem dX12_parsed_17 : decode cX12_parsed 17 = .ok (.getfield 176, 3) := by decide +kernel
theorem dX12_parsed_20 : decode cX12_parsed 20 = .ok (.ifCond .eq 12, 3) := by decide +kernel
theorem dX12_parsed_23 : decode cX12_parsed 23 = .ok (.aload_n 0, 1) := by decide +kernel
theorem dX12_parsed_24 : decode cX12_parsed 24 = .ok (.iload_n 1, 1) := by decide +kernel
theorem dX12_parsed_25 : decode cX12_parsed 25 = .ok (.invokevirtual 231, 3) := by decide +kernel
theorem dX12_parsed_28 : decode cX12_parsed 28 = .ok (.istore_n 2, 1) := by decide +kernel
theorem dX12_parsed_29 : decode cX12_parsed 29 = .ok (.goto (-17), 3) := by decide +kernel
theorem dX12_parsed_32 : decode cX12_parsed 32 = .ok (.aload_n 0, 1) := by decide +kernel
theorem dX12_parsed_33 : decode cX12_parsed 33 = .ok (.iload_n 1, 1) := by decide +kernel
theorem dX12_parsed_34 : decode cX12_parsed 34 = .ok (.invokevirtual 234, 3) := by decide +kernel
theorem dX12_parsed_37 : decode cX12_parsed 37 = .ok (.istore_n 3, 1) := by decide +kernel
theorem dX12_parsed_38 : decode cX12_parsed 38 = .ok (.iload_n 3, 1) := by decide +kernel
theorem dX12_parsed_39 : decode cX12_parsed 39 = .ok (.ifCond .eq 5, 3) := by decide +kernel
theorem dX12_parsed_42 : decode cX12_parsed 42 = .ok (.iload_n 3, 1) := by decide +kernel
theorem dX12_parsed_43 : decode cX12_parsed 43 = .ok (.ireturn, 1) := by decide +kernel
theorem dX12_parsed_44 : decode cX12_parsed 44 = .ok (.goto (-32), 3) := by decide +kernel
theorem dX12_parsed_47 : decode cX12_parsed 47 = .ok (.aload_n 0, 1) := by decide +kernel
theorem dX12_parsed_48 : decode cX12_parsed 48 = .ok (.invokevirtual 183, 3) := by decide +kernel
theorem dX12_parsed_51 : decode cX12_parsed 51 = .ok (.ifCond .ge 14, 3) := by decide +kernel
theorem dX12_parsed_54 : decode cX12_parsed 54 = .ok (.iload_n 1, 1) := by decide +kernel
theorem dX12_parsed_55 : decode cX12_parsed 55 = .ok (.ifCond .eq 12, 3) := by decide +kernel
theorem dX12_parsed_58 : decode cX12_parsed 58 = .ok (.aload_n 0, 1) := by decide +kernel
theorem dX12_parsed_59 : decode cX12_parsed 59 = .ok (.invokevirtual 219, 3) := by decide +kernel
theorem dX12_parsed_62 : decode cX12_parsed 62 = .ok (.ifCond .ne 5, 3) := by decide +kernel
theorem dX12_parsed_65 : decode cX12_parsed 65 = .ok (.iconst 1, 1) := by decide +kernel
theorem dX12_parsed_66 : decode cX12_parsed 66 = .ok (.ireturn, 1) := by decide +kernel
theorem dX12_parsed_67 : decode cX12_parsed 67 = .ok (.aload_n 0, 1) := by decide +kernel
theorem dX12_parsed_68 : decode cX12_parsed 68 = .ok (.iconst 1, 1) := by decide +kernel
theorem dX12_parsed_69 : decode cX12_parsed 69 = .ok (.invokevirtual 180, 3) := by decide +kernel
theorem dX12_parsed_72 : decode cX12_parsed 72 = .ok (.iconst 0, 1) := by decide +kernel
theorem dX12_parsed_73 : decode cX12_parsed 73 = .ok (.ireturn, 1) := by decide +kernel
theorem dX12_nameOf_0 : decode cX12_nameOf 0 = .ok (.aload_n 0, 1) := by decide +kernel
theorem dX12_nameOf_1 : decode cX12_nameOf 1 = .ok (.getfield 132, 3) := by decide +kernel
theorem dX12_nameOf_4 : decode cX12_nameOf 4 = .ok (.iconst 2, 1) := by decide +kernel
theorem dX12_nameOf_5 : decode cX12_nameOf 5 = .ok (.if_icmp .eq 5, 3) := by decide +kernel
theorem dX12_nameOf_8 : decode cX12_nameOf 8 = .ok (.iconst (-1), 1) := by decide +kernel
theorem dX12_nameOf_9 : decode cX12_nameOf 9 = .ok (.ireturn, 1) := by decide +kernel
theorem dX12_nameOf_10 : decode cX12_nameOf 10 = .ok (.aload_n 0, 1) := by decide +kernel
theorem dX12_nameOf_11 : decode cX12_nameOf 11 = .ok (.getfield 145, 3) := by decide +kernel
theorem dX12_nameOf_14 : decode cX12_nameOf 14 = .ok (.bipush 116, 2) := by decide +kernel
theorem dX12_nameOf_16 : decode cX12_nameOf 16 = .ok (.bipush 97, 2) := by decide +kernel
theorem dX12_nameOf_18 : decode cX12_nameOf 18 = .ok (.bipush 112, 2) := by decide +kernel
theorem dX12_nameOf_20 : decode cX12_nameOf 20 = .ok (.invokestatic 149, 3) := by decide +kernel
theorem dX12_nameOf_23 : decode cX12_nameOf 23 = .ok (.lcmp, 1) := by decide +kernel
theorem dX12_nameOf_24 : decode cX12_nameOf 24 = .ok (.ifCond .ne 5, 3) := by decide +kernel
theorem dX12_nameOf_27 : decode cX12_nameOf 27 = .ok (.iconst 0, 1) := by decide +kernel
theorem dX12_nameOf_28 : decode cX12_nameOf 28 = .ok (.ireturn, 1) := by decide +kernel
theorem dX12_nameOf_29 : decode cX12_nameOf 29 = .ok (.aload_n 0, 1) := by decide +kernel
theorem dX12_nameOf_30 : decode cX12_nameOf 30 = .ok (.getfield 145, 3) := by decide +kernel
theorem dX12_nameOf_33 : decode cX12_nameOf 33 = .ok (.bipush 104, 2) := by decide +kernel
theorem dX12_nameOf_35 : decode cX12_nameOf 35 = .ok (.bipush 101, 2) := by decide +kernel
theorem dX12_nameOf_37 : decode cX12_nameOf 37 = .ok (.bipush 97, 2) := by decide +kernel
theorem dX12_nameOf_39 : decode cX12_nameOf 39 = .ok (.invokestatic 149, 3) := by decide +kernel
theorem dX12_nameOf_42 : decode cX12_nameOf 42 = .ok (.bipush 32, 2) := by decide +kernel
theorem dX12_nameOf_44 : decode cX12_nameOf 44 = .ok (.lshl, 1) := by decide +kernel
theorem dX12_nameOf_45 : decode cX12_nameOf 45 = .ok (.bipush 100, 2) := by decide +kernel
theorem dX12_nameOf_47 : decode cX12_nameOf 47 = .ok (.bipush 105, 2) := by decide +kernel
theorem dX12_nameOf_49 : decode cX12_nameOf 49 = .ok (.bipush 110, 2) := by decide +kernel
theorem dX12_nameOf_51 : decode cX12_nameOf 51 = .ok (.bipush 103, 2) := by decide +kernel
theorem dX12_nameOf_53 : decode cX12_nameOf 53 = .ok (.invokestatic 237, 3) := by decide +kernel
theorem dX12_nameOf_56 : decode cX12_nameOf 56 = .ok (.lor, 1) := by decide +kernel
theorem dX12_nameOf_57 : decode cX12_nameOf 57 = .ok (.lcmp, 1) := by decide +kernel
theorem dX12_nameOf_58 : decode cX12_nameOf 58 = .ok (.ifCond .ne 5, 3) := by decide +kernel
theorem dX12_nameOf_61 : decode cX12_nameOf 61 = .ok (.iconst 1, 1) := by decide +kernel
theorem dX12_nameOf_62 : decode cX12_nameOf 62 = .ok (.ireturn, 1) := by decide +kernel
theorem dX12_nameOf_63 : decode cX12_nameOf 63 = .ok (.aload_n 0, 1) := by decide +kernel
theorem dX12_nameOf_64 : decode cX12_nameOf 64 = .ok (.getfield 145, 3) := by decide +kernel
theorem dX12_nameOf_67 : decode cX12_nameOf 67 = .ok (.ldc2_w 241, 3) := by decide +kernel
theorem dX12_nameOf_70 : decode cX12_nameOf 70 = .ok (.lcmp, 1) := by decide +kernel
theorem dX12_nameOf_71 : decode cX12_nameOf 71 = .ok (.ifCond .ne 5, 3) := by decide +kernel
theorem dX12_nameOf_74 : decode cX12_nameOf 74 = .ok (.iconst 2, 1) := by decide +kernel
theorem dX12_nameOf_75 : decode cX12_nameOf 75 = .ok (.ireturn, 1) := by decide +kernel
theorem dX12_nameOf_76 : decode cX12_nameOf 76 = .ok (.aload_n 0, 1) := by decide +kernel
theorem dX12_nameOf_77 : decode cX12_nameOf 77 = .ok (.getfield 145, 3) := by decide +kernel
theorem dX12_nameOf_80 : decode cX12_nameOf 80 = .ok (.ldc2_w 243, 3) := by decide +kernel
theorem dX12_nameOf_83 : decode cX12_nameOf 83 = .ok (.lcmp, 1) := by decide +kernel
theorem dX12_nameOf_84 : decode cX12_nameOf 84 = .ok (.ifCond .ne 5, 3) := by decide +kernel
theorem dX12_nameOf_87 : decode cX12_nameOf 87 = .ok (.iconst 3, 1) := by decide +kernel
theorem dX12_nameOf_88 : decode cX12_nameOf 88 = .ok (.ireturn, 1) := by decide +kernel
theorem dX12_nameOf_89 : decode cX12_nameOf 89 = .ok (.aload_n 0, 1) := by decide +kernel
theorem dX12_nameOf_90 : decode cX12_nameOf 90 = .ok (.getfield 145, 3) := by decide +kernel
theorem dX12_nameOf_93 : decode cX12_nameOf 93 = .ok (.bipush 104, 2) := by decide +kernel
theorem dX12_nameOf_95 : decode cX12_nameOf 95 = .ok (.bipush 101, 2) := by decide +kernel
theorem dX12_nameOf_97 : decode cX12_nameOf 97 = .ok (.bipush 114, 2) := by decide +kernel
theorem dX12_nameOf_99 : decode cX12_nameOf 99 = .ok (.bipush 101, 2) := by decide +kernel
theorem dX12_nameOf_101 : decode cX12_nameOf 101 = .ok (.invokestatic 237, 3) := by decide +kernel
theorem dX12_nameOf_104 : decode cX12_nameOf 104 = .ok (.lcmp, 1) := by decide +kernel
theorem dX12_nameOf_105 : decode cX12_nameOf 105 = .ok (.ifCond .ne 5, 3) := by decide +kernel
theorem dX12_nameOf_108 : decode cX12_nameOf 108 = .ok (.iconst 4, 1) := by decide +kernel
theorem dX12_nameOf_109 : decode cX12_nameOf 109 = .ok (.ireturn, 1) := by decide +kernel
theorem dX12_nameOf_110 : decode cX12_nameOf 110 = .ok (.aload_n 0, 1) := by decide +kernel
theorem dX12_nameOf_111 : decode cX12_nameOf 111 = .ok (.getfield 145, 3) := by decide +kernel
theorem dX12_nameOf_114 : decode cX12_nameOf 114 = .ok (.bipush 97, 2) := by decide +kernel
theorem dX12_nameOf_116 : decode cX12_nameOf 116 = .ok (.bipush 104, 2) := by decide +kernel
theorem dX12_nameOf_118 : decode cX12_nameOf 118 = .ok (.bipush 101, 2) := by decide +kernel
theorem dX12_nameOf_120 : decode cX12_nameOf 120 = .ok (.bipush 97, 2) := by decide +kernel
theorem dX12_nameOf_122 : decode cX12_nameOf 122 = .ok (.bipush 100, 2) := by decide +kernel
theorem dX12_nameOf_124 : decode cX12_nameOf 124 = .ok (.invokestatic 153, 3) := by decide +kernel
theorem dX12_nameOf_127 : decode cX12_nameOf 127 = .ok (.lcmp, 1) := by decide +kernel
theorem dX12_nameOf_128 : decode cX12_nameOf 128 = .ok (.ifCond .ne 5, 3) := by decide +kernel
theorem dX12_nameOf_131 : decode cX12_nameOf 131 = .ok (.iconst 5, 1) := by decide +kernel
theorem dX12_nameOf_132 : decode cX12_nameOf 132 = .ok (.ireturn, 1) := by decide +kernel
theorem dX12_nameOf_133 : decode cX12_nameOf 133 = .ok (.aload_n 0, 1) := by decide +kernel
theorem dX12_nameOf_134 : decode cX12_nameOf 134 = .ok (.getfield 145, 3) := by decide +kernel
theorem dX12_nameOf_137 : decode cX12_nameOf 137 = .ok (.bipush 114, 2) := by decide +kernel
theorem dX12_nameOf_139 : decode cX12_nameOf 139 = .ok (.bipush 105, 2) := by decide +kernel
theorem dX12_nameOf_141 : decode cX12_nameOf 141 = .ok (.bipush 100, 2) := by decide +kernel
theorem dX12_nameOf_143 : decode cX12_nameOf 143 = .ok (.bipush 101, 2) := by decide +kernel
theorem dX12_nameOf_145 : decode cX12_nameOf 145 = .ok (.bipush 114, 2) := by decide +kernel
theorem dX12_nameOf_147 : decode cX12_nameOf 147 = .ok (.invokestatic 153, 3) := by decide +kernel
theorem dX12_nameOf_150 : decode cX12_nameOf 150 = .ok (.lcmp, 1) := by decide +kernel
theorem dX12_nameOf_151 : decode cX12_nameOf 151 = .ok (.ifCond .ne 6, 3) := by decide +kernel
theorem dX12_nameOf_154 : decode cX12_nameOf 154 = .ok (.bipush 6, 2) := by decide +kernel
theorem dX12_nameOf_156 : decode cX12_nameOf 156 = .ok (.ireturn, 1) := by decide +kernel
theorem dX12_nameOf_157 : decode cX12_nameOf 157 = .ok (.aload_n 0, 1) := by decide +kernel
theorem dX12_nameOf_158 : decode cX12_nameOf 158 = .ok (.getfield 145, 3) := by decide +kernel
theorem dX12_nameOf_161 : decode cX12_nameOf 161 = .ok (.bipush 99, 2) := by decide +kernel
theorem dX12_nameOf_163 : decode cX12_nameOf 163 = .ok (.bipush 97, 2) := by decide +kernel
theorem dX12_nameOf_165 : decode cX12_nameOf 165 = .ok (.bipush 114, 2) := by decide +kernel
theorem dX12_nameOf_167 : decode cX12_nameOf 167 = .ok (.invokestatic 149, 3) := by decide +kernel
theorem dX12_nameOf_170 : decode cX12_nameOf 170 = .ok (.bipush 32, 2) := by decide +kernel
theorem dX12_nameOf_172 : decode cX12_nameOf 172 = .ok (.lshl, 1) := by decide +kernel
theorem dX12_nameOf_173 : decode cX12_nameOf 173 = .ok (.bipush 114, 2) := by decide +kernel
theorem dX12_nameOf_175 : decode cX12_nameOf 175 = .ok (.bipush 105, 2) := by decide +kernel
theorem dX12_nameOf_177 : decode cX12_nameOf 177 = .ok (.bipush 101, 2) := by decide +kernel
theorem dX12_nameOf_179 : decode cX12_nameOf 179 = .ok (.bipush 114, 2) := by decide +kernel
theorem dX12_nameOf_181 : decode cX12_nameOf 181 = .ok (.invokestatic 237, 3) := by decide +kernel
theorem dX12_nameOf_184 : decode cX12_nameOf 184 = .ok (.lor, 1) := by decide +kernel
theorem dX12_nameOf_185 : decode cX12_nameOf 185 = .ok (.lcmp, 1) := by decide +kernel
theorem dX12_nameOf_186 : decode cX12_nameOf 186 = .ok (.ifCond .ne 6, 3) := by decide +kernel
theorem dX12_nameOf_189 : decode cX12_nameOf 189 = .ok (.bipush 7, 2) := by decide +kernel
theorem dX12_nameOf_191 : decode cX12_nameOf 191 = .ok (.ireturn, 1) := by decide +kernel
theorem dX12_nameOf_192 : decode cX12_nameOf 192 = .ok (.aload_n 0, 1) := by decide +kernel
theorem dX12_nameOf_193 : decode cX12_nameOf 193 = .ok (.getfield 145, 3) := by decide +kernel
theorem dX12_nameOf_196 : decode cX12_nameOf 196 = .ok (.bipush 115, 2) := by decide +kernel
theorem dX12_nameOf_198 : decode cX12_nameOf 198 = .ok (.bipush 105, 2) := by decide +kernel
theorem dX12_nameOf_200 : decode cX12_nameOf 200 = .ok (.bipush 103, 2) := by decide +kernel
theorem dX12_nameOf_202 : decode cX12_nameOf 202 = .ok (.bipush 104, 2) := by decide +kernel
theorem dX12_nameOf_204 : decode cX12_nameOf 204 = .ok (.bipush 116, 2) := by decide +kernel
theorem dX12_nameOf_206 : decode cX12_nameOf 206 = .ok (.invokestatic 153, 3) := by decide +kernel
theorem dX12_nameOf_209 : decode cX12_nameOf 209 = .ok (.lcmp, 1) := by decide +kernel
theorem dX12_nameOf_210 : decode cX12_nameOf 210 = .ok (.ifCond .ne 6, 3) := by decide +kernel
theorem dX12_nameOf_213 : decode cX12_nameOf 213 = .ok (.bipush 8, 2) := by decide +kernel
theorem dX12_nameOf_215 : decode cX12_nameOf 215 = .ok (.ireturn, 1) := by decide +kernel
theorem dX12_nameOf_216 : decode cX12_nameOf 216 = .ok (.aload_n 0, 1) := by decide +kernel
theorem dX12_nameOf_217 : decode cX12_nameOf 217 = .ok (.getfield 145, 3) := by decide +kernel
theorem dX12_nameOf_220 : decode cX12_nameOf 220 = .ok (.bipush 112, 2) := by decide +kernel
theorem dX12_nameOf_222 : decode cX12_nameOf 222 = .ok (.bipush 97, 2) := by decide +kernel
theorem dX12_nameOf_224 : decode cX12_nameOf 224 = .ok (.bipush 99, 2) := by decide +kernel
theorem dX12_nameOf_226 : decode cX12_nameOf 226 = .ok (.bipush 101, 2) := by decide +kernel
theorem dX12_nameOf_228 : decode cX12_nameOf 228 = .ok (.invokestatic 237, 3) := by decide +kernel
theorem dX12_nameOf_231 : decode cX12_nameOf 231 = .ok (.lcmp, 1) := by decide +kernel
theorem dX12_nameOf_232 : decode cX12_nameOf 232 = .ok (.ifCond .ne 8, 3) := by decide +kernel
theorem dX12_nameOf_235 : decode cX12_nameOf 235 = .ok (.bipush 9, 2) := by decide +kernel
theorem dX12_nameOf_237 : decode cX12_nameOf 237 = .ok (.goto 28, 3) := by decide +kernel
theorem dX12_nameOf_240 : decode cX12_nameOf 240 = .ok (.aload_n 0, 1) := by decide +kernel
theorem dX12_nameOf_241 : decode cX12_nameOf 241 = .ok (.getfield 145, 3) := by decide +kernel
theorem dX12_nameOf_244 : decode cX12_nameOf 244 = .ok (.bipush 97, 2) := by decide +kernel
theorem dX12_nameOf_246 : decode cX12_nameOf 246 = .ok (.bipush 115, 2) := by decide +kernel
theorem dX12_nameOf_248 : decode cX12_nameOf 248 = .ok (.bipush 107, 2) := by decide +kernel
theorem dX12_nameOf_250 : decode cX12_nameOf 250 = .ok (.bipush 115, 2) := by decide +kernel
theorem dX12_nameOf_252 : decode cX12_nameOf 252 = .ok (.invokestatic 237, 3) := by decide +kernel
theorem dX12_nameOf_255 : decode cX12_nameOf 255 = .ok (.lcmp, 1) := by decide +kernel
theorem dX12_nameOf_256 : decode cX12_nameOf 256 = .ok (.ifCond .ne 8, 3) := by decide +kernel
theorem dX12_nameOf_259 : decode cX12_nameOf 259 = .ok (.bipush 10, 2) := by decide +kernel
theorem dX12_nameOf_261 : decode cX12_nameOf 261 = .ok (.goto 4, 3) := by decide +kernel
theorem dX12_nameOf_264 : decode cX12_nameOf 264 = .ok (.iconst (-1), 1) := by decide +kernel
theorem dX12_nameOf_265 : decode cX12_nameOf 265 = .ok (.ireturn, 1) := by decide +kernel
theorem dX12_isOf_0 : decode cX12_isOf 0 = .ok (.aload_n 0, 1) := by decide +kernel
theorem dX12_isOf_1 : decode cX12_isOf 1 = .ok (.getfield 245, 3) := by decide +kernel
theorem dX12_isOf_4 : decode cX12_isOf 4 = .ok (.iconst 2, 1) := by decide +kernel
theorem dX12_isOf_5 : decode cX12_isOf 5 = .ok (.if_icmp .ne 16, 3) := by decide +kernel
theorem dX12_isOf_8 : decode cX12_isOf 8 = .ok (.iload_n 1, 1) := by decide +kernel
theorem dX12_isOf_9 : decode cX12_isOf 9 = .ok (.iconst 5, 1) := by decide +kernel
theorem dX12_isOf_10 : decode cX12_isOf 10 = .ok (.if_icmp .le 7, 3) := by decide +kernel
theorem dX12_isOf_13 : decode cX12_isOf 13 = .ok (.iconst 1, 1) := by decide +kernel
theorem dX12_isOf_14 : decode cX12_isOf 14 = .ok (.goto 18, 3) := by decide +kernel
theorem dX12_isOf_17 : decode cX12_isOf 17 = .ok (.iconst 0, 1) := by decide +kernel
theorem dX12_isOf_18 : decode cX12_isOf 18 = .ok (.goto 14, 3) := by decide +kernel
theorem dX12_isOf_21 : decode cX12_isOf 21 = .ok (.iload_n 1, 1) := by decide +kernel
theorem dX12_isOf_22 : decode cX12_isOf 22 = .ok (.bipush 6, 2) := by decide +kernel
theorem dX12_isOf_24 : decode cX12_isOf 24 = .ok (.if_icmp .ge 7, 3) := by decide +kernel
theorem dX12_isOf_27 : decode cX12_isOf 27 = .ok (.iconst 1, 1) := by decide +kernel
theorem dX12_isOf_28 : decode cX12_isOf 28 = .ok (.goto 4, 3) := by decide +kernel
theorem dX12_isOf_31 : decode cX12_isOf 31 = .ok (.iconst 0, 1) := by decide +kernel
theorem dX12_isOf_32 : decode cX12_isOf 32 = .ok (.ireturn, 1) := by decide +kernel
theorem dX12_sortOf_0 : decode cX12_sortOf 0 = .ok (.aload_n 0, 1) := by decide +kernel
theorem dX12_sortOf_1 : decode cX12_sortOf 1 = .ok (.bipush 100, 2) := by decide +kernel
theorem dX12_sortOf_3 : decode cX12_sortOf 3 = .ok (.bipush 111, 2) := by decide +kernel
theorem dX12_sortOf_5 : decode cX12_sortOf 5 = .ok (.bipush 101, 2) := by decide +kernel
theorem dX12_sortOf_7 : decode cX12_sortOf 7 = .ok (.bipush 115, 2) := by decide +kernel
theorem dX12_sortOf_9 : decode cX12_sortOf 9 = .ok (.invokestatic 237, 3) := by decide +kernel
theorem dX12_sortOf_12 : decode cX12_sortOf 12 = .ok (.invokevirtual 211, 3) := by decide +kernel
theorem dX12_sortOf_15 : decode cX12_sortOf 15 = .ok (.ifCond .eq 5, 3) := by decide +kernel
theorem dX12_sortOf_18 : decode cX12_sortOf 18 = .ok (.iconst 0, 1) := by decide +kernel
theorem dX12_sortOf_19 : decode cX12_sortOf 19 = .ok (.ireturn, 1) := by decide +kernel
theorem dX12_sortOf_20 : decode cX12_sortOf 20 = .ok (.aload_n 0, 1) := by decide +kernel
theorem dX12_sortOf_21 : decode cX12_sortOf 21 = .ok (.bipush 102, 2) := by decide +kernel
theorem dX12_sortOf_23 : decode cX12_sortOf 23 = .ok (.bipush 101, 2) := by decide +kernel
theorem dX12_sortOf_25 : decode cX12_sortOf 25 = .ok (.bipush 97, 2) := by decide +kernel
theorem dX12_sortOf_27 : decode cX12_sortOf 27 = .ok (.bipush 114, 2) := by decide +kernel
theorem dX12_sortOf_29 : decode cX12_sortOf 29 = .ok (.bipush 115, 2) := by decide +kernel
theorem dX12_sortOf_31 : decode cX12_sortOf 31 = .ok (.invokestatic 153, 3) := by decide +kernel
theorem dX12_sortOf_34 : decode cX12_sortOf 34 = .ok (.invokevirtual 211, 3) := by decide +kernel
theorem dX12_sortOf_37 : decode cX12_sortOf 37 = .ok (.ifCond .eq 7, 3) := by decide +kernel
theorem dX12_sortOf_40 : decode cX12_sortOf 40 = .ok (.iconst 1, 1) := by decide +kernel
theorem dX12_sortOf_41 : decode cX12_sortOf 41 = .ok (.goto 28, 3) := by decide +kernel
theorem dX12_sortOf_44 : decode cX12_sortOf 44 = .ok (.aload_n 0, 1) := by decide +kernel
theorem dX12_sortOf_45 : decode cX12_sortOf 45 = .ok (.bipush 108, 2) := by decide +kernel
theorem dX12_sortOf_47 : decode cX12_sortOf 47 = .ok (.bipush 105, 2) := by decide +kernel
theorem dX12_sortOf_49 : decode cX12_sortOf 49 = .ok (.bipush 107, 2) := by decide +kernel
theorem dX12_sortOf_51 : decode cX12_sortOf 51 = .ok (.bipush 101, 2) := by decide +kernel
theorem dX12_sortOf_53 : decode cX12_sortOf 53 = .ok (.bipush 115, 2) := by decide +kernel
theorem dX12_sortOf_55 : decode cX12_sortOf 55 = .ok (.invokestatic 153, 3) := by decide +kernel
theorem dX12_sortOf_58 : decode cX12_sortOf 58 = .ok (.invokevirtual 211, 3) := by decide +kernel
theorem dX12_sortOf_61 : decode cX12_sortOf 61 = .ok (.ifCond .eq 7, 3) := by decide +kernel
theorem dX12_sortOf_64 : decode cX12_sortOf 64 = .ok (.iconst 2, 1) := by decide +kernel
theorem dX12_sortOf_65 : decode cX12_sortOf 65 = .ok (.goto 4, 3) := by decide +kernel
theorem dX12_sortOf_68 : decode cX12_sortOf 68 = .ok (.iconst (-1), 1) := by decide +kernel
theorem dX12_sortOf_69 : decode cX12_sortOf 69 = .ok (.ireturn, 1) := by decide +kernel
theorem dX12_clause_0 : decode cX12_clause 0 = .ok (.aload_n 0, 1) := by decide +kernel
theorem dX12_clause_1 : decode cX12_clause 1 = .ok (.invokevirtual 248, 3) := by decide +kernel
theorem dX12_clause_4 : decode cX12_clause 4 = .ok (.istore_n 1, 1) := by decide +kernel
theorem dX12_clause_5 : decode cX12_clause 5 = .ok (.iload_n 1, 1) := by decide +kernel
theorem dX12_clause_6 : decode cX12_clause 6 = .ok (.ifCond .ge 5, 3) := by decide +kernel
theorem dX12_clause_9 : decode cX12_clause 9 = .ok (.iconst 1, 1) := by decide +kernel
theorem dX12_clause_10 : decode cX12_clause 10 = .ok (.ireturn, 1) := by decide +kernel
theorem dX12_clause_11 : decode cX12_clause 11 = .ok (.aload_n 0, 1) := by decide +kernel
theorem dX12_clause_12 : decode cX12_clause 12 = .ok (.getfield 251, 3) := by decide +kernel
theorem dX12_clause_15 : decode cX12_clause 15 = .ok (.iload_n 1, 1) := by decide +kernel
theorem dX12_clause_16 : decode cX12_clause 16 = .ok (.ishr, 1) := by decide +kernel
theorem dX12_clause_17 : decode cX12_clause 17 = .ok (.iconst 1, 1) := by decide +kernel
theorem dX12_clause_18 : decode cX12_clause 18 = .ok (.iand, 1) := by decide +kernel
theorem dX12_clause_19 : decode cX12_clause 19 = .ok (.iconst 1, 1) := by decide +kernel
theorem dX12_clause_20 : decode cX12_clause 20 = .ok (.if_icmp .ne 5, 3) := by decide +kernel
theorem dX12_clause_23 : decode cX12_clause 23 = .ok (.iconst 4, 1) := by decide +kernel
theorem dX12_clause_24 : decode cX12_clause 24 = .ok (.ireturn, 1) := by decide +kernel
theorem dX12_clause_25 : decode cX12_clause 25 = .ok (.aload_n 0, 1) := by decide +kernel
theorem dX12_clause_26 : decode cX12_clause 26 = .ok (.dup, 1) := by decide +kernel
theorem dX12_clause_27 : decode cX12_clause 27 = .ok (.getfield 251, 3) := by decide +kernel
theorem dX12_clause_30 : decode cX12_clause 30 = .ok (.iconst 1, 1) := by decide +kernel
theorem dX12_clause_31 : decode cX12_clause 31 = .ok (.iload_n 1, 1) := by decide +kernel
theorem dX12_clause_32 : decode cX12_clause 32 = .ok (.ishl, 1) := by decide +kernel
theorem dX12_clause_33 : decode cX12_clause 33 = .ok (.ior, 1) := by decide +kernel
theorem dX12_clause_34 : decode cX12_clause 34 = .ok (.putfield 251, 3) := by decide +kernel
theorem dX12_clause_37 : decode cX12_clause 37 = .ok (.aload_n 0, 1) := by decide +kernel
theorem dX12_clause_38 : decode cX12_clause 38 = .ok (.iload_n 1, 1) := by decide +kernel
theorem dX12_clause_39 : decode cX12_clause 39 = .ok (.putfield 245, 3) := by decide +kernel
theorem dX12_clause_42 : decode cX12_clause 42 = .ok (.aload_n 0, 1) := by decide +kernel
theorem dX12_clause_43 : decode cX12_clause 43 = .ok (.invokevirtual 194, 3) := by decide +kernel
theorem dX12_clause_46 : decode cX12_clause 46 = .ok (.aload_n 0, 1) := by decide +kernel
theorem dX12_clause_47 : decode cX12_clause 47 = .ok (.getfield 157, 3) := by decide +kernel
theorem dX12_clause_50 : decode cX12_clause 50 = .ok (.iconst 1, 1) := by decide +kernel
theorem dX12_clause_51 : decode cX12_clause 51 = .ok (.iadd, 1) := by decide +kernel
theorem dX12_clause_52 : decode cX12_clause 52 = .ok (.iconst 3, 1) := by decide +kernel
theorem dX12_clause_53 : decode cX12_clause 53 = .ok (.aload_n 0, 1) := by decide +kernel
theorem dX12_clause_54 : decode cX12_clause 54 = .ok (.getfield 16, 3) := by decide +kernel
theorem dX12_clause_57 : decode cX12_clause 57 = .ok (.aload_n 0, 1) := by decide +kernel
theorem dX12_clause_58 : decode cX12_clause 58 = .ok (.getfield 157, 3) := by decide +kernel
theorem dX12_clause_61 : decode cX12_clause 61 = .ok (.iaload, 1) := by decide +kernel
theorem dX12_clause_62 : decode cX12_clause 62 = .ok (.imul, 1) := by decide +kernel
theorem dX12_clause_63 : decode cX12_clause 63 = .ok (.iadd, 1) := by decide +kernel
theorem dX12_clause_64 : decode cX12_clause 64 = .ok (.istore_n 2, 1) := by decide +kernel
theorem dX12_clause_65 : decode cX12_clause 65 = .ok (.aload_n 0, 1) := by decide +kernel
theorem dX12_clause_66 : decode cX12_clause 66 = .ok (.getfield 16, 3) := by decide +kernel
theorem dX12_clause_69 : decode cX12_clause 69 = .ok (.iload_n 2, 1) := by decide +kernel
theorem dX12_clause_70 : decode cX12_clause 70 = .ok (.iload_n 1, 1) := by decide +kernel
theorem dX12_clause_71 : decode cX12_clause 71 = .ok (.iastore, 1) := by decide +kernel
theorem dX12_clause_72 : decode cX12_clause 72 = .ok (.aload_n 0, 1) := by decide +kernel
theorem dX12_clause_73 : decode cX12_clause 73 = .ok (.getfield 16, 3) := by decide +kernel
theorem dX12_clause_76 : decode cX12_clause 76 = .ok (.iload_n 2, 1) := by decide +kernel
theorem dX12_clause_77 : decode cX12_clause 77 = .ok (.iconst 1, 1) := by decide +kernel
theorem dX12_clause_78 : decode cX12_clause 78 = .ok (.iadd, 1) := by decide +kernel
theorem dX12_clause_79 : decode cX12_clause 79 = .ok (.aload_n 0, 1) := by decide +kernel
theorem dX12_clause_80 : decode cX12_clause 80 = .ok (.getfield 160, 3) := by decide +kernel
theorem dX12_clause_83 : decode cX12_clause 83 = .ok (.iastore, 1) := by decide +kernel
theorem dX12_clause_84 : decode cX12_clause 84 = .ok (.aload_n 0, 1) := by decide +kernel
theorem dX12_clause_85 : decode cX12_clause 85 = .ok (.iload_n 1, 1) := by decide +kernel
theorem dX12_clause_86 : decode cX12_clause 86 = .ok (.iconst 1, 1) := by decide +kernel
theorem dX12_clause_87 : decode cX12_clause 87 = .ok (.if_icmp .ne 7, 3) := by decide +kernel
theorem dX12_clause_90 : decode cX12_clause 90 = .ok (.iconst 1, 1) := by decide +kernel
theorem dX12_clause_91 : decode cX12_clause 91 = .ok (.goto 4, 3) := by decide +kernel
theorem dX12_clause_94 : decode cX12_clause 94 = .ok (.iconst 0, 1) := by decide +kernel
theorem dX12_clause_95 : decode cX12_clause 95 = .ok (.invokevirtual 254, 3) := by decide +kernel
theorem dX12_clause_98 : decode cX12_clause 98 = .ok (.istore_n 3, 1) := by decide +kernel
theorem dX12_clause_99 : decode cX12_clause 99 = .ok (.iload_n 3, 1) := by decide +kernel
theorem dX12_clause_100 : decode cX12_clause 100 = .ok (.ifCond .eq 5, 3) := by decide +kernel
theorem dX12_clause_103 : decode cX12_clause 103 = .ok (.iload_n 3, 1) := by decide +kernel
theorem dX12_clause_104 : decode cX12_clause 104 = .ok (.ireturn, 1) := by decide +kernel
theorem dX12_clause_105 : decode cX12_clause 105 = .ok (.aload_n 0, 1) := by decide +kernel
theorem dX12_clause_106 : decode cX12_clause 106 = .ok (.getfield 16, 3) := by decide +kernel
theorem dX12_clause_109 : decode cX12_clause 109 = .ok (.iload_n 2, 1) := by decide +kernel
theorem dX12_clause_110 : decode cX12_clause 110 = .ok (.iconst 2, 1) := by decide +kernel
theorem dX12_clause_111 : decode cX12_clause 111 = .ok (.iadd, 1) := by decide +kernel
theorem dX12_clause_112 : decode cX12_clause 112 = .ok (.aload_n 0, 1) := by decide +kernel
theorem dX12_clause_113 : decode cX12_clause 113 = .ok (.getfield 160, 3) := by decide +kernel
theorem dX12_clause_116 : decode cX12_clause 116 = .ok (.iastore, 1) := by decide +kernel
theorem dX12_clause_117 : decode cX12_clause 117 = .ok (.aload_n 0, 1) := by decide +kernel
theorem dX12_clause_118 : decode cX12_clause 118 = .ok (.getfield 16, 3) := by decide +kernel
theorem dX12_clause_121 : decode cX12_clause 121 = .ok (.aload_n 0, 1) := by decide +kernel
theorem dX12_clause_122 : decode cX12_clause 122 = .ok (.getfield 157, 3) := by decide +kernel
theorem dX12_clause_125 : decode cX12_clause 125 = .ok (.dup2, 1) := by decide +kernel
theorem dX12_clause_126 : decode cX12_clause 126 = .ok (.iaload, 1) := by decide +kernel
theorem dX12_clause_127 : decode cX12_clause 127 = .ok (.iconst 1, 1) := by decide +kernel
theorem dX12_clause_128 : decode cX12_clause 128 = .ok (.iadd, 1) := by decide +kernel
theorem dX12_clause_129 : decode cX12_clause 129 = .ok (.iastore, 1) := by decide +kernel
theorem dX12_clause_130 : decode cX12_clause 130 = .ok (.aload_n 0, 1) := by decide +kernel
theorem dX12_clause_131 : decode cX12_clause 131 = .ok (.getfield 132, 3) := by decide +kernel
theorem dX12_clause_134 : decode cX12_clause 134 = .ok (.bipush 59, 2) := by decide +kernel
theorem dX12_clause_136 : decode cX12_clause 136 = .ok (.if_icmp .eq 5, 3) := by decide +kernel
theorem dX12_clause_139 : decode cX12_clause 139 = .ok (.iconst 1, 1) := by decide +kernel
theorem dX12_clause_140 : decode cX12_clause 140 = .ok (.ireturn, 1) := by decide +kernel
theorem dX12_clause_141 : decode cX12_clause 141 = .ok (.aload_n 0, 1) := by decide +kernel
theorem dX12_clause_142 : decode cX12_clause 142 = .ok (.invokevirtual 194, 3) := by decide +kernel
theorem dX12_clause_145 : decode cX12_clause 145 = .ok (.iconst 0, 1) := by decide +kernel
theorem dX12_clause_146 : decode cX12_clause 146 = .ok (.ireturn, 1) := by decide +kernel
theorem dX12_readText_0 : decode cX12_readText 0 = .ok (.aload_n 0, 1) := by decide +kernel
theorem dX12_readText_1 : decode cX12_readText 1 = .ok (.sipush 620, 3) := by decide +kernel
theorem dX12_readText_4 : decode cX12_readText 4 = .ok (.aload_n 0, 1) := by decide +kernel
theorem dX12_readText_5 : decode cX12_readText 5 = .ok (.getfield 7, 3) := by decide +kernel
theorem dX12_readText_8 : decode cX12_readText 8 = .ok (.iconst 1, 1) := by decide +kernel
theorem dX12_readText_9 : decode cX12_readText 9 = .ok (.iaload, 1) := by decide +kernel
theorem dX12_readText_10 : decode cX12_readText 10 = .ok (.imul, 1) := by decide +kernel
theorem dX12_readText_11 : decode cX12_readText 11 = .ok (.putfield 157, 3) := by decide +kernel
theorem dX12_readText_14 : decode cX12_readText 14 = .ok (.aload_n 0, 1) := by decide +kernel
theorem dX12_readText_15 : decode cX12_readText 15 = .ok (.getfield 16, 3) := by decide +kernel
theorem dX12_readText_18 : decode cX12_readText 18 = .ok (.aload_n 0, 1) := by decide +kernel
theorem dX12_readText_19 : decode cX12_readText 19 = .ok (.getfield 157, 3) := by decide +kernel
theorem dX12_readText_22 : decode cX12_readText 22 = .ok (.iconst 0, 1) := by decide +kernel
theorem dX12_readText_23 : decode cX12_readText 23 = .ok (.iastore, 1) := by decide +kernel
theorem dX12_readText_24 : decode cX12_readText 24 = .ok (.aload_n 0, 1) := by decide +kernel
theorem dX12_readText_25 : decode cX12_readText 25 = .ok (.iconst 0, 1) := by decide +kernel
theorem dX12_readText_26 : decode cX12_readText 26 = .ok (.putfield 160, 3) := by decide +kernel
theorem dX12_readText_29 : decode cX12_readText 29 = .ok (.aload_n 0, 1) := by decide +kernel
theorem dX12_readText_30 : decode cX12_readText 30 = .ok (.iconst 0, 1) := by decide +kernel
theorem dX12_readText_31 : decode cX12_readText 31 = .ok (.putfield 173, 3) := by decide +kernel
theorem dX12_readText_34 : decode cX12_readText 34 = .ok (.aload_n 0, 1) := by decide +kernel
theorem dX12_readText_35 : decode cX12_readText 35 = .ok (.iconst 0, 1) := by decide +kernel
theorem dX12_readText_36 : decode cX12_readText 36 = .ok (.putfield 251, 3) := by decide +kernel
theorem dX12_readText_39 : decode cX12_readText 39 = .ok (.aload_n 0, 1) := by decide +kernel
theorem dX12_readText_40 : decode cX12_readText 40 = .ok (.iconst 0, 1) := by decide +kernel
theorem dX12_readText_41 : decode cX12_readText 41 = .ok (.putfield 123, 3) := by decide +kernel
theorem dX12_readText_44 : decode cX12_readText 44 = .ok (.aload_n 0, 1) := by decide +kernel
theorem dX12_readText_45 : decode cX12_readText 45 = .ok (.invokevirtual 194, 3) := by decide +kernel
theorem dX12_readText_48 : decode cX12_readText 48 = .ok (.aload_n 0, 1) := by decide +kernel
theorem dX12_readText_49 : decode cX12_readText 49 = .ok (.getfield 132, 3) := by decide +kernel
theorem dX12_readText_52 : decode cX12_readText 52 = .ok (.ifCond .eq 17, 3) := by decide +kernel
theorem dX12_readText_55 : decode cX12_readText 55 = .ok (.aload_n 0, 1) := by decide +kernel
theorem dX12_readText_56 : decode cX12_readText 56 = .ok (.invokevirtual 257, 3) := by decide +kernel
theorem dX12_readText_59 : decode cX12_readText 59 = .ok (.istore_n 1, 1) := by decide +kernel
theorem dX12_readText_60 : decode cX12_readText 60 = .ok (.iload_n 1, 1) := by decide +kernel
theorem dX12_readText_61 : decode cX12_readText 61 = .ok (.ifCond .eq 5, 3) := by decide +kernel
theorem dX12_readText_64 : decode cX12_readText 64 = .ok (.iload_n 1, 1) := by decide +kernel
theorem dX12_readText_65 : decode cX12_readText 65 = .ok (.ireturn, 1) := by decide +kernel
theorem dX12_readText_66 : decode cX12_readText 66 = .ok (.goto (-18), 3) := by decide +kernel
theorem dX12_readText_69 : decode cX12_readText 69 = .ok (.iconst 0, 1) := by decide +kernel
theorem dX12_readText_70 : decode cX12_readText 70 = .ok (.ireturn, 1) := by decide +kernel
theorem dX12_text_0 : decode cX12_text 0 = .ok (.aload_n 0, 1) := by decide +kernel
theorem dX12_text_1 : decode cX12_text 1 = .ok (.getfield 7, 3) := by decide +kernel
theorem dX12_text_4 : decode cX12_text 4 = .ok (.iconst 1, 1) := by decide +kernel
theorem dX12_text_5 : decode cX12_text 5 = .ok (.iaload, 1) := by decide +kernel
theorem dX12_text_6 : decode cX12_text 6 = .ok (.iconst 4, 1) := by decide +kernel
theorem dX12_text_7 : decode cX12_text 7 = .ok (.if_icmp .ne 5, 3) := by decide +kernel
theorem dX12_text_10 : decode cX12_text 10 = .ok (.iconst (-1), 1) := by decide +kernel
theorem dX12_text_11 : decode cX12_text 11 = .ok (.ireturn, 1) := by decide +kernel
theorem dX12_text_12 : decode cX12_text 12 = .ok (.aload_n 0, 1) := by decide +kernel
theorem dX12_text_13 : decode cX12_text 13 = .ok (.aload_n 0, 1) := by decide +kernel
theorem dX12_text_14 : decode cX12_text 14 = .ok (.invokevirtual 260, 3) := by decide +kernel
theorem dX12_text_17 : decode cX12_text 17 = .ok (.putfield 22, 3) := by decide +kernel
theorem dX12_text_20 : decode cX12_text 20 = .ok (.aload_n 0, 1) := by decide +kernel
theorem dX12_text_21 : decode cX12_text 21 = .ok (.aload_n 0, 1) := by decide +kernel
theorem dX12_text_22 : decode cX12_text 22 = .ok (.getfield 22, 3) := by decide +kernel
theorem dX12_text_25 : decode cX12_text 25 = .ok (.ifCond .ne 7, 3) := by decide +kernel
theorem dX12_text_28 : decode cX12_text 28 = .ok (.iconst (-1), 1) := by decide +kernel
theorem dX12_text_29 : decode cX12_text 29 = .ok (.goto 7, 3) := by decide +kernel
theorem dX12_text_32 : decode cX12_text 32 = .ok (.aload_n 0, 1) := by decide +kernel
theorem dX12_text_33 : decode cX12_text 33 = .ok (.getfield 129, 3) := by decide +kernel
theorem dX12_text_36 : decode cX12_text 36 = .ok (.putfield 26, 3) := by decide +kernel
theorem dX12_text_39 : decode cX12_text 39 = .ok (.aload_n 0, 1) := by decide +kernel
theorem dX12_text_40 : decode cX12_text 40 = .ok (.iconst 0, 1) := by decide +kernel
theorem dX12_text_41 : decode cX12_text 41 = .ok (.putfield 116, 3) := by decide +kernel
theorem dX12_text_44 : decode cX12_text 44 = .ok (.aload_n 0, 1) := by decide +kernel
theorem dX12_text_45 : decode cX12_text 45 = .ok (.getfield 22, 3) := by decide +kernel
theorem dX12_text_48 : decode cX12_text 48 = .ok (.ifCond .eq 5, 3) := by decide +kernel
theorem dX12_text_51 : decode cX12_text 51 = .ok (.iconst (-1), 1) := by decide +kernel
theorem dX12_text_52 : decode cX12_text 52 = .ok (.ireturn, 1) := by decide +kernel
theorem dX12_text_53 : decode cX12_text 53 = .ok (.aload_n 0, 1) := by decide +kernel
theorem dX12_text_54 : decode cX12_text 54 = .ok (.getfield 7, 3) := by decide +kernel
theorem dX12_text_57 : decode cX12_text 57 = .ok (.iconst 1, 1) := by decide +kernel
theorem dX12_text_58 : decode cX12_text 58 = .ok (.dup2, 1) := by decide +kernel
theorem dX12_text_59 : decode cX12_text 59 = .ok (.iaload, 1) := by decide +kernel
theorem dX12_text_60 : decode cX12_text 60 = .ok (.iconst 1, 1) := by decide +kernel
theorem dX12_text_61 : decode cX12_text 61 = .ok (.iadd, 1) := by decide +kernel
theorem dX12_text_62 : decode cX12_text 62 = .ok (.iastore, 1) := by decide +kernel
theorem dX12_text_63 : decode cX12_text 63 = .ok (.aload_n 0, 1) := by decide +kernel
theorem dX12_text_64 : decode cX12_text 64 = .ok (.getfield 7, 3) := by decide +kernel
theorem dX12_text_67 : decode cX12_text 67 = .ok (.iconst 1, 1) := by decide +kernel
theorem dX12_text_68 : decode cX12_text 68 = .ok (.iaload, 1) := by decide +kernel
theorem dX12_text_69 : decode cX12_text 69 = .ok (.iconst 1, 1) := by decide +kernel
theorem dX12_text_70 : decode cX12_text 70 = .ok (.isub, 1) := by decide +kernel
theorem dX12_text_71 : decode cX12_text 71 = .ok (.ireturn, 1) := by decide +kernel
theorem dX12_fault_0 : decode cX12_fault 0 = .ok (.iload_n 1, 1) := by decide +kernel
theorem dX12_fault_1 : decode cX12_fault 1 = .ok (.ifCond .ne 10, 3) := by decide +kernel
theorem dX12_fault_4 : decode cX12_fault 4 = .ok (.aload_n 0, 1) := by decide +kernel
theorem dX12_fault_5 : decode cX12_fault 5 = .ok (.getfield 22, 3) := by decide +kernel
theorem dX12_fault_8 : decode cX12_fault 8 = .ok (.goto 16, 3) := by decide +kernel
theorem dX12_fault_11 : decode cX12_fault 11 = .ok (.iload_n 1, 1) := by decide +kernel
theorem dX12_fault_12 : decode cX12_fault 12 = .ok (.iconst 1, 1) := by decide +kernel
theorem dX12_fault_13 : decode cX12_fault 13 = .ok (.if_icmp .ne 10, 3) := by decide +kernel
theorem dX12_fault_16 : decode cX12_fault 16 = .ok (.aload_n 0, 1) := by decide +kernel
theorem dX12_fault_17 : decode cX12_fault 17 = .ok (.getfield 26, 3) := by decide +kernel
theorem dX12_fault_20 : decode cX12_fault 20 = .ok (.goto 4, 3) := by decide +kernel
theorem dX12_fault_23 : decode cX12_fault 23 = .ok (.iconst (-1), 1) := by decide +kernel
theorem dX12_fault_24 : decode cX12_fault 24 = .ok (.ireturn, 1) := by decide +kernel
theorem dX12_clip_0 : decode cX12_clip 0 = .ok (.lload_n 0, 1) := by decide +kernel
theorem dX12_clip_1 : decode cX12_clip 1 = .ok (.ldc2_w 263, 3) := by decide +kernel
theorem dX12_clip_4 : decode cX12_clip 4 = .ok (.lcmp, 1) := by decide +kernel
theorem dX12_clip_5 : decode cX12_clip 5 = .ok (.ifCond .le 9, 3) := by decide +kernel
theorem dX12_clip_8 : decode cX12_clip 8 = .ok (.ldc2_w 263, 3) := by decide +kernel
theorem dX12_clip_11 : decode cX12_clip 11 = .ok (.goto 18, 3) := by decide +kernel
theorem dX12_clip_14 : decode cX12_clip 14 = .ok (.lload_n 0, 1) := by decide +kernel
theorem dX12_clip_15 : decode cX12_clip 15 = .ok (.ldc2_w 265, 3) := by decide +kernel
theorem dX12_clip_18 : decode cX12_clip 18 = .ok (.lcmp, 1) := by decide +kernel
theorem dX12_clip_19 : decode cX12_clip 19 = .ok (.ifCond .ge 9, 3) := by decide +kernel
theorem dX12_clip_22 : decode cX12_clip 22 = .ok (.ldc2_w 265, 3) := by decide +kernel
theorem dX12_clip_25 : decode cX12_clip 25 = .ok (.goto 4, 3) := by decide +kernel
theorem dX12_clip_28 : decode cX12_clip 28 = .ok (.lload_n 0, 1) := by decide +kernel
theorem dX12_clip_29 : decode cX12_clip 29 = .ok (.lreturn, 1) := by decide +kernel
theorem dX12_two_0 : decode cX12_two 0 = .ok (.iload_n 0, 1) := by decide +kernel
theorem dX12_two_1 : decode cX12_two 1 = .ok (.tableswitch 48 3 5 #[27, 34, 41], 27) := by decide +kernel
theorem dX12_two_28 : decode cX12_two 28 = .ok (.lload_n 1, 1) := by decide +kernel
theorem dX12_two_29 : decode cX12_two 29 = .ok (.lload_n 3, 1) := by decide +kernel
theorem dX12_two_30 : decode cX12_two 30 = .ok (.ladd, 1) := by decide +kernel
theorem dX12_two_31 : decode cX12_two 31 = .ok (.invokestatic 267, 3) := by decide +kernel
theorem dX12_two_34 : decode cX12_two 34 = .ok (.lreturn, 1) := by decide +kernel
theorem dX12_two_35 : decode cX12_two 35 = .ok (.lload_n 1, 1) := by decide +kernel
theorem dX12_two_36 : decode cX12_two 36 = .ok (.lload_n 3, 1) := by decide +kernel
theorem dX12_two_37 : decode cX12_two 37 = .ok (.lsub, 1) := by decide +kernel
theorem dX12_two_38 : decode cX12_two 38 = .ok (.invokestatic 267, 3) := by decide +kernel
theorem dX12_two_41 : decode cX12_two 41 = .ok (.lreturn, 1) := by decide +kernel
theorem dX12_two_42 : decode cX12_two 42 = .ok (.lload_n 1, 1) := by decide +kernel
theorem dX12_two_43 : decode cX12_two 43 = .ok (.lload_n 3, 1) := by decide +kernel
theorem dX12_two_44 : decode cX12_two 44 = .ok (.lmul, 1) := by decide +kernel
theorem dX12_two_45 : decode cX12_two 45 = .ok (.invokestatic 267, 3) := by decide +kernel
theorem dX12_two_48 : decode cX12_two 48 = .ok (.lreturn, 1) := by decide +kernel
theorem dX12_two_49 : decode cX12_two 49 = .ok (.lload_n 3, 1) := by decide +kernel
theorem dX12_two_50 : decode cX12_two 50 = .ok (.lconst 0, 1) := by decide +kernel
theorem dX12_two_51 : decode cX12_two 51 = .ok (.lcmp, 1) := by decide +kernel
theorem dX12_two_52 : decode cX12_two 52 = .ok (.ifCond .ne 7, 3) := by decide +kernel
theorem dX12_two_55 : decode cX12_two 55 = .ok (.lconst 0, 1) := by decide +kernel
theorem dX12_two_56 : decode cX12_two 56 = .ok (.goto 9, 3) := by decide +kernel
theorem dX12_two_59 : decode cX12_two 59 = .ok (.lload_n 1, 1) := by decide +kernel
theorem dX12_two_60 : decode cX12_two 60 = .ok (.lload_n 3, 1) := by decide +kernel
theorem dX12_two_61 : decode cX12_two 61 = .ok (.ldiv, 1) := by decide +kernel
theorem dX12_two_62 : decode cX12_two 62 = .ok (.invokestatic 267, 3) := by decide +kernel
theorem dX12_two_65 : decode cX12_two 65 = .ok (.lreturn, 1) := by decide +kernel
theorem dX12_isAsked_0 : decode cX12_isAsked 0 = .ok (.iload_n 0, 1) := by decide +kernel
theorem dX12_isAsked_1 : decode cX12_isAsked 1 = .ok (.bipush 10, 2) := by decide +kernel
theorem dX12_isAsked_3 : decode cX12_isAsked 3 = .ok (.if_icmp .ne 17, 3) := by decide +kernel
theorem dX12_isAsked_6 : decode cX12_isAsked 6 = .ok (.lload_n 1, 1) := by decide +kernel
theorem dX12_isAsked_7 : decode cX12_isAsked 7 = .ok (.lload_n 3, 1) := by decide +kernel
theorem dX12_isAsked_8 : decode cX12_isAsked 8 = .ok (.lcmp, 1) := by decide +kernel
theorem dX12_isAsked_9 : decode cX12_isAsked 9 = .ok (.ifCond .ge 7, 3) := by decide +kernel
theorem dX12_isAsked_12 : decode cX12_isAsked 12 = .ok (.iconst 1, 1) := by decide +kernel
theorem dX12_isAsked_13 : decode cX12_isAsked 13 = .ok (.goto 98, 3) := by decide +kernel
theorem dX12_isAsked_16 : decode cX12_isAsked 16 = .ok (.iconst 0, 1) := by decide +kernel
theorem dX12_isAsked_17 : decode cX12_isAsked 17 = .ok (.goto 94, 3) := by decide +kernel
theorem dX12_isAsked_20 : decode cX12_isAsked 20 = .ok (.iload_n 0, 1) := by decide +kernel
theorem dX12_isAsked_21 : decode cX12_isAsked 21 = .ok (.bipush 11, 2) := by decide +kernel
theorem dX12_isAsked_23 : decode cX12_isAsked 23 = .ok (.if_icmp .ne 17, 3) := by decide +kernel
theorem dX12_isAsked_26 : decode cX12_isAsked 26 = .ok (.lload_n 1, 1) := by decide +kernel
theorem dX12_isAsked_27 : decode cX12_isAsked 27 = .ok (.lload_n 3, 1) := by decide +kernel
theorem dX12_isAsked_28 : decode cX12_isAsked 28 = .ok (.lcmp, 1) := by decide +kernel
theorem dX12_isAsked_29 : decode cX12_isAsked 29 = .ok (.ifCond .gt 7, 3) := by decide +kernel
theorem dX12_isAsked_32 : decode cX12_isAsked 32 = .ok (.iconst 1, 1) := by decide +kernel
theorem dX12_isAsked_33 : decode cX12_isAsked 33 = .ok (.goto 78, 3) := by decide +kernel
theorem dX12_isAsked_36 : decode cX12_isAsked 36 = .ok (.iconst 0, 1) := by decide +kernel
theorem dX12_isAsked_37 : decode cX12_isAsked 37 = .ok (.goto 74, 3) := by decide +kernel
theorem dX12_isAsked_40 : decode cX12_isAsked 40 = .ok (.iload_n 0, 1) := by decide +kernel
theorem dX12_isAsked_41 : decode cX12_isAsked 41 = .ok (.bipush 12, 2) := by decide +kernel
theorem dX12_isAsked_43 : decode cX12_isAsked 43 = .ok (.if_icmp .ne 17, 3) := by decide +kernel
theorem dX12_isAsked_46 : decode cX12_isAsked 46 = .ok (.lload_n 1, 1) := by decide +kernel
theorem dX12_isAsked_47 : decode cX12_isAsked 47 = .ok (.lload_n 3, 1) := by decide +kernel
theorem dX12_isAsked_48 : decode cX12_isAsked 48 = .ok (.lcmp, 1) := by decide +kernel
theorem dX12_isAsked_49 : decode cX12_isAsked 49 = .ok (.ifCond .le 7, 3) := by decide +kernel
theorem dX12_isAsked_52 : decode cX12_isAsked 52 = .ok (.iconst 1, 1) := by decide +kernel
theorem dX12_isAsked_53 : decode cX12_isAsked 53 = .ok (.goto 58, 3) := by decide +kernel
theorem dX12_isAsked_56 : decode cX12_isAsked 56 = .ok (.iconst 0, 1) := by decide +kernel
theorem dX12_isAsked_57 : decode cX12_isAsked 57 = .ok (.goto 54, 3) := by decide +kernel
theorem dX12_isAsked_60 : decode cX12_isAsked 60 = .ok (.iload_n 0, 1) := by decide +kernel
theorem dX12_isAsked_61 : decode cX12_isAsked 61 = .ok (.bipush 13, 2) := by decide +kernel
theorem dX12_isAsked_63 : decode cX12_isAsked 63 = .ok (.if_icmp .ne 17, 3) := by decide +kernel
theorem dX12_isAsked_66 : decode cX12_isAsked 66 = .ok (.lload_n 1, 1) := by decide +kernel
theorem dX12_isAsked_67 : decode cX12_isAsked 67 = .ok (.lload_n 3, 1) := by decide +kernel
theorem dX12_isAsked_68 : decode cX12_isAsked 68 = .ok (.lcmp, 1) := by decide +kernel
theorem dX12_isAsked_69 : decode cX12_isAsked 69 = .ok (.ifCond .lt 7, 3) := by decide +kernel
theorem dX12_isAsked_72 : decode cX12_isAsked 72 = .ok (.iconst 1, 1) := by decide +kernel
theorem dX12_isAsked_73 : decode cX12_isAsked 73 = .ok (.goto 38, 3) := by decide +kernel
theorem dX12_isAsked_76 : decode cX12_isAsked 76 = .ok (.iconst 0, 1) := by decide +kernel
theorem dX12_isAsked_77 : decode cX12_isAsked 77 = .ok (.goto 34, 3) := by decide +kernel
theorem dX12_isAsked_80 : decode cX12_isAsked 80 = .ok (.iload_n 0, 1) := by decide +kernel
theorem dX12_isAsked_81 : decode cX12_isAsked 81 = .ok (.bipush 14, 2) := by decide +kernel
theorem dX12_isAsked_83 : decode cX12_isAsked 83 = .ok (.if_icmp .ne 17, 3) := by decide +kernel
theorem dX12_isAsked_86 : decode cX12_isAsked 86 = .ok (.lload_n 1, 1) := by decide +kernel
theorem dX12_isAsked_87 : decode cX12_isAsked 87 = .ok (.lload_n 3, 1) := by decide +kernel
theorem dX12_isAsked_88 : decode cX12_isAsked 88 = .ok (.lcmp, 1) := by decide +kernel
theorem dX12_isAsked_89 : decode cX12_isAsked 89 = .ok (.ifCond .ne 7, 3) := by decide +kernel
theorem dX12_isAsked_92 : decode cX12_isAsked 92 = .ok (.iconst 1, 1) := by decide +kernel
theorem dX12_isAsked_93 : decode cX12_isAsked 93 = .ok (.goto 18, 3) := by decide +kernel
theorem dX12_isAsked_96 : decode cX12_isAsked 96 = .ok (.iconst 0, 1) := by decide +kernel
theorem dX12_isAsked_97 : decode cX12_isAsked 97 = .ok (.goto 14, 3) := by decide +kernel
theorem dX12_isAsked_100 : decode cX12_isAsked 100 = .ok (.lload_n 1, 1) := by decide +kernel
theorem dX12_isAsked_101 : decode cX12_isAsked 101 = .ok (.lload_n 3, 1) := by decide +kernel
theorem dX12_isAsked_102 : decode cX12_isAsked 102 = .ok (.lcmp, 1) := by decide +kernel
theorem dX12_isAsked_103 : decode cX12_isAsked 103 = .ok (.ifCond .eq 7, 3) := by decide +kernel
theorem dX12_isAsked_106 : decode cX12_isAsked 106 = .ok (.iconst 1, 1) := by decide +kernel
theorem dX12_isAsked_107 : decode cX12_isAsked 107 = .ok (.goto 4, 3) := by decide +kernel
theorem dX12_isAsked_110 : decode cX12_isAsked 110 = .ok (.iconst 0, 1) := by decide +kernel
theorem dX12_isAsked_111 : decode cX12_isAsked 111 = .ok (.ireturn, 1) := by decide +kernel
theorem dX12_work_0 : decode cX12_work 0 = .ok (.sipush 620, 3) := by decide +kernel
theorem dX12_work_3 : decode cX12_work 3 = .ok (.iload_n 1, 1) := by decide +kernel
theorem dX12_work_4 : decode cX12_work 4 = .ok (.imul, 1) := by decide +kernel
theorem dX12_work_5 : decode cX12_work 5 = .ok (.iconst 1, 1) := by decide +kernel
theorem dX12_work_6 : decode cX12_work 6 = .ok (.iadd, 1) := by decide +kernel
theorem dX12_work_7 : decode cX12_work 7 = .ok (.iconst 3, 1) := by decide +kernel
theorem dX12_work_8 : decode cX12_work 8 = .ok (.iload_n 2, 1) := by decide +kernel
theorem dX12_work_9 : decode cX12_work 9 = .ok (.imul, 1) := by decide +kernel
theorem dX12_work_10 : decode cX12_work 10 = .ok (.iadd, 1) := by decide +kernel
theorem dX12_work_11 : decode cX12_work 11 = .ok (.istore_n 3, 1) := by decide +kernel
theorem dX12_work_12 : decode cX12_work 12 = .ok (.sipush 620, 3) := by decide +kernel
theorem dX12_work_15 : decode cX12_work 15 = .ok (.iload_n 1, 1) := by decide +kernel
theorem dX12_work_16 : decode cX12_work 16 = .ok (.imul, 1) := by decide +kernel
theorem dX12_work_17 : decode cX12_work 17 = .ok (.bipush 15, 2) := by decide +kernel
theorem dX12_work_19 : decode cX12_work 19 = .ok (.iadd, 1) := by decide +kernel
theorem dX12_work_20 : decode cX12_work 20 = .ok (.istore 4, 2) := by decide +kernel
theorem dX12_work_22 : decode cX12_work 22 = .ok (.iconst 0, 1) := by decide +kernel
theorem dX12_work_23 : decode cX12_work 23 = .ok (.istore 5, 2) := by decide +kernel
theorem dX12_work_25 : decode cX12_work 25 = .ok (.iconst 0, 1) := by decide +kernel
theorem dX12_work_26 : decode cX12_work 26 = .ok (.istore 6, 2) := by decide +kernel
theorem dX12_work_28 : decode cX12_work 28 = .ok (.aload_n 0, 1) := by decide +kernel
theorem dX12_work_29 : decode cX12_work 29 = .ok (.getfield 16, 3) := by decide +kernel
theorem dX12_work_32 : decode cX12_work 32 = .ok (.iload_n 3, 1) := by decide +kernel
theorem dX12_work_33 : decode cX12_work 33 = .ok (.iconst 1, 1) := by decide +kernel
theorem dX12_work_34 : decode cX12_work 34 = .ok (.iadd, 1) := by decide +kernel
theorem dX12_work_35 : decode cX12_work 35 = .ok (.iaload, 1) := by decide +kernel
theorem dX12_work_36 : decode cX12_work 36 = .ok (.istore 7, 2) := by decide +kernel
theorem dX12_work_38 : decode cX12_work 38 = .ok (.iload 7, 2) := by decide +kernel
theorem dX12_work_40 : decode cX12_work 40 = .ok (.aload_n 0, 1) := by decide +kernel
theorem dX12_work_41 : decode cX12_work 41 = .ok (.getfield 16, 3) := by decide +kernel
theorem dX12_work_44 : decode cX12_work 44 = .ok (.iload_n 3, 1) := by decide +kernel
theorem dX12_work_45 : decode cX12_work 45 = .ok (.iconst 2, 1) := by decide +kernel
theorem dX12_work_46 : decode cX12_work 46 = .ok (.iadd, 1) := by decide +kernel
theorem dX12_work_47 : decode cX12_work 47 = .ok (.iaload, 1) := by decide +kernel
theorem dX12_work_48 : decode cX12_work 48 = .ok (.if_icmp .ge 358, 3) := by decide +kernel
theorem dX12_work_51 : decode cX12_work 51 = .ok (.aload_n 0, 1) := by decide +kernel
theorem dX12_work_52 : decode cX12_work 52 = .ok (.getfield 16, 3) := by decide +kernel
theorem dX12_work_55 : decode cX12_work 55 = .ok (.iload 4, 2) := by decide +kernel
theorem dX12_work_57 : decode cX12_work 57 = .ok (.iconst 2, 1) := by decide +kernel
theorem dX12_work_58 : decode cX12_work 58 = .ok (.iload 7, 2) := by decide +kernel
theorem dX12_work_60 : decode cX12_work 60 = .ok (.imul, 1) := by decide +kernel
theorem dX12_work_61 : decode cX12_work 61 = .ok (.iadd, 1) := by decide +kernel
theorem dX12_work_62 : decode cX12_work 62 = .ok (.iaload, 1) := by decide +kernel
theorem dX12_work_63 : decode cX12_work 63 = .ok (.istore 8, 2) := by decide +kernel
theorem dX12_work_65 : decode cX12_work 65 = .ok (.aload_n 0, 1) := by decide +kernel
theorem dX12_work_66 : decode cX12_work 66 = .ok (.getfield 16, 3) := by decide +kernel
theorem dX12_work_69 : decode cX12_work 69 = .ok (.iload 4, 2) := by decide +kernel
theorem dX12_work_71 : decode cX12_work 71 = .ok (.iconst 2, 1) := by decide +kernel
theorem dX12_work_72 : decode cX12_work 72 = .ok (.iload 7, 2) := by decide +kernel
theorem dX12_work_74 : decode cX12_work 74 = .ok (.imul, 1) := by decide +kernel
theorem dX12_work_75 : decode cX12_work 75 = .ok (.iadd, 1) := by decide +kernel
theorem dX12_work_76 : decode cX12_work 76 = .ok (.iconst 1, 1) := by decide +kernel
theorem dX12_work_77 : decode cX12_work 77 = .ok (.iadd, 1) := by decide +kernel
theorem dX12_work_78 : decode cX12_work 78 = .ok (.iaload, 1) := by decide +kernel
theorem dX12_work_79 : decode cX12_work 79 = .ok (.istore 9, 2) := by decide +kernel
theorem dX12_work_81 : decode cX12_work 81 = .ok (.iload 8, 2) := by decide +kernel
theorem dX12_work_83 : decode cX12_work 83 = .ok (.iconst 1, 1) := by decide +kernel
theorem dX12_work_84 : decode cX12_work 84 = .ok (.if_icmp .gt 35, 3) := by decide +kernel
theorem dX12_work_87 : decode cX12_work 87 = .ok (.aload_n 0, 1) := by decide +kernel
theorem dX12_work_88 : decode cX12_work 88 = .ok (.getfield 35, 3) := by decide +kernel
theorem dX12_work_91 : decode cX12_work 91 = .ok (.iload 5, 2) := by decide +kernel
theorem dX12_work_93 : decode cX12_work 93 = .ok (.iload 8, 2) := by decide +kernel
theorem dX12_work_95 : decode cX12_work 95 = .ok (.ifCond .ne 9, 3) := by decide +kernel
theorem dX12_work_98 : decode cX12_work 98 = .ok (.iload 9, 2) := by decide +kernel
theorem dX12_work_100 : decode cX12_work 100 = .ok (.i2l, 1) := by decide +kernel
theorem dX12_work_101 : decode cX12_work 101 = .ok (.goto 11, 3) := by decide +kernel
theorem dX12_work_104 : decode cX12_work 104 = .ok (.aload_n 0, 1) := by decide +kernel
theorem dX12_work_105 : decode cX12_work 105 = .ok (.getfield 32, 3) := by decide +kernel
theorem dX12_work_108 : decode cX12_work 108 = .ok (.iload 9, 2) := by decide +kernel
theorem dX12_work_110 : decode cX12_work 110 = .ok (.iaload, 1) := by decide +kernel
theorem dX12_work_111 : decode cX12_work 111 = .ok (.i2l, 1) := by decide +kernel
theorem dX12_work_112 : decode cX12_work 112 = .ok (.lastore, 1) := by decide +kernel
theorem dX12_work_113 : decode cX12_work 113 = .ok (.iinc 5 1, 3) := by decide +kernel
theorem dX12_work_116 : decode cX12_work 116 = .ok (.goto 284, 3) := by decide +kernel
theorem dX12_work_119 : decode cX12_work 119 = .ok (.iload 8, 2) := by decide +kernel
theorem dX12_work_121 : decode cX12_work 121 = .ok (.iconst 2, 1) := by decide +kernel
theorem dX12_work_122 : decode cX12_work 122 = .ok (.if_icmp .ne 25, 3) := by decide +kernel
theorem dX12_work_125 : decode cX12_work 125 = .ok (.aload_n 0, 1) := by decide +kernel
theorem dX12_work_126 : decode cX12_work 126 = .ok (.getfield 35, 3) := by decide +kernel
theorem dX12_work_129 : decode cX12_work 129 = .ok (.iload 5, 2) := by decide +kernel
theorem dX12_work_131 : decode cX12_work 131 = .ok (.iconst 1, 1) := by decide +kernel
theorem dX12_work_132 : decode cX12_work 132 = .ok (.isub, 1) := by decide +kernel
theorem dX12_work_133 : decode cX12_work 133 = .ok (.aload_n 0, 1) := by decide +kernel
theorem dX12_work_134 : decode cX12_work 134 = .ok (.getfield 35, 3) := by decide +kernel
theorem dX12_work_137 : decode cX12_work 137 = .ok (.iload 5, 2) := by decide +kernel
theorem dX12_work_139 : decode cX12_work 139 = .ok (.iconst 1, 1) := by decide +kernel
theorem dX12_work_140 : decode cX12_work 140 = .ok (.isub, 1) := by decide +kernel
theorem dX12_work_141 : decode cX12_work 141 = .ok (.laload, 1) := by decide +kernel
theorem dX12_work_142 : decode cX12_work 142 = .ok (.lneg, 1) := by decide +kernel
theorem dX12_work_143 : decode cX12_work 143 = .ok (.lastore, 1) := by decide +kernel
theorem dX12_work_144 : decode cX12_work 144 = .ok (.goto 256, 3) := by decide +kernel
theorem dX12_work_147 : decode cX12_work 147 = .ok (.iload 8, 2) := by decide +kernel
theorem dX12_work_149 : decode cX12_work 149 = .ok (.bipush 10, 2) := by decide +kernel
theorem dX12_work_151 : decode cX12_work 151 = .ok (.if_icmp .ge 39, 3) := by decide +kernel
theorem dX12_work_154 : decode cX12_work 154 = .ok (.iinc 5 (-1), 3) := by decide +kernel
theorem dX12_work_157 : decode cX12_work 157 = .ok (.aload_n 0, 1) := by decide +kernel
theorem dX12_work_158 : decode cX12_work 158 = .ok (.getfield 35, 3) := by decide +kernel
theorem dX12_work_161 : decode cX12_work 161 = .ok (.iload 5, 2) := by decide +kernel
theorem dX12_work_163 : decode cX12_work 163 = .ok (.iconst 1, 1) := by decide +kernel
theorem dX12_work_164 : decode cX12_work 164 = .ok (.isub, 1) := by decide +kernel
theorem dX12_work_165 : decode cX12_work 165 = .ok (.iload 8, 2) := by decide +kernel
theorem dX12_work_167 : decode cX12_work 167 = .ok (.aload_n 0, 1) := by decide +kernel
theorem dX12_work_168 : decode cX12_work 168 = .ok (.getfield 35, 3) := by decide +kernel
theorem dX12_work_171 : decode cX12_work 171 = .ok (.iload 5, 2) := by decide +kernel
theorem dX12_work_173 : decode cX12_work 173 = .ok (.iconst 1, 1) := by decide +kernel
theorem dX12_work_174 : decode cX12_work 174 = .ok (.isub, 1) := by decide +kernel
theorem dX12_work_175 : decode cX12_work 175 = .ok (.laload, 1) := by decide +kernel
theorem dX12_work_176 : decode cX12_work 176 = .ok (.aload_n 0, 1) := by decide +kernel
theorem dX12_work_177 : decode cX12_work 177 = .ok (.getfield 35, 3) := by decide +kernel
theorem dX12_work_180 : decode cX12_work 180 = .ok (.iload 5, 2) := by decide +kernel
theorem dX12_work_182 : decode cX12_work 182 = .ok (.laload, 1) := by decide +kernel
theorem dX12_work_183 : decode cX12_work 183 = .ok (.invokestatic 271, 3) := by decide +kernel
theorem dX12_work_186 : decode cX12_work 186 = .ok (.lastore, 1) := by decide +kernel
theorem dX12_work_187 : decode cX12_work 187 = .ok (.goto 213, 3) := by decide +kernel
theorem dX12_work_190 : decode cX12_work 190 = .ok (.iload 8, 2) := by decide +kernel
theorem dX12_work_192 : decode cX12_work 192 = .ok (.bipush 20, 2) := by decide +kernel
theorem dX12_work_194 : decode cX12_work 194 = .ok (.if_icmp .ge 40, 3) := by decide +kernel
theorem dX12_work_197 : decode cX12_work 197 = .ok (.iinc 5 (-2), 3) := by decide +kernel
theorem dX12_work_200 : decode cX12_work 200 = .ok (.aload_n 0, 1) := by decide +kernel
theorem dX12_work_201 : decode cX12_work 201 = .ok (.getfield 39, 3) := by decide +kernel
theorem dX12_work_204 : decode cX12_work 204 = .ok (.iload 6, 2) := by decide +kernel
theorem dX12_work_206 : decode cX12_work 206 = .ok (.iload 8, 2) := by decide +kernel
theorem dX12_work_208 : decode cX12_work 208 = .ok (.aload_n 0, 1) := by decide +kernel
theorem dX12_work_209 : decode cX12_work 209 = .ok (.getfield 35, 3) := by decide +kernel
theorem dX12_work_212 : decode cX12_work 212 = .ok (.iload 5, 2) := by decide +kernel
theorem dX12_work_214 : decode cX12_work 214 = .ok (.laload, 1) := by decide +kernel
theorem dX12_work_215 : decode cX12_work 215 = .ok (.aload_n 0, 1) := by decide +kernel
theorem dX12_work_216 : decode cX12_work 216 = .ok (.getfield 35, 3) := by decide +kernel
theorem dX12_work_219 : decode cX12_work 219 = .ok (.iload 5, 2) := by decide +kernel
theorem dX12_work_221 : decode cX12_work 221 = .ok (.iconst 1, 1) := by decide +kernel
theorem dX12_work_222 : decode cX12_work 222 = .ok (.iadd, 1) := by decide +kernel
theorem dX12_work_223 : decode cX12_work 223 = .ok (.laload, 1) := by decide +kernel
theorem dX12_work_224 : decode cX12_work 224 = .ok (.invokestatic 275, 3) := by decide +kernel
theorem dX12_work_227 : decode cX12_work 227 = .ok (.bastore, 1) := by decide +kernel
theorem dX12_work_228 : decode cX12_work 228 = .ok (.iinc 6 1, 3) := by decide +kernel
theorem dX12_work_231 : decode cX12_work 231 = .ok (.goto 169, 3) := by decide +kernel
theorem dX12_work_234 : decode cX12_work 234 = .ok (.iload 8, 2) := by decide +kernel
theorem dX12_work_236 : decode cX12_work 236 = .ok (.bipush 20, 2) := by decide +kernel
theorem dX12_work_238 : decode cX12_work 238 = .ok (.if_icmp .ne 32, 3) := by decide +kernel
theorem dX12_work_241 : decode cX12_work 241 = .ok (.aload_n 0, 1) := by decide +kernel
theorem dX12_work_242 : decode cX12_work 242 = .ok (.getfield 39, 3) := by decide +kernel
theorem dX12_work_245 : decode cX12_work 245 = .ok (.iload 6, 2) := by decide +kernel
theorem dX12_work_247 : decode cX12_work 247 = .ok (.iconst 1, 1) := by decide +kernel
theorem dX12_work_248 : decode cX12_work 248 = .ok (.isub, 1) := by decide +kernel
theorem dX12_work_249 : decode cX12_work 249 = .ok (.aload_n 0, 1) := by decide +kernel
theorem dX12_work_250 : decode cX12_work 250 = .ok (.getfield 39, 3) := by decide +kernel
theorem dX12_work_253 : decode cX12_work 253 = .ok (.iload 6, 2) := by decide +kernel
theorem dX12_work_255 : decode cX12_work 255 = .ok (.iconst 1, 1) := by decide +kernel
theorem dX12_work_256 : decode cX12_work 256 = .ok (.isub, 1) := by decide +kernel
theorem dX12_work_257 : decode cX12_work 257 = .ok (.baload, 1) := by decide +kernel
theorem dX12_work_258 : decode cX12_work 258 = .ok (.ifCond .ne 7, 3) := by decide +kernel
theorem dX12_work_261 : decode cX12_work 261 = .ok (.iconst 1, 1) := by decide +kernel
theorem dX12_work_262 : decode cX12_work 262 = .ok (.goto 4, 3) := by decide +kernel
theorem dX12_work_265 : decode cX12_work 265 = .ok (.iconst 0, 1) := by decide +kernel
theorem dX12_work_266 : decode cX12_work 266 = .ok (.bastore, 1) := by decide +kernel
theorem dX12_work_267 : decode cX12_work 267 = .ok (.goto 133, 3) := by decide +kernel
theorem dX12_work_270 : decode cX12_work 270 = .ok (.iload 8, 2) := by decide +kernel
theorem dX12_work_272 : decode cX12_work 272 = .ok (.bipush 23, 2) := by decide +kernel
theorem dX12_work_274 : decode cX12_work 274 = .ok (.if_icmp .ne 50, 3) := by decide +kernel
theorem dX12_work_277 : decode cX12_work 277 = .ok (.iinc 5 (-1), 3) := by decide +kernel
theorem dX12_work_280 : decode cX12_work 280 = .ok (.iinc 6 (-1), 3) := by decide +kernel
theorem dX12_work_283 : decode cX12_work 283 = .ok (.aload_n 0, 1) := by decide +kernel
theorem dX12_work_284 : decode cX12_work 284 = .ok (.getfield 35, 3) := by decide +kernel
theorem dX12_work_287 : decode cX12_work 287 = .ok (.iload 5, 2) := by decide +kernel
theorem dX12_work_289 : decode cX12_work 289 = .ok (.iconst 1, 1) := by decide +kernel
theorem dX12_work_290 : decode cX12_work 290 = .ok (.isub, 1) := by decide +kernel
theorem dX12_work_291 : decode cX12_work 291 = .ok (.aload_n 0, 1) := by decide +kernel
theorem dX12_work_292 : decode cX12_work 292 = .ok (.getfield 39, 3) := by decide +kernel
theorem dX12_work_295 : decode cX12_work 295 = .ok (.iload 6, 2) := by decide +kernel
theorem dX12_work_297 : decode cX12_work 297 = .ok (.baload, 1) := by decide +kernel
theorem dX12_work_298 : decode cX12_work 298 = .ok (.ifCond .eq 15, 3) := by decide +kernel
theorem dX12_work_301 : decode cX12_work 301 = .ok (.aload_n 0, 1) := by decide +kernel
theorem dX12_work_302 : decode cX12_work 302 = .ok (.getfield 35, 3) := by decide +kernel
theorem dX12_work_305 : decode cX12_work 305 = .ok (.iload 5, 2) := by decide +kernel
theorem dX12_work_307 : decode cX12_work 307 = .ok (.iconst 1, 1) := by decide +kernel
theorem dX12_work_308 : decode cX12_work 308 = .ok (.isub, 1) := by decide +kernel
theorem dX12_work_309 : decode cX12_work 309 = .ok (.laload, 1) := by decide +kernel
theorem dX12_work_310 : decode cX12_work 310 = .ok (.goto 10, 3) := by decide +kernel
theorem dX12_work_313 : decode cX12_work 313 = .ok (.aload_n 0, 1) := by decide +kernel
theorem dX12_work_314 : decode cX12_work 314 = .ok (.getfield 35, 3) := by decide +kernel
theorem dX12_work_317 : decode cX12_work 317 = .ok (.iload 5, 2) := by decide +kernel
theorem dX12_work_319 : decode cX12_work 319 = .ok (.laload, 1) := by decide +kernel
theorem dX12_work_320 : decode cX12_work 320 = .ok (.lastore, 1) := by decide +kernel
theorem dX12_work_321 : decode cX12_work 321 = .ok (.goto 79, 3) := by decide +kernel
theorem dX12_work_324 : decode cX12_work 324 = .ok (.iinc 6 (-1), 3) := by decide +kernel
theorem dX12_work_327 : decode cX12_work 327 = .ok (.aload_n 0, 1) := by decide +kernel
theorem dX12_work_328 : decode cX12_work 328 = .ok (.getfield 39, 3) := by decide +kernel
theorem dX12_work_331 : decode cX12_work 331 = .ok (.iload 6, 2) := by decide +kernel
theorem dX12_work_333 : decode cX12_work 333 = .ok (.iconst 1, 1) := by decide +kernel
theorem dX12_work_334 : decode cX12_work 334 = .ok (.isub, 1) := by decide +kernel
theorem dX12_work_335 : decode cX12_work 335 = .ok (.iload 8, 2) := by decide +kernel
theorem dX12_work_337 : decode cX12_work 337 = .ok (.bipush 21, 2) := by decide +kernel
theorem dX12_work_339 : decode cX12_work 339 = .ok (.if_icmp .ne 33, 3) := by decide +kernel
theorem dX12_work_342 : decode cX12_work 342 = .ok (.aload_n 0, 1) := by decide +kernel
theorem dX12_work_343 : decode cX12_work 343 = .ok (.getfield 39, 3) := by decide +kernel
theorem dX12_work_346 : decode cX12_work 346 = .ok (.iload 6, 2) := by decide +kernel
theorem dX12_work_348 : decode cX12_work 348 = .ok (.iconst 1, 1) := by decide +kernel
theorem dX12_work_349 : decode cX12_work 349 = .ok (.isub, 1) := by decide +kernel
theorem dX12_work_350 : decode cX12_work 350 = .ok (.baload, 1) := by decide +kernel
theorem dX12_work_351 : decode cX12_work 351 = .ok (.ifCond .eq 17, 3) := by decide +kernel
theorem dX12_work_354 : decode cX12_work 354 = .ok (.aload_n 0, 1) := by decide +kernel
theorem dX12_work_355 : decode cX12_work 355 = .ok (.getfield 39, 3) := by decide +kernel
theorem dX12_work_358 : decode cX12_work 358 = .ok (.iload 6, 2) := by decide +kernel
theorem dX12_work_360 : decode cX12_work 360 = .ok (.baload, 1) := by decide +kernel
theorem dX12_work_361 : decode cX12_work 361 = .ok (.ifCond .eq 7, 3) := by decide +kernel
theorem dX12_work_364 : decode cX12_work 364 = .ok (.iconst 1, 1) := by decide +kernel
theorem dX12_work_365 : decode cX12_work 365 = .ok (.goto 34, 3) := by decide +kernel
theorem dX12_work_368 : decode cX12_work 368 = .ok (.iconst 0, 1) := by decide +kernel
theorem dX12_work_369 : decode cX12_work 369 = .ok (.goto 30, 3) := by decide +kernel
theorem dX12_work_372 : decode cX12_work 372 = .ok (.aload_n 0, 1) := by decide +kernel
theorem dX12_work_373 : decode cX12_work 373 = .ok (.getfield 39, 3) := by decide +kernel
theorem dX12_work_376 : decode cX12_work 376 = .ok (.iload 6, 2) := by decide +kernel
theorem dX12_work_378 : decode cX12_work 378 = .ok (.iconst 1, 1) := by decide +kernel
theorem dX12_work_379 : decode cX12_work 379 = .ok (.isub, 1) := by decide +kernel
theorem dX12_work_380 : decode cX12_work 380 = .ok (.baload, 1) := by decide +kernel
theorem dX12_work_381 : decode cX12_work 381 = .ok (.ifCond .ne 13, 3) := by decide +kernel
theorem dX12_work_384 : decode cX12_work 384 = .ok (.aload_n 0, 1) := by decide +kernel
theorem dX12_work_385 : decode cX12_work 385 = .ok (.getfield 39, 3) := by decide +kernel
theorem dX12_work_388 : decode cX12_work 388 = .ok (.iload 6, 2) := by decide +kernel
theorem dX12_work_390 : decode cX12_work 390 = .ok (.baload, 1) := by decide +kernel
theorem dX12_work_391 : decode cX12_work 391 = .ok (.ifCond .eq 7, 3) := by decide +kernel
theorem dX12_work_394 : decode cX12_work 394 = .ok (.iconst 1, 1) := by decide +kernel
theorem dX12_work_395 : decode cX12_work 395 = .ok (.goto 4, 3) := by decide +kernel
theorem dX12_work_398 : decode cX12_work 398 = .ok (.iconst 0, 1) := by decide +kernel
theorem dX12_work_399 : decode cX12_work 399 = .ok (.bastore, 1) := by decide +kernel
theorem dX12_work_400 : decode cX12_work 400 = .ok (.iinc 7 1, 3) := by decide +kernel
theorem dX12_work_403 : decode cX12_work 403 = .ok (.goto (-365), 3) := by decide +kernel
theorem dX12_work_406 : decode cX12_work 406 = .ok (.return_, 1) := by decide +kernel
theorem dX12_clauseOf_0 : decode cX12_clauseOf 0 = .ok (.iconst 0, 1) := by decide +kernel
theorem dX12_clauseOf_1 : decode cX12_clauseOf 1 = .ok (.istore_n 3, 1) := by decide +kernel
theorem dX12_clauseOf_2 : decode cX12_clauseOf 2 = .ok (.iload_n 3, 1) := by decide +kernel
theorem dX12_clauseOf_3 : decode cX12_clauseOf 3 = .ok (.aload_n 0, 1) := by decide +kernel
theorem dX12_clauseOf_4 : decode cX12_clauseOf 4 = .ok (.getfield 16, 3) := by decide +kernel
