theorem dX0_init_0 : decode cX0_init 0 = .ok (.aload_n 0, 1) := by decide +kernel
theorem dX0_init_1 : decode cX0_init 1 = .ok (.invokespecial 3, 3) := by decide +kernel
theorem dX0_init_4 : decode cX0_init 4 = .ok (.aload_n 0, 1) := by decide +kernel
theorem dX0_init_5 : decode cX0_init 5 = .ok (.aload_n 1, 1) := by decide +kernel
theorem dX0_init_6 : decode cX0_init 6 = .ok (.putfield 9, 3) := by decide +kernel
theorem dX0_init_9 : decode cX0_init 9 = .ok (.aload_n 0, 1) := by decide +kernel
theorem dX0_init_10 : decode cX0_init 10 = .ok (.aload_n 2, 1) := by decide +kernel
theorem dX0_init_11 : decode cX0_init 11 = .ok (.putfield 15, 3) := by decide +kernel
theorem dX0_init_14 : decode cX0_init 14 = .ok (.aload_n 0, 1) := by decide +kernel
theorem dX0_init_15 : decode cX0_init 15 = .ok (.aload_n 1, 1) := by decide +kernel
theorem dX0_init_16 : decode cX0_init 16 = .ok (.invokevirtual 19, 3) := by decide +kernel
theorem dX0_init_19 : decode cX0_init 19 = .ok (.putfield 25, 3) := by decide +kernel
theorem dX0_init_22 : decode cX0_init 22 = .ok (.aload_n 0, 1) := by decide +kernel
theorem dX0_init_23 : decode cX0_init 23 = .ok (.aload_n 0, 1) := by decide +kernel
theorem dX0_init_24 : decode cX0_init 24 = .ok (.getfield 25, 3) := by decide +kernel
theorem dX0_init_27 : decode cX0_init 27 = .ok (.aload_n 0, 1) := by decide +kernel
theorem dX0_init_28 : decode cX0_init 28 = .ok (.getfield 25, 3) := by decide +kernel
theorem dX0_init_31 : decode cX0_init 31 = .ok (.imul, 1) := by decide +kernel
theorem dX0_init_32 : decode cX0_init 32 = .ok (.putfield 29, 3) := by decide +kernel
theorem dX0_init_35 : decode cX0_init 35 = .ok (.aload_n 0, 1) := by decide +kernel
theorem dX0_init_36 : decode cX0_init 36 = .ok (.iconst 2, 1) := by decide +kernel
theorem dX0_init_37 : decode cX0_init 37 = .ok (.aload_n 0, 1) := by decide +kernel
theorem dX0_init_38 : decode cX0_init 38 = .ok (.getfield 29, 3) := by decide +kernel
theorem dX0_init_41 : decode cX0_init 41 = .ok (.imul, 1) := by decide +kernel
theorem dX0_init_42 : decode cX0_init 42 = .ok (.newarray .int, 2) := by decide +kernel
theorem dX0_init_44 : decode cX0_init 44 = .ok (.putfield 32, 3) := by decide +kernel
theorem dX0_init_47 : decode cX0_init 47 = .ok (.aload_n 0, 1) := by decide +kernel
theorem dX0_init_48 : decode cX0_init 48 = .ok (.iconst 2, 1) := by decide +kernel
theorem dX0_init_49 : decode cX0_init 49 = .ok (.aload_n 0, 1) := by decide +kernel
theorem dX0_init_50 : decode cX0_init 50 = .ok (.getfield 29, 3) := by decide +kernel
theorem dX0_init_53 : decode cX0_init 53 = .ok (.imul, 1) := by decide +kernel
theorem dX0_init_54 : decode cX0_init 54 = .ok (.newarray .int, 2) := by decide +kernel
theorem dX0_init_56 : decode cX0_init 56 = .ok (.putfield 36, 3) := by decide +kernel
theorem dX0_init_59 : decode cX0_init 59 = .ok (.aload_n 0, 1) := by decide +kernel
theorem dX0_init_60 : decode cX0_init 60 = .ok (.aload_n 0, 1) := by decide +kernel
theorem dX0_init_61 : decode cX0_init 61 = .ok (.getfield 25, 3) := by decide +kernel
theorem dX0_init_64 : decode cX0_init 64 = .ok (.iconst 1, 1) := by decide +kernel
theorem dX0_init_65 : decode cX0_init 65 = .ok (.iadd, 1) := by decide +kernel
theorem dX0_init_66 : decode cX0_init 66 = .ok (.newarray .int, 2) := by decide +kernel
theorem dX0_init_68 : decode cX0_init 68 = .ok (.putfield 39, 3) := by decide +kernel
theorem dX0_init_71 : decode cX0_init 71 = .ok (.aload_n 0, 1) := by decide +kernel
theorem dX0_init_72 : decode cX0_init 72 = .ok (.iconst 4, 1) := by decide +kernel
theorem dX0_init_73 : decode cX0_init 73 = .ok (.aload_n 0, 1) := by decide +kernel
theorem dX0_init_74 : decode cX0_init 74 = .ok (.getfield 25, 3) := by decide +kernel
theorem dX0_init_77 : decode cX0_init 77 = .ok (.imul, 1) := by decide +kernel
theorem dX0_init_78 : decode cX0_init 78 = .ok (.newarray .int, 2) := by decide +kernel
theorem dX0_init_80 : decode cX0_init 80 = .ok (.putfield 42, 3) := by decide +kernel
theorem dX0_init_83 : decode cX0_init 83 = .ok (.aload_n 0, 1) := by decide +kernel
theorem dX0_init_84 : decode cX0_init 84 = .ok (.aload_n 0, 1) := by decide +kernel
theorem dX0_init_85 : decode cX0_init 85 = .ok (.getfield 25, 3) := by decide +kernel
theorem dX0_init_88 : decode cX0_init 88 = .ok (.iconst 1, 1) := by decide +kernel
theorem dX0_init_89 : decode cX0_init 89 = .ok (.iadd, 1) := by decide +kernel
theorem dX0_init_90 : decode cX0_init 90 = .ok (.newarray .int, 2) := by decide +kernel
theorem dX0_init_92 : decode cX0_init 92 = .ok (.putfield 45, 3) := by decide +kernel
theorem dX0_init_95 : decode cX0_init 95 = .ok (.aload_n 0, 1) := by decide +kernel
theorem dX0_init_96 : decode cX0_init 96 = .ok (.iconst 4, 1) := by decide +kernel
theorem dX0_init_97 : decode cX0_init 97 = .ok (.aload_n 0, 1) := by decide +kernel
theorem dX0_init_98 : decode cX0_init 98 = .ok (.getfield 25, 3) := by decide +kernel
theorem dX0_init_101 : decode cX0_init 101 = .ok (.imul, 1) := by decide +kernel
theorem dX0_init_102 : decode cX0_init 102 = .ok (.newarray .int, 2) := by decide +kernel
theorem dX0_init_104 : decode cX0_init 104 = .ok (.putfield 48, 3) := by decide +kernel
theorem dX0_init_107 : decode cX0_init 107 = .ok (.return_, 1) := by decide +kernel
theorem dX0_turns_0 : decode cX0_turns 0 = .ok (.aload_n 0, 1) := by decide +kernel
theorem dX0_turns_1 : decode cX0_turns 1 = .ok (.iload_n 1, 1) := by decide +kernel
theorem dX0_turns_2 : decode cX0_turns 2 = .ok (.aload_n 0, 1) := by decide +kernel
theorem dX0_turns_3 : decode cX0_turns 3 = .ok (.getfield 39, 3) := by decide +kernel
theorem dX0_turns_6 : decode cX0_turns 6 = .ok (.aload_n 0, 1) := by decide +kernel
theorem dX0_turns_7 : decode cX0_turns 7 = .ok (.getfield 42, 3) := by decide +kernel
theorem dX0_turns_10 : decode cX0_turns 10 = .ok (.invokevirtual 51, 3) := by decide +kernel
theorem dX0_turns_13 : decode cX0_turns 13 = .ok (.aload_n 0, 1) := by decide +kernel
theorem dX0_turns_14 : decode cX0_turns 14 = .ok (.iload_n 3, 1) := by decide +kernel
theorem dX0_turns_15 : decode cX0_turns 15 = .ok (.aload_n 0, 1) := by decide +kernel
theorem dX0_turns_16 : decode cX0_turns 16 = .ok (.getfield 45, 3) := by decide +kernel
theorem dX0_turns_19 : decode cX0_turns 19 = .ok (.aload_n 0, 1) := by decide +kernel
theorem dX0_turns_20 : decode cX0_turns 20 = .ok (.getfield 48, 3) := by decide +kernel
theorem dX0_turns_23 : decode cX0_turns 23 = .ok (.invokevirtual 51, 3) := by decide +kernel
theorem dX0_turns_26 : decode cX0_turns 26 = .ok (.aload_n 0, 1) := by decide +kernel
theorem dX0_turns_27 : decode cX0_turns 27 = .ok (.invokevirtual 55, 3) := by decide +kernel
theorem dX0_turns_30 : decode cX0_turns 30 = .ok (.iload_n 2, 1) := by decide +kernel
theorem dX0_turns_31 : decode cX0_turns 31 = .ok (.aload_n 0, 1) := by decide +kernel
theorem dX0_turns_32 : decode cX0_turns 32 = .ok (.getfield 25, 3) := by decide +kernel
theorem dX0_turns_35 : decode cX0_turns 35 = .ok (.imul, 1) := by decide +kernel
theorem dX0_turns_36 : decode cX0_turns 36 = .ok (.iload 4, 2) := by decide +kernel
theorem dX0_turns_38 : decode cX0_turns 38 = .ok (.iadd, 1) := by decide +kernel
theorem dX0_turns_39 : decode cX0_turns 39 = .ok (.istore 5, 2) := by decide +kernel
theorem dX0_turns_41 : decode cX0_turns 41 = .ok (.iload 5, 2) := by decide +kernel
theorem dX0_turns_43 : decode cX0_turns 43 = .ok (.ifCond .lt 12, 3) := by decide +kernel
theorem dX0_turns_46 : decode cX0_turns 46 = .ok (.iload 5, 2) := by decide +kernel
theorem dX0_turns_48 : decode cX0_turns 48 = .ok (.aload_n 0, 1) := by decide +kernel
theorem dX0_turns_49 : decode cX0_turns 49 = .ok (.getfield 29, 3) := by decide +kernel
theorem dX0_turns_52 : decode cX0_turns 52 = .ok (.if_icmp .lt 5, 3) := by decide +kernel
theorem dX0_turns_55 : decode cX0_turns 55 = .ok (.iconst (-1), 1) := by decide +kernel
theorem dX0_turns_56 : decode cX0_turns 56 = .ok (.ireturn, 1) := by decide +kernel
theorem dX0_turns_57 : decode cX0_turns 57 = .ok (.iconst 0, 1) := by decide +kernel
theorem dX0_turns_58 : decode cX0_turns 58 = .ok (.istore 6, 2) := by decide +kernel
theorem dX0_turns_60 : decode cX0_turns 60 = .ok (.iload 6, 2) := by decide +kernel
theorem dX0_turns_62 : decode cX0_turns 62 = .ok (.aload_n 0, 1) := by decide +kernel
theorem dX0_turns_63 : decode cX0_turns 63 = .ok (.getfield 58, 3) := by decide +kernel
theorem dX0_turns_66 : decode cX0_turns 66 = .ok (.if_icmp .ge 68, 3) := by decide +kernel
theorem dX0_turns_69 : decode cX0_turns 69 = .ok (.iload 6, 2) := by decide +kernel
theorem dX0_turns_71 : decode cX0_turns 71 = .ok (.aload_n 0, 1) := by decide +kernel
theorem dX0_turns_72 : decode cX0_turns 72 = .ok (.getfield 36, 3) := by decide +kernel
theorem dX0_turns_75 : decode cX0_turns 75 = .ok (.arraylength, 1) := by decide +kernel
theorem dX0_turns_76 : decode cX0_turns 76 = .ok (.if_icmp .ge 58, 3) := by decide +kernel
theorem dX0_turns_79 : decode cX0_turns 79 = .ok (.aload_n 0, 1) := by decide +kernel
theorem dX0_turns_80 : decode cX0_turns 80 = .ok (.getfield 32, 3) := by decide +kernel
theorem dX0_turns_83 : decode cX0_turns 83 = .ok (.iload 5, 2) := by decide +kernel
theorem dX0_turns_85 : decode cX0_turns 85 = .ok (.iaload, 1) := by decide +kernel
theorem dX0_turns_86 : decode cX0_turns 86 = .ok (.ifCond .ge 48, 3) := by decide +kernel
theorem dX0_turns_89 : decode cX0_turns 89 = .ok (.aload_n 0, 1) := by decide +kernel
theorem dX0_turns_90 : decode cX0_turns 90 = .ok (.getfield 36, 3) := by decide +kernel
theorem dX0_turns_93 : decode cX0_turns 93 = .ok (.iload 6, 2) := by decide +kernel
theorem dX0_turns_95 : decode cX0_turns 95 = .ok (.iaload, 1) := by decide +kernel
theorem dX0_turns_96 : decode cX0_turns 96 = .ok (.aload_n 0, 1) := by decide +kernel
theorem dX0_turns_97 : decode cX0_turns 97 = .ok (.getfield 29, 3) := by decide +kernel
theorem dX0_turns_100 : decode cX0_turns 100 = .ok (.if_icmp .ge 17, 3) := by decide +kernel
theorem dX0_turns_103 : decode cX0_turns 103 = .ok (.aload_n 0, 1) := by decide +kernel
theorem dX0_turns_104 : decode cX0_turns 104 = .ok (.aload_n 0, 1) := by decide +kernel
theorem dX0_turns_105 : decode cX0_turns 105 = .ok (.getfield 36, 3) := by decide +kernel
theorem dX0_turns_108 : decode cX0_turns 108 = .ok (.iload 6, 2) := by decide +kernel
theorem dX0_turns_110 : decode cX0_turns 110 = .ok (.iaload, 1) := by decide +kernel
theorem dX0_turns_111 : decode cX0_turns 111 = .ok (.invokevirtual 61, 3) := by decide +kernel
theorem dX0_turns_114 : decode cX0_turns 114 = .ok (.goto 14, 3) := by decide +kernel
theorem dX0_turns_117 : decode cX0_turns 117 = .ok (.aload_n 0, 1) := by decide +kernel
theorem dX0_turns_118 : decode cX0_turns 118 = .ok (.aload_n 0, 1) := by decide +kernel
theorem dX0_turns_119 : decode cX0_turns 119 = .ok (.getfield 36, 3) := by decide +kernel
theorem dX0_turns_122 : decode cX0_turns 122 = .ok (.iload 6, 2) := by decide +kernel
theorem dX0_turns_124 : decode cX0_turns 124 = .ok (.iaload, 1) := by decide +kernel
theorem dX0_turns_125 : decode cX0_turns 125 = .ok (.invokevirtual 65, 3) := by decide +kernel
theorem dX0_turns_128 : decode cX0_turns 128 = .ok (.iinc 6 1, 3) := by decide +kernel
theorem dX0_turns_131 : decode cX0_turns 131 = .ok (.goto (-71), 3) := by decide +kernel
theorem dX0_turns_134 : decode cX0_turns 134 = .ok (.aload_n 0, 1) := by decide +kernel
theorem dX0_turns_135 : decode cX0_turns 135 = .ok (.getfield 32, 3) := by decide +kernel
theorem dX0_turns_138 : decode cX0_turns 138 = .ok (.iload 5, 2) := by decide +kernel
theorem dX0_turns_140 : decode cX0_turns 140 = .ok (.iaload, 1) := by decide +kernel
theorem dX0_turns_141 : decode cX0_turns 141 = .ok (.ifCond .ge 7, 3) := by decide +kernel
theorem dX0_turns_144 : decode cX0_turns 144 = .ok (.iconst (-1), 1) := by decide +kernel
theorem dX0_turns_145 : decode cX0_turns 145 = .ok (.goto 10, 3) := by decide +kernel
theorem dX0_turns_148 : decode cX0_turns 148 = .ok (.aload_n 0, 1) := by decide +kernel
theorem dX0_turns_149 : decode cX0_turns 149 = .ok (.getfield 32, 3) := by decide +kernel
theorem dX0_turns_152 : decode cX0_turns 152 = .ok (.iload 5, 2) := by decide +kernel
theorem dX0_turns_154 : decode cX0_turns 154 = .ok (.iaload, 1) := by decide +kernel
theorem dX0_turns_155 : decode cX0_turns 155 = .ok (.ireturn, 1) := by decide +kernel
theorem dX0_firstTap_0 : decode cX0_firstTap 0 = .ok (.iconst 0, 1) := by decide +kernel
theorem dX0_firstTap_1 : decode cX0_firstTap 1 = .ok (.istore 5, 2) := by decide +kernel
theorem dX0_firstTap_3 : decode cX0_firstTap 3 = .ok (.iload 5, 2) := by decide +kernel
theorem dX0_firstTap_5 : decode cX0_firstTap 5 = .ok (.iconst 4, 1) := by decide +kernel
theorem dX0_firstTap_6 : decode cX0_firstTap 6 = .ok (.if_icmp .ge 64, 3) := by decide +kernel
theorem dX0_firstTap_9 : decode cX0_firstTap 9 = .ok (.aload_n 0, 1) := by decide +kernel
theorem dX0_firstTap_10 : decode cX0_firstTap 10 = .ok (.getfield 29, 3) := by decide +kernel
theorem dX0_firstTap_13 : decode cX0_firstTap 13 = .ok (.aload_n 0, 1) := by decide +kernel
theorem dX0_firstTap_14 : decode cX0_firstTap 14 = .ok (.getfield 15, 3) := by decide +kernel
theorem dX0_firstTap_17 : decode cX0_firstTap 17 = .ok (.iload_n 1, 1) := by decide +kernel
theorem dX0_firstTap_18 : decode cX0_firstTap 18 = .ok (.iload_n 2, 1) := by decide +kernel
theorem dX0_firstTap_19 : decode cX0_firstTap 19 = .ok (.iload 5, 2) := by decide +kernel
theorem dX0_firstTap_21 : decode cX0_firstTap 21 = .ok (.invokevirtual 68, 3) := by decide +kernel
theorem dX0_firstTap_24 : decode cX0_firstTap 24 = .ok (.invokestatic 74, 3) := by decide +kernel
theorem dX0_firstTap_27 : decode cX0_firstTap 27 = .ok (.aload_n 0, 1) := by decide +kernel
theorem dX0_firstTap_28 : decode cX0_firstTap 28 = .ok (.getfield 25, 3) := by decide +kernel
theorem dX0_firstTap_31 : decode cX0_firstTap 31 = .ok (.imul, 1) := by decide +kernel
theorem dX0_firstTap_32 : decode cX0_firstTap 32 = .ok (.iadd, 1) := by decide +kernel
theorem dX0_firstTap_33 : decode cX0_firstTap 33 = .ok (.iload_n 3, 1) := by decide +kernel
theorem dX0_firstTap_34 : decode cX0_firstTap 34 = .ok (.iadd, 1) := by decide +kernel
theorem dX0_firstTap_35 : decode cX0_firstTap 35 = .ok (.istore 6, 2) := by decide +kernel
theorem dX0_firstTap_37 : decode cX0_firstTap 37 = .ok (.iload 6, 2) := by decide +kernel
theorem dX0_firstTap_39 : decode cX0_firstTap 39 = .ok (.aload_n 0, 1) := by decide +kernel
theorem dX0_firstTap_40 : decode cX0_firstTap 40 = .ok (.getfield 32, 3) := by decide +kernel
theorem dX0_firstTap_43 : decode cX0_firstTap 43 = .ok (.arraylength, 1) := by decide +kernel
theorem dX0_firstTap_44 : decode cX0_firstTap 44 = .ok (.if_icmp .ge 20, 3) := by decide +kernel
theorem dX0_firstTap_47 : decode cX0_firstTap 47 = .ok (.aload_n 0, 1) := by decide +kernel
theorem dX0_firstTap_48 : decode cX0_firstTap 48 = .ok (.getfield 32, 3) := by decide +kernel
theorem dX0_firstTap_51 : decode cX0_firstTap 51 = .ok (.iload 6, 2) := by decide +kernel
theorem dX0_firstTap_53 : decode cX0_firstTap 53 = .ok (.iaload, 1) := by decide +kernel
theorem dX0_firstTap_54 : decode cX0_firstTap 54 = .ok (.iload 4, 2) := by decide +kernel
theorem dX0_firstTap_56 : decode cX0_firstTap 56 = .ok (.iconst 1, 1) := by decide +kernel
theorem dX0_firstTap_57 : decode cX0_firstTap 57 = .ok (.isub, 1) := by decide +kernel
theorem dX0_firstTap_58 : decode cX0_firstTap 58 = .ok (.if_icmp .ne 6, 3) := by decide +kernel
theorem dX0_firstTap_61 : decode cX0_firstTap 61 = .ok (.iload 5, 2) := by decide +kernel
theorem dX0_firstTap_63 : decode cX0_firstTap 63 = .ok (.ireturn, 1) := by decide +kernel
theorem dX0_firstTap_64 : decode cX0_firstTap 64 = .ok (.iinc 5 1, 3) := by decide +kernel
theorem dX0_firstTap_67 : decode cX0_firstTap 67 = .ok (.goto (-64), 3) := by decide +kernel
theorem dX0_firstTap_70 : decode cX0_firstTap 70 = .ok (.iconst (-1), 1) := by decide +kernel
theorem dX0_firstTap_71 : decode cX0_firstTap 71 = .ok (.ireturn, 1) := by decide +kernel
theorem dX0_link_0 : decode cX0_link 0 = .ok (.aload_n 2, 1) := by decide +kernel
theorem dX0_link_1 : decode cX0_link 1 = .ok (.iconst 0, 1) := by decide +kernel
theorem dX0_link_2 : decode cX0_link 2 = .ok (.invokestatic 78, 3) := by decide +kernel
theorem dX0_link_5 : decode cX0_link 5 = .ok (.iconst 0, 1) := by decide +kernel
theorem dX0_link_6 : decode cX0_link 6 = .ok (.istore 4, 2) := by decide +kernel
theorem dX0_link_8 : decode cX0_link 8 = .ok (.iload 4, 2) := by decide +kernel
theorem dX0_link_10 : decode cX0_link 10 = .ok (.iconst 4, 1) := by decide +kernel
theorem dX0_link_11 : decode cX0_link 11 = .ok (.aload_n 0, 1) := by decide +kernel
theorem dX0_link_12 : decode cX0_link 12 = .ok (.getfield 25, 3) := by decide +kernel
theorem dX0_link_15 : decode cX0_link 15 = .ok (.imul, 1) := by decide +kernel
theorem dX0_link_16 : decode cX0_link 16 = .ok (.if_icmp .ge 48, 3) := by decide +kernel
theorem dX0_link_19 : decode cX0_link 19 = .ok (.aload_n 0, 1) := by decide +kernel
theorem dX0_link_20 : decode cX0_link 20 = .ok (.getfield 9, 3) := by decide +kernel
theorem dX0_link_23 : decode cX0_link 23 = .ok (.iload 4, 2) := by decide +kernel
theorem dX0_link_25 : decode cX0_link 25 = .ok (.iconst 4, 1) := by decide +kernel
theorem dX0_link_26 : decode cX0_link 26 = .ok (.idiv, 1) := by decide +kernel
theorem dX0_link_27 : decode cX0_link 27 = .ok (.invokevirtual 84, 3) := by decide +kernel
theorem dX0_link_30 : decode cX0_link 30 = .ok (.ifCond .eq 28, 3) := by decide +kernel
theorem dX0_link_33 : decode cX0_link 33 = .ok (.aload_n 2, 1) := by decide +kernel
theorem dX0_link_34 : decode cX0_link 34 = .ok (.aload_n 0, 1) := by decide +kernel
theorem dX0_link_35 : decode cX0_link 35 = .ok (.getfield 15, 3) := by decide +kernel
theorem dX0_link_38 : decode cX0_link 38 = .ok (.iload_n 1, 1) := by decide +kernel
theorem dX0_link_39 : decode cX0_link 39 = .ok (.iload 4, 2) := by decide +kernel
theorem dX0_link_41 : decode cX0_link 41 = .ok (.iconst 4, 1) := by decide +kernel
theorem dX0_link_42 : decode cX0_link 42 = .ok (.idiv, 1) := by decide +kernel
theorem dX0_link_43 : decode cX0_link 43 = .ok (.iload 4, 2) := by decide +kernel
theorem dX0_link_45 : decode cX0_link 45 = .ok (.iconst 4, 1) := by decide +kernel
theorem dX0_link_46 : decode cX0_link 46 = .ok (.irem, 1) := by decide +kernel
theorem dX0_link_47 : decode cX0_link 47 = .ok (.invokevirtual 68, 3) := by decide +kernel
theorem dX0_link_50 : decode cX0_link 50 = .ok (.invokestatic 74, 3) := by decide +kernel
theorem dX0_link_53 : decode cX0_link 53 = .ok (.dup2, 1) := by decide +kernel
theorem dX0_link_54 : decode cX0_link 54 = .ok (.iaload, 1) := by decide +kernel
theorem dX0_link_55 : decode cX0_link 55 = .ok (.iconst 1, 1) := by decide +kernel
theorem dX0_link_56 : decode cX0_link 56 = .ok (.iadd, 1) := by decide +kernel
theorem dX0_link_57 : decode cX0_link 57 = .ok (.iastore, 1) := by decide +kernel
theorem dX0_link_58 : decode cX0_link 58 = .ok (.iinc 4 1, 3) := by decide +kernel
theorem dX0_link_61 : decode cX0_link 61 = .ok (.goto (-53), 3) := by decide +kernel
theorem dX0_link_64 : decode cX0_link 64 = .ok (.iconst 1, 1) := by decide +kernel
theorem dX0_link_65 : decode cX0_link 65 = .ok (.istore 4, 2) := by decide +kernel
theorem dX0_link_67 : decode cX0_link 67 = .ok (.iload 4, 2) := by decide +kernel
theorem dX0_link_69 : decode cX0_link 69 = .ok (.aload_n 0, 1) := by decide +kernel
theorem dX0_link_70 : decode cX0_link 70 = .ok (.getfield 25, 3) := by decide +kernel
theorem dX0_link_73 : decode cX0_link 73 = .ok (.if_icmp .gt 22, 3) := by decide +kernel
theorem dX0_link_76 : decode cX0_link 76 = .ok (.aload_n 2, 1) := by decide +kernel
theorem dX0_link_77 : decode cX0_link 77 = .ok (.iload 4, 2) := by decide +kernel
theorem dX0_link_79 : decode cX0_link 79 = .ok (.dup2, 1) := by decide +kernel
theorem dX0_link_80 : decode cX0_link 80 = .ok (.iaload, 1) := by decide +kernel
theorem dX0_link_81 : decode cX0_link 81 = .ok (.aload_n 2, 1) := by decide +kernel
theorem dX0_link_82 : decode cX0_link 82 = .ok (.iload 4, 2) := by decide +kernel
theorem dX0_link_84 : decode cX0_link 84 = .ok (.iconst 1, 1) := by decide +kernel
theorem dX0_link_85 : decode cX0_link 85 = .ok (.isub, 1) := by decide +kernel
theorem dX0_link_86 : decode cX0_link 86 = .ok (.iaload, 1) := by decide +kernel
theorem dX0_link_87 : decode cX0_link 87 = .ok (.iadd, 1) := by decide +kernel
theorem dX0_link_88 : decode cX0_link 88 = .ok (.iastore, 1) := by decide +kernel
theorem dX0_link_89 : decode cX0_link 89 = .ok (.iinc 4 1, 3) := by decide +kernel
theorem dX0_link_92 : decode cX0_link 92 = .ok (.goto (-25), 3) := by decide +kernel
theorem dX0_link_95 : decode cX0_link 95 = .ok (.iconst 0, 1) := by decide +kernel
theorem dX0_link_96 : decode cX0_link 96 = .ok (.istore 4, 2) := by decide +kernel
theorem dX0_link_98 : decode cX0_link 98 = .ok (.iload 4, 2) := by decide +kernel
theorem dX0_link_100 : decode cX0_link 100 = .ok (.iconst 4, 1) := by decide +kernel
theorem dX0_link_101 : decode cX0_link 101 = .ok (.aload_n 0, 1) := by decide +kernel
theorem dX0_link_102 : decode cX0_link 102 = .ok (.getfield 25, 3) := by decide +kernel
theorem dX0_link_105 : decode cX0_link 105 = .ok (.imul, 1) := by decide +kernel
theorem dX0_link_106 : decode cX0_link 106 = .ok (.if_icmp .ge 62, 3) := by decide +kernel
theorem dX0_link_109 : decode cX0_link 109 = .ok (.aload_n 0, 1) := by decide +kernel
theorem dX0_link_110 : decode cX0_link 110 = .ok (.getfield 9, 3) := by decide +kernel
theorem dX0_link_113 : decode cX0_link 113 = .ok (.iload 4, 2) := by decide +kernel
theorem dX0_link_115 : decode cX0_link 115 = .ok (.iconst 4, 1) := by decide +kernel
theorem dX0_link_116 : decode cX0_link 116 = .ok (.idiv, 1) := by decide +kernel
theorem dX0_link_117 : decode cX0_link 117 = .ok (.invokevirtual 84, 3) := by decide +kernel
theorem dX0_link_120 : decode cX0_link 120 = .ok (.ifCond .eq 42, 3) := by decide +kernel
theorem dX0_link_123 : decode cX0_link 123 = .ok (.aload_n 0, 1) := by decide +kernel
theorem dX0_link_124 : decode cX0_link 124 = .ok (.getfield 15, 3) := by decide +kernel
theorem dX0_link_127 : decode cX0_link 127 = .ok (.iload_n 1, 1) := by decide +kernel
theorem dX0_link_128 : decode cX0_link 128 = .ok (.iload 4, 2) := by decide +kernel
theorem dX0_link_130 : decode cX0_link 130 = .ok (.iconst 4, 1) := by decide +kernel
theorem dX0_link_131 : decode cX0_link 131 = .ok (.idiv, 1) := by decide +kernel
theorem dX0_link_132 : decode cX0_link 132 = .ok (.iload 4, 2) := by decide +kernel
theorem dX0_link_134 : decode cX0_link 134 = .ok (.iconst 4, 1) := by decide +kernel
theorem dX0_link_135 : decode cX0_link 135 = .ok (.irem, 1) := by decide +kernel
theorem dX0_link_136 : decode cX0_link 136 = .ok (.invokevirtual 68, 3) := by decide +kernel
theorem dX0_link_139 : decode cX0_link 139 = .ok (.invokestatic 74, 3) := by decide +kernel
theorem dX0_link_142 : decode cX0_link 142 = .ok (.istore 5, 2) := by decide +kernel
theorem dX0_link_144 : decode cX0_link 144 = .ok (.aload_n 2, 1) := by decide +kernel
theorem dX0_link_145 : decode cX0_link 145 = .ok (.iload 5, 2) := by decide +kernel
theorem dX0_link_147 : decode cX0_link 147 = .ok (.dup2, 1) := by decide +kernel
theorem dX0_link_148 : decode cX0_link 148 = .ok (.iaload, 1) := by decide +kernel
theorem dX0_link_149 : decode cX0_link 149 = .ok (.iconst 1, 1) := by decide +kernel
theorem dX0_link_150 : decode cX0_link 150 = .ok (.isub, 1) := by decide +kernel
theorem dX0_link_151 : decode cX0_link 151 = .ok (.iastore, 1) := by decide +kernel
theorem dX0_link_152 : decode cX0_link 152 = .ok (.aload_n 3, 1) := by decide +kernel
theorem dX0_link_153 : decode cX0_link 153 = .ok (.aload_n 2, 1) := by decide +kernel
theorem dX0_link_154 : decode cX0_link 154 = .ok (.iload 5, 2) := by decide +kernel
theorem dX0_link_156 : decode cX0_link 156 = .ok (.iaload, 1) := by decide +kernel
theorem dX0_link_157 : decode cX0_link 157 = .ok (.iload 4, 2) := by decide +kernel
theorem dX0_link_159 : decode cX0_link 159 = .ok (.iconst 4, 1) := by decide +kernel
theorem dX0_link_160 : decode cX0_link 160 = .ok (.idiv, 1) := by decide +kernel
theorem dX0_link_161 : decode cX0_link 161 = .ok (.iastore, 1) := by decide +kernel
theorem dX0_link_162 : decode cX0_link 162 = .ok (.iinc 4 1, 3) := by decide +kernel
theorem dX0_link_165 : decode cX0_link 165 = .ok (.goto (-67), 3) := by decide +kernel
theorem dX0_link_168 : decode cX0_link 168 = .ok (.return_, 1) := by decide +kernel
theorem dX0_begin_0 : decode cX0_begin 0 = .ok (.aload_n 0, 1) := by decide +kernel
theorem dX0_begin_1 : decode cX0_begin 1 = .ok (.getfield 32, 3) := by decide +kernel
theorem dX0_begin_4 : decode cX0_begin 4 = .ok (.bipush (-4), 2) := by decide +kernel
theorem dX0_begin_6 : decode cX0_begin 6 = .ok (.invokestatic 78, 3) := by decide +kernel
theorem dX0_begin_9 : decode cX0_begin 9 = .ok (.aload_n 0, 1) := by decide +kernel
theorem dX0_begin_10 : decode cX0_begin 10 = .ok (.iconst 0, 1) := by decide +kernel
theorem dX0_begin_11 : decode cX0_begin 11 = .ok (.putfield 58, 3) := by decide +kernel
theorem dX0_begin_14 : decode cX0_begin 14 = .ok (.iconst 0, 1) := by decide +kernel
theorem dX0_begin_15 : decode cX0_begin 15 = .ok (.istore_n 1, 1) := by decide +kernel
theorem dX0_begin_16 : decode cX0_begin 16 = .ok (.iload_n 1, 1) := by decide +kernel
theorem dX0_begin_17 : decode cX0_begin 17 = .ok (.aload_n 0, 1) := by decide +kernel
theorem dX0_begin_18 : decode cX0_begin 18 = .ok (.getfield 25, 3) := by decide +kernel
theorem dX0_begin_21 : decode cX0_begin 21 = .ok (.if_icmp .ge 65, 3) := by decide +kernel
theorem dX0_begin_24 : decode cX0_begin 24 = .ok (.iconst 0, 1) := by decide +kernel
theorem dX0_begin_25 : decode cX0_begin 25 = .ok (.istore_n 2, 1) := by decide +kernel
theorem dX0_begin_26 : decode cX0_begin 26 = .ok (.iload_n 2, 1) := by decide +kernel
theorem dX0_begin_27 : decode cX0_begin 27 = .ok (.iconst 4, 1) := by decide +kernel
theorem dX0_begin_28 : decode cX0_begin 28 = .ok (.if_icmp .ge 52, 3) := by decide +kernel
theorem dX0_begin_31 : decode cX0_begin 31 = .ok (.aload_n 0, 1) := by decide +kernel
theorem dX0_begin_32 : decode cX0_begin 32 = .ok (.getfield 9, 3) := by decide +kernel
theorem dX0_begin_35 : decode cX0_begin 35 = .ok (.iload_n 1, 1) := by decide +kernel
theorem dX0_begin_36 : decode cX0_begin 36 = .ok (.invokevirtual 84, 3) := by decide +kernel
theorem dX0_begin_39 : decode cX0_begin 39 = .ok (.ifCond .eq 41, 3) := by decide +kernel
theorem dX0_begin_42 : decode cX0_begin 42 = .ok (.iload_n 1, 1) := by decide +kernel
theorem dX0_begin_43 : decode cX0_begin 43 = .ok (.aload_n 0, 1) := by decide +kernel
theorem dX0_begin_44 : decode cX0_begin 44 = .ok (.getfield 25, 3) := by decide +kernel
theorem dX0_begin_47 : decode cX0_begin 47 = .ok (.imul, 1) := by decide +kernel
theorem dX0_begin_48 : decode cX0_begin 48 = .ok (.iload_n 1, 1) := by decide +kernel
theorem dX0_begin_49 : decode cX0_begin 49 = .ok (.iconst 4, 1) := by decide +kernel
theorem dX0_begin_50 : decode cX0_begin 50 = .ok (.idiv, 1) := by decide +kernel
theorem dX0_begin_51 : decode cX0_begin 51 = .ok (.iconst 4, 1) := by decide +kernel
theorem dX0_begin_52 : decode cX0_begin 52 = .ok (.imul, 1) := by decide +kernel
theorem dX0_begin_53 : decode cX0_begin 53 = .ok (.iadd, 1) := by decide +kernel
theorem dX0_begin_54 : decode cX0_begin 54 = .ok (.iload_n 2, 1) := by decide +kernel
theorem dX0_begin_55 : decode cX0_begin 55 = .ok (.iadd, 1) := by decide +kernel
theorem dX0_begin_56 : decode cX0_begin 56 = .ok (.istore_n 3, 1) := by decide +kernel
theorem dX0_begin_57 : decode cX0_begin 57 = .ok (.aload_n 0, 1) := by decide +kernel
theorem dX0_begin_58 : decode cX0_begin 58 = .ok (.iload_n 3, 1) := by decide +kernel
theorem dX0_begin_59 : decode cX0_begin 59 = .ok (.iconst 0, 1) := by decide +kernel
theorem dX0_begin_60 : decode cX0_begin 60 = .ok (.invokevirtual 88, 3) := by decide +kernel
theorem dX0_begin_63 : decode cX0_begin 63 = .ok (.aload_n 0, 1) := by decide +kernel
theorem dX0_begin_64 : decode cX0_begin 64 = .ok (.aload_n 0, 1) := by decide +kernel
theorem dX0_begin_65 : decode cX0_begin 65 = .ok (.getfield 29, 3) := by decide +kernel
theorem dX0_begin_68 : decode cX0_begin 68 = .ok (.iload_n 3, 1) := by decide +kernel
theorem dX0_begin_69 : decode cX0_begin 69 = .ok (.iadd, 1) := by decide +kernel
theorem dX0_begin_70 : decode cX0_begin 70 = .ok (.iconst 0, 1) := by decide +kernel
theorem dX0_begin_71 : decode cX0_begin 71 = .ok (.invokevirtual 88, 3) := by decide +kernel
theorem dX0_begin_74 : decode cX0_begin 74 = .ok (.iinc 2 1, 3) := by decide +kernel
theorem dX0_begin_77 : decode cX0_begin 77 = .ok (.goto (-51), 3) := by decide +kernel
theorem dX0_begin_80 : decode cX0_begin 80 = .ok (.iinc 1 1, 3) := by decide +kernel
theorem dX0_begin_83 : decode cX0_begin 83 = .ok (.goto (-67), 3) := by decide +kernel
theorem dX0_begin_86 : decode cX0_begin 86 = .ok (.return_, 1) := by decide +kernel
theorem dX0_settle_0 : decode cX0_settle 0 = .ok (.aload_n 0, 1) := by decide +kernel
theorem dX0_settle_1 : decode cX0_settle 1 = .ok (.getfield 32, 3) := by decide +kernel
theorem dX0_settle_4 : decode cX0_settle 4 = .ok (.iload_n 1, 1) := by decide +kernel
theorem dX0_settle_5 : decode cX0_settle 5 = .ok (.iload_n 2, 1) := by decide +kernel
theorem dX0_settle_6 : decode cX0_settle 6 = .ok (.iastore, 1) := by decide +kernel
theorem dX0_settle_7 : decode cX0_settle 7 = .ok (.aload_n 0, 1) := by decide +kernel
theorem dX0_settle_8 : decode cX0_settle 8 = .ok (.getfield 58, 3) := by decide +kernel
theorem dX0_settle_11 : decode cX0_settle 11 = .ok (.aload_n 0, 1) := by decide +kernel
theorem dX0_settle_12 : decode cX0_settle 12 = .ok (.getfield 36, 3) := by decide +kernel
theorem dX0_settle_15 : decode cX0_settle 15 = .ok (.arraylength, 1) := by decide +kernel
theorem dX0_settle_16 : decode cX0_settle 16 = .ok (.if_icmp .ge 23, 3) := by decide +kernel
theorem dX0_settle_19 : decode cX0_settle 19 = .ok (.aload_n 0, 1) := by decide +kernel
theorem dX0_settle_20 : decode cX0_settle 20 = .ok (.getfield 36, 3) := by decide +kernel
theorem dX0_settle_23 : decode cX0_settle 23 = .ok (.aload_n 0, 1) := by decide +kernel
theorem dX0_settle_24 : decode cX0_settle 24 = .ok (.getfield 58, 3) := by decide +kernel
theorem dX0_settle_27 : decode cX0_settle 27 = .ok (.iload_n 1, 1) := by decide +kernel
theorem dX0_settle_28 : decode cX0_settle 28 = .ok (.iastore, 1) := by decide +kernel
theorem dX0_settle_29 : decode cX0_settle 29 = .ok (.aload_n 0, 1) := by decide +kernel
theorem dX0_settle_30 : decode cX0_settle 30 = .ok (.dup, 1) := by decide +kernel
theorem dX0_settle_31 : decode cX0_settle 31 = .ok (.getfield 58, 3) := by decide +kernel
theorem dX0_settle_34 : decode cX0_settle 34 = .ok (.iconst 1, 1) := by decide +kernel
theorem dX0_settle_35 : decode cX0_settle 35 = .ok (.iadd, 1) := by decide +kernel
theorem dX0_settle_36 : decode cX0_settle 36 = .ok (.putfield 58, 3) := by decide +kernel
theorem dX0_settle_39 : decode cX0_settle 39 = .ok (.return_, 1) := by decide +kernel
theorem dX0_settleThiefs_0 : decode cX0_settleThiefs 0 = .ok (.iload_n 1, 1) := by decide +kernel
theorem dX0_settleThiefs_1 : decode cX0_settleThiefs 1 = .ok (.aload_n 0, 1) := by decide +kernel
theorem dX0_settleThiefs_2 : decode cX0_settleThiefs 2 = .ok (.getfield 25, 3) := by decide +kernel
theorem dX0_settleThiefs_5 : decode cX0_settleThiefs 5 = .ok (.idiv, 1) := by decide +kernel
theorem dX0_settleThiefs_6 : decode cX0_settleThiefs 6 = .ok (.istore_n 2, 1) := by decide +kernel
theorem dX0_settleThiefs_7 : decode cX0_settleThiefs 7 = .ok (.iload_n 1, 1) := by decide +kernel
theorem dX0_settleThiefs_8 : decode cX0_settleThiefs 8 = .ok (.aload_n 0, 1) := by decide +kernel
theorem dX0_settleThiefs_9 : decode cX0_settleThiefs 9 = .ok (.getfield 25, 3) := by decide +kernel
theorem dX0_settleThiefs_12 : decode cX0_settleThiefs 12 = .ok (.irem, 1) := by decide +kernel
theorem dX0_settleThiefs_13 : decode cX0_settleThiefs 13 = .ok (.istore_n 3, 1) := by decide +kernel
theorem dX0_settleThiefs_14 : decode cX0_settleThiefs 14 = .ok (.aload_n 0, 1) := by decide +kernel
theorem dX0_settleThiefs_15 : decode cX0_settleThiefs 15 = .ok (.getfield 45, 3) := by decide +kernel
theorem dX0_settleThiefs_18 : decode cX0_settleThiefs 18 = .ok (.iload_n 3, 1) := by decide +kernel
theorem dX0_settleThiefs_19 : decode cX0_settleThiefs 19 = .ok (.iaload, 1) := by decide +kernel
theorem dX0_settleThiefs_20 : decode cX0_settleThiefs 20 = .ok (.istore 4, 2) := by decide +kernel
theorem dX0_settleThiefs_22 : decode cX0_settleThiefs 22 = .ok (.iload 4, 2) := by decide +kernel
theorem dX0_settleThiefs_24 : decode cX0_settleThiefs 24 = .ok (.aload_n 0, 1) := by decide +kernel
theorem dX0_settleThiefs_25 : decode cX0_settleThiefs 25 = .ok (.getfield 45, 3) := by decide +kernel
theorem dX0_settleThiefs_28 : decode cX0_settleThiefs 28 = .ok (.iload_n 3, 1) := by decide +kernel
theorem dX0_settleThiefs_29 : decode cX0_settleThiefs 29 = .ok (.iconst 1, 1) := by decide +kernel
theorem dX0_settleThiefs_30 : decode cX0_settleThiefs 30 = .ok (.iadd, 1) := by decide +kernel
theorem dX0_settleThiefs_31 : decode cX0_settleThiefs 31 = .ok (.iaload, 1) := by decide +kernel
theorem dX0_settleThiefs_32 : decode cX0_settleThiefs 32 = .ok (.if_icmp .ge 75, 3) := by decide +kernel
theorem dX0_settleThiefs_35 : decode cX0_settleThiefs 35 = .ok (.aload_n 0, 1) := by decide +kernel
theorem dX0_settleThiefs_36 : decode cX0_settleThiefs 36 = .ok (.getfield 29, 3) := by decide +kernel
theorem dX0_settleThiefs_39 : decode cX0_settleThiefs 39 = .ok (.iload_n 2, 1) := by decide +kernel
theorem dX0_settleThiefs_40 : decode cX0_settleThiefs 40 = .ok (.aload_n 0, 1) := by decide +kernel
theorem dX0_settleThiefs_41 : decode cX0_settleThiefs 41 = .ok (.getfield 25, 3) := by decide +kernel
theorem dX0_settleThiefs_44 : decode cX0_settleThiefs 44 = .ok (.imul, 1) := by decide +kernel
theorem dX0_settleThiefs_45 : decode cX0_settleThiefs 45 = .ok (.iadd, 1) := by decide +kernel
theorem dX0_settleThiefs_46 : decode cX0_settleThiefs 46 = .ok (.aload_n 0, 1) := by decide +kernel
theorem dX0_settleThiefs_47 : decode cX0_settleThiefs 47 = .ok (.getfield 48, 3) := by decide +kernel
theorem dX0_settleThiefs_50 : decode cX0_settleThiefs 50 = .ok (.iload 4, 2) := by decide +kernel
theorem dX0_settleThiefs_52 : decode cX0_settleThiefs 52 = .ok (.iaload, 1) := by decide +kernel
theorem dX0_settleThiefs_53 : decode cX0_settleThiefs 53 = .ok (.iadd, 1) := by decide +kernel
theorem dX0_settleThiefs_54 : decode cX0_settleThiefs 54 = .ok (.istore 5, 2) := by decide +kernel
theorem dX0_settleThiefs_56 : decode cX0_settleThiefs 56 = .ok (.aload_n 0, 1) := by decide +kernel
theorem dX0_settleThiefs_57 : decode cX0_settleThiefs 57 = .ok (.getfield 32, 3) := by decide +kernel
theorem dX0_settleThiefs_60 : decode cX0_settleThiefs 60 = .ok (.iload 5, 2) := by decide +kernel
theorem dX0_settleThiefs_62 : decode cX0_settleThiefs 62 = .ok (.iaload, 1) := by decide +kernel
theorem dX0_settleThiefs_63 : decode cX0_settleThiefs 63 = .ok (.ifCond .ge 38, 3) := by decide +kernel
theorem dX0_settleThiefs_66 : decode cX0_settleThiefs 66 = .ok (.aload_n 0, 1) := by decide +kernel
theorem dX0_settleThiefs_67 : decode cX0_settleThiefs 67 = .ok (.getfield 32, 3) := by decide +kernel
theorem dX0_settleThiefs_70 : decode cX0_settleThiefs 70 = .ok (.iload 5, 2) := by decide +kernel
theorem dX0_settleThiefs_72 : decode cX0_settleThiefs 72 = .ok (.dup2, 1) := by decide +kernel
theorem dX0_settleThiefs_73 : decode cX0_settleThiefs 73 = .ok (.iaload, 1) := by decide +kernel
theorem dX0_settleThiefs_74 : decode cX0_settleThiefs 74 = .ok (.iconst 1, 1) := by decide +kernel
theorem dX0_settleThiefs_75 : decode cX0_settleThiefs 75 = .ok (.iadd, 1) := by decide +kernel
theorem dX0_settleThiefs_76 : decode cX0_settleThiefs 76 = .ok (.iastore, 1) := by decide +kernel
theorem dX0_settleThiefs_77 : decode cX0_settleThiefs 77 = .ok (.aload_n 0, 1) := by decide +kernel
theorem dX0_settleThiefs_78 : decode cX0_settleThiefs 78 = .ok (.getfield 32, 3) := by decide +kernel
theorem dX0_settleThiefs_81 : decode cX0_settleThiefs 81 = .ok (.iload 5, 2) := by decide +kernel
theorem dX0_settleThiefs_83 : decode cX0_settleThiefs 83 = .ok (.iaload, 1) := by decide +kernel
theorem dX0_settleThiefs_84 : decode cX0_settleThiefs 84 = .ok (.ifCond .ne 17, 3) := by decide +kernel
theorem dX0_settleThiefs_87 : decode cX0_settleThiefs 87 = .ok (.aload_n 0, 1) := by decide +kernel
theorem dX0_settleThiefs_88 : decode cX0_settleThiefs 88 = .ok (.iload 5, 2) := by decide +kernel
theorem dX0_settleThiefs_90 : decode cX0_settleThiefs 90 = .ok (.aload_n 0, 1) := by decide +kernel
theorem dX0_settleThiefs_91 : decode cX0_settleThiefs 91 = .ok (.getfield 32, 3) := by decide +kernel
theorem dX0_settleThiefs_94 : decode cX0_settleThiefs 94 = .ok (.iload_n 1, 1) := by decide +kernel
theorem dX0_settleThiefs_95 : decode cX0_settleThiefs 95 = .ok (.iaload, 1) := by decide +kernel
theorem dX0_settleThiefs_96 : decode cX0_settleThiefs 96 = .ok (.iconst 1, 1) := by decide +kernel
theorem dX0_settleThiefs_97 : decode cX0_settleThiefs 97 = .ok (.iadd, 1) := by decide +kernel
theorem dX0_settleThiefs_98 : decode cX0_settleThiefs 98 = .ok (.invokevirtual 88, 3) := by decide +kernel
theorem dX0_settleThiefs_101 : decode cX0_settleThiefs 101 = .ok (.iinc 4 1, 3) := by decide +kernel
theorem dX0_settleThiefs_104 : decode cX0_settleThiefs 104 = .ok (.goto (-82), 3) := by decide +kernel
theorem dX0_settleThiefs_107 : decode cX0_settleThiefs 107 = .ok (.return_, 1) := by decide +kernel
theorem dX0_settleCatchers_0 : decode cX0_settleCatchers 0 = .ok (.iload_n 1, 1) := by decide +kernel
theorem dX0_settleCatchers_1 : decode cX0_settleCatchers 1 = .ok (.aload_n 0, 1) := by decide +kernel
theorem dX0_settleCatchers_2 : decode cX0_settleCatchers 2 = .ok (.getfield 29, 3) := by decide +kernel
theorem dX0_settleCatchers_5 : decode cX0_settleCatchers 5 = .ok (.isub, 1) := by decide +kernel
theorem dX0_settleCatchers_6 : decode cX0_settleCatchers 6 = .ok (.aload_n 0, 1) := by decide +kernel
theorem dX0_settleCatchers_7 : decode cX0_settleCatchers 7 = .ok (.getfield 25, 3) := by decide +kernel
theorem dX0_settleCatchers_10 : decode cX0_settleCatchers 10 = .ok (.idiv, 1) := by decide +kernel
theorem dX0_settleCatchers_11 : decode cX0_settleCatchers 11 = .ok (.istore_n 2, 1) := by decide +kernel
theorem dX0_settleCatchers_12 : decode cX0_settleCatchers 12 = .ok (.iload_n 1, 1) := by decide +kernel
theorem dX0_settleCatchers_13 : decode cX0_settleCatchers 13 = .ok (.aload_n 0, 1) := by decide +kernel
theorem dX0_settleCatchers_14 : decode cX0_settleCatchers 14 = .ok (.getfield 25, 3) := by decide +kernel
theorem dX0_settleCatchers_17 : decode cX0_settleCatchers 17 = .ok (.irem, 1) := by decide +kernel
theorem dX0_settleCatchers_18 : decode cX0_settleCatchers 18 = .ok (.istore_n 3, 1) := by decide +kernel
theorem dX0_settleCatchers_19 : decode cX0_settleCatchers 19 = .ok (.aload_n 0, 1) := by decide +kernel
theorem dX0_settleCatchers_20 : decode cX0_settleCatchers 20 = .ok (.getfield 39, 3) := by decide +kernel
theorem dX0_settleCatchers_23 : decode cX0_settleCatchers 23 = .ok (.iload_n 2, 1) := by decide +kernel
theorem dX0_settleCatchers_24 : decode cX0_settleCatchers 24 = .ok (.iaload, 1) := by decide +kernel
theorem dX0_settleCatchers_25 : decode cX0_settleCatchers 25 = .ok (.istore 4, 2) := by decide +kernel
theorem dX0_settleCatchers_27 : decode cX0_settleCatchers 27 = .ok (.iload 4, 2) := by decide +kernel
theorem dX0_settleCatchers_29 : decode cX0_settleCatchers 29 = .ok (.aload_n 0, 1) := by decide +kernel
theorem dX0_settleCatchers_30 : decode cX0_settleCatchers 30 = .ok (.getfield 39, 3) := by decide +kernel
theorem dX0_settleCatchers_33 : decode cX0_settleCatchers 33 = .ok (.iload_n 2, 1) := by decide +kernel
theorem dX0_settleCatchers_34 : decode cX0_settleCatchers 34 = .ok (.iconst 1, 1) := by decide +kernel
theorem dX0_settleCatchers_35 : decode cX0_settleCatchers 35 = .ok (.iadd, 1) := by decide +kernel
theorem dX0_settleCatchers_36 : decode cX0_settleCatchers 36 = .ok (.iaload, 1) := by decide +kernel
theorem dX0_settleCatchers_37 : decode cX0_settleCatchers 37 = .ok (.if_icmp .ge 49, 3) := by decide +kernel
theorem dX0_settleCatchers_40 : decode cX0_settleCatchers 40 = .ok (.aload_n 0, 1) := by decide +kernel
theorem dX0_settleCatchers_41 : decode cX0_settleCatchers 41 = .ok (.getfield 42, 3) := by decide +kernel
theorem dX0_settleCatchers_44 : decode cX0_settleCatchers 44 = .ok (.iload 4, 2) := by decide +kernel
theorem dX0_settleCatchers_46 : decode cX0_settleCatchers 46 = .ok (.iaload, 1) := by decide +kernel
theorem dX0_settleCatchers_47 : decode cX0_settleCatchers 47 = .ok (.aload_n 0, 1) := by decide +kernel
theorem dX0_settleCatchers_48 : decode cX0_settleCatchers 48 = .ok (.getfield 25, 3) := by decide +kernel
theorem dX0_settleCatchers_51 : decode cX0_settleCatchers 51 = .ok (.imul, 1) := by decide +kernel
theorem dX0_settleCatchers_52 : decode cX0_settleCatchers 52 = .ok (.iload_n 3, 1) := by decide +kernel
theorem dX0_settleCatchers_53 : decode cX0_settleCatchers 53 = .ok (.iadd, 1) := by decide +kernel
theorem dX0_settleCatchers_54 : decode cX0_settleCatchers 54 = .ok (.istore 5, 2) := by decide +kernel
theorem dX0_settleCatchers_56 : decode cX0_settleCatchers 56 = .ok (.aload_n 0, 1) := by decide +kernel
theorem dX0_settleCatchers_57 : decode cX0_settleCatchers 57 = .ok (.getfield 32, 3) := by decide +kernel
theorem dX0_settleCatchers_60 : decode cX0_settleCatchers 60 = .ok (.iload 5, 2) := by decide +kernel
theorem dX0_settleCatchers_62 : decode cX0_settleCatchers 62 = .ok (.iaload, 1) := by decide +kernel
theorem dX0_settleCatchers_63 : decode cX0_settleCatchers 63 = .ok (.ifCond .ge 17, 3) := by decide +kernel
theorem dX0_settleCatchers_66 : decode cX0_settleCatchers 66 = .ok (.aload_n 0, 1) := by decide +kernel
theorem dX0_settleCatchers_67 : decode cX0_settleCatchers 67 = .ok (.iload 5, 2) := by decide +kernel
theorem dX0_settleCatchers_69 : decode cX0_settleCatchers 69 = .ok (.aload_n 0, 1) := by decide +kernel
theorem dX0_settleCatchers_70 : decode cX0_settleCatchers 70 = .ok (.getfield 32, 3) := by decide +kernel
theorem dX0_settleCatchers_73 : decode cX0_settleCatchers 73 = .ok (.iload_n 1, 1) := by decide +kernel
theorem dX0_settleCatchers_74 : decode cX0_settleCatchers 74 = .ok (.iaload, 1) := by decide +kernel
theorem dX0_settleCatchers_75 : decode cX0_settleCatchers 75 = .ok (.iconst 1, 1) := by decide +kernel
theorem dX0_settleCatchers_76 : decode cX0_settleCatchers 76 = .ok (.iadd, 1) := by decide +kernel
theorem dX0_settleCatchers_77 : decode cX0_settleCatchers 77 = .ok (.invokevirtual 88, 3) := by decide +kernel
theorem dX0_settleCatchers_80 : decode cX0_settleCatchers 80 = .ok (.iinc 4 1, 3) := by decide +kernel
theorem dX0_settleCatchers_83 : decode cX0_settleCatchers 83 = .ok (.goto (-56), 3) := by decide +kernel
theorem dX0_settleCatchers_86 : decode cX0_settleCatchers 86 = .ok (.return_, 1) := by decide +kernel
theorem dX1_init_0 : decode cX1_init 0 = .ok (.aload_n 0, 1) := by decide +kernel
theorem dX1_init_1 : decode cX1_init 1 = .ok (.invokespecial 3, 3) := by decide +kernel
theorem dX1_init_4 : decode cX1_init 4 = .ok (.aload_n 0, 1) := by decide +kernel
theorem dX1_init_5 : decode cX1_init 5 = .ok (.bipush 6, 2) := by decide +kernel
theorem dX1_init_7 : decode cX1_init 7 = .ok (.newarray .int, 2) := by decide +kernel
theorem dX1_init_9 : decode cX1_init 9 = .ok (.putfield 9, 3) := by decide +kernel
theorem dX1_init_12 : decode cX1_init 12 = .ok (.aload_n 0, 1) := by decide +kernel
theorem dX1_init_13 : decode cX1_init 13 = .ok (.aload_n 1, 1) := by decide +kernel
theorem dX1_init_14 : decode cX1_init 14 = .ok (.putfield 15, 3) := by decide +kernel
theorem dX1_init_17 : decode cX1_init 17 = .ok (.aload_n 0, 1) := by decide +kernel
theorem dX1_init_18 : decode cX1_init 18 = .ok (.aload_n 2, 1) := by decide +kernel
theorem dX1_init_19 : decode cX1_init 19 = .ok (.putfield 19, 3) := by decide +kernel
theorem dX1_init_22 : decode cX1_init 22 = .ok (.return_, 1) := by decide +kernel
theorem dX1_rounds_0 : decode cX1_rounds 0 = .ok (.aload_n 0, 1) := by decide +kernel
theorem dX1_rounds_1 : decode cX1_rounds 1 = .ok (.iload_n 1, 1) := by decide +kernel
theorem dX1_rounds_2 : decode cX1_rounds 2 = .ok (.invokevirtual 23, 3) := by decide +kernel
theorem dX1_rounds_5 : decode cX1_rounds 5 = .ok (.aload_n 0, 1) := by decide +kernel
theorem dX1_rounds_6 : decode cX1_rounds 6 = .ok (.getfield 15, 3) := by decide +kernel
theorem dX1_rounds_9 : decode cX1_rounds 9 = .ok (.getfield 27, 3) := by decide +kernel
theorem dX1_rounds_12 : decode cX1_rounds 12 = .ok (.invokevirtual 33, 3) := by decide +kernel
theorem dX1_rounds_15 : decode cX1_rounds 15 = .ok (.istore_n 2, 1) := by decide +kernel
theorem dX1_rounds_16 : decode cX1_rounds 16 = .ok (.iconst 0, 1) := by decide +kernel
theorem dX1_rounds_17 : decode cX1_rounds 17 = .ok (.istore_n 3, 1) := by decide +kernel
theorem dX1_rounds_18 : decode cX1_rounds 18 = .ok (.iload_n 3, 1) := by decide +kernel
theorem dX1_rounds_19 : decode cX1_rounds 19 = .ok (.sipush 200, 3) := by decide +kernel
theorem dX1_rounds_22 : decode cX1_rounds 22 = .ok (.if_icmp .gt 40, 3) := by decide +kernel
theorem dX1_rounds_25 : decode cX1_rounds 25 = .ok (.aload_n 0, 1) := by decide +kernel
theorem dX1_rounds_26 : decode cX1_rounds 26 = .ok (.invokevirtual 39, 3) := by decide +kernel
theorem dX1_rounds_29 : decode cX1_rounds 29 = .ok (.ifCond .eq 5, 3) := by decide +kernel
theorem dX1_rounds_32 : decode cX1_rounds 32 = .ok (.iload_n 3, 1) := by decide +kernel
theorem dX1_rounds_33 : decode cX1_rounds 33 = .ok (.ireturn, 1) := by decide +kernel
theorem dX1_rounds_34 : decode cX1_rounds 34 = .ok (.iload_n 2, 1) := by decide +kernel
theorem dX1_rounds_35 : decode cX1_rounds 35 = .ok (.ifCond .le 21, 3) := by decide +kernel
theorem dX1_rounds_38 : decode cX1_rounds 38 = .ok (.aload_n 0, 1) := by decide +kernel
theorem dX1_rounds_39 : decode cX1_rounds 39 = .ok (.aload_n 0, 1) := by decide +kernel
theorem dX1_rounds_40 : decode cX1_rounds 40 = .ok (.getfield 15, 3) := by decide +kernel
theorem dX1_rounds_43 : decode cX1_rounds 43 = .ok (.getfield 27, 3) := by decide +kernel
theorem dX1_rounds_46 : decode cX1_rounds 46 = .ok (.iload_n 3, 1) := by decide +kernel
theorem dX1_rounds_47 : decode cX1_rounds 47 = .ok (.iload_n 2, 1) := by decide +kernel
theorem dX1_rounds_48 : decode cX1_rounds 48 = .ok (.irem, 1) := by decide +kernel
theorem dX1_rounds_49 : decode cX1_rounds 49 = .ok (.invokevirtual 43, 3) := by decide +kernel
theorem dX1_rounds_52 : decode cX1_rounds 52 = .ok (.iload_n 1, 1) := by decide +kernel
theorem dX1_rounds_53 : decode cX1_rounds 53 = .ok (.invokevirtual 47, 3) := by decide +kernel
theorem dX1_rounds_56 : decode cX1_rounds 56 = .ok (.iinc 3 1, 3) := by decide +kernel
theorem dX1_rounds_59 : decode cX1_rounds 59 = .ok (.goto (-41), 3) := by decide +kernel
theorem dX1_rounds_62 : decode cX1_rounds 62 = .ok (.iconst (-1), 1) := by decide +kernel
theorem dX1_rounds_63 : decode cX1_rounds 63 = .ok (.ireturn, 1) := by decide +kernel
theorem dX1_begin_0 : decode cX1_begin 0 = .ok (.aload_n 0, 1) := by decide +kernel
theorem dX1_begin_1 : decode cX1_begin 1 = .ok (.aload_n 0, 1) := by decide +kernel
theorem dX1_begin_2 : decode cX1_begin 2 = .ok (.getfield 15, 3) := by decide +kernel
theorem dX1_begin_5 : decode cX1_begin 5 = .ok (.getfield 51, 3) := by decide +kernel
theorem dX1_begin_8 : decode cX1_begin 8 = .ok (.invokevirtual 33, 3) := by decide +kernel
theorem dX1_begin_11 : decode cX1_begin 11 = .ok (.bipush 6, 2) := by decide +kernel
theorem dX1_begin_13 : decode cX1_begin 13 = .ok (.invokestatic 53, 3) := by decide +kernel
theorem dX1_begin_16 : decode cX1_begin 16 = .ok (.putfield 59, 3) := by decide +kernel
theorem dX1_begin_19 : decode cX1_begin 19 = .ok (.iconst 0, 1) := by decide +kernel
theorem dX1_begin_20 : decode cX1_begin 20 = .ok (.istore_n 2, 1) := by decide +kernel
theorem dX1_begin_21 : decode cX1_begin 21 = .ok (.iload_n 2, 1) := by decide +kernel
theorem dX1_begin_22 : decode cX1_begin 22 = .ok (.aload_n 0, 1) := by decide +kernel
theorem dX1_begin_23 : decode cX1_begin 23 = .ok (.getfield 59, 3) := by decide +kernel
theorem dX1_begin_26 : decode cX1_begin 26 = .ok (.if_icmp .ge 30, 3) := by decide +kernel
theorem dX1_begin_29 : decode cX1_begin 29 = .ok (.aload_n 0, 1) := by decide +kernel
theorem dX1_begin_30 : decode cX1_begin 30 = .ok (.getfield 9, 3) := by decide +kernel
theorem dX1_begin_33 : decode cX1_begin 33 = .ok (.iload_n 2, 1) := by decide +kernel
theorem dX1_begin_34 : decode cX1_begin 34 = .ok (.aload_n 0, 1) := by decide +kernel
theorem dX1_begin_35 : decode cX1_begin 35 = .ok (.getfield 15, 3) := by decide +kernel
theorem dX1_begin_38 : decode cX1_begin 38 = .ok (.getfield 51, 3) := by decide +kernel
theorem dX1_begin_41 : decode cX1_begin 41 = .ok (.iload_n 2, 1) := by decide +kernel
theorem dX1_begin_42 : decode cX1_begin 42 = .ok (.invokevirtual 43, 3) := by decide +kernel
theorem dX1_begin_45 : decode cX1_begin 45 = .ok (.iload_n 1, 1) := by decide +kernel
theorem dX1_begin_46 : decode cX1_begin 46 = .ok (.invokestatic 63, 3) := by decide +kernel
theorem dX1_begin_49 : decode cX1_begin 49 = .ok (.iastore, 1) := by decide +kernel
theorem dX1_begin_50 : decode cX1_begin 50 = .ok (.iinc 2 1, 3) := by decide +kernel
theorem dX1_begin_53 : decode cX1_begin 53 = .ok (.goto (-32), 3) := by decide +kernel
theorem dX1_begin_56 : decode cX1_begin 56 = .ok (.return_, 1) := by decide +kernel
theorem dX1_unlessHome_0 : decode cX1_unlessHome 0 = .ok (.iload_n 0, 1) := by decide +kernel
theorem dX1_unlessHome_1 : decode cX1_unlessHome 1 = .ok (.iconst 4, 1) := by decide +kernel
theorem dX1_unlessHome_2 : decode cX1_unlessHome 2 = .ok (.idiv, 1) := by decide +kernel
theorem dX1_unlessHome_3 : decode cX1_unlessHome 3 = .ok (.iload_n 1, 1) := by decide +kernel
theorem dX1_unlessHome_4 : decode cX1_unlessHome 4 = .ok (.if_icmp .ne 7, 3) := by decide +kernel
theorem dX1_unlessHome_7 : decode cX1_unlessHome 7 = .ok (.iconst (-1), 1) := by decide +kernel
theorem dX1_unlessHome_8 : decode cX1_unlessHome 8 = .ok (.goto 4, 3) := by decide +kernel
theorem dX1_unlessHome_11 : decode cX1_unlessHome 11 = .ok (.iload_n 0, 1) := by decide +kernel
theorem dX1_unlessHome_12 : decode cX1_unlessHome 12 = .ok (.ireturn, 1) := by decide +kernel
theorem dX1_isEmpty_0 : decode cX1_isEmpty 0 = .ok (.iconst 0, 1) := by decide +kernel
theorem dX1_isEmpty_1 : decode cX1_isEmpty 1 = .ok (.istore_n 1, 1) := by decide +kernel
theorem dX1_isEmpty_2 : decode cX1_isEmpty 2 = .ok (.iload_n 1, 1) := by decide +kernel
theorem dX1_isEmpty_3 : decode cX1_isEmpty 3 = .ok (.aload_n 0, 1) := by decide +kernel
theorem dX1_isEmpty_4 : decode cX1_isEmpty 4 = .ok (.getfield 59, 3) := by decide +kernel
theorem dX1_isEmpty_7 : decode cX1_isEmpty 7 = .ok (.if_icmp .ge 21, 3) := by decide +kernel
theorem dX1_isEmpty_10 : decode cX1_isEmpty 10 = .ok (.aload_n 0, 1) := by decide +kernel
theorem dX1_isEmpty_11 : decode cX1_isEmpty 11 = .ok (.getfield 9, 3) := by decide +kernel
theorem dX1_isEmpty_14 : decode cX1_isEmpty 14 = .ok (.iload_n 1, 1) := by decide +kernel
theorem dX1_isEmpty_15 : decode cX1_isEmpty 15 = .ok (.iaload, 1) := by decide +kernel
theorem dX1_isEmpty_16 : decode cX1_isEmpty 16 = .ok (.iconst (-1), 1) := by decide +kernel
theorem dX1_isEmpty_17 : decode cX1_isEmpty 17 = .ok (.if_icmp .eq 5, 3) := by decide +kernel
theorem dX1_isEmpty_20 : decode cX1_isEmpty 20 = .ok (.iconst 0, 1) := by decide +kernel
theorem dX1_isEmpty_21 : decode cX1_isEmpty 21 = .ok (.ireturn, 1) := by decide +kernel
theorem dX1_isEmpty_22 : decode cX1_isEmpty 22 = .ok (.iinc 1 1, 3) := by decide +kernel
theorem dX1_isEmpty_25 : decode cX1_isEmpty 25 = .ok (.goto (-23), 3) := by decide +kernel
theorem dX1_isEmpty_28 : decode cX1_isEmpty 28 = .ok (.iconst 1, 1) := by decide +kernel
theorem dX1_isEmpty_29 : decode cX1_isEmpty 29 = .ok (.ireturn, 1) := by decide +kernel
theorem dX1_oneRound_0 : decode cX1_oneRound 0 = .ok (.iconst 0, 1) := by decide +kernel
theorem dX1_oneRound_1 : decode cX1_oneRound 1 = .ok (.istore_n 3, 1) := by decide +kernel
theorem dX1_oneRound_2 : decode cX1_oneRound 2 = .ok (.iload_n 3, 1) := by decide +kernel
theorem dX1_oneRound_3 : decode cX1_oneRound 3 = .ok (.aload_n 0, 1) := by decide +kernel
theorem dX1_oneRound_4 : decode cX1_oneRound 4 = .ok (.getfield 59, 3) := by decide +kernel
theorem dX1_oneRound_7 : decode cX1_oneRound 7 = .ok (.if_icmp .ge 102, 3) := by decide +kernel
theorem dX1_oneRound_10 : decode cX1_oneRound 10 = .ok (.aload_n 0, 1) := by decide +kernel
theorem dX1_oneRound_11 : decode cX1_oneRound 11 = .ok (.getfield 9, 3) := by decide +kernel
theorem dX1_oneRound_14 : decode cX1_oneRound 14 = .ok (.iload_n 3, 1) := by decide +kernel
theorem dX1_oneRound_15 : decode cX1_oneRound 15 = .ok (.iaload, 1) := by decide +kernel
theorem dX1_oneRound_16 : decode cX1_oneRound 16 = .ok (.iconst (-1), 1) := by decide +kernel
theorem dX1_oneRound_17 : decode cX1_oneRound 17 = .ok (.if_icmp .ne 6, 3) := by decide +kernel
theorem dX1_oneRound_20 : decode cX1_oneRound 20 = .ok (.goto 83, 3) := by decide +kernel
theorem dX1_oneRound_23 : decode cX1_oneRound 23 = .ok (.aload_n 0, 1) := by decide +kernel
theorem dX1_oneRound_24 : decode cX1_oneRound 24 = .ok (.getfield 19, 3) := by decide +kernel
theorem dX1_oneRound_27 : decode cX1_oneRound 27 = .ok (.aload_n 0, 1) := by decide +kernel
theorem dX1_oneRound_28 : decode cX1_oneRound 28 = .ok (.getfield 15, 3) := by decide +kernel
theorem dX1_oneRound_31 : decode cX1_oneRound 31 = .ok (.getfield 66, 3) := by decide +kernel
theorem dX1_oneRound_34 : decode cX1_oneRound 34 = .ok (.iload_n 3, 1) := by decide +kernel
theorem dX1_oneRound_35 : decode cX1_oneRound 35 = .ok (.invokevirtual 43, 3) := by decide +kernel
theorem dX1_oneRound_38 : decode cX1_oneRound 38 = .ok (.aload_n 0, 1) := by decide +kernel
theorem dX1_oneRound_39 : decode cX1_oneRound 39 = .ok (.getfield 9, 3) := by decide +kernel
theorem dX1_oneRound_42 : decode cX1_oneRound 42 = .ok (.iload_n 3, 1) := by decide +kernel
theorem dX1_oneRound_43 : decode cX1_oneRound 43 = .ok (.iaload, 1) := by decide +kernel
theorem dX1_oneRound_44 : decode cX1_oneRound 44 = .ok (.iload_n 1, 1) := by decide +kernel
theorem dX1_oneRound_45 : decode cX1_oneRound 45 = .ok (.invokevirtual 69, 3) := by decide +kernel
theorem dX1_oneRound_48 : decode cX1_oneRound 48 = .ok (.invokestatic 75, 3) := by decide +kernel
theorem dX1_oneRound_51 : decode cX1_oneRound 51 = .ok (.istore 4, 2) := by decide +kernel
theorem dX1_oneRound_53 : decode cX1_oneRound 53 = .ok (.iload 4, 2) := by decide +kernel
theorem dX1_oneRound_55 : decode cX1_oneRound 55 = .ok (.iconst 4, 1) := by decide +kernel
theorem dX1_oneRound_56 : decode cX1_oneRound 56 = .ok (.idiv, 1) := by decide +kernel
theorem dX1_oneRound_57 : decode cX1_oneRound 57 = .ok (.aload_n 0, 1) := by decide +kernel
theorem dX1_oneRound_58 : decode cX1_oneRound 58 = .ok (.getfield 9, 3) := by decide +kernel
theorem dX1_oneRound_61 : decode cX1_oneRound 61 = .ok (.iload_n 3, 1) := by decide +kernel
theorem dX1_oneRound_62 : decode cX1_oneRound 62 = .ok (.iaload, 1) := by decide +kernel
theorem dX1_oneRound_63 : decode cX1_oneRound 63 = .ok (.iconst 4, 1) := by decide +kernel
theorem dX1_oneRound_64 : decode cX1_oneRound 64 = .ok (.idiv, 1) := by decide +kernel
theorem dX1_oneRound_65 : decode cX1_oneRound 65 = .ok (.if_icmp .eq 7, 3) := by decide +kernel
theorem dX1_oneRound_68 : decode cX1_oneRound 68 = .ok (.iconst 1, 1) := by decide +kernel
theorem dX1_oneRound_69 : decode cX1_oneRound 69 = .ok (.goto 4, 3) := by decide +kernel
theorem dX1_oneRound_72 : decode cX1_oneRound 72 = .ok (.iconst 0, 1) := by decide +kernel
theorem dX1_oneRound_73 : decode cX1_oneRound 73 = .ok (.istore 5, 2) := by decide +kernel
theorem dX1_oneRound_75 : decode cX1_oneRound 75 = .ok (.iload 5, 2) := by decide +kernel
theorem dX1_oneRound_77 : decode cX1_oneRound 77 = .ok (.ifCond .eq 14, 3) := by decide +kernel
theorem dX1_oneRound_80 : decode cX1_oneRound 80 = .ok (.aload_n 0, 1) := by decide +kernel
theorem dX1_oneRound_81 : decode cX1_oneRound 81 = .ok (.iload 4, 2) := by decide +kernel
theorem dX1_oneRound_83 : decode cX1_oneRound 83 = .ok (.iconst 4, 1) := by decide +kernel
theorem dX1_oneRound_84 : decode cX1_oneRound 84 = .ok (.idiv, 1) := by decide +kernel
theorem dX1_oneRound_85 : decode cX1_oneRound 85 = .ok (.invokevirtual 78, 3) := by decide +kernel
theorem dX1_oneRound_88 : decode cX1_oneRound 88 = .ok (.ifCond .ne 15, 3) := by decide +kernel
theorem dX1_oneRound_91 : decode cX1_oneRound 91 = .ok (.aload_n 0, 1) := by decide +kernel
theorem dX1_oneRound_92 : decode cX1_oneRound 92 = .ok (.getfield 9, 3) := by decide +kernel
theorem dX1_oneRound_95 : decode cX1_oneRound 95 = .ok (.iload_n 3, 1) := by decide +kernel
theorem dX1_oneRound_96 : decode cX1_oneRound 96 = .ok (.iload 4, 2) := by decide +kernel
theorem dX1_oneRound_98 : decode cX1_oneRound 98 = .ok (.iload_n 2, 1) := by decide +kernel
theorem dX1_oneRound_99 : decode cX1_oneRound 99 = .ok (.invokestatic 63, 3) := by decide +kernel
theorem dX1_oneRound_102 : decode cX1_oneRound 102 = .ok (.iastore, 1) := by decide +kernel
theorem dX1_oneRound_103 : decode cX1_oneRound 103 = .ok (.iinc 3 1, 3) := by decide +kernel
theorem dX1_oneRound_106 : decode cX1_oneRound 106 = .ok (.goto (-104), 3) := by decide +kernel
theorem dX1_oneRound_109 : decode cX1_oneRound 109 = .ok (.return_, 1) := by decide +kernel
theorem dX1_hasPairIn_0 : decode cX1_hasPairIn 0 = .ok (.iconst 0, 1) := by decide +kernel
theorem dX1_hasPairIn_1 : decode cX1_hasPairIn 1 = .ok (.istore_n 2, 1) := by decide +kernel
theorem dX1_hasPairIn_2 : decode cX1_hasPairIn 2 = .ok (.iload_n 2, 1) := by decide +kernel
theorem dX1_hasPairIn_3 : decode cX1_hasPairIn 3 = .ok (.aload_n 0, 1) := by decide +kernel
theorem dX1_hasPairIn_4 : decode cX1_hasPairIn 4 = .ok (.getfield 59, 3) := by decide +kernel
theorem dX1_hasPairIn_7 : decode cX1_hasPairIn 7 = .ok (.if_icmp .ge 33, 3) := by decide +kernel
theorem dX1_hasPairIn_10 : decode cX1_hasPairIn 10 = .ok (.aload_n 0, 1) := by decide +kernel
theorem dX1_hasPairIn_11 : decode cX1_hasPairIn 11 = .ok (.getfield 9, 3) := by decide +kernel
theorem dX1_hasPairIn_14 : decode cX1_hasPairIn 14 = .ok (.iload_n 2, 1) := by decide +kernel
theorem dX1_hasPairIn_15 : decode cX1_hasPairIn 15 = .ok (.iaload, 1) := by decide +kernel
theorem dX1_hasPairIn_16 : decode cX1_hasPairIn 16 = .ok (.iconst (-1), 1) := by decide +kernel
theorem dX1_hasPairIn_17 : decode cX1_hasPairIn 17 = .ok (.if_icmp .eq 17, 3) := by decide +kernel
theorem dX1_hasPairIn_20 : decode cX1_hasPairIn 20 = .ok (.aload_n 0, 1) := by decide +kernel
theorem dX1_hasPairIn_21 : decode cX1_hasPairIn 21 = .ok (.getfield 9, 3) := by decide +kernel
theorem dX1_hasPairIn_24 : decode cX1_hasPairIn 24 = .ok (.iload_n 2, 1) := by decide +kernel
theorem dX1_hasPairIn_25 : decode cX1_hasPairIn 25 = .ok (.iaload, 1) := by decide +kernel
theorem dX1_hasPairIn_26 : decode cX1_hasPairIn 26 = .ok (.iconst 4, 1) := by decide +kernel
theorem dX1_hasPairIn_27 : decode cX1_hasPairIn 27 = .ok (.idiv, 1) := by decide +kernel
theorem dX1_hasPairIn_28 : decode cX1_hasPairIn 28 = .ok (.iload_n 1, 1) := by decide +kernel
theorem dX1_hasPairIn_29 : decode cX1_hasPairIn 29 = .ok (.if_icmp .ne 5, 3) := by decide +kernel
theorem dX1_hasPairIn_32 : decode cX1_hasPairIn 32 = .ok (.iconst 1, 1) := by decide +kernel
theorem dX1_hasPairIn_33 : decode cX1_hasPairIn 33 = .ok (.ireturn, 1) := by decide +kernel
theorem dX1_hasPairIn_34 : decode cX1_hasPairIn 34 = .ok (.iinc 2 1, 3) := by decide +kernel
theorem dX1_hasPairIn_37 : decode cX1_hasPairIn 37 = .ok (.goto (-35), 3) := by decide +kernel
theorem dX1_hasPairIn_40 : decode cX1_hasPairIn 40 = .ok (.iconst 0, 1) := by decide +kernel
theorem dX1_hasPairIn_41 : decode cX1_hasPairIn 41 = .ok (.ireturn, 1) := by decide +kernel
theorem dX2_init_0 : decode cX2_init 0 = .ok (.aload_n 0, 1) := by decide +kernel
theorem dX2_init_1 : decode cX2_init 1 = .ok (.invokespecial 1, 3) := by decide +kernel
theorem dX2_init_4 : decode cX2_init 4 = .ok (.aload_n 0, 1) := by decide +kernel
theorem dX2_init_5 : decode cX2_init 5 = .ok (.iconst 0, 1) := by decide +kernel
theorem dX2_init_6 : decode cX2_init 6 = .ok (.iload_n 1, 1) := by decide +kernel
theorem dX2_init_7 : decode cX2_init 7 = .ok (.invokestatic 7, 3) := by decide +kernel
theorem dX2_init_10 : decode cX2_init 10 = .ok (.newarray .int, 2) := by decide +kernel
theorem dX2_init_12 : decode cX2_init 12 = .ok (.putfield 13, 3) := by decide +kernel
theorem dX2_init_15 : decode cX2_init 15 = .ok (.return_, 1) := by decide +kernel
theorem dX2_size_0 : decode cX2_size 0 = .ok (.aload_n 0, 1) := by decide +kernel
theorem dX2_size_1 : decode cX2_size 1 = .ok (.getfield 19, 3) := by decide +kernel
theorem dX2_size_4 : decode cX2_size 4 = .ok (.ireturn, 1) := by decide +kernel
theorem dX2_at_0 : decode cX2_at 0 = .ok (.iload_n 1, 1) := by decide +kernel
theorem dX2_at_1 : decode cX2_at 1 = .ok (.ifCond .lt 20, 3) := by decide +kernel
theorem dX2_at_4 : decode cX2_at 4 = .ok (.iload_n 1, 1) := by decide +kernel
theorem dX2_at_5 : decode cX2_at 5 = .ok (.aload_n 0, 1) := by decide +kernel
theorem dX2_at_6 : decode cX2_at 6 = .ok (.getfield 19, 3) := by decide +kernel
theorem dX2_at_9 : decode cX2_at 9 = .ok (.if_icmp .ge 12, 3) := by decide +kernel
theorem dX2_at_12 : decode cX2_at 12 = .ok (.aload_n 0, 1) := by decide +kernel
theorem dX2_at_13 : decode cX2_at 13 = .ok (.getfield 13, 3) := by decide +kernel
theorem dX2_at_16 : decode cX2_at 16 = .ok (.iload_n 1, 1) := by decide +kernel
theorem dX2_at_17 : decode cX2_at 17 = .ok (.iaload, 1) := by decide +kernel
theorem dX2_at_18 : decode cX2_at 18 = .ok (.goto 4, 3) := by decide +kernel
theorem dX2_at_21 : decode cX2_at 21 = .ok (.iconst 0, 1) := by decide +kernel
theorem dX2_at_22 : decode cX2_at 22 = .ok (.ireturn, 1) := by decide +kernel
theorem dX2_put_0 : decode cX2_put 0 = .ok (.iload_n 1, 1) := by decide +kernel
theorem dX2_put_1 : decode cX2_put 1 = .ok (.ifCond .lt 18, 3) := by decide +kernel
theorem dX2_put_4 : decode cX2_put 4 = .ok (.iload_n 1, 1) := by decide +kernel
theorem dX2_put_5 : decode cX2_put 5 = .ok (.aload_n 0, 1) := by decide +kernel
theorem dX2_put_6 : decode cX2_put 6 = .ok (.getfield 19, 3) := by decide +kernel
theorem dX2_put_9 : decode cX2_put 9 = .ok (.if_icmp .ge 10, 3) := by decide +kernel
theorem dX2_put_12 : decode cX2_put 12 = .ok (.aload_n 0, 1) := by decide +kernel
theorem dX2_put_13 : decode cX2_put 13 = .ok (.getfield 13, 3) := by decide +kernel
theorem dX2_put_16 : decode cX2_put 16 = .ok (.iload_n 1, 1) := by decide +kernel
theorem dX2_put_17 : decode cX2_put 17 = .ok (.iload_n 2, 1) := by decide +kernel
theorem dX2_put_18 : decode cX2_put 18 = .ok (.iastore, 1) := by decide +kernel
theorem dX2_put_19 : decode cX2_put 19 = .ok (.return_, 1) := by decide +kernel
theorem dX2_add_0 : decode cX2_add 0 = .ok (.aload_n 0, 1) := by decide +kernel
theorem dX2_add_1 : decode cX2_add 1 = .ok (.getfield 19, 3) := by decide +kernel
theorem dX2_add_4 : decode cX2_add 4 = .ok (.aload_n 0, 1) := by decide +kernel
theorem dX2_add_5 : decode cX2_add 5 = .ok (.getfield 13, 3) := by decide +kernel
theorem dX2_add_8 : decode cX2_add 8 = .ok (.arraylength, 1) := by decide +kernel
theorem dX2_add_9 : decode cX2_add 9 = .ok (.if_icmp .ge 23, 3) := by decide +kernel
theorem dX2_add_12 : decode cX2_add 12 = .ok (.aload_n 0, 1) := by decide +kernel
theorem dX2_add_13 : decode cX2_add 13 = .ok (.getfield 13, 3) := by decide +kernel
theorem dX2_add_16 : decode cX2_add 16 = .ok (.aload_n 0, 1) := by decide +kernel
theorem dX2_add_17 : decode cX2_add 17 = .ok (.getfield 19, 3) := by decide +kernel
theorem dX2_add_20 : decode cX2_add 20 = .ok (.iload_n 1, 1) := by decide +kernel
theorem dX2_add_21 : decode cX2_add 21 = .ok (.iastore, 1) := by decide +kernel
theorem dX2_add_22 : decode cX2_add 22 = .ok (.aload_n 0, 1) := by decide +kernel
theorem dX2_add_23 : decode cX2_add 23 = .ok (.dup, 1) := by decide +kernel
theorem dX2_add_24 : decode cX2_add 24 = .ok (.getfield 19, 3) := by decide +kernel
theorem dX2_add_27 : decode cX2_add 27 = .ok (.iconst 1, 1) := by decide +kernel
theorem dX2_add_28 : decode cX2_add 28 = .ok (.iadd, 1) := by decide +kernel
theorem dX2_add_29 : decode cX2_add 29 = .ok (.putfield 19, 3) := by decide +kernel
theorem dX2_add_32 : decode cX2_add 32 = .ok (.return_, 1) := by decide +kernel
theorem dX2_cutTo_0 : decode cX2_cutTo 0 = .ok (.aload_n 0, 1) := by decide +kernel
theorem dX2_cutTo_1 : decode cX2_cutTo 1 = .ok (.iconst 0, 1) := by decide +kernel
theorem dX2_cutTo_2 : decode cX2_cutTo 2 = .ok (.aload_n 0, 1) := by decide +kernel
theorem dX2_cutTo_3 : decode cX2_cutTo 3 = .ok (.getfield 19, 3) := by decide +kernel
theorem dX2_cutTo_6 : decode cX2_cutTo 6 = .ok (.iload_n 1, 1) := by decide +kernel
theorem dX2_cutTo_7 : decode cX2_cutTo 7 = .ok (.invokestatic 23, 3) := by decide +kernel
theorem dX2_cutTo_10 : decode cX2_cutTo 10 = .ok (.invokestatic 7, 3) := by decide +kernel
theorem dX2_cutTo_13 : decode cX2_cutTo 13 = .ok (.putfield 19, 3) := by decide +kernel
theorem dX2_cutTo_16 : decode cX2_cutTo 16 = .ok (.return_, 1) := by decide +kernel
theorem dX2_dropFirst_0 : decode cX2_dropFirst 0 = .ok (.aload_n 0, 1) := by decide +kernel
theorem dX2_dropFirst_1 : decode cX2_dropFirst 1 = .ok (.getfield 19, 3) := by decide +kernel
theorem dX2_dropFirst_4 : decode cX2_dropFirst 4 = .ok (.ifCond .le 32, 3) := by decide +kernel
theorem dX2_dropFirst_7 : decode cX2_dropFirst 7 = .ok (.aload_n 0, 1) := by decide +kernel
theorem dX2_dropFirst_8 : decode cX2_dropFirst 8 = .ok (.getfield 13, 3) := by decide +kernel
theorem dX2_dropFirst_11 : decode cX2_dropFirst 11 = .ok (.iconst 1, 1) := by decide +kernel
theorem dX2_dropFirst_12 : decode cX2_dropFirst 12 = .ok (.aload_n 0, 1) := by decide +kernel
theorem dX2_dropFirst_13 : decode cX2_dropFirst 13 = .ok (.getfield 13, 3) := by decide +kernel
theorem dX2_dropFirst_16 : decode cX2_dropFirst 16 = .ok (.iconst 0, 1) := by decide +kernel
theorem dX2_dropFirst_17 : decode cX2_dropFirst 17 = .ok (.aload_n 0, 1) := by decide +kernel
theorem dX2_dropFirst_18 : decode cX2_dropFirst 18 = .ok (.getfield 19, 3) := by decide +kernel
theorem dX2_dropFirst_21 : decode cX2_dropFirst 21 = .ok (.iconst 1, 1) := by decide +kernel
theorem dX2_dropFirst_22 : decode cX2_dropFirst 22 = .ok (.isub, 1) := by decide +kernel
theorem dX2_dropFirst_23 : decode cX2_dropFirst 23 = .ok (.invokestatic 26, 3) := by decide +kernel
theorem dX2_dropFirst_26 : decode cX2_dropFirst 26 = .ok (.aload_n 0, 1) := by decide +kernel
theorem dX2_dropFirst_27 : decode cX2_dropFirst 27 = .ok (.dup, 1) := by decide +kernel
theorem dX2_dropFirst_28 : decode cX2_dropFirst 28 = .ok (.getfield 19, 3) := by decide +kernel
theorem dX2_dropFirst_31 : decode cX2_dropFirst 31 = .ok (.iconst 1, 1) := by decide +kernel
theorem dX2_dropFirst_32 : decode cX2_dropFirst 32 = .ok (.isub, 1) := by decide +kernel
theorem dX2_dropFirst_33 : decode cX2_dropFirst 33 = .ok (.putfield 19, 3) := by decide +kernel
theorem dX2_dropFirst_36 : decode cX2_dropFirst 36 = .ok (.return_, 1) := by decide +kernel
theorem dX2_copyFrom_0 : decode cX2_copyFrom 0 = .ok (.aload_n 0, 1) := by decide +kernel
theorem dX2_copyFrom_1 : decode cX2_copyFrom 1 = .ok (.aload_n 1, 1) := by decide +kernel
theorem dX2_copyFrom_2 : decode cX2_copyFrom 2 = .ok (.getfield 19, 3) := by decide +kernel
theorem dX2_copyFrom_5 : decode cX2_copyFrom 5 = .ok (.aload_n 0, 1) := by decide +kernel
theorem dX2_copyFrom_6 : decode cX2_copyFrom 6 = .ok (.getfield 13, 3) := by decide +kernel
theorem dX2_copyFrom_9 : decode cX2_copyFrom 9 = .ok (.arraylength, 1) := by decide +kernel
theorem dX2_copyFrom_10 : decode cX2_copyFrom 10 = .ok (.invokestatic 23, 3) := by decide +kernel
theorem dX2_copyFrom_13 : decode cX2_copyFrom 13 = .ok (.putfield 19, 3) := by decide +kernel
theorem dX2_copyFrom_16 : decode cX2_copyFrom 16 = .ok (.aload_n 1, 1) := by decide +kernel
theorem dX2_copyFrom_17 : decode cX2_copyFrom 17 = .ok (.getfield 13, 3) := by decide +kernel
theorem dX2_copyFrom_20 : decode cX2_copyFrom 20 = .ok (.iconst 0, 1) := by decide +kernel
theorem dX2_copyFrom_21 : decode cX2_copyFrom 21 = .ok (.aload_n 0, 1) := by decide +kernel
theorem dX2_copyFrom_22 : decode cX2_copyFrom 22 = .ok (.getfield 13, 3) := by decide +kernel
theorem dX2_copyFrom_25 : decode cX2_copyFrom 25 = .ok (.iconst 0, 1) := by decide +kernel
theorem dX2_copyFrom_26 : decode cX2_copyFrom 26 = .ok (.aload_n 0, 1) := by decide +kernel
theorem dX2_copyFrom_27 : decode cX2_copyFrom 27 = .ok (.getfield 19, 3) := by decide +kernel
theorem dX2_copyFrom_30 : decode cX2_copyFrom 30 = .ok (.invokestatic 26, 3) := by decide +kernel
theorem dX2_copyFrom_33 : decode cX2_copyFrom 33 = .ok (.return_, 1) := by decide +kernel
theorem dX3_init_0 : decode cX3_init 0 = .ok (.aload_n 0, 1) := by decide +kernel
theorem dX3_init_1 : decode cX3_init 1 = .ok (.invokespecial 3, 3) := by decide +kernel
theorem dX3_init_4 : decode cX3_init 4 = .ok (.aload_n 0, 1) := by decide +kernel
theorem dX3_init_5 : decode cX3_init 5 = .ok (.aload_n 1, 1) := by decide +kernel
theorem dX3_init_6 : decode cX3_init 6 = .ok (.putfield 9, 3) := by decide +kernel
theorem dX3_init_9 : decode cX3_init 9 = .ok (.aload_n 0, 1) := by decide +kernel
theorem dX3_init_10 : decode cX3_init 10 = .ok (.aload_n 2, 1) := by decide +kernel
theorem dX3_init_11 : decode cX3_init 11 = .ok (.putfield 15, 3) := by decide +kernel
theorem dX3_init_14 : decode cX3_init 14 = .ok (.aload_n 0, 1) := by decide +kernel
theorem dX3_init_15 : decode cX3_init 15 = .ok (.bipush 16, 2) := by decide +kernel
theorem dX3_init_17 : decode cX3_init 17 = .ok (.aload_n 1, 1) := by decide +kernel
theorem dX3_init_18 : decode cX3_init 18 = .ok (.invokevirtual 19, 3) := by decide +kernel
theorem dX3_init_21 : decode cX3_init 21 = .ok (.imul, 1) := by decide +kernel
theorem dX3_init_22 : decode cX3_init 22 = .ok (.newarray .int, 2) := by decide +kernel
theorem dX3_init_24 : decode cX3_init 24 = .ok (.putfield 25, 3) := by decide +kernel
theorem dX3_init_27 : decode cX3_init 27 = .ok (.aload_n 0, 1) := by decide +kernel
theorem dX3_init_28 : decode cX3_init 28 = .ok (.getfield 25, 3) := by decide +kernel
theorem dX3_init_31 : decode cX3_init 31 = .ok (.iconst (-1), 1) := by decide +kernel
theorem dX3_init_32 : decode cX3_init 32 = .ok (.invokestatic 29, 3) := by decide +kernel
theorem dX3_init_35 : decode cX3_init 35 = .ok (.return_, 1) := by decide +kernel
theorem dX3_forget_0 : decode cX3_forget 0 = .ok (.aload_n 0, 1) := by decide +kernel
theorem dX3_forget_1 : decode cX3_forget 1 = .ok (.getfield 25, 3) := by decide +kernel
theorem dX3_forget_4 : decode cX3_forget 4 = .ok (.iconst (-1), 1) := by decide +kernel
theorem dX3_forget_5 : decode cX3_forget 5 = .ok (.invokestatic 29, 3) := by decide +kernel
theorem dX3_forget_8 : decode cX3_forget 8 = .ok (.return_, 1) := by decide +kernel
theorem dX3_step_0 : decode cX3_step 0 = .ok (.iload_n 1, 1) := by decide +kernel
theorem dX3_step_1 : decode cX3_step 1 = .ok (.aload_n 0, 1) := by decide +kernel
theorem dX3_step_2 : decode cX3_step 2 = .ok (.getfield 9, 3) := by decide +kernel
theorem dX3_step_5 : decode cX3_step 5 = .ok (.invokevirtual 19, 3) := by decide +kernel
theorem dX3_step_8 : decode cX3_step 8 = .ok (.imul, 1) := by decide +kernel
theorem dX3_step_9 : decode cX3_step 9 = .ok (.iload_n 2, 1) := by decide +kernel
theorem dX3_step_10 : decode cX3_step 10 = .ok (.iadd, 1) := by decide +kernel
theorem dX3_step_11 : decode cX3_step 11 = .ok (.iconst 4, 1) := by decide +kernel
theorem dX3_step_12 : decode cX3_step 12 = .ok (.imul, 1) := by decide +kernel
theorem dX3_step_13 : decode cX3_step 13 = .ok (.iload_n 3, 1) := by decide +kernel
theorem dX3_step_14 : decode cX3_step 14 = .ok (.iadd, 1) := by decide +kernel
theorem dX3_step_15 : decode cX3_step 15 = .ok (.istore 4, 2) := by decide +kernel
theorem dX3_step_17 : decode cX3_step 17 = .ok (.iload 4, 2) := by decide +kernel
theorem dX3_step_19 : decode cX3_step 19 = .ok (.ifCond .lt 13, 3) := by decide +kernel
theorem dX3_step_22 : decode cX3_step 22 = .ok (.iload 4, 2) := by decide +kernel
theorem dX3_step_24 : decode cX3_step 24 = .ok (.aload_n 0, 1) := by decide +kernel
theorem dX3_step_25 : decode cX3_step 25 = .ok (.getfield 25, 3) := by decide +kernel
theorem dX3_step_28 : decode cX3_step 28 = .ok (.arraylength, 1) := by decide +kernel
theorem dX3_step_29 : decode cX3_step 29 = .ok (.if_icmp .lt 5, 3) := by decide +kernel
theorem dX3_step_32 : decode cX3_step 32 = .ok (.iload_n 2, 1) := by decide +kernel
theorem dX3_step_33 : decode cX3_step 33 = .ok (.ireturn, 1) := by decide +kernel
theorem dX3_step_34 : decode cX3_step 34 = .ok (.aload_n 0, 1) := by decide +kernel
theorem dX3_step_35 : decode cX3_step 35 = .ok (.getfield 25, 3) := by decide +kernel
theorem dX3_step_38 : decode cX3_step 38 = .ok (.iload 4, 2) := by decide +kernel
theorem dX3_step_40 : decode cX3_step 40 = .ok (.iaload, 1) := by decide +kernel
theorem dX3_step_41 : decode cX3_step 41 = .ok (.iconst (-1), 1) := by decide +kernel
theorem dX3_step_42 : decode cX3_step 42 = .ok (.if_icmp .ne 17, 3) := by decide +kernel
theorem dX3_step_45 : decode cX3_step 45 = .ok (.aload_n 0, 1) := by decide +kernel
theorem dX3_step_46 : decode cX3_step 46 = .ok (.getfield 25, 3) := by decide +kernel
theorem dX3_step_49 : decode cX3_step 49 = .ok (.iload 4, 2) := by decide +kernel
theorem dX3_step_51 : decode cX3_step 51 = .ok (.aload_n 0, 1) := by decide +kernel
theorem dX3_step_52 : decode cX3_step 52 = .ok (.iload_n 1, 1) := by decide +kernel
theorem dX3_step_53 : decode cX3_step 53 = .ok (.iload_n 2, 1) := by decide +kernel
theorem dX3_step_54 : decode cX3_step 54 = .ok (.iload_n 3, 1) := by decide +kernel
theorem dX3_step_55 : decode cX3_step 55 = .ok (.invokevirtual 35, 3) := by decide +kernel
theorem dX3_step_58 : decode cX3_step 58 = .ok (.iastore, 1) := by decide +kernel
theorem dX3_step_59 : decode cX3_step 59 = .ok (.aload_n 0, 1) := by decide +kernel
theorem dX3_step_60 : decode cX3_step 60 = .ok (.getfield 25, 3) := by decide +kernel
theorem dX3_step_63 : decode cX3_step 63 = .ok (.iload 4, 2) := by decide +kernel
theorem dX3_step_65 : decode cX3_step 65 = .ok (.iaload, 1) := by decide +kernel
theorem dX3_step_66 : decode cX3_step 66 = .ok (.ireturn, 1) := by decide +kernel
theorem dX3_workOut_0 : decode cX3_workOut 0 = .ok (.aload_n 0, 1) := by decide +kernel
theorem dX3_workOut_1 : decode cX3_workOut 1 = .ok (.getfield 9, 3) := by decide +kernel
theorem dX3_workOut_4 : decode cX3_workOut 4 = .ok (.iload_n 1, 1) := by decide +kernel
theorem dX3_workOut_5 : decode cX3_workOut 5 = .ok (.invokevirtual 39, 3) := by decide +kernel
theorem dX3_workOut_8 : decode cX3_workOut 8 = .ok (.astore 4, 2) := by decide +kernel
theorem dX3_workOut_10 : decode cX3_workOut 10 = .ok (.aload 4, 2) := by decide +kernel
theorem dX3_workOut_12 : decode cX3_workOut 12 = .ok (.ifnonnull 5, 3) := by decide +kernel
theorem dX3_workOut_15 : decode cX3_workOut 15 = .ok (.iload_n 2, 1) := by decide +kernel
theorem dX3_workOut_16 : decode cX3_workOut 16 = .ok (.ireturn, 1) := by decide +kernel
theorem dX3_workOut_17 : decode cX3_workOut 17 = .ok (.aload_n 0, 1) := by decide +kernel
theorem dX3_workOut_18 : decode cX3_workOut 18 = .ok (.iload_n 2, 1) := by decide +kernel
theorem dX3_workOut_19 : decode cX3_workOut 19 = .ok (.invokevirtual 43, 3) := by decide +kernel
theorem dX3_workOut_22 : decode cX3_workOut 22 = .ok (.istore 5, 2) := by decide +kernel
theorem dX3_workOut_24 : decode cX3_workOut 24 = .ok (.iload 5, 2) := by decide +kernel
theorem dX3_workOut_26 : decode cX3_workOut 26 = .ok (.iconst (-1), 1) := by decide +kernel
theorem dX3_workOut_27 : decode cX3_workOut 27 = .ok (.if_icmp .ne 7, 3) := by decide +kernel
theorem dX3_workOut_30 : decode cX3_workOut 30 = .ok (.iconst 1, 1) := by decide +kernel
theorem dX3_workOut_31 : decode cX3_workOut 31 = .ok (.goto 15, 3) := by decide +kernel
theorem dX3_workOut_34 : decode cX3_workOut 34 = .ok (.aload_n 0, 1) := by decide +kernel
theorem dX3_workOut_35 : decode cX3_workOut 35 = .ok (.getfield 9, 3) := by decide +kernel
theorem dX3_workOut_38 : decode cX3_workOut 38 = .ok (.getfield 47, 3) := by decide +kernel
theorem dX3_workOut_41 : decode cX3_workOut 41 = .ok (.iload 5, 2) := by decide +kernel
theorem dX3_workOut_43 : decode cX3_workOut 43 = .ok (.invokevirtual 51, 3) := by decide +kernel
theorem dX3_workOut_46 : decode cX3_workOut 46 = .ok (.istore 6, 2) := by decide +kernel
theorem dX3_workOut_48 : decode cX3_workOut 48 = .ok (.aload_n 0, 1) := by decide +kernel
theorem dX3_workOut_49 : decode cX3_workOut 49 = .ok (.iload_n 2, 1) := by decide +kernel
theorem dX3_workOut_50 : decode cX3_workOut 50 = .ok (.iload_n 3, 1) := by decide +kernel
theorem dX3_workOut_51 : decode cX3_workOut 51 = .ok (.iload 6, 2) := by decide +kernel
theorem dX3_workOut_53 : decode cX3_workOut 53 = .ok (.invokevirtual 56, 3) := by decide +kernel
theorem dX3_workOut_56 : decode cX3_workOut 56 = .ok (.aload 4, 2) := by decide +kernel
theorem dX3_workOut_58 : decode cX3_workOut 58 = .ok (.getfield 60, 3) := by decide +kernel
theorem dX3_workOut_61 : decode cX3_workOut 61 = .ok (.iconst (-1), 1) := by decide +kernel
theorem dX3_workOut_62 : decode cX3_workOut 62 = .ok (.if_icmp .eq 29, 3) := by decide +kernel
theorem dX3_workOut_65 : decode cX3_workOut 65 = .ok (.aload_n 0, 1) := by decide +kernel
theorem dX3_workOut_66 : decode cX3_workOut 66 = .ok (.getfield 15, 3) := by decide +kernel
theorem dX3_workOut_69 : decode cX3_workOut 69 = .ok (.aload 4, 2) := by decide +kernel
theorem dX3_workOut_71 : decode cX3_workOut 71 = .ok (.getfield 66, 3) := by decide +kernel
theorem dX3_workOut_74 : decode cX3_workOut 74 = .ok (.aload 4, 2) := by decide +kernel
theorem dX3_workOut_76 : decode cX3_workOut 76 = .ok (.getfield 60, 3) := by decide +kernel
theorem dX3_workOut_79 : decode cX3_workOut 79 = .ok (.invokevirtual 69, 3) := by decide +kernel
theorem dX3_workOut_82 : decode cX3_workOut 82 = .ok (.ifCond .eq 9, 3) := by decide +kernel
theorem dX3_workOut_85 : decode cX3_workOut 85 = .ok (.iload_n 2, 1) := by decide +kernel
theorem dX3_workOut_86 : decode cX3_workOut 86 = .ok (.sipush 400, 3) := by decide +kernel
theorem dX3_workOut_89 : decode cX3_workOut 89 = .ok (.iadd, 1) := by decide +kernel
theorem dX3_workOut_90 : decode cX3_workOut 90 = .ok (.ireturn, 1) := by decide +kernel
theorem dX3_workOut_91 : decode cX3_workOut 91 = .ok (.aload 4, 2) := by decide +kernel
theorem dX3_workOut_93 : decode cX3_workOut 93 = .ok (.getfield 75, 3) := by decide +kernel
theorem dX3_workOut_96 : decode cX3_workOut 96 = .ok (.iconst (-1), 1) := by decide +kernel
theorem dX3_workOut_97 : decode cX3_workOut 97 = .ok (.if_icmp .ne 10, 3) := by decide +kernel
theorem dX3_workOut_100 : decode cX3_workOut 100 = .ok (.iload_n 3, 1) := by decide +kernel
theorem dX3_workOut_101 : decode cX3_workOut 101 = .ok (.invokestatic 78, 3) := by decide +kernel
theorem dX3_workOut_104 : decode cX3_workOut 104 = .ok (.goto 20, 3) := by decide +kernel
theorem dX3_workOut_107 : decode cX3_workOut 107 = .ok (.aload_n 0, 1) := by decide +kernel
theorem dX3_workOut_108 : decode cX3_workOut 108 = .ok (.getfield 15, 3) := by decide +kernel
theorem dX3_workOut_111 : decode cX3_workOut 111 = .ok (.aload 4, 2) := by decide +kernel
theorem dX3_workOut_113 : decode cX3_workOut 113 = .ok (.getfield 66, 3) := by decide +kernel
theorem dX3_workOut_116 : decode cX3_workOut 116 = .ok (.aload 4, 2) := by decide +kernel
theorem dX3_workOut_118 : decode cX3_workOut 118 = .ok (.getfield 75, 3) := by decide +kernel
theorem dX3_workOut_121 : decode cX3_workOut 121 = .ok (.invokevirtual 69, 3) := by decide +kernel
theorem dX3_workOut_124 : decode cX3_workOut 124 = .ok (.istore 7, 2) := by decide +kernel
theorem dX3_workOut_126 : decode cX3_workOut 126 = .ok (.iconst 0, 1) := by decide +kernel
theorem dX3_workOut_127 : decode cX3_workOut 127 = .ok (.iconst 4, 1) := by decide +kernel
theorem dX3_workOut_128 : decode cX3_workOut 128 = .ok (.iload 7, 2) := by decide +kernel
theorem dX3_workOut_130 : decode cX3_workOut 130 = .ok (.invokestatic 81, 3) := by decide +kernel
theorem dX3_workOut_133 : decode cX3_workOut 133 = .ok (.invokestatic 87, 3) := by decide +kernel
theorem dX3_workOut_136 : decode cX3_workOut 136 = .ok (.tableswitch 73 1 4 #[32, 55, 61, 67], 32) := by decide +kernel
theorem dX3_workOut_168 : decode cX3_workOut 168 = .ok (.iload 6, 2) := by decide +kernel
theorem dX3_workOut_170 : decode cX3_workOut 170 = .ok (.iconst 1, 1) := by decide +kernel
theorem dX3_workOut_171 : decode cX3_workOut 171 = .ok (.if_icmp .ne 11, 3) := by decide +kernel
theorem dX3_workOut_174 : decode cX3_workOut 174 = .ok (.iload_n 2, 1) := by decide +kernel
theorem dX3_workOut_175 : decode cX3_workOut 175 = .ok (.sipush 200, 3) := by decide +kernel
theorem dX3_workOut_178 : decode cX3_workOut 178 = .ok (.iadd, 1) := by decide +kernel
theorem dX3_workOut_179 : decode cX3_workOut 179 = .ok (.goto 11, 3) := by decide +kernel
theorem dX3_workOut_182 : decode cX3_workOut 182 = .ok (.iconst 4, 1) := by decide +kernel
theorem dX3_workOut_183 : decode cX3_workOut 183 = .ok (.iload 5, 2) := by decide +kernel
theorem dX3_workOut_185 : decode cX3_workOut 185 = .ok (.imul, 1) := by decide +kernel
theorem dX3_workOut_186 : decode cX3_workOut 186 = .ok (.iload_n 2, 1) := by decide +kernel
theorem dX3_workOut_187 : decode cX3_workOut 187 = .ok (.iconst 4, 1) := by decide +kernel
theorem dX3_workOut_188 : decode cX3_workOut 188 = .ok (.irem, 1) := by decide +kernel
theorem dX3_workOut_189 : decode cX3_workOut 189 = .ok (.iadd, 1) := by decide +kernel
theorem dX3_workOut_190 : decode cX3_workOut 190 = .ok (.ireturn, 1) := by decide +kernel
theorem dX3_workOut_191 : decode cX3_workOut 191 = .ok (.iload_n 2, 1) := by decide +kernel
theorem dX3_workOut_192 : decode cX3_workOut 192 = .ok (.iconst 3, 1) := by decide +kernel
theorem dX3_workOut_193 : decode cX3_workOut 193 = .ok (.invokestatic 90, 3) := by decide +kernel
theorem dX3_workOut_196 : decode cX3_workOut 196 = .ok (.ireturn, 1) := by decide +kernel
theorem dX3_workOut_197 : decode cX3_workOut 197 = .ok (.iload_n 2, 1) := by decide +kernel
theorem dX3_workOut_198 : decode cX3_workOut 198 = .ok (.iconst 1, 1) := by decide +kernel
theorem dX3_workOut_199 : decode cX3_workOut 199 = .ok (.invokestatic 90, 3) := by decide +kernel
theorem dX3_workOut_202 : decode cX3_workOut 202 = .ok (.ireturn, 1) := by decide +kernel
theorem dX3_workOut_203 : decode cX3_workOut 203 = .ok (.iload_n 2, 1) := by decide +kernel
theorem dX3_workOut_204 : decode cX3_workOut 204 = .ok (.iconst 2, 1) := by decide +kernel
theorem dX3_workOut_205 : decode cX3_workOut 205 = .ok (.invokestatic 90, 3) := by decide +kernel
theorem dX3_workOut_208 : decode cX3_workOut 208 = .ok (.ireturn, 1) := by decide +kernel
theorem dX3_workOut_209 : decode cX3_workOut 209 = .ok (.iload_n 2, 1) := by decide +kernel
theorem dX3_workOut_210 : decode cX3_workOut 210 = .ok (.ireturn, 1) := by decide +kernel
theorem dX3_lookAround_0 : decode cX3_lookAround 0 = .ok (.iload_n 1, 1) := by decide +kernel
theorem dX3_lookAround_1 : decode cX3_lookAround 1 = .ok (.iconst 4, 1) := by decide +kernel
theorem dX3_lookAround_2 : decode cX3_lookAround 2 = .ok (.idiv, 1) := by decide +kernel
theorem dX3_lookAround_3 : decode cX3_lookAround 3 = .ok (.istore 4, 2) := by decide +kernel
theorem dX3_lookAround_5 : decode cX3_lookAround 5 = .ok (.aload_n 0, 1) := by decide +kernel
theorem dX3_lookAround_6 : decode cX3_lookAround 6 = .ok (.getfield 15, 3) := by decide +kernel
theorem dX3_lookAround_9 : decode cX3_lookAround 9 = .ok (.iconst 0, 1) := by decide +kernel
theorem dX3_lookAround_10 : decode cX3_lookAround 10 = .ok (.iload_n 2, 1) := by decide +kernel
theorem dX3_lookAround_11 : decode cX3_lookAround 11 = .ok (.invokevirtual 93, 3) := by decide +kernel
theorem dX3_lookAround_14 : decode cX3_lookAround 14 = .ok (.aload_n 0, 1) := by decide +kernel
theorem dX3_lookAround_15 : decode cX3_lookAround 15 = .ok (.getfield 15, 3) := by decide +kernel
theorem dX3_lookAround_18 : decode cX3_lookAround 18 = .ok (.iconst 1, 1) := by decide +kernel
theorem dX3_lookAround_19 : decode cX3_lookAround 19 = .ok (.iload_n 1, 1) := by decide +kernel
theorem dX3_lookAround_20 : decode cX3_lookAround 20 = .ok (.iconst 4, 1) := by decide +kernel
theorem dX3_lookAround_21 : decode cX3_lookAround 21 = .ok (.irem, 1) := by decide +kernel
theorem dX3_lookAround_22 : decode cX3_lookAround 22 = .ok (.invokevirtual 93, 3) := by decide +kernel
theorem dX3_lookAround_25 : decode cX3_lookAround 25 = .ok (.aload_n 0, 1) := by decide +kernel
theorem dX3_lookAround_26 : decode cX3_lookAround 26 = .ok (.getfield 15, 3) := by decide +kernel
theorem dX3_lookAround_29 : decode cX3_lookAround 29 = .ok (.iconst 2, 1) := by decide +kernel
theorem dX3_lookAround_30 : decode cX3_lookAround 30 = .ok (.iload 4, 2) := by decide +kernel
theorem dX3_lookAround_32 : decode cX3_lookAround 32 = .ok (.aload_n 0, 1) := by decide +kernel
theorem dX3_lookAround_33 : decode cX3_lookAround 33 = .ok (.getfield 9, 3) := by decide +kernel
theorem dX3_lookAround_36 : decode cX3_lookAround 36 = .ok (.getfield 97, 3) := by decide +kernel
theorem dX3_lookAround_39 : decode cX3_lookAround 39 = .ok (.irem, 1) := by decide +kernel
theorem dX3_lookAround_40 : decode cX3_lookAround 40 = .ok (.invokevirtual 93, 3) := by decide +kernel
theorem dX3_lookAround_43 : decode cX3_lookAround 43 = .ok (.aload_n 0, 1) := by decide +kernel
theorem dX3_lookAround_44 : decode cX3_lookAround 44 = .ok (.getfield 15, 3) := by decide +kernel
theorem dX3_lookAround_47 : decode cX3_lookAround 47 = .ok (.iconst 3, 1) := by decide +kernel
theorem dX3_lookAround_48 : decode cX3_lookAround 48 = .ok (.iload 4, 2) := by decide +kernel
theorem dX3_lookAround_50 : decode cX3_lookAround 50 = .ok (.aload_n 0, 1) := by decide +kernel
theorem dX3_lookAround_51 : decode cX3_lookAround 51 = .ok (.getfield 9, 3) := by decide +kernel
theorem dX3_lookAround_54 : decode cX3_lookAround 54 = .ok (.getfield 97, 3) := by decide +kernel
theorem dX3_lookAround_57 : decode cX3_lookAround 57 = .ok (.idiv, 1) := by decide +kernel
theorem dX3_lookAround_58 : decode cX3_lookAround 58 = .ok (.invokevirtual 93, 3) := by decide +kernel
theorem dX3_lookAround_61 : decode cX3_lookAround 61 = .ok (.aload_n 0, 1) := by decide +kernel
theorem dX3_lookAround_62 : decode cX3_lookAround 62 = .ok (.getfield 15, 3) := by decide +kernel
theorem dX3_lookAround_65 : decode cX3_lookAround 65 = .ok (.iconst 4, 1) := by decide +kernel
theorem dX3_lookAround_66 : decode cX3_lookAround 66 = .ok (.aload_n 0, 1) := by decide +kernel
theorem dX3_lookAround_67 : decode cX3_lookAround 67 = .ok (.getfield 9, 3) := by decide +kernel
theorem dX3_lookAround_70 : decode cX3_lookAround 70 = .ok (.getfield 47, 3) := by decide +kernel
theorem dX3_lookAround_73 : decode cX3_lookAround 73 = .ok (.iload 4, 2) := by decide +kernel
theorem dX3_lookAround_75 : decode cX3_lookAround 75 = .ok (.invokevirtual 51, 3) := by decide +kernel
theorem dX3_lookAround_78 : decode cX3_lookAround 78 = .ok (.invokevirtual 93, 3) := by decide +kernel
theorem dX3_lookAround_81 : decode cX3_lookAround 81 = .ok (.aload_n 0, 1) := by decide +kernel
theorem dX3_lookAround_82 : decode cX3_lookAround 82 = .ok (.getfield 15, 3) := by decide +kernel
theorem dX3_lookAround_85 : decode cX3_lookAround 85 = .ok (.iconst 5, 1) := by decide +kernel
theorem dX3_lookAround_86 : decode cX3_lookAround 86 = .ok (.iload_n 3, 1) := by decide +kernel
theorem dX3_lookAround_87 : decode cX3_lookAround 87 = .ok (.invokevirtual 93, 3) := by decide +kernel
theorem dX3_lookAround_90 : decode cX3_lookAround 90 = .ok (.return_, 1) := by decide +kernel
theorem dX3_cellAhead_0 : decode cX3_cellAhead 0 = .ok (.iload_n 1, 1) := by decide +kernel
theorem dX3_cellAhead_1 : decode cX3_cellAhead 1 = .ok (.iconst 4, 1) := by decide +kernel
theorem dX3_cellAhead_2 : decode cX3_cellAhead 2 = .ok (.idiv, 1) := by decide +kernel
theorem dX3_cellAhead_3 : decode cX3_cellAhead 3 = .ok (.aload_n 0, 1) := by decide +kernel
theorem dX3_cellAhead_4 : decode cX3_cellAhead 4 = .ok (.getfield 9, 3) := by decide +kernel
theorem dX3_cellAhead_7 : decode cX3_cellAhead 7 = .ok (.getfield 97, 3) := by decide +kernel
theorem dX3_cellAhead_10 : decode cX3_cellAhead 10 = .ok (.irem, 1) := by decide +kernel
theorem dX3_cellAhead_11 : decode cX3_cellAhead 11 = .ok (.istore_n 2, 1) := by decide +kernel
theorem dX3_cellAhead_12 : decode cX3_cellAhead 12 = .ok (.iload_n 1, 1) := by decide +kernel
theorem dX3_cellAhead_13 : decode cX3_cellAhead 13 = .ok (.iconst 4, 1) := by decide +kernel
theorem dX3_cellAhead_14 : decode cX3_cellAhead 14 = .ok (.idiv, 1) := by decide +kernel
theorem dX3_cellAhead_15 : decode cX3_cellAhead 15 = .ok (.aload_n 0, 1) := by decide +kernel
theorem dX3_cellAhead_16 : decode cX3_cellAhead 16 = .ok (.getfield 9, 3) := by decide +kernel
theorem dX3_cellAhead_19 : decode cX3_cellAhead 19 = .ok (.getfield 97, 3) := by decide +kernel
theorem dX3_cellAhead_22 : decode cX3_cellAhead 22 = .ok (.idiv, 1) := by decide +kernel
theorem dX3_cellAhead_23 : decode cX3_cellAhead 23 = .ok (.istore_n 3, 1) := by decide +kernel
theorem dX3_cellAhead_24 : decode cX3_cellAhead 24 = .ok (.iload_n 1, 1) := by decide +kernel
theorem dX3_cellAhead_25 : decode cX3_cellAhead 25 = .ok (.iconst 4, 1) := by decide +kernel
theorem dX3_cellAhead_26 : decode cX3_cellAhead 26 = .ok (.irem, 1) := by decide +kernel
theorem dX3_cellAhead_27 : decode cX3_cellAhead 27 = .ok (.tableswitch 97 0 2 #[25, 45, 68], 25) := by decide +kernel
theorem dX3_cellAhead_52 : decode cX3_cellAhead 52 = .ok (.iload_n 3, 1) := by decide +kernel
theorem dX3_cellAhead_53 : decode cX3_cellAhead 53 = .ok (.ifCond .le 17, 3) := by decide +kernel
theorem dX3_cellAhead_56 : decode cX3_cellAhead 56 = .ok (.iload_n 1, 1) := by decide +kernel
theorem dX3_cellAhead_57 : decode cX3_cellAhead 57 = .ok (.iconst 4, 1) := by decide +kernel
theorem dX3_cellAhead_58 : decode cX3_cellAhead 58 = .ok (.idiv, 1) := by decide +kernel
theorem dX3_cellAhead_59 : decode cX3_cellAhead 59 = .ok (.aload_n 0, 1) := by decide +kernel
theorem dX3_cellAhead_60 : decode cX3_cellAhead 60 = .ok (.getfield 9, 3) := by decide +kernel
theorem dX3_cellAhead_63 : decode cX3_cellAhead 63 = .ok (.getfield 97, 3) := by decide +kernel
theorem dX3_cellAhead_66 : decode cX3_cellAhead 66 = .ok (.isub, 1) := by decide +kernel
theorem dX3_cellAhead_67 : decode cX3_cellAhead 67 = .ok (.goto 4, 3) := by decide +kernel
theorem dX3_cellAhead_70 : decode cX3_cellAhead 70 = .ok (.iconst (-1), 1) := by decide +kernel
theorem dX3_cellAhead_71 : decode cX3_cellAhead 71 = .ok (.ireturn, 1) := by decide +kernel
theorem dX3_cellAhead_72 : decode cX3_cellAhead 72 = .ok (.iload_n 2, 1) := by decide +kernel
theorem dX3_cellAhead_73 : decode cX3_cellAhead 73 = .ok (.aload_n 0, 1) := by decide +kernel
theorem dX3_cellAhead_74 : decode cX3_cellAhead 74 = .ok (.getfield 9, 3) := by decide +kernel
theorem dX3_cellAhead_77 : decode cX3_cellAhead 77 = .ok (.getfield 97, 3) := by decide +kernel
theorem dX3_cellAhead_80 : decode cX3_cellAhead 80 = .ok (.iconst 1, 1) := by decide +kernel
theorem dX3_cellAhead_81 : decode cX3_cellAhead 81 = .ok (.isub, 1) := by decide +kernel
theorem dX3_cellAhead_82 : decode cX3_cellAhead 82 = .ok (.if_icmp .ge 11, 3) := by decide +kernel
theorem dX3_cellAhead_85 : decode cX3_cellAhead 85 = .ok (.iload_n 1, 1) := by decide +kernel
theorem dX3_cellAhead_86 : decode cX3_cellAhead 86 = .ok (.iconst 4, 1) := by decide +kernel
theorem dX3_cellAhead_87 : decode cX3_cellAhead 87 = .ok (.idiv, 1) := by decide +kernel
theorem dX3_cellAhead_88 : decode cX3_cellAhead 88 = .ok (.iconst 1, 1) := by decide +kernel
theorem dX3_cellAhead_89 : decode cX3_cellAhead 89 = .ok (.iadd, 1) := by decide +kernel
theorem dX3_cellAhead_90 : decode cX3_cellAhead 90 = .ok (.goto 4, 3) := by decide +kernel
theorem dX3_cellAhead_93 : decode cX3_cellAhead 93 = .ok (.iconst (-1), 1) := by decide +kernel
theorem dX3_cellAhead_94 : decode cX3_cellAhead 94 = .ok (.ireturn, 1) := by decide +kernel
theorem dX3_cellAhead_95 : decode cX3_cellAhead 95 = .ok (.iload_n 3, 1) := by decide +kernel
theorem dX3_cellAhead_96 : decode cX3_cellAhead 96 = .ok (.aload_n 0, 1) := by decide +kernel
theorem dX3_cellAhead_97 : decode cX3_cellAhead 97 = .ok (.getfield 9, 3) := by decide +kernel
theorem dX3_cellAhead_100 : decode cX3_cellAhead 100 = .ok (.getfield 100, 3) := by decide +kernel
theorem dX3_cellAhead_103 : decode cX3_cellAhead 103 = .ok (.iconst 1, 1) := by decide +kernel
theorem dX3_cellAhead_104 : decode cX3_cellAhead 104 = .ok (.isub, 1) := by decide +kernel
theorem dX3_cellAhead_105 : decode cX3_cellAhead 105 = .ok (.if_icmp .ge 17, 3) := by decide +kernel
theorem dX3_cellAhead_108 : decode cX3_cellAhead 108 = .ok (.iload_n 1, 1) := by decide +kernel
theorem dX3_cellAhead_109 : decode cX3_cellAhead 109 = .ok (.iconst 4, 1) := by decide +kernel
theorem dX3_cellAhead_110 : decode cX3_cellAhead 110 = .ok (.idiv, 1) := by decide +kernel
theorem dX3_cellAhead_111 : decode cX3_cellAhead 111 = .ok (.aload_n 0, 1) := by decide +kernel
theorem dX3_cellAhead_112 : decode cX3_cellAhead 112 = .ok (.getfield 9, 3) := by decide +kernel
theorem dX3_cellAhead_115 : decode cX3_cellAhead 115 = .ok (.getfield 97, 3) := by decide +kernel
theorem dX3_cellAhead_118 : decode cX3_cellAhead 118 = .ok (.iadd, 1) := by decide +kernel
theorem dX3_cellAhead_119 : decode cX3_cellAhead 119 = .ok (.goto 4, 3) := by decide +kernel
theorem dX3_cellAhead_122 : decode cX3_cellAhead 122 = .ok (.iconst (-1), 1) := by decide +kernel
theorem dX3_cellAhead_123 : decode cX3_cellAhead 123 = .ok (.ireturn, 1) := by decide +kernel
theorem dX3_cellAhead_124 : decode cX3_cellAhead 124 = .ok (.iload_n 2, 1) := by decide +kernel
theorem dX3_cellAhead_125 : decode cX3_cellAhead 125 = .ok (.ifCond .le 11, 3) := by decide +kernel
theorem dX3_cellAhead_128 : decode cX3_cellAhead 128 = .ok (.iload_n 1, 1) := by decide +kernel
theorem dX3_cellAhead_129 : decode cX3_cellAhead 129 = .ok (.iconst 4, 1) := by decide +kernel
theorem dX3_cellAhead_130 : decode cX3_cellAhead 130 = .ok (.idiv, 1) := by decide +kernel
theorem dX3_cellAhead_131 : decode cX3_cellAhead 131 = .ok (.iconst 1, 1) := by decide +kernel
theorem dX3_cellAhead_132 : decode cX3_cellAhead 132 = .ok (.isub, 1) := by decide +kernel
theorem dX3_cellAhead_133 : decode cX3_cellAhead 133 = .ok (.goto 4, 3) := by decide +kernel
theorem dX3_cellAhead_136 : decode cX3_cellAhead 136 = .ok (.iconst (-1), 1) := by decide +kernel
theorem dX3_cellAhead_137 : decode cX3_cellAhead 137 = .ok (.ireturn, 1) := by decide +kernel
theorem dX3_plainDeed_0 : decode cX3_plainDeed 0 = .ok (.iload_n 0, 1) := by decide +kernel
theorem dX3_plainDeed_1 : decode cX3_plainDeed 1 = .ok (.iconst 3, 1) := by decide +kernel
theorem dX3_plainDeed_2 : decode cX3_plainDeed 2 = .ok (.if_icmp .ne 7, 3) := by decide +kernel
theorem dX3_plainDeed_5 : decode cX3_plainDeed 5 = .ok (.iconst 0, 1) := by decide +kernel
theorem dX3_plainDeed_6 : decode cX3_plainDeed 6 = .ok (.goto 6, 3) := by decide +kernel
theorem dX3_plainDeed_9 : decode cX3_plainDeed 9 = .ok (.iload_n 0, 1) := by decide +kernel
theorem dX3_plainDeed_10 : decode cX3_plainDeed 10 = .ok (.iconst 1, 1) := by decide +kernel
theorem dX3_plainDeed_11 : decode cX3_plainDeed 11 = .ok (.iadd, 1) := by decide +kernel
theorem dX3_plainDeed_12 : decode cX3_plainDeed 12 = .ok (.ireturn, 1) := by decide +kernel
theorem dX3_turned_0 : decode cX3_turned 0 = .ok (.iload_n 0, 1) := by decide +kernel
theorem dX3_turned_1 : decode cX3_turned 1 = .ok (.iconst 4, 1) := by decide +kernel
theorem dX3_turned_2 : decode cX3_turned 2 = .ok (.idiv, 1) := by decide +kernel
theorem dX3_turned_3 : decode cX3_turned 3 = .ok (.iconst 4, 1) := by decide +kernel
theorem dX3_turned_4 : decode cX3_turned 4 = .ok (.imul, 1) := by decide +kernel
theorem dX3_turned_5 : decode cX3_turned 5 = .ok (.iload_n 0, 1) := by decide +kernel
theorem dX3_turned_6 : decode cX3_turned 6 = .ok (.iconst 4, 1) := by decide +kernel
theorem dX3_turned_7 : decode cX3_turned 7 = .ok (.irem, 1) := by decide +kernel
theorem dX3_turned_8 : decode cX3_turned 8 = .ok (.iload_n 1, 1) := by decide +kernel
theorem dX3_turned_9 : decode cX3_turned 9 = .ok (.iadd, 1) := by decide +kernel
theorem dX3_turned_10 : decode cX3_turned 10 = .ok (.iconst 4, 1) := by decide +kernel
theorem dX3_turned_11 : decode cX3_turned 11 = .ok (.irem, 1) := by decide +kernel
theorem dX3_turned_12 : decode cX3_turned 12 = .ok (.iadd, 1) := by decide +kernel
theorem dX3_turned_13 : decode cX3_turned 13 = .ok (.ireturn, 1) := by decide +kernel
theorem dX4_init_0 : decode cX4_init 0 = .ok (.aload_n 0, 1) := by decide +kernel
theorem dX4_init_1 : decode cX4_init 1 = .ok (.invokespecial 3, 3) := by decide +kernel
theorem dX4_init_4 : decode cX4_init 4 = .ok (.aload_n 0, 1) := by decide +kernel
theorem dX4_init_5 : decode cX4_init 5 = .ok (.bipush 11, 2) := by decide +kernel
theorem dX4_init_7 : decode cX4_init 7 = .ok (.newarray .int, 2) := by decide +kernel
theorem dX4_init_9 : decode cX4_init 9 = .ok (.putfield 9, 3) := by decide +kernel
theorem dX4_init_12 : decode cX4_init 12 = .ok (.aload_n 0, 1) := by decide +kernel
theorem dX4_init_13 : decode cX4_init 13 = .ok (.bipush 64, 2) := by decide +kernel
theorem dX4_init_15 : decode cX4_init 15 = .ok (.newarray .int, 2) := by decide +kernel
theorem dX4_init_17 : decode cX4_init 17 = .ok (.putfield 15, 3) := by decide +kernel
theorem dX4_init_20 : decode cX4_init 20 = .ok (.return_, 1) := by decide +kernel
theorem dX4_name_0 : decode cX4_name 0 = .ok (.iload_n 1, 1) := by decide +kernel
theorem dX4_name_1 : decode cX4_name 1 = .ok (.ifCond .lt 16, 3) := by decide +kernel
theorem dX4_name_4 : decode cX4_name 4 = .ok (.iload_n 1, 1) := by decide +kernel
theorem dX4_name_5 : decode cX4_name 5 = .ok (.bipush 11, 2) := by decide +kernel
theorem dX4_name_7 : decode cX4_name 7 = .ok (.if_icmp .ge 10, 3) := by decide +kernel
theorem dX4_name_10 : decode cX4_name 10 = .ok (.aload_n 0, 1) := by decide +kernel
theorem dX4_name_11 : decode cX4_name 11 = .ok (.getfield 9, 3) := by decide +kernel
theorem dX4_name_14 : decode cX4_name 14 = .ok (.iload_n 1, 1) := by decide +kernel
theorem dX4_name_15 : decode cX4_name 15 = .ok (.iload_n 2, 1) := by decide +kernel
theorem dX4_name_16 : decode cX4_name 16 = .ok (.iastore, 1) := by decide +kernel
theorem dX4_name_17 : decode cX4_name 17 = .ok (.return_, 1) := by decide +kernel
theorem dX4_value_0 : decode cX4_value 0 = .ok (.aload_n 0, 1) := by decide +kernel
theorem dX4_value_1 : decode cX4_value 1 = .ok (.iconst 0, 1) := by decide +kernel
theorem dX4_value_2 : decode cX4_value 2 = .ok (.putfield 18, 3) := by decide +kernel
theorem dX4_value_5 : decode cX4_value 5 = .ok (.iload_n 2, 1) := by decide +kernel
theorem dX4_value_6 : decode cX4_value 6 = .ok (.istore_n 3, 1) := by decide +kernel
theorem dX4_value_7 : decode cX4_value 7 = .ok (.iconst 0, 1) := by decide +kernel
theorem dX4_value_8 : decode cX4_value 8 = .ok (.istore 4, 2) := by decide +kernel
theorem dX4_value_10 : decode cX4_value 10 = .ok (.iload 4, 2) := by decide +kernel
theorem dX4_value_12 : decode cX4_value 12 = .ok (.aload_n 1, 1) := by decide +kernel
theorem dX4_value_13 : decode cX4_value 13 = .ok (.arraylength, 1) := by decide +kernel
theorem dX4_value_14 : decode cX4_value 14 = .ok (.if_icmp .ge 245, 3) := by decide +kernel
theorem dX4_value_17 : decode cX4_value 17 = .ok (.iload_n 3, 1) := by decide +kernel
theorem dX4_value_18 : decode cX4_value 18 = .ok (.ifCond .lt 241, 3) := by decide +kernel
theorem dX4_value_21 : decode cX4_value 21 = .ok (.iload_n 3, 1) := by decide +kernel
theorem dX4_value_22 : decode cX4_value 22 = .ok (.aload_n 1, 1) := by decide +kernel
theorem dX4_value_23 : decode cX4_value 23 = .ok (.arraylength, 1) := by decide +kernel
theorem dX4_value_24 : decode cX4_value 24 = .ok (.if_icmp .ge 235, 3) := by decide +kernel
theorem dX4_value_27 : decode cX4_value 27 = .ok (.aload_n 1, 1) := by decide +kernel
theorem dX4_value_28 : decode cX4_value 28 = .ok (.iload_n 3, 1) := by decide +kernel
theorem dX4_value_29 : decode cX4_value 29 = .ok (.iaload, 1) := by decide +kernel
theorem dX4_value_30 : decode cX4_value 30 = .ok (.bipush 33, 2) := by decide +kernel
theorem dX4_value_32 : decode cX4_value 32 = .ok (.if_icmp .eq 227, 3) := by decide +kernel
theorem dX4_value_35 : decode cX4_value 35 = .ok (.iload_n 3, 1) := by decide +kernel
theorem dX4_value_36 : decode cX4_value 36 = .ok (.iconst 1, 1) := by decide +kernel
theorem dX4_value_37 : decode cX4_value 37 = .ok (.iadd, 1) := by decide +kernel
theorem dX4_value_38 : decode cX4_value 38 = .ok (.aload_n 1, 1) := by decide +kernel
theorem dX4_value_39 : decode cX4_value 39 = .ok (.arraylength, 1) := by decide +kernel
theorem dX4_value_40 : decode cX4_value 40 = .ok (.if_icmp .ge 11, 3) := by decide +kernel
theorem dX4_value_43 : decode cX4_value 43 = .ok (.aload_n 1, 1) := by decide +kernel
theorem dX4_value_44 : decode cX4_value 44 = .ok (.iload_n 3, 1) := by decide +kernel
theorem dX4_value_45 : decode cX4_value 45 = .ok (.iconst 1, 1) := by decide +kernel
theorem dX4_value_46 : decode cX4_value 46 = .ok (.iadd, 1) := by decide +kernel
theorem dX4_value_47 : decode cX4_value 47 = .ok (.iaload, 1) := by decide +kernel
theorem dX4_value_48 : decode cX4_value 48 = .ok (.goto 4, 3) := by decide +kernel
theorem dX4_value_51 : decode cX4_value 51 = .ok (.iconst 0, 1) := by decide +kernel
theorem dX4_value_52 : decode cX4_value 52 = .ok (.istore 5, 2) := by decide +kernel
theorem dX4_value_54 : decode cX4_value 54 = .ok (.aload_n 1, 1) := by decide +kernel
theorem dX4_value_55 : decode cX4_value 55 = .ok (.iload_n 3, 1) := by decide +kernel
theorem dX4_value_56 : decode cX4_value 56 = .ok (.iaload, 1) := by decide +kernel
theorem dX4_value_57 : decode cX4_value 57 = .ok (.lookupswitch 166 #[(18, 129), (19, 59), (20, 71), (34, 104), (35, 123), (38, 151)], 59) := by decide +kernel
theorem dX4_value_116 : decode cX4_value 116 = .ok (.aload_n 0, 1) := by decide +kernel
theorem dX4_value_117 : decode cX4_value 117 = .ok (.iload 5, 2) := by decide +kernel
theorem dX4_value_119 : decode cX4_value 119 = .ok (.invokevirtual 22, 3) := by decide +kernel
theorem dX4_value_122 : decode cX4_value 122 = .ok (.iinc 3 2, 3) := by decide +kernel
theorem dX4_value_125 : decode cX4_value 125 = .ok (.goto 128, 3) := by decide +kernel
theorem dX4_value_128 : decode cX4_value 128 = .ok (.aload_n 0, 1) := by decide +kernel
theorem dX4_value_129 : decode cX4_value 129 = .ok (.iload 5, 2) := by decide +kernel
theorem dX4_value_131 : decode cX4_value 131 = .ok (.ifCond .lt 20, 3) := by decide +kernel
theorem dX4_value_134 : decode cX4_value 134 = .ok (.iload 5, 2) := by decide +kernel
theorem dX4_value_136 : decode cX4_value 136 = .ok (.bipush 11, 2) := by decide +kernel
theorem dX4_value_138 : decode cX4_value 138 = .ok (.if_icmp .ge 13, 3) := by decide +kernel
theorem dX4_value_141 : decode cX4_value 141 = .ok (.aload_n 0, 1) := by decide +kernel
theorem dX4_value_142 : decode cX4_value 142 = .ok (.getfield 9, 3) := by decide +kernel
theorem dX4_value_145 : decode cX4_value 145 = .ok (.iload 5, 2) := by decide +kernel
theorem dX4_value_147 : decode cX4_value 147 = .ok (.iaload, 1) := by decide +kernel
theorem dX4_value_148 : decode cX4_value 148 = .ok (.goto 4, 3) := by decide +kernel
theorem dX4_value_151 : decode cX4_value 151 = .ok (.iconst 0, 1) := by decide +kernel
theorem dX4_value_152 : decode cX4_value 152 = .ok (.invokevirtual 22, 3) := by decide +kernel
theorem dX4_value_155 : decode cX4_value 155 = .ok (.iinc 3 2, 3) := by decide +kernel
theorem dX4_value_158 : decode cX4_value 158 = .ok (.goto 95, 3) := by decide +kernel
theorem dX4_value_161 : decode cX4_value 161 = .ok (.aload_n 0, 1) := by decide +kernel
theorem dX4_value_162 : decode cX4_value 162 = .ok (.invokevirtual 26, 3) := by decide +kernel
theorem dX4_value_165 : decode cX4_value 165 = .ok (.ifCond .ne 8, 3) := by decide +kernel
theorem dX4_value_168 : decode cX4_value 168 = .ok (.iload 5, 2) := by decide +kernel
theorem dX4_value_170 : decode cX4_value 170 = .ok (.goto 6, 3) := by decide +kernel
theorem dX4_value_173 : decode cX4_value 173 = .ok (.iload_n 3, 1) := by decide +kernel
theorem dX4_value_174 : decode cX4_value 174 = .ok (.iconst 2, 1) := by decide +kernel
theorem dX4_value_175 : decode cX4_value 175 = .ok (.iadd, 1) := by decide +kernel
theorem dX4_value_176 : decode cX4_value 176 = .ok (.istore_n 3, 1) := by decide +kernel
theorem dX4_value_177 : decode cX4_value 177 = .ok (.goto 76, 3) := by decide +kernel
theorem dX4_value_180 : decode cX4_value 180 = .ok (.iload 5, 2) := by decide +kernel
theorem dX4_value_182 : decode cX4_value 182 = .ok (.istore_n 3, 1) := by decide +kernel
theorem dX4_value_183 : decode cX4_value 183 = .ok (.goto 70, 3) := by decide +kernel
theorem dX4_value_186 : decode cX4_value 186 = .ok (.aload_n 0, 1) := by decide +kernel
theorem dX4_value_187 : decode cX4_value 187 = .ok (.aload_n 0, 1) := by decide +kernel
theorem dX4_value_188 : decode cX4_value 188 = .ok (.invokevirtual 26, 3) := by decide +kernel
theorem dX4_value_191 : decode cX4_value 191 = .ok (.ifCond .ne 7, 3) := by decide +kernel
theorem dX4_value_194 : decode cX4_value 194 = .ok (.iconst 1, 1) := by decide +kernel
theorem dX4_value_195 : decode cX4_value 195 = .ok (.goto 4, 3) := by decide +kernel
theorem dX4_value_198 : decode cX4_value 198 = .ok (.iconst 0, 1) := by decide +kernel
theorem dX4_value_199 : decode cX4_value 199 = .ok (.invokevirtual 22, 3) := by decide +kernel
theorem dX4_value_202 : decode cX4_value 202 = .ok (.iinc 3 1, 3) := by decide +kernel
theorem dX4_value_205 : decode cX4_value 205 = .ok (.goto 48, 3) := by decide +kernel
theorem dX4_value_208 : decode cX4_value 208 = .ok (.aload_n 0, 1) := by decide +kernel
theorem dX4_value_209 : decode cX4_value 209 = .ok (.aload_n 0, 1) := by decide +kernel
theorem dX4_value_210 : decode cX4_value 210 = .ok (.invokevirtual 26, 3) := by decide +kernel
theorem dX4_value_213 : decode cX4_value 213 = .ok (.ineg, 1) := by decide +kernel
theorem dX4_value_214 : decode cX4_value 214 = .ok (.invokevirtual 22, 3) := by decide +kernel
theorem dX4_value_217 : decode cX4_value 217 = .ok (.iinc 3 1, 3) := by decide +kernel
theorem dX4_value_220 : decode cX4_value 220 = .ok (.goto 33, 3) := by decide +kernel
theorem dX4_value_223 : decode cX4_value 223 = .ok (.aload_n 0, 1) := by decide +kernel
theorem dX4_value_224 : decode cX4_value 224 = .ok (.invokevirtual 26, 3) := by decide +kernel
theorem dX4_value_227 : decode cX4_value 227 = .ok (.istore 6, 2) := by decide +kernel
theorem dX4_value_229 : decode cX4_value 229 = .ok (.aload_n 0, 1) := by decide +kernel
theorem dX4_value_230 : decode cX4_value 230 = .ok (.aload_n 1, 1) := by decide +kernel
theorem dX4_value_231 : decode cX4_value 231 = .ok (.iload_n 3, 1) := by decide +kernel
theorem dX4_value_232 : decode cX4_value 232 = .ok (.iaload, 1) := by decide +kernel
theorem dX4_value_233 : decode cX4_value 233 = .ok (.aload_n 0, 1) := by decide +kernel
theorem dX4_value_234 : decode cX4_value 234 = .ok (.invokevirtual 26, 3) := by decide +kernel
theorem dX4_value_237 : decode cX4_value 237 = .ok (.i2l, 1) := by decide +kernel
theorem dX4_value_238 : decode cX4_value 238 = .ok (.iload 6, 2) := by decide +kernel
theorem dX4_value_240 : decode cX4_value 240 = .ok (.i2l, 1) := by decide +kernel
theorem dX4_value_241 : decode cX4_value 241 = .ok (.invokestatic 30, 3) := by decide +kernel
theorem dX4_value_244 : decode cX4_value 244 = .ok (.invokestatic 34, 3) := by decide +kernel
theorem dX4_value_247 : decode cX4_value 247 = .ok (.invokevirtual 22, 3) := by decide +kernel
theorem dX4_value_250 : decode cX4_value 250 = .ok (.iinc 3 1, 3) := by decide +kernel
theorem dX4_value_253 : decode cX4_value 253 = .ok (.iinc 4 1, 3) := by decide +kernel
theorem dX4_value_256 : decode cX4_value 256 = .ok (.goto (-246), 3) := by decide +kernel
theorem dX4_value_259 : decode cX4_value 259 = .ok (.aload_n 0, 1) := by decide +kernel
theorem dX4_value_260 : decode cX4_value 260 = .ok (.invokevirtual 26, 3) := by decide +kernel
theorem dX4_value_263 : decode cX4_value 263 = .ok (.ireturn, 1) := by decide +kernel
theorem dX4_push_0 : decode cX4_push 0 = .ok (.aload_n 0, 1) := by decide +kernel
theorem dX4_push_1 : decode cX4_push 1 = .ok (.getfield 18, 3) := by decide +kernel
theorem dX4_push_4 : decode cX4_push 4 = .ok (.aload_n 0, 1) := by decide +kernel
theorem dX4_push_5 : decode cX4_push 5 = .ok (.getfield 15, 3) := by decide +kernel
theorem dX4_push_8 : decode cX4_push 8 = .ok (.arraylength, 1) := by decide +kernel
theorem dX4_push_9 : decode cX4_push 9 = .ok (.if_icmp .ge 23, 3) := by decide +kernel
theorem dX4_push_12 : decode cX4_push 12 = .ok (.aload_n 0, 1) := by decide +kernel
theorem dX4_push_13 : decode cX4_push 13 = .ok (.getfield 15, 3) := by decide +kernel
theorem dX4_push_16 : decode cX4_push 16 = .ok (.aload_n 0, 1) := by decide +kernel
theorem dX4_push_17 : decode cX4_push 17 = .ok (.getfield 18, 3) := by decide +kernel
theorem dX4_push_20 : decode cX4_push 20 = .ok (.iload_n 1, 1) := by decide +kernel
theorem dX4_push_21 : decode cX4_push 21 = .ok (.iastore, 1) := by decide +kernel
theorem dX4_push_22 : decode cX4_push 22 = .ok (.aload_n 0, 1) := by decide +kernel
theorem dX4_push_23 : decode cX4_push 23 = .ok (.dup, 1) := by decide +kernel
theorem dX4_push_24 : decode cX4_push 24 = .ok (.getfield 18, 3) := by decide +kernel
theorem dX4_push_27 : decode cX4_push 27 = .ok (.iconst 1, 1) := by decide +kernel
theorem dX4_push_28 : decode cX4_push 28 = .ok (.iadd, 1) := by decide +kernel
theorem dX4_push_29 : decode cX4_push 29 = .ok (.putfield 18, 3) := by decide +kernel
theorem dX4_push_32 : decode cX4_push 32 = .ok (.return_, 1) := by decide +kernel
theorem dX4_pop_0 : decode cX4_pop 0 = .ok (.aload_n 0, 1) := by decide +kernel
theorem dX4_pop_1 : decode cX4_pop 1 = .ok (.getfield 18, 3) := by decide +kernel
theorem dX4_pop_4 : decode cX4_pop 4 = .ok (.ifCond .gt 5, 3) := by decide +kernel
theorem dX4_pop_7 : decode cX4_pop 7 = .ok (.iconst 0, 1) := by decide +kernel
theorem dX4_pop_8 : decode cX4_pop 8 = .ok (.ireturn, 1) := by decide +kernel
theorem dX4_pop_9 : decode cX4_pop 9 = .ok (.aload_n 0, 1) := by decide +kernel
theorem dX4_pop_10 : decode cX4_pop 10 = .ok (.dup, 1) := by decide +kernel
theorem dX4_pop_11 : decode cX4_pop 11 = .ok (.getfield 18, 3) := by decide +kernel
theorem dX4_pop_14 : decode cX4_pop 14 = .ok (.iconst 1, 1) := by decide +kernel
theorem dX4_pop_15 : decode cX4_pop 15 = .ok (.isub, 1) := by decide +kernel
theorem dX4_pop_16 : decode cX4_pop 16 = .ok (.putfield 18, 3) := by decide +kernel
theorem dX4_pop_19 : decode cX4_pop 19 = .ok (.aload_n 0, 1) := by decide +kernel
theorem dX4_pop_20 : decode cX4_pop 20 = .ok (.getfield 15, 3) := by decide +kernel
theorem dX4_pop_23 : decode cX4_pop 23 = .ok (.aload_n 0, 1) := by decide +kernel
theorem dX4_pop_24 : decode cX4_pop 24 = .ok (.getfield 18, 3) := by decide +kernel
theorem dX4_pop_27 : decode cX4_pop 27 = .ok (.iaload, 1) := by decide +kernel
theorem dX4_pop_28 : decode cX4_pop 28 = .ok (.ireturn, 1) := by decide +kernel
theorem dX4_join_0 : decode cX4_join 0 = .ok (.iload_n 0, 1) := by decide +kernel
theorem dX4_join_1 : decode cX4_join 1 = .ok (.tableswitch 181 16 30 #[173, 177, 181, 181, 181, 101, 113, 125, 137, 149, 161, 75, 79, 83, 87], 75) := by decide +kernel
theorem dX4_join_76 : decode cX4_join 76 = .ok (.lload_n 1, 1) := by decide +kernel
theorem dX4_join_77 : decode cX4_join 77 = .ok (.lload_n 3, 1) := by decide +kernel
theorem dX4_join_78 : decode cX4_join 78 = .ok (.ladd, 1) := by decide +kernel
theorem dX4_join_79 : decode cX4_join 79 = .ok (.lreturn, 1) := by decide +kernel
theorem dX4_join_80 : decode cX4_join 80 = .ok (.lload_n 1, 1) := by decide +kernel
theorem dX4_join_81 : decode cX4_join 81 = .ok (.lload_n 3, 1) := by decide +kernel
theorem dX4_join_82 : decode cX4_join 82 = .ok (.lsub, 1) := by decide +kernel
theorem dX4_join_83 : decode cX4_join 83 = .ok (.lreturn, 1) := by decide +kernel
theorem dX4_join_84 : decode cX4_join 84 = .ok (.lload_n 1, 1) := by decide +kernel
theorem dX4_join_85 : decode cX4_join 85 = .ok (.lload_n 3, 1) := by decide +kernel
theorem dX4_join_86 : decode cX4_join 86 = .ok (.lmul, 1) := by decide +kernel
theorem dX4_join_87 : decode cX4_join 87 = .ok (.lreturn, 1) := by decide +kernel
theorem dX4_join_88 : decode cX4_join 88 = .ok (.lload_n 3, 1) := by decide +kernel
theorem dX4_join_89 : decode cX4_join 89 = .ok (.lconst 0, 1) := by decide +kernel
theorem dX4_join_90 : decode cX4_join 90 = .ok (.lcmp, 1) := by decide +kernel
theorem dX4_join_91 : decode cX4_join 91 = .ok (.ifCond .ne 7, 3) := by decide +kernel
theorem dX4_join_94 : decode cX4_join 94 = .ok (.lconst 0, 1) := by decide +kernel
theorem dX4_join_95 : decode cX4_join 95 = .ok (.goto 6, 3) := by decide +kernel
theorem dX4_join_98 : decode cX4_join 98 = .ok (.lload_n 1, 1) := by decide +kernel
theorem dX4_join_99 : decode cX4_join 99 = .ok (.lload_n 3, 1) := by decide +kernel
theorem dX4_join_100 : decode cX4_join 100 = .ok (.ldiv, 1) := by decide +kernel
theorem dX4_join_101 : decode cX4_join 101 = .ok (.lreturn, 1) := by decide +kernel
theorem dX4_join_102 : decode cX4_join 102 = .ok (.lload_n 1, 1) := by decide +kernel
theorem dX4_join_103 : decode cX4_join 103 = .ok (.lload_n 3, 1) := by decide +kernel
theorem dX4_join_104 : decode cX4_join 104 = .ok (.lcmp, 1) := by decide +kernel
theorem dX4_join_105 : decode cX4_join 105 = .ok (.ifCond .ge 7, 3) := by decide +kernel
theorem dX4_join_108 : decode cX4_join 108 = .ok (.lconst 1, 1) := by decide +kernel
theorem dX4_join_109 : decode cX4_join 109 = .ok (.goto 4, 3) := by decide +kernel
theorem dX4_join_112 : decode cX4_join 112 = .ok (.lconst 0, 1) := by decide +kernel
theorem dX4_join_113 : decode cX4_join 113 = .ok (.lreturn, 1) := by decide +kernel
theorem dX4_join_114 : decode cX4_join 114 = .ok (.lload_n 1, 1) := by decide +kernel
theorem dX4_join_115 : decode cX4_join 115 = .ok (.lload_n 3, 1) := by decide +kernel
theorem dX4_join_116 : decode cX4_join 116 = .ok (.lcmp, 1) := by decide +kernel
theorem dX4_join_117 : decode cX4_join 117 = .ok (.ifCond .gt 7, 3) := by decide +kernel
theorem dX4_join_120 : decode cX4_join 120 = .ok (.lconst 1, 1) := by decide +kernel
theorem dX4_join_121 : decode cX4_join 121 = .ok (.goto 4, 3) := by decide +kernel
theorem dX4_join_124 : decode cX4_join 124 = .ok (.lconst 0, 1) := by decide +kernel
theorem dX4_join_125 : decode cX4_join 125 = .ok (.lreturn, 1) := by decide +kernel
theorem dX4_join_126 : decode cX4_join 126 = .ok (.lload_n 1, 1) := by decide +kernel
theorem dX4_join_127 : decode cX4_join 127 = .ok (.lload_n 3, 1) := by decide +kernel
theorem dX4_join_128 : decode cX4_join 128 = .ok (.lcmp, 1) := by decide +kernel
theorem dX4_join_129 : decode cX4_join 129 = .ok (.ifCond .le 7, 3) := by decide +kernel
theorem dX4_join_132 : decode cX4_join 132 = .ok (.lconst 1, 1) := by decide +kernel
theorem dX4_join_133 : decode cX4_join 133 = .ok (.goto 4, 3) := by decide +kernel
theorem dX4_join_136 : decode cX4_join 136 = .ok (.lconst 0, 1) := by decide +kernel
theorem dX4_join_137 : decode cX4_join 137 = .ok (.lreturn, 1) := by decide +kernel
theorem dX4_join_138 : decode cX4_join 138 = .ok (.lload_n 1, 1) := by decide +kernel
theorem dX4_join_139 : decode cX4_join 139 = .ok (.lload_n 3, 1) := by decide +kernel
theorem dX4_join_140 : decode cX4_join 140 = .ok (.lcmp, 1) := by decide +kernel
theorem dX4_join_141 : decode cX4_join 141 = .ok (.ifCond .lt 7, 3) := by decide +kernel
theorem dX4_join_144 : decode cX4_join 144 = .ok (.lconst 1, 1) := by decide +kernel
theorem dX4_join_145 : decode cX4_join 145 = .ok (.goto 4, 3) := by decide +kernel
theorem dX4_join_148 : decode cX4_join 148 = .ok (.lconst 0, 1) := by decide +kernel
theorem dX4_join_149 : decode cX4_join 149 = .ok (.lreturn, 1) := by decide +kernel
theorem dX4_join_150 : decode cX4_join 150 = .ok (.lload_n 1, 1) := by decide +kernel
theorem dX4_join_151 : decode cX4_join 151 = .ok (.lload_n 3, 1) := by decide +kernel
theorem dX4_join_152 : decode cX4_join 152 = .ok (.lcmp, 1) := by decide +kernel
theorem dX4_join_153 : decode cX4_join 153 = .ok (.ifCond .ne 7, 3) := by decide +kernel
theorem dX4_join_156 : decode cX4_join 156 = .ok (.lconst 1, 1) := by decide +kernel
theorem dX4_join_157 : decode cX4_join 157 = .ok (.goto 4, 3) := by decide +kernel
theorem dX4_join_160 : decode cX4_join 160 = .ok (.lconst 0, 1) := by decide +kernel
theorem dX4_join_161 : decode cX4_join 161 = .ok (.lreturn, 1) := by decide +kernel
theorem dX4_join_162 : decode cX4_join 162 = .ok (.lload_n 1, 1) := by decide +kernel
theorem dX4_join_163 : decode cX4_join 163 = .ok (.lload_n 3, 1) := by decide +kernel
theorem dX4_join_164 : decode cX4_join 164 = .ok (.lcmp, 1) := by decide +kernel
theorem dX4_join_165 : decode cX4_join 165 = .ok (.ifCond .eq 7, 3) := by decide +kernel
theorem dX4_join_168 : decode cX4_join 168 = .ok (.lconst 1, 1) := by decide +kernel
theorem dX4_join_169 : decode cX4_join 169 = .ok (.goto 4, 3) := by decide +kernel
theorem dX4_join_172 : decode cX4_join 172 = .ok (.lconst 0, 1) := by decide +kernel
theorem dX4_join_173 : decode cX4_join 173 = .ok (.lreturn, 1) := by decide +kernel
theorem dX4_join_174 : decode cX4_join 174 = .ok (.lload_n 1, 1) := by decide +kernel
theorem dX4_join_175 : decode cX4_join 175 = .ok (.lload_n 3, 1) := by decide +kernel
theorem dX4_join_176 : decode cX4_join 176 = .ok (.lor, 1) := by decide +kernel
theorem dX4_join_177 : decode cX4_join 177 = .ok (.lreturn, 1) := by decide +kernel
theorem dX4_join_178 : decode cX4_join 178 = .ok (.lload_n 1, 1) := by decide +kernel
theorem dX4_join_179 : decode cX4_join 179 = .ok (.lload_n 3, 1) := by decide +kernel
theorem dX4_join_180 : decode cX4_join 180 = .ok (.land, 1) := by decide +kernel
theorem dX4_join_181 : decode cX4_join 181 = .ok (.lreturn, 1) := by decide +kernel
theorem dX4_join_182 : decode cX4_join 182 = .ok (.lconst 0, 1) := by decide +kernel
theorem dX4_join_183 : decode cX4_join 183 = .ok (.lreturn, 1) := by decide +kernel
theorem dX4_held_0 : decode cX4_held 0 = .ok (.ldc2_w 38, 3) := by decide +kernel
theorem dX4_held_3 : decode cX4_held 3 = .ok (.ldc2_w 40, 3) := by decide +kernel
theorem dX4_held_6 : decode cX4_held 6 = .ok (.lload_n 0, 1) := by decide +kernel
theorem dX4_held_7 : decode cX4_held 7 = .ok (.invokestatic 42, 3) := by decide +kernel
theorem dX4_held_10 : decode cX4_held 10 = .ok (.invokestatic 48, 3) := by decide +kernel
theorem dX4_held_13 : decode cX4_held 13 = .ok (.l2i, 1) := by decide +kernel
theorem dX4_held_14 : decode cX4_held 14 = .ok (.ireturn, 1) := by decide +kernel
theorem dX5_init_0 : decode cX5_init 0 = .ok (.aload_n 0, 1) := by decide +kernel
theorem dX5_init_1 : decode cX5_init 1 = .ok (.invokespecial 3, 3) := by decide +kernel
theorem dX5_init_4 : decode cX5_init 4 = .ok (.aload_n 0, 1) := by decide +kernel
theorem dX5_init_5 : decode cX5_init 5 = .ok (.new 9, 3) := by decide +kernel
theorem dX5_init_8 : decode cX5_init 8 = .ok (.dup, 1) := by decide +kernel
theorem dX5_init_9 : decode cX5_init 9 = .ok (.invokespecial 11, 3) := by decide +kernel
theorem dX5_init_12 : decode cX5_init 12 = .ok (.putfield 12, 3) := by decide +kernel
theorem dX5_init_15 : decode cX5_init 15 = .ok (.aload_n 0, 1) := by decide +kernel
theorem dX5_init_16 : decode cX5_init 16 = .ok (.sipush 602, 3) := by decide +kernel
theorem dX5_init_19 : decode cX5_init 19 = .ok (.newarray .int, 2) := by decide +kernel
theorem dX5_init_21 : decode cX5_init 21 = .ok (.putfield 18, 3) := by decide +kernel
theorem dX5_init_24 : decode cX5_init 24 = .ok (.aload_n 0, 1) := by decide +kernel
theorem dX5_init_25 : decode cX5_init 25 = .ok (.iconst 3, 1) := by decide +kernel
theorem dX5_init_26 : decode cX5_init 26 = .ok (.newarray .int, 2) := by decide +kernel
theorem dX5_init_28 : decode cX5_init 28 = .ok (.putfield 22, 3) := by decide +kernel
theorem dX5_init_31 : decode cX5_init 31 = .ok (.return_, 1) := by decide +kernel
theorem dX5_found_0 : decode cX5_found 0 = .ok (.aload_n 0, 1) := by decide +kernel
theorem dX5_found_1 : decode cX5_found 1 = .ok (.getfield 25, 3) := by decide +kernel
theorem dX5_found_4 : decode cX5_found 4 = .ok (.ireturn, 1) := by decide +kernel
theorem dX5_foundAt_0 : decode cX5_foundAt 0 = .ok (.aload_n 0, 1) := by decide +kernel
theorem dX5_foundAt_1 : decode cX5_foundAt 1 = .ok (.getfield 29, 3) := by decide +kernel
theorem dX5_foundAt_4 : decode cX5_foundAt 4 = .ok (.ireturn, 1) := by decide +kernel
theorem dX5_read_0 : decode cX5_read 0 = .ok (.aload_n 0, 1) := by decide +kernel
theorem dX5_read_1 : decode cX5_read 1 = .ok (.getfield 12, 3) := by decide +kernel
theorem dX5_read_4 : decode cX5_read 4 = .ok (.aload_n 1, 1) := by decide +kernel
theorem dX5_read_5 : decode cX5_read 5 = .ok (.invokevirtual 32, 3) := by decide +kernel
theorem dX5_read_8 : decode cX5_read 8 = .ok (.aload_n 0, 1) := by decide +kernel
theorem dX5_read_9 : decode cX5_read 9 = .ok (.getfield 22, 3) := by decide +kernel
theorem dX5_read_12 : decode cX5_read 12 = .ok (.iconst (-1), 1) := by decide +kernel
theorem dX5_read_13 : decode cX5_read 13 = .ok (.invokestatic 36, 3) := by decide +kernel
theorem dX5_read_16 : decode cX5_read 16 = .ok (.aload_n 0, 1) := by decide +kernel
theorem dX5_read_17 : decode cX5_read 17 = .ok (.iconst 0, 1) := by decide +kernel
theorem dX5_read_18 : decode cX5_read 18 = .ok (.putfield 42, 3) := by decide +kernel
theorem dX5_read_21 : decode cX5_read 21 = .ok (.aload_n 0, 1) := by decide +kernel
theorem dX5_read_22 : decode cX5_read 22 = .ok (.iconst 0, 1) := by decide +kernel
theorem dX5_read_23 : decode cX5_read 23 = .ok (.putfield 45, 3) := by decide +kernel
theorem dX5_read_26 : decode cX5_read 26 = .ok (.aload_n 0, 1) := by decide +kernel
theorem dX5_read_27 : decode cX5_read 27 = .ok (.aload_n 0, 1) := by decide +kernel
theorem dX5_read_28 : decode cX5_read 28 = .ok (.getfield 12, 3) := by decide +kernel
theorem dX5_read_31 : decode cX5_read 31 = .ok (.iconst 0, 1) := by decide +kernel
theorem dX5_read_32 : decode cX5_read 32 = .ok (.invokevirtual 48, 3) := by decide +kernel
theorem dX5_read_35 : decode cX5_read 35 = .ok (.putfield 52, 3) := by decide +kernel
theorem dX5_read_38 : decode cX5_read 38 = .ok (.aload_n 0, 1) := by decide +kernel
theorem dX5_read_39 : decode cX5_read 39 = .ok (.iconst 0, 1) := by decide +kernel
theorem dX5_read_40 : decode cX5_read 40 = .ok (.putfield 55, 3) := by decide +kernel
theorem dX5_read_43 : decode cX5_read 43 = .ok (.aload_n 0, 1) := by decide +kernel
theorem dX5_read_44 : decode cX5_read 44 = .ok (.iconst 0, 1) := by decide +kernel
theorem dX5_read_45 : decode cX5_read 45 = .ok (.putfield 25, 3) := by decide +kernel
theorem dX5_read_48 : decode cX5_read 48 = .ok (.aload_n 0, 1) := by decide +kernel
theorem dX5_read_49 : decode cX5_read 49 = .ok (.iconst (-1), 1) := by decide +kernel
theorem dX5_read_50 : decode cX5_read 50 = .ok (.putfield 29, 3) := by decide +kernel
theorem dX5_read_53 : decode cX5_read 53 = .ok (.iconst 0, 1) := by decide +kernel
theorem dX5_read_54 : decode cX5_read 54 = .ok (.istore_n 2, 1) := by decide +kernel
theorem dX5_read_55 : decode cX5_read 55 = .ok (.iload_n 2, 1) := by decide +kernel
theorem dX5_read_56 : decode cX5_read 56 = .ok (.iconst 4, 1) := by decide +kernel
theorem dX5_read_57 : decode cX5_read 57 = .ok (.if_icmp .ge 29, 3) := by decide +kernel
theorem dX5_read_60 : decode cX5_read 60 = .ok (.aload_n 0, 1) := by decide +kernel
theorem dX5_read_61 : decode cX5_read 61 = .ok (.getfield 25, 3) := by decide +kernel
theorem dX5_read_64 : decode cX5_read 64 = .ok (.ifCond .ne 22, 3) := by decide +kernel
theorem dX5_read_67 : decode cX5_read 67 = .ok (.aload_n 0, 1) := by decide +kernel
theorem dX5_read_68 : decode cX5_read 68 = .ok (.getfield 52, 3) := by decide +kernel
theorem dX5_read_71 : decode cX5_read 71 = .ok (.bipush 37, 2) := by decide +kernel
theorem dX5_read_73 : decode cX5_read 73 = .ok (.if_icmp .eq 13, 3) := by decide +kernel
theorem dX5_read_76 : decode cX5_read 76 = .ok (.aload_n 0, 1) := by decide +kernel
theorem dX5_read_77 : decode cX5_read 77 = .ok (.invokevirtual 58, 3) := by decide +kernel
theorem dX5_read_80 : decode cX5_read 80 = .ok (.iinc 2 1, 3) := by decide +kernel
theorem dX5_read_83 : decode cX5_read 83 = .ok (.goto (-28), 3) := by decide +kernel
theorem dX5_read_86 : decode cX5_read 86 = .ok (.aload_n 0, 1) := by decide +kernel
theorem dX5_read_87 : decode cX5_read 87 = .ok (.getfield 25, 3) := by decide +kernel
theorem dX5_read_90 : decode cX5_read 90 = .ok (.ifCond .eq 5, 3) := by decide +kernel
theorem dX5_read_93 : decode cX5_read 93 = .ok (.aconst_null, 1) := by decide +kernel
theorem dX5_read_94 : decode cX5_read 94 = .ok (.areturn, 1) := by decide +kernel
theorem dX5_read_95 : decode cX5_read 95 = .ok (.new 61, 3) := by decide +kernel
theorem dX5_read_98 : decode cX5_read 98 = .ok (.dup, 1) := by decide +kernel
theorem dX5_read_99 : decode cX5_read 99 = .ok (.aload_n 0, 1) := by decide +kernel
theorem dX5_read_100 : decode cX5_read 100 = .ok (.getfield 18, 3) := by decide +kernel
theorem dX5_read_103 : decode cX5_read 103 = .ok (.aload_n 0, 1) := by decide +kernel
theorem dX5_read_104 : decode cX5_read 104 = .ok (.getfield 42, 3) := by decide +kernel
theorem dX5_read_107 : decode cX5_read 107 = .ok (.invokestatic 63, 3) := by decide +kernel
theorem dX5_read_110 : decode cX5_read 110 = .ok (.aload_n 0, 1) := by decide +kernel
theorem dX5_read_111 : decode cX5_read 111 = .ok (.getfield 22, 3) := by decide +kernel
theorem dX5_read_114 : decode cX5_read 114 = .ok (.iconst 0, 1) := by decide +kernel
theorem dX5_read_115 : decode cX5_read 115 = .ok (.iaload, 1) := by decide +kernel
theorem dX5_read_116 : decode cX5_read 116 = .ok (.aload_n 0, 1) := by decide +kernel
theorem dX5_read_117 : decode cX5_read 117 = .ok (.getfield 22, 3) := by decide +kernel
theorem dX5_read_120 : decode cX5_read 120 = .ok (.iconst 1, 1) := by decide +kernel
theorem dX5_read_121 : decode cX5_read 121 = .ok (.iaload, 1) := by decide +kernel
theorem dX5_read_122 : decode cX5_read 122 = .ok (.aload_n 0, 1) := by decide +kernel
theorem dX5_read_123 : decode cX5_read 123 = .ok (.getfield 22, 3) := by decide +kernel
theorem dX5_read_126 : decode cX5_read 126 = .ok (.iconst 2, 1) := by decide +kernel
theorem dX5_read_127 : decode cX5_read 127 = .ok (.iaload, 1) := by decide +kernel
theorem dX5_read_128 : decode cX5_read 128 = .ok (.invokespecial 67, 3) := by decide +kernel
theorem dX5_read_131 : decode cX5_read 131 = .ok (.areturn, 1) := by decide +kernel
theorem dX5_readClause_0 : decode cX5_readClause 0 = .ok (.aload_n 0, 1) := by decide +kernel
theorem dX5_readClause_1 : decode cX5_readClause 1 = .ok (.getfield 52, 3) := by decide +kernel
theorem dX5_readClause_4 : decode cX5_readClause 4 = .ok (.bipush 11, 2) := by decide +kernel
theorem dX5_readClause_6 : decode cX5_readClause 6 = .ok (.if_icmp .eq 27, 3) := by decide +kernel
theorem dX5_readClause_9 : decode cX5_readClause 9 = .ok (.aload_n 0, 1) := by decide +kernel
theorem dX5_readClause_10 : decode cX5_readClause 10 = .ok (.getfield 52, 3) := by decide +kernel
theorem dX5_readClause_13 : decode cX5_readClause 13 = .ok (.bipush 12, 2) := by decide +kernel
theorem dX5_readClause_15 : decode cX5_readClause 15 = .ok (.if_icmp .eq 18, 3) := by decide +kernel
theorem dX5_readClause_18 : decode cX5_readClause 18 = .ok (.aload_n 0, 1) := by decide +kernel
theorem dX5_readClause_19 : decode cX5_readClause 19 = .ok (.getfield 52, 3) := by decide +kernel
theorem dX5_readClause_22 : decode cX5_readClause 22 = .ok (.bipush 13, 2) := by decide +kernel
theorem dX5_readClause_24 : decode cX5_readClause 24 = .ok (.if_icmp .eq 9, 3) := by decide +kernel
theorem dX5_readClause_27 : decode cX5_readClause 27 = .ok (.aload_n 0, 1) := by decide +kernel
theorem dX5_readClause_28 : decode cX5_readClause 28 = .ok (.iconst 1, 1) := by decide +kernel
theorem dX5_readClause_29 : decode cX5_readClause 29 = .ok (.invokevirtual 70, 3) := by decide +kernel
theorem dX5_readClause_32 : decode cX5_readClause 32 = .ok (.return_, 1) := by decide +kernel
theorem dX5_readClause_33 : decode cX5_readClause 33 = .ok (.aload_n 0, 1) := by decide +kernel
theorem dX5_readClause_34 : decode cX5_readClause 34 = .ok (.aload_n 0, 1) := by decide +kernel
theorem dX5_readClause_35 : decode cX5_readClause 35 = .ok (.getfield 52, 3) := by decide +kernel
theorem dX5_readClause_38 : decode cX5_readClause 38 = .ok (.putfield 74, 3) := by decide +kernel
theorem dX5_readClause_41 : decode cX5_readClause 41 = .ok (.aload_n 0, 1) := by decide +kernel
theorem dX5_readClause_42 : decode cX5_readClause 42 = .ok (.getfield 22, 3) := by decide +kernel
theorem dX5_readClause_45 : decode cX5_readClause 45 = .ok (.aload_n 0, 1) := by decide +kernel
theorem dX5_readClause_46 : decode cX5_readClause 46 = .ok (.getfield 74, 3) := by decide +kernel
theorem dX5_readClause_49 : decode cX5_readClause 49 = .ok (.bipush 11, 2) := by decide +kernel
theorem dX5_readClause_51 : decode cX5_readClause 51 = .ok (.isub, 1) := by decide +kernel
theorem dX5_readClause_52 : decode cX5_readClause 52 = .ok (.iaload, 1) := by decide +kernel
theorem dX5_readClause_53 : decode cX5_readClause 53 = .ok (.iconst (-1), 1) := by decide +kernel
theorem dX5_readClause_54 : decode cX5_readClause 54 = .ok (.if_icmp .eq 9, 3) := by decide +kernel
theorem dX5_readClause_57 : decode cX5_readClause 57 = .ok (.aload_n 0, 1) := by decide +kernel
theorem dX5_readClause_58 : decode cX5_readClause 58 = .ok (.iconst 4, 1) := by decide +kernel
theorem dX5_readClause_59 : decode cX5_readClause 59 = .ok (.invokevirtual 70, 3) := by decide +kernel
theorem dX5_readClause_62 : decode cX5_readClause 62 = .ok (.return_, 1) := by decide +kernel
theorem dX5_readClause_63 : decode cX5_readClause 63 = .ok (.aload_n 0, 1) := by decide +kernel
theorem dX5_readClause_64 : decode cX5_readClause 64 = .ok (.getfield 22, 3) := by decide +kernel
theorem dX5_readClause_67 : decode cX5_readClause 67 = .ok (.aload_n 0, 1) := by decide +kernel
theorem dX5_readClause_68 : decode cX5_readClause 68 = .ok (.getfield 74, 3) := by decide +kernel
theorem dX5_readClause_71 : decode cX5_readClause 71 = .ok (.bipush 11, 2) := by decide +kernel
theorem dX5_readClause_73 : decode cX5_readClause 73 = .ok (.isub, 1) := by decide +kernel
theorem dX5_readClause_74 : decode cX5_readClause 74 = .ok (.aload_n 0, 1) := by decide +kernel
theorem dX5_readClause_75 : decode cX5_readClause 75 = .ok (.getfield 42, 3) := by decide +kernel
theorem dX5_readClause_78 : decode cX5_readClause 78 = .ok (.iastore, 1) := by decide +kernel
theorem dX5_readClause_79 : decode cX5_readClause 79 = .ok (.aload_n 0, 1) := by decide +kernel
theorem dX5_readClause_80 : decode cX5_readClause 80 = .ok (.invokevirtual 77, 3) := by decide +kernel
theorem dX5_readClause_83 : decode cX5_readClause 83 = .ok (.aload_n 0, 1) := by decide +kernel
theorem dX5_readClause_84 : decode cX5_readClause 84 = .ok (.getfield 74, 3) := by decide +kernel
theorem dX5_readClause_87 : decode cX5_readClause 87 = .ok (.bipush 12, 2) := by decide +kernel
theorem dX5_readClause_89 : decode cX5_readClause 89 = .ok (.if_icmp .ne 10, 3) := by decide +kernel
theorem dX5_readClause_92 : decode cX5_readClause 92 = .ok (.aload_n 0, 1) := by decide +kernel
theorem dX5_readClause_93 : decode cX5_readClause 93 = .ok (.invokevirtual 80, 3) := by decide +kernel
theorem dX5_readClause_96 : decode cX5_readClause 96 = .ok (.goto 7, 3) := by decide +kernel
theorem dX5_readClause_99 : decode cX5_readClause 99 = .ok (.aload_n 0, 1) := by decide +kernel
theorem dX5_readClause_100 : decode cX5_readClause 100 = .ok (.invokevirtual 83, 3) := by decide +kernel
theorem dX5_readClause_103 : decode cX5_readClause 103 = .ok (.aload_n 0, 1) := by decide +kernel
theorem dX5_readClause_104 : decode cX5_readClause 104 = .ok (.bipush 33, 2) := by decide +kernel
theorem dX5_readClause_106 : decode cX5_readClause 106 = .ok (.invokevirtual 86, 3) := by decide +kernel
theorem dX5_readClause_109 : decode cX5_readClause 109 = .ok (.aload_n 0, 1) := by decide +kernel
theorem dX5_readClause_110 : decode cX5_readClause 110 = .ok (.bipush 33, 2) := by decide +kernel
theorem dX5_readClause_112 : decode cX5_readClause 112 = .ok (.invokevirtual 89, 3) := by decide +kernel
theorem dX5_readClause_115 : decode cX5_readClause 115 = .ok (.return_, 1) := by decide +kernel
theorem dX5_readEither_0 : decode cX5_readEither 0 = .ok (.aload_n 0, 1) := by decide +kernel
theorem dX5_readEither_1 : decode cX5_readEither 1 = .ok (.invokevirtual 92, 3) := by decide +kernel
theorem dX5_readEither_4 : decode cX5_readEither 4 = .ok (.iconst 0, 1) := by decide +kernel
theorem dX5_readEither_5 : decode cX5_readEither 5 = .ok (.istore_n 1, 1) := by decide +kernel
theorem dX5_readEither_6 : decode cX5_readEither 6 = .ok (.iload_n 1, 1) := by decide +kernel
theorem dX5_readEither_7 : decode cX5_readEither 7 = .ok (.sipush 300, 3) := by decide +kernel
theorem dX5_readEither_10 : decode cX5_readEither 10 = .ok (.if_icmp .ge 32, 3) := by decide +kernel
theorem dX5_readEither_13 : decode cX5_readEither 13 = .ok (.aload_n 0, 1) := by decide +kernel
theorem dX5_readEither_14 : decode cX5_readEither 14 = .ok (.getfield 52, 3) := by decide +kernel
theorem dX5_readEither_17 : decode cX5_readEither 17 = .ok (.bipush 16, 2) := by decide +kernel
theorem dX5_readEither_19 : decode cX5_readEither 19 = .ok (.if_icmp .ne 23, 3) := by decide +kernel
theorem dX5_readEither_22 : decode cX5_readEither 22 = .ok (.aload_n 0, 1) := by decide +kernel
theorem dX5_readEither_23 : decode cX5_readEither 23 = .ok (.invokevirtual 77, 3) := by decide +kernel
theorem dX5_readEither_26 : decode cX5_readEither 26 = .ok (.aload_n 0, 1) := by decide +kernel
theorem dX5_readEither_27 : decode cX5_readEither 27 = .ok (.invokevirtual 92, 3) := by decide +kernel
theorem dX5_readEither_30 : decode cX5_readEither 30 = .ok (.aload_n 0, 1) := by decide +kernel
theorem dX5_readEither_31 : decode cX5_readEither 31 = .ok (.bipush 16, 2) := by decide +kernel
theorem dX5_readEither_33 : decode cX5_readEither 33 = .ok (.invokevirtual 89, 3) := by decide +kernel
theorem dX5_readEither_36 : decode cX5_readEither 36 = .ok (.iinc 1 1, 3) := by decide +kernel
theorem dX5_readEither_39 : decode cX5_readEither 39 = .ok (.goto (-33), 3) := by decide +kernel
theorem dX5_readEither_42 : decode cX5_readEither 42 = .ok (.return_, 1) := by decide +kernel
theorem dX5_readBoth_0 : decode cX5_readBoth 0 = .ok (.aload_n 0, 1) := by decide +kernel
theorem dX5_readBoth_1 : decode cX5_readBoth 1 = .ok (.invokevirtual 95, 3) := by decide +kernel
theorem dX5_readBoth_4 : decode cX5_readBoth 4 = .ok (.iconst 0, 1) := by decide +kernel
theorem dX5_readBoth_5 : decode cX5_readBoth 5 = .ok (.istore_n 1, 1) := by decide +kernel
theorem dX5_readBoth_6 : decode cX5_readBoth 6 = .ok (.iload_n 1, 1) := by decide +kernel
theorem dX5_readBoth_7 : decode cX5_readBoth 7 = .ok (.sipush 300, 3) := by decide +kernel
theorem dX5_readBoth_10 : decode cX5_readBoth 10 = .ok (.if_icmp .ge 32, 3) := by decide +kernel
theorem dX5_readBoth_13 : decode cX5_readBoth 13 = .ok (.aload_n 0, 1) := by decide +kernel
theorem dX5_readBoth_14 : decode cX5_readBoth 14 = .ok (.getfield 52, 3) := by decide +kernel
theorem dX5_readBoth_17 : decode cX5_readBoth 17 = .ok (.bipush 17, 2) := by decide +kernel
theorem dX5_readBoth_19 : decode cX5_readBoth 19 = .ok (.if_icmp .ne 23, 3) := by decide +kernel
theorem dX5_readBoth_22 : decode cX5_readBoth 22 = .ok (.aload_n 0, 1) := by decide +kernel
theorem dX5_readBoth_23 : decode cX5_readBoth 23 = .ok (.invokevirtual 77, 3) := by decide +kernel
theorem dX5_readBoth_26 : decode cX5_readBoth 26 = .ok (.aload_n 0, 1) := by decide +kernel
theorem dX5_readBoth_27 : decode cX5_readBoth 27 = .ok (.invokevirtual 95, 3) := by decide +kernel
theorem dX5_readBoth_30 : decode cX5_readBoth 30 = .ok (.aload_n 0, 1) := by decide +kernel
theorem dX5_readBoth_31 : decode cX5_readBoth 31 = .ok (.bipush 17, 2) := by decide +kernel
theorem dX5_readBoth_33 : decode cX5_readBoth 33 = .ok (.invokevirtual 89, 3) := by decide +kernel
theorem dX5_readBoth_36 : decode cX5_readBoth 36 = .ok (.iinc 1 1, 3) := by decide +kernel
theorem dX5_readBoth_39 : decode cX5_readBoth 39 = .ok (.goto (-33), 3) := by decide +kernel
theorem dX5_readBoth_42 : decode cX5_readBoth 42 = .ok (.return_, 1) := by decide +kernel
theorem dX5_readAsk_0 : decode cX5_readAsk 0 = .ok (.aload_n 0, 1) := by decide +kernel
theorem dX5_readAsk_1 : decode cX5_readAsk 1 = .ok (.getfield 52, 3) := by decide +kernel
theorem dX5_readAsk_4 : decode cX5_readAsk 4 = .ok (.bipush 18, 2) := by decide +kernel
theorem dX5_readAsk_6 : decode cX5_readAsk 6 = .ok (.if_icmp .ne 35, 3) := by decide +kernel
theorem dX5_readAsk_9 : decode cX5_readAsk 9 = .ok (.aload_n 0, 1) := by decide +kernel
theorem dX5_readAsk_10 : decode cX5_readAsk 10 = .ok (.invokevirtual 98, 3) := by decide +kernel
theorem dX5_readAsk_13 : decode cX5_readAsk 13 = .ok (.ifCond .eq 27, 3) := by decide +kernel
theorem dX5_readAsk_16 : decode cX5_readAsk 16 = .ok (.aload_n 0, 1) := by decide +kernel
theorem dX5_readAsk_17 : decode cX5_readAsk 17 = .ok (.invokevirtual 77, 3) := by decide +kernel
theorem dX5_readAsk_20 : decode cX5_readAsk 20 = .ok (.aload_n 0, 1) := by decide +kernel
theorem dX5_readAsk_21 : decode cX5_readAsk 21 = .ok (.invokevirtual 95, 3) := by decide +kernel
theorem dX5_readAsk_24 : decode cX5_readAsk 24 = .ok (.aload_n 0, 1) := by decide +kernel
theorem dX5_readAsk_25 : decode cX5_readAsk 25 = .ok (.bipush 18, 2) := by decide +kernel
theorem dX5_readAsk_27 : decode cX5_readAsk 27 = .ok (.invokevirtual 89, 3) := by decide +kernel
theorem dX5_readAsk_30 : decode cX5_readAsk 30 = .ok (.aload_n 0, 1) := by decide +kernel
theorem dX5_readAsk_31 : decode cX5_readAsk 31 = .ok (.dup, 1) := by decide +kernel
theorem dX5_readAsk_32 : decode cX5_readAsk 32 = .ok (.getfield 55, 3) := by decide +kernel
theorem dX5_readAsk_35 : decode cX5_readAsk 35 = .ok (.iconst 1, 1) := by decide +kernel
theorem dX5_readAsk_36 : decode cX5_readAsk 36 = .ok (.isub, 1) := by decide +kernel
theorem dX5_readAsk_37 : decode cX5_readAsk 37 = .ok (.putfield 55, 3) := by decide +kernel
theorem dX5_readAsk_40 : decode cX5_readAsk 40 = .ok (.return_, 1) := by decide +kernel
theorem dX5_readAsk_41 : decode cX5_readAsk 41 = .ok (.aload_n 0, 1) := by decide +kernel
theorem dX5_readAsk_42 : decode cX5_readAsk 42 = .ok (.invokevirtual 83, 3) := by decide +kernel
theorem dX5_readAsk_45 : decode cX5_readAsk 45 = .ok (.aload_n 0, 1) := by decide +kernel
theorem dX5_readAsk_46 : decode cX5_readAsk 46 = .ok (.getfield 52, 3) := by decide +kernel
theorem dX5_readAsk_49 : decode cX5_readAsk 49 = .ok (.istore_n 1, 1) := by decide +kernel
theorem dX5_readAsk_50 : decode cX5_readAsk 50 = .ok (.iload_n 1, 1) := by decide +kernel
theorem dX5_readAsk_51 : decode cX5_readAsk 51 = .ok (.bipush 21, 2) := by decide +kernel
theorem dX5_readAsk_53 : decode cX5_readAsk 53 = .ok (.if_icmp .lt 9, 3) := by decide +kernel
theorem dX5_readAsk_56 : decode cX5_readAsk 56 = .ok (.iload_n 1, 1) := by decide +kernel
theorem dX5_readAsk_57 : decode cX5_readAsk 57 = .ok (.bipush 26, 2) := by decide +kernel
theorem dX5_readAsk_59 : decode cX5_readAsk 59 = .ok (.if_icmp .le 9, 3) := by decide +kernel
theorem dX5_readAsk_62 : decode cX5_readAsk 62 = .ok (.aload_n 0, 1) := by decide +kernel
theorem dX5_readAsk_63 : decode cX5_readAsk 63 = .ok (.iconst 1, 1) := by decide +kernel
theorem dX5_readAsk_64 : decode cX5_readAsk 64 = .ok (.invokevirtual 70, 3) := by decide +kernel
theorem dX5_readAsk_67 : decode cX5_readAsk 67 = .ok (.return_, 1) := by decide +kernel
theorem dX5_readAsk_68 : decode cX5_readAsk 68 = .ok (.aload_n 0, 1) := by decide +kernel
theorem dX5_readAsk_69 : decode cX5_readAsk 69 = .ok (.invokevirtual 77, 3) := by decide +kernel
theorem dX5_readAsk_72 : decode cX5_readAsk 72 = .ok (.aload_n 0, 1) := by decide +kernel
theorem dX5_readAsk_73 : decode cX5_readAsk 73 = .ok (.invokevirtual 83, 3) := by decide +kernel
theorem dX5_readAsk_76 : decode cX5_readAsk 76 = .ok (.aload_n 0, 1) := by decide +kernel
theorem dX5_readAsk_77 : decode cX5_readAsk 77 = .ok (.iload_n 1, 1) := by decide +kernel
theorem dX5_readAsk_78 : decode cX5_readAsk 78 = .ok (.invokevirtual 89, 3) := by decide +kernel
theorem dX5_readAsk_81 : decode cX5_readAsk 81 = .ok (.return_, 1) := by decide +kernel
theorem dX5_readSum_0 : decode cX5_readSum 0 = .ok (.aload_n 0, 1) := by decide +kernel
theorem dX5_readSum_1 : decode cX5_readSum 1 = .ok (.invokevirtual 102, 3) := by decide +kernel
theorem dX5_readSum_4 : decode cX5_readSum 4 = .ok (.iconst 0, 1) := by decide +kernel
theorem dX5_readSum_5 : decode cX5_readSum 5 = .ok (.istore_n 1, 1) := by decide +kernel
theorem dX5_readSum_6 : decode cX5_readSum 6 = .ok (.iload_n 1, 1) := by decide +kernel
theorem dX5_readSum_7 : decode cX5_readSum 7 = .ok (.sipush 300, 3) := by decide +kernel
theorem dX5_readSum_10 : decode cX5_readSum 10 = .ok (.if_icmp .ge 45, 3) := by decide +kernel
theorem dX5_readSum_13 : decode cX5_readSum 13 = .ok (.aload_n 0, 1) := by decide +kernel
theorem dX5_readSum_14 : decode cX5_readSum 14 = .ok (.getfield 52, 3) := by decide +kernel
theorem dX5_readSum_17 : decode cX5_readSum 17 = .ok (.bipush 27, 2) := by decide +kernel
theorem dX5_readSum_19 : decode cX5_readSum 19 = .ok (.if_icmp .eq 12, 3) := by decide +kernel
theorem dX5_readSum_22 : decode cX5_readSum 22 = .ok (.aload_n 0, 1) := by decide +kernel
theorem dX5_readSum_23 : decode cX5_readSum 23 = .ok (.getfield 52, 3) := by decide +kernel
theorem dX5_readSum_26 : decode cX5_readSum 26 = .ok (.bipush 28, 2) := by decide +kernel
theorem dX5_readSum_28 : decode cX5_readSum 28 = .ok (.if_icmp .ne 27, 3) := by decide +kernel
theorem dX5_readSum_31 : decode cX5_readSum 31 = .ok (.aload_n 0, 1) := by decide +kernel
theorem dX5_readSum_32 : decode cX5_readSum 32 = .ok (.getfield 52, 3) := by decide +kernel
theorem dX5_readSum_35 : decode cX5_readSum 35 = .ok (.istore_n 2, 1) := by decide +kernel
theorem dX5_readSum_36 : decode cX5_readSum 36 = .ok (.aload_n 0, 1) := by decide +kernel
theorem dX5_readSum_37 : decode cX5_readSum 37 = .ok (.invokevirtual 77, 3) := by decide +kernel
theorem dX5_readSum_40 : decode cX5_readSum 40 = .ok (.aload_n 0, 1) := by decide +kernel
theorem dX5_readSum_41 : decode cX5_readSum 41 = .ok (.invokevirtual 102, 3) := by decide +kernel
theorem dX5_readSum_44 : decode cX5_readSum 44 = .ok (.aload_n 0, 1) := by decide +kernel
theorem dX5_readSum_45 : decode cX5_readSum 45 = .ok (.iload_n 2, 1) := by decide +kernel
theorem dX5_readSum_46 : decode cX5_readSum 46 = .ok (.invokevirtual 89, 3) := by decide +kernel
theorem dX5_readSum_49 : decode cX5_readSum 49 = .ok (.iinc 1 1, 3) := by decide +kernel
theorem dX5_readSum_52 : decode cX5_readSum 52 = .ok (.goto (-46), 3) := by decide +kernel
theorem dX5_readSum_55 : decode cX5_readSum 55 = .ok (.return_, 1) := by decide +kernel
theorem dX5_readProduct_0 : decode cX5_readProduct 0 = .ok (.aload_n 0, 1) := by decide +kernel
theorem dX5_readProduct_1 : decode cX5_readProduct 1 = .ok (.invokevirtual 105, 3) := by decide +kernel
theorem dX5_readProduct_4 : decode cX5_readProduct 4 = .ok (.iconst 0, 1) := by decide +kernel
theorem dX5_readProduct_5 : decode cX5_readProduct 5 = .ok (.istore_n 1, 1) := by decide +kernel
theorem dX5_readProduct_6 : decode cX5_readProduct 6 = .ok (.iload_n 1, 1) := by decide +kernel
theorem dX5_readProduct_7 : decode cX5_readProduct 7 = .ok (.sipush 300, 3) := by decide +kernel
theorem dX5_readProduct_10 : decode cX5_readProduct 10 = .ok (.if_icmp .ge 45, 3) := by decide +kernel
theorem dX5_readProduct_13 : decode cX5_readProduct 13 = .ok (.aload_n 0, 1) := by decide +kernel
theorem dX5_readProduct_14 : decode cX5_readProduct 14 = .ok (.getfield 52, 3) := by decide +kernel
theorem dX5_readProduct_17 : decode cX5_readProduct 17 = .ok (.bipush 29, 2) := by decide +kernel
theorem dX5_readProduct_19 : decode cX5_readProduct 19 = .ok (.if_icmp .eq 12, 3) := by decide +kernel
theorem dX5_readProduct_22 : decode cX5_readProduct 22 = .ok (.aload_n 0, 1) := by decide +kernel
theorem dX5_readProduct_23 : decode cX5_readProduct 23 = .ok (.getfield 52, 3) := by decide +kernel
theorem dX5_readProduct_26 : decode cX5_readProduct 26 = .ok (.bipush 30, 2) := by decide +kernel
theorem dX5_readProduct_28 : decode cX5_readProduct 28 = .ok (.if_icmp .ne 27, 3) := by decide +kernel
theorem dX5_readProduct_31 : decode cX5_readProduct 31 = .ok (.aload_n 0, 1) := by decide +kernel
theorem dX5_readProduct_32 : decode cX5_readProduct 32 = .ok (.getfield 52, 3) := by decide +kernel
theorem dX5_readProduct_35 : decode cX5_readProduct 35 = .ok (.istore_n 2, 1) := by decide +kernel
theorem dX5_readProduct_36 : decode cX5_readProduct 36 = .ok (.aload_n 0, 1) := by decide +kernel
theorem dX5_readProduct_37 : decode cX5_readProduct 37 = .ok (.invokevirtual 77, 3) := by decide +kernel
theorem dX5_readProduct_40 : decode cX5_readProduct 40 = .ok (.aload_n 0, 1) := by decide +kernel
theorem dX5_readProduct_41 : decode cX5_readProduct 41 = .ok (.invokevirtual 105, 3) := by decide +kernel
theorem dX5_readProduct_44 : decode cX5_readProduct 44 = .ok (.aload_n 0, 1) := by decide +kernel
theorem dX5_readProduct_45 : decode cX5_readProduct 45 = .ok (.iload_n 2, 1) := by decide +kernel
theorem dX5_readProduct_46 : decode cX5_readProduct 46 = .ok (.invokevirtual 89, 3) := by decide +kernel
theorem dX5_readProduct_49 : decode cX5_readProduct 49 = .ok (.iinc 1 1, 3) := by decide +kernel
theorem dX5_readProduct_52 : decode cX5_readProduct 52 = .ok (.goto (-46), 3) := by decide +kernel
theorem dX5_readProduct_55 : decode cX5_readProduct 55 = .ok (.return_, 1) := by decide +kernel
theorem dX5_readOne_0 : decode cX5_readOne 0 = .ok (.aload_n 0, 1) := by decide +kernel
theorem dX5_readOne_1 : decode cX5_readOne 1 = .ok (.getfield 52, 3) := by decide +kernel
theorem dX5_readOne_4 : decode cX5_readOne 4 = .ok (.bipush 19, 2) := by decide +kernel
theorem dX5_readOne_6 : decode cX5_readOne 6 = .ok (.if_icmp .ne 10, 3) := by decide +kernel
theorem dX5_readOne_9 : decode cX5_readOne 9 = .ok (.aload_n 0, 1) := by decide +kernel
theorem dX5_readOne_10 : decode cX5_readOne 10 = .ok (.invokevirtual 108, 3) := by decide +kernel
theorem dX5_readOne_13 : decode cX5_readOne 13 = .ok (.goto 75, 3) := by decide +kernel
theorem dX5_readOne_16 : decode cX5_readOne 16 = .ok (.aload_n 0, 1) := by decide +kernel
theorem dX5_readOne_17 : decode cX5_readOne 17 = .ok (.getfield 52, 3) := by decide +kernel
theorem dX5_readOne_20 : decode cX5_readOne 20 = .ok (.bipush 20, 2) := by decide +kernel
theorem dX5_readOne_22 : decode cX5_readOne 22 = .ok (.if_icmp .ne 10, 3) := by decide +kernel
theorem dX5_readOne_25 : decode cX5_readOne 25 = .ok (.aload_n 0, 1) := by decide +kernel
theorem dX5_readOne_26 : decode cX5_readOne 26 = .ok (.invokevirtual 111, 3) := by decide +kernel
theorem dX5_readOne_29 : decode cX5_readOne 29 = .ok (.goto 59, 3) := by decide +kernel
theorem dX5_readOne_32 : decode cX5_readOne 32 = .ok (.aload_n 0, 1) := by decide +kernel
theorem dX5_readOne_33 : decode cX5_readOne 33 = .ok (.getfield 52, 3) := by decide +kernel
theorem dX5_readOne_36 : decode cX5_readOne 36 = .ok (.bipush 31, 2) := by decide +kernel
theorem dX5_readOne_38 : decode cX5_readOne 38 = .ok (.if_icmp .eq 29, 3) := by decide +kernel
theorem dX5_readOne_41 : decode cX5_readOne 41 = .ok (.aload_n 0, 1) := by decide +kernel
theorem dX5_readOne_42 : decode cX5_readOne 42 = .ok (.getfield 52, 3) := by decide +kernel
theorem dX5_readOne_45 : decode cX5_readOne 45 = .ok (.bipush 28, 2) := by decide +kernel
theorem dX5_readOne_47 : decode cX5_readOne 47 = .ok (.if_icmp .eq 20, 3) := by decide +kernel
theorem dX5_readOne_50 : decode cX5_readOne 50 = .ok (.aload_n 0, 1) := by decide +kernel
theorem dX5_readOne_51 : decode cX5_readOne 51 = .ok (.getfield 52, 3) := by decide +kernel
theorem dX5_readOne_54 : decode cX5_readOne 54 = .ok (.bipush 14, 2) := by decide +kernel
theorem dX5_readOne_56 : decode cX5_readOne 56 = .ok (.if_icmp .eq 11, 3) := by decide +kernel
theorem dX5_readOne_59 : decode cX5_readOne 59 = .ok (.aload_n 0, 1) := by decide +kernel
theorem dX5_readOne_60 : decode cX5_readOne 60 = .ok (.iconst 1, 1) := by decide +kernel
theorem dX5_readOne_61 : decode cX5_readOne 61 = .ok (.invokevirtual 70, 3) := by decide +kernel
theorem dX5_readOne_64 : decode cX5_readOne 64 = .ok (.goto 24, 3) := by decide +kernel
theorem dX5_readOne_67 : decode cX5_readOne 67 = .ok (.aload_n 0, 1) := by decide +kernel
theorem dX5_readOne_68 : decode cX5_readOne 68 = .ok (.invokevirtual 98, 3) := by decide +kernel
theorem dX5_readOne_71 : decode cX5_readOne 71 = .ok (.ifCond .eq 17, 3) := by decide +kernel
theorem dX5_readOne_74 : decode cX5_readOne 74 = .ok (.aload_n 0, 1) := by decide +kernel
theorem dX5_readOne_75 : decode cX5_readOne 75 = .ok (.invokevirtual 114, 3) := by decide +kernel
theorem dX5_readOne_78 : decode cX5_readOne 78 = .ok (.aload_n 0, 1) := by decide +kernel
theorem dX5_readOne_79 : decode cX5_readOne 79 = .ok (.dup, 1) := by decide +kernel
theorem dX5_readOne_80 : decode cX5_readOne 80 = .ok (.getfield 55, 3) := by decide +kernel
theorem dX5_readOne_83 : decode cX5_readOne 83 = .ok (.iconst 1, 1) := by decide +kernel
theorem dX5_readOne_84 : decode cX5_readOne 84 = .ok (.isub, 1) := by decide +kernel
theorem dX5_readOne_85 : decode cX5_readOne 85 = .ok (.putfield 55, 3) := by decide +kernel
theorem dX5_readOne_88 : decode cX5_readOne 88 = .ok (.return_, 1) := by decide +kernel
theorem dX5_readNumber_0 : decode cX5_readNumber 0 = .ok (.aload_n 0, 1) := by decide +kernel
theorem dX5_readNumber_1 : decode cX5_readNumber 1 = .ok (.getfield 12, 3) := by decide +kernel
theorem dX5_readNumber_4 : decode cX5_readNumber 4 = .ok (.aload_n 0, 1) := by decide +kernel
theorem dX5_readNumber_5 : decode cX5_readNumber 5 = .ok (.getfield 45, 3) := by decide +kernel
theorem dX5_readNumber_8 : decode cX5_readNumber 8 = .ok (.invokevirtual 117, 3) := by decide +kernel
theorem dX5_readNumber_11 : decode cX5_readNumber 11 = .ok (.istore_n 1, 1) := by decide +kernel
theorem dX5_readNumber_12 : decode cX5_readNumber 12 = .ok (.iload_n 1, 1) := by decide +kernel
theorem dX5_readNumber_13 : decode cX5_readNumber 13 = .ok (.sipush 9999, 3) := by decide +kernel
theorem dX5_readNumber_16 : decode cX5_readNumber 16 = .ok (.if_icmp .le 9, 3) := by decide +kernel
theorem dX5_readNumber_19 : decode cX5_readNumber 19 = .ok (.aload_n 0, 1) := by decide +kernel
theorem dX5_readNumber_20 : decode cX5_readNumber 20 = .ok (.iconst 2, 1) := by decide +kernel
theorem dX5_readNumber_21 : decode cX5_readNumber 21 = .ok (.invokevirtual 70, 3) := by decide +kernel
theorem dX5_readNumber_24 : decode cX5_readNumber 24 = .ok (.return_, 1) := by decide +kernel
theorem dX5_readNumber_25 : decode cX5_readNumber 25 = .ok (.aload_n 0, 1) := by decide +kernel
theorem dX5_readNumber_26 : decode cX5_readNumber 26 = .ok (.bipush 19, 2) := by decide +kernel
theorem dX5_readNumber_28 : decode cX5_readNumber 28 = .ok (.iload_n 1, 1) := by decide +kernel
theorem dX5_readNumber_29 : decode cX5_readNumber 29 = .ok (.invokevirtual 120, 3) := by decide +kernel
theorem dX5_readNumber_32 : decode cX5_readNumber 32 = .ok (.pop, 1) := by decide +kernel
theorem dX5_readNumber_33 : decode cX5_readNumber 33 = .ok (.aload_n 0, 1) := by decide +kernel
theorem dX5_readNumber_34 : decode cX5_readNumber 34 = .ok (.invokevirtual 77, 3) := by decide +kernel
theorem dX5_readNumber_37 : decode cX5_readNumber 37 = .ok (.return_, 1) := by decide +kernel
theorem dX5_readName_0 : decode cX5_readName 0 = .ok (.aload_n 0, 1) := by decide +kernel
theorem dX5_readName_1 : decode cX5_readName 1 = .ok (.getfield 12, 3) := by decide +kernel
theorem dX5_readName_4 : decode cX5_readName 4 = .ok (.aload_n 0, 1) := by decide +kernel
theorem dX5_readName_5 : decode cX5_readName 5 = .ok (.getfield 45, 3) := by decide +kernel
theorem dX5_readName_8 : decode cX5_readName 8 = .ok (.invokevirtual 117, 3) := by decide +kernel
theorem dX5_readName_11 : decode cX5_readName 11 = .ok (.istore_n 1, 1) := by decide +kernel
