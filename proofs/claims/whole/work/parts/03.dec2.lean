theorem dX11_init_102 : decode cX11_init 102 = .ok (.getfield 28, 3) := by decide +kernel
theorem dX11_init_105 : decode cX11_init 105 = .ok (.invokespecial 60, 3) := by decide +kernel
theorem dX11_init_108 : decode cX11_init 108 = .ok (.putfield 63, 3) := by decide +kernel
theorem dX11_init_111 : decode cX11_init 111 = .ok (.aload_n 0, 1) := by decide +kernel
theorem dX11_init_112 : decode cX11_init 112 = .ok (.new 67, 3) := by decide +kernel
theorem dX11_init_115 : decode cX11_init 115 = .ok (.dup, 1) := by decide +kernel
theorem dX11_init_116 : decode cX11_init 116 = .ok (.aload_n 0, 1) := by decide +kernel
theorem dX11_init_117 : decode cX11_init 117 = .ok (.getfield 51, 3) := by decide +kernel
theorem dX11_init_120 : decode cX11_init 120 = .ok (.aload_n 0, 1) := by decide +kernel
theorem dX11_init_121 : decode cX11_init 121 = .ok (.getfield 28, 3) := by decide +kernel
theorem dX11_init_124 : decode cX11_init 124 = .ok (.invokespecial 69, 3) := by decide +kernel
theorem dX11_init_127 : decode cX11_init 127 = .ok (.putfield 70, 3) := by decide +kernel
theorem dX11_init_130 : decode cX11_init 130 = .ok (.aload_n 0, 1) := by decide +kernel
theorem dX11_init_131 : decode cX11_init 131 = .ok (.new 74, 3) := by decide +kernel
theorem dX11_init_134 : decode cX11_init 134 = .ok (.dup, 1) := by decide +kernel
theorem dX11_init_135 : decode cX11_init 135 = .ok (.aload_n 0, 1) := by decide +kernel
theorem dX11_init_136 : decode cX11_init 136 = .ok (.getfield 51, 3) := by decide +kernel
theorem dX11_init_139 : decode cX11_init 139 = .ok (.aload_n 0, 1) := by decide +kernel
theorem dX11_init_140 : decode cX11_init 140 = .ok (.getfield 63, 3) := by decide +kernel
theorem dX11_init_143 : decode cX11_init 143 = .ok (.invokespecial 76, 3) := by decide +kernel
theorem dX11_init_146 : decode cX11_init 146 = .ok (.putfield 79, 3) := by decide +kernel
theorem dX11_init_149 : decode cX11_init 149 = .ok (.return_, 1) := by decide +kernel
theorem dX11_cell_0 : decode cX11_cell 0 = .ok (.aload_n 0, 1) := by decide +kernel
theorem dX11_cell_1 : decode cX11_cell 1 = .ok (.getfield 51, 3) := by decide +kernel
theorem dX11_cell_4 : decode cX11_cell 4 = .ok (.iload_n 1, 1) := by decide +kernel
theorem dX11_cell_5 : decode cX11_cell 5 = .ok (.invokevirtual 83, 3) := by decide +kernel
theorem dX11_cell_8 : decode cX11_cell 8 = .ok (.ifCond .eq 12, 3) := by decide +kernel
theorem dX11_cell_11 : decode cX11_cell 11 = .ok (.iload_n 2, 1) := by decide +kernel
theorem dX11_cell_12 : decode cX11_cell 12 = .ok (.ifCond .lt 8, 3) := by decide +kernel
theorem dX11_cell_15 : decode cX11_cell 15 = .ok (.iload_n 2, 1) := by decide +kernel
theorem dX11_cell_16 : decode cX11_cell 16 = .ok (.iconst 3, 1) := by decide +kernel
theorem dX11_cell_17 : decode cX11_cell 17 = .ok (.if_icmp .le 5, 3) := by decide +kernel
theorem dX11_cell_20 : decode cX11_cell 20 = .ok (.iconst 0, 1) := by decide +kernel
theorem dX11_cell_21 : decode cX11_cell 21 = .ok (.ireturn, 1) := by decide +kernel
theorem dX11_cell_22 : decode cX11_cell 22 = .ok (.iload_n 2, 1) := by decide +kernel
theorem dX11_cell_23 : decode cX11_cell 23 = .ok (.iconst 1, 1) := by decide +kernel
theorem dX11_cell_24 : decode cX11_cell 24 = .ok (.if_icmp .ne 16, 3) := by decide +kernel
theorem dX11_cell_27 : decode cX11_cell 27 = .ok (.aload_n 0, 1) := by decide +kernel
theorem dX11_cell_28 : decode cX11_cell 28 = .ok (.getfield 51, 3) := by decide +kernel
theorem dX11_cell_31 : decode cX11_cell 31 = .ok (.iload_n 1, 1) := by decide +kernel
theorem dX11_cell_32 : decode cX11_cell 32 = .ok (.invokevirtual 87, 3) := by decide +kernel
theorem dX11_cell_35 : decode cX11_cell 35 = .ok (.ifCond .eq 5, 3) := by decide +kernel
theorem dX11_cell_38 : decode cX11_cell 38 = .ok (.iconst 0, 1) := by decide +kernel
theorem dX11_cell_39 : decode cX11_cell 39 = .ok (.ireturn, 1) := by decide +kernel
theorem dX11_cell_40 : decode cX11_cell 40 = .ok (.aload_n 0, 1) := by decide +kernel
theorem dX11_cell_41 : decode cX11_cell 41 = .ok (.getfield 51, 3) := by decide +kernel
theorem dX11_cell_44 : decode cX11_cell 44 = .ok (.getfield 90, 3) := by decide +kernel
theorem dX11_cell_47 : decode cX11_cell 47 = .ok (.iload_n 1, 1) := by decide +kernel
theorem dX11_cell_48 : decode cX11_cell 48 = .ok (.iload_n 2, 1) := by decide +kernel
theorem dX11_cell_49 : decode cX11_cell 49 = .ok (.invokevirtual 93, 3) := by decide +kernel
theorem dX11_cell_52 : decode cX11_cell 52 = .ok (.aload_n 0, 1) := by decide +kernel
theorem dX11_cell_53 : decode cX11_cell 53 = .ok (.getfield 51, 3) := by decide +kernel
theorem dX11_cell_56 : decode cX11_cell 56 = .ok (.invokevirtual 96, 3) := by decide +kernel
theorem dX11_cell_59 : decode cX11_cell 59 = .ok (.aload_n 0, 1) := by decide +kernel
theorem dX11_cell_60 : decode cX11_cell 60 = .ok (.getfield 63, 3) := by decide +kernel
theorem dX11_cell_63 : decode cX11_cell 63 = .ok (.invokevirtual 99, 3) := by decide +kernel
theorem dX11_cell_66 : decode cX11_cell 66 = .ok (.iconst 1, 1) := by decide +kernel
theorem dX11_cell_67 : decode cX11_cell 67 = .ok (.ireturn, 1) := by decide +kernel
theorem dX11_pair_0 : decode cX11_pair 0 = .ok (.aload_n 0, 1) := by decide +kernel
theorem dX11_pair_1 : decode cX11_pair 1 = .ok (.getfield 51, 3) := by decide +kernel
theorem dX11_pair_4 : decode cX11_pair 4 = .ok (.iload_n 1, 1) := by decide +kernel
theorem dX11_pair_5 : decode cX11_pair 5 = .ok (.invokevirtual 102, 3) := by decide +kernel
theorem dX11_pair_8 : decode cX11_pair 8 = .ok (.ifCond .eq 29, 3) := by decide +kernel
theorem dX11_pair_11 : decode cX11_pair 11 = .ok (.aload_n 0, 1) := by decide +kernel
theorem dX11_pair_12 : decode cX11_pair 12 = .ok (.getfield 51, 3) := by decide +kernel
theorem dX11_pair_15 : decode cX11_pair 15 = .ok (.iload_n 2, 1) := by decide +kernel
theorem dX11_pair_16 : decode cX11_pair 16 = .ok (.invokevirtual 105, 3) := by decide +kernel
theorem dX11_pair_19 : decode cX11_pair 19 = .ok (.ifCond .eq 18, 3) := by decide +kernel
theorem dX11_pair_22 : decode cX11_pair 22 = .ok (.aload_n 0, 1) := by decide +kernel
theorem dX11_pair_23 : decode cX11_pair 23 = .ok (.getfield 51, 3) := by decide +kernel
theorem dX11_pair_26 : decode cX11_pair 26 = .ok (.getfield 108, 3) := by decide +kernel
theorem dX11_pair_29 : decode cX11_pair 29 = .ok (.invokevirtual 111, 3) := by decide +kernel
theorem dX11_pair_32 : decode cX11_pair 32 = .ok (.bipush 6, 2) := by decide +kernel
theorem dX11_pair_34 : decode cX11_pair 34 = .ok (.if_icmp .lt 5, 3) := by decide +kernel
theorem dX11_pair_37 : decode cX11_pair 37 = .ok (.iconst (-1), 1) := by decide +kernel
theorem dX11_pair_38 : decode cX11_pair 38 = .ok (.ireturn, 1) := by decide +kernel
theorem dX11_pair_39 : decode cX11_pair 39 = .ok (.aload_n 0, 1) := by decide +kernel
theorem dX11_pair_40 : decode cX11_pair 40 = .ok (.getfield 51, 3) := by decide +kernel
theorem dX11_pair_43 : decode cX11_pair 43 = .ok (.getfield 108, 3) := by decide +kernel
theorem dX11_pair_46 : decode cX11_pair 46 = .ok (.iload_n 1, 1) := by decide +kernel
theorem dX11_pair_47 : decode cX11_pair 47 = .ok (.invokevirtual 115, 3) := by decide +kernel
theorem dX11_pair_50 : decode cX11_pair 50 = .ok (.aload_n 0, 1) := by decide +kernel
theorem dX11_pair_51 : decode cX11_pair 51 = .ok (.getfield 51, 3) := by decide +kernel
theorem dX11_pair_54 : decode cX11_pair 54 = .ok (.getfield 118, 3) := by decide +kernel
theorem dX11_pair_57 : decode cX11_pair 57 = .ok (.iload_n 2, 1) := by decide +kernel
theorem dX11_pair_58 : decode cX11_pair 58 = .ok (.invokevirtual 115, 3) := by decide +kernel
theorem dX11_pair_61 : decode cX11_pair 61 = .ok (.aload_n 0, 1) := by decide +kernel
theorem dX11_pair_62 : decode cX11_pair 62 = .ok (.getfield 51, 3) := by decide +kernel
theorem dX11_pair_65 : decode cX11_pair 65 = .ok (.getfield 108, 3) := by decide +kernel
theorem dX11_pair_68 : decode cX11_pair 68 = .ok (.invokevirtual 111, 3) := by decide +kernel
theorem dX11_pair_71 : decode cX11_pair 71 = .ok (.iconst 1, 1) := by decide +kernel
theorem dX11_pair_72 : decode cX11_pair 72 = .ok (.isub, 1) := by decide +kernel
theorem dX11_pair_73 : decode cX11_pair 73 = .ok (.ireturn, 1) := by decide +kernel
theorem dX11_feed_0 : decode cX11_feed 0 = .ok (.aload_n 0, 1) := by decide +kernel
theorem dX11_feed_1 : decode cX11_feed 1 = .ok (.getfield 14, 3) := by decide +kernel
theorem dX11_feed_4 : decode cX11_feed 4 = .ok (.invokevirtual 111, 3) := by decide +kernel
theorem dX11_feed_7 : decode cX11_feed 7 = .ok (.bipush 20, 2) := by decide +kernel
theorem dX11_feed_9 : decode cX11_feed 9 = .ok (.iadd, 1) := by decide +kernel
theorem dX11_feed_10 : decode cX11_feed 10 = .ok (.sipush 300, 3) := by decide +kernel
theorem dX11_feed_13 : decode cX11_feed 13 = .ok (.if_icmp .le 5, 3) := by decide +kernel
theorem dX11_feed_16 : decode cX11_feed 16 = .ok (.iconst (-1), 1) := by decide +kernel
theorem dX11_feed_17 : decode cX11_feed 17 = .ok (.ireturn, 1) := by decide +kernel
theorem dX11_feed_18 : decode cX11_feed 18 = .ok (.aload_n 0, 1) := by decide +kernel
theorem dX11_feed_19 : decode cX11_feed 19 = .ok (.iload_n 1, 1) := by decide +kernel
theorem dX11_feed_20 : decode cX11_feed 20 = .ok (.invokevirtual 121, 3) := by decide +kernel
theorem dX11_feed_23 : decode cX11_feed 23 = .ok (.aload_n 0, 1) := by decide +kernel
theorem dX11_feed_24 : decode cX11_feed 24 = .ok (.iload_n 2, 1) := by decide +kernel
theorem dX11_feed_25 : decode cX11_feed 25 = .ok (.invokevirtual 121, 3) := by decide +kernel
theorem dX11_feed_28 : decode cX11_feed 28 = .ok (.aload_n 0, 1) := by decide +kernel
theorem dX11_feed_29 : decode cX11_feed 29 = .ok (.iload_n 3, 1) := by decide +kernel
theorem dX11_feed_30 : decode cX11_feed 30 = .ok (.invokevirtual 121, 3) := by decide +kernel
theorem dX11_feed_33 : decode cX11_feed 33 = .ok (.aload_n 0, 1) := by decide +kernel
theorem dX11_feed_34 : decode cX11_feed 34 = .ok (.iload 4, 2) := by decide +kernel
theorem dX11_feed_36 : decode cX11_feed 36 = .ok (.invokevirtual 121, 3) := by decide +kernel
theorem dX11_feed_39 : decode cX11_feed 39 = .ok (.aload_n 0, 1) := by decide +kernel
theorem dX11_feed_40 : decode cX11_feed 40 = .ok (.iload 5, 2) := by decide +kernel
theorem dX11_feed_42 : decode cX11_feed 42 = .ok (.invokevirtual 121, 3) := by decide +kernel
theorem dX11_feed_45 : decode cX11_feed 45 = .ok (.aload_n 0, 1) := by decide +kernel
theorem dX11_feed_46 : decode cX11_feed 46 = .ok (.getfield 14, 3) := by decide +kernel
theorem dX11_feed_49 : decode cX11_feed 49 = .ok (.invokevirtual 111, 3) := by decide +kernel
theorem dX11_feed_52 : decode cX11_feed 52 = .ok (.ireturn, 1) := by decide +kernel
theorem dX11_addBytes_0 : decode cX11_addBytes 0 = .ok (.bipush 24, 2) := by decide +kernel
theorem dX11_addBytes_2 : decode cX11_addBytes 2 = .ok (.istore_n 2, 1) := by decide +kernel
theorem dX11_addBytes_3 : decode cX11_addBytes 3 = .ok (.iload_n 2, 1) := by decide +kernel
theorem dX11_addBytes_4 : decode cX11_addBytes 4 = .ok (.ifCond .lt 23, 3) := by decide +kernel
theorem dX11_addBytes_7 : decode cX11_addBytes 7 = .ok (.aload_n 0, 1) := by decide +kernel
theorem dX11_addBytes_8 : decode cX11_addBytes 8 = .ok (.getfield 14, 3) := by decide +kernel
theorem dX11_addBytes_11 : decode cX11_addBytes 11 = .ok (.iload_n 1, 1) := by decide +kernel
theorem dX11_addBytes_12 : decode cX11_addBytes 12 = .ok (.iload_n 2, 1) := by decide +kernel
theorem dX11_addBytes_13 : decode cX11_addBytes 13 = .ok (.iushr, 1) := by decide +kernel
theorem dX11_addBytes_14 : decode cX11_addBytes 14 = .ok (.sipush 255, 3) := by decide +kernel
theorem dX11_addBytes_17 : decode cX11_addBytes 17 = .ok (.iand, 1) := by decide +kernel
theorem dX11_addBytes_18 : decode cX11_addBytes 18 = .ok (.invokevirtual 115, 3) := by decide +kernel
theorem dX11_addBytes_21 : decode cX11_addBytes 21 = .ok (.iinc 2 (-8), 3) := by decide +kernel
theorem dX11_addBytes_24 : decode cX11_addBytes 24 = .ok (.goto (-21), 3) := by decide +kernel
theorem dX11_addBytes_27 : decode cX11_addBytes 27 = .ok (.return_, 1) := by decide +kernel
theorem dX11_end_0 : decode cX11_end 0 = .ok (.iload_n 1, 1) := by decide +kernel
theorem dX11_end_1 : decode cX11_end 1 = .ok (.ifCond .lt 14, 3) := by decide +kernel
theorem dX11_end_4 : decode cX11_end 4 = .ok (.iload_n 1, 1) := by decide +kernel
theorem dX11_end_5 : decode cX11_end 5 = .ok (.aload_n 0, 1) := by decide +kernel
theorem dX11_end_6 : decode cX11_end 6 = .ok (.getfield 14, 3) := by decide +kernel
theorem dX11_end_9 : decode cX11_end 9 = .ok (.invokevirtual 111, 3) := by decide +kernel
theorem dX11_end_12 : decode cX11_end 12 = .ok (.if_icmp .le 5, 3) := by decide +kernel
theorem dX11_end_15 : decode cX11_end 15 = .ok (.iconst (-1), 1) := by decide +kernel
theorem dX11_end_16 : decode cX11_end 16 = .ok (.ireturn, 1) := by decide +kernel
theorem dX11_end_17 : decode cX11_end 17 = .ok (.aload_n 0, 1) := by decide +kernel
theorem dX11_end_18 : decode cX11_end 18 = .ok (.getfield 14, 3) := by decide +kernel
theorem dX11_end_21 : decode cX11_end 21 = .ok (.iload_n 1, 1) := by decide +kernel
theorem dX11_end_22 : decode cX11_end 22 = .ok (.invokevirtual 124, 3) := by decide +kernel
theorem dX11_end_25 : decode cX11_end 25 = .ok (.iload_n 1, 1) := by decide +kernel
theorem dX11_end_26 : decode cX11_end 26 = .ok (.ireturn, 1) := by decide +kernel
theorem dX11_text_0 : decode cX11_text 0 = .ok (.aload_n 0, 1) := by decide +kernel
theorem dX11_text_1 : decode cX11_text 1 = .ok (.getfield 51, 3) := by decide +kernel
theorem dX11_text_4 : decode cX11_text 4 = .ok (.getfield 127, 3) := by decide +kernel
theorem dX11_text_7 : decode cX11_text 7 = .ok (.iconst 4, 1) := by decide +kernel
theorem dX11_text_8 : decode cX11_text 8 = .ok (.if_icmp .lt 5, 3) := by decide +kernel
theorem dX11_text_11 : decode cX11_text 11 = .ok (.iconst (-1), 1) := by decide +kernel
theorem dX11_text_12 : decode cX11_text 12 = .ok (.ireturn, 1) := by decide +kernel
theorem dX11_text_13 : decode cX11_text 13 = .ok (.aload_n 0, 1) := by decide +kernel
theorem dX11_text_14 : decode cX11_text 14 = .ok (.getfield 21, 3) := by decide +kernel
theorem dX11_text_17 : decode cX11_text 17 = .ok (.aload_n 0, 1) := by decide +kernel
theorem dX11_text_18 : decode cX11_text 18 = .ok (.getfield 14, 3) := by decide +kernel
theorem dX11_text_21 : decode cX11_text 21 = .ok (.invokevirtual 130, 3) := by decide +kernel
theorem dX11_text_24 : decode cX11_text 24 = .ok (.astore_n 1, 1) := by decide +kernel
theorem dX11_text_25 : decode cX11_text 25 = .ok (.aload_n 0, 1) := by decide +kernel
theorem dX11_text_26 : decode cX11_text 26 = .ok (.getfield 14, 3) := by decide +kernel
theorem dX11_text_29 : decode cX11_text 29 = .ok (.iconst 0, 1) := by decide +kernel
theorem dX11_text_30 : decode cX11_text 30 = .ok (.invokevirtual 124, 3) := by decide +kernel
theorem dX11_text_33 : decode cX11_text 33 = .ok (.aload_n 0, 1) := by decide +kernel
theorem dX11_text_34 : decode cX11_text 34 = .ok (.aload_n 0, 1) := by decide +kernel
theorem dX11_text_35 : decode cX11_text 35 = .ok (.getfield 21, 3) := by decide +kernel
theorem dX11_text_38 : decode cX11_text 38 = .ok (.invokevirtual 134, 3) := by decide +kernel
theorem dX11_text_41 : decode cX11_text 41 = .ok (.putfield 39, 3) := by decide +kernel
theorem dX11_text_44 : decode cX11_text 44 = .ok (.aload_n 0, 1) := by decide +kernel
theorem dX11_text_45 : decode cX11_text 45 = .ok (.aload_n 0, 1) := by decide +kernel
theorem dX11_text_46 : decode cX11_text 46 = .ok (.getfield 21, 3) := by decide +kernel
theorem dX11_text_49 : decode cX11_text 49 = .ok (.invokevirtual 137, 3) := by decide +kernel
theorem dX11_text_52 : decode cX11_text 52 = .ok (.putfield 43, 3) := by decide +kernel
theorem dX11_text_55 : decode cX11_text 55 = .ok (.aload_n 1, 1) := by decide +kernel
theorem dX11_text_56 : decode cX11_text 56 = .ok (.ifnonnull 5, 3) := by decide +kernel
theorem dX11_text_59 : decode cX11_text 59 = .ok (.iconst (-1), 1) := by decide +kernel
theorem dX11_text_60 : decode cX11_text 60 = .ok (.ireturn, 1) := by decide +kernel
theorem dX11_text_61 : decode cX11_text 61 = .ok (.aload_n 0, 1) := by decide +kernel
theorem dX11_text_62 : decode cX11_text 62 = .ok (.getfield 51, 3) := by decide +kernel
theorem dX11_text_65 : decode cX11_text 65 = .ok (.aload_n 1, 1) := by decide +kernel
theorem dX11_text_66 : decode cX11_text 66 = .ok (.invokevirtual 140, 3) := by decide +kernel
theorem dX11_text_69 : decode cX11_text 69 = .ok (.ireturn, 1) := by decide +kernel
theorem dX11_fault_0 : decode cX11_fault 0 = .ok (.iload_n 1, 1) := by decide +kernel
theorem dX11_fault_1 : decode cX11_fault 1 = .ok (.ifCond .ne 8, 3) := by decide +kernel
theorem dX11_fault_4 : decode cX11_fault 4 = .ok (.aload_n 0, 1) := by decide +kernel
theorem dX11_fault_5 : decode cX11_fault 5 = .ok (.getfield 39, 3) := by decide +kernel
theorem dX11_fault_8 : decode cX11_fault 8 = .ok (.ireturn, 1) := by decide +kernel
theorem dX11_fault_9 : decode cX11_fault 9 = .ok (.iload_n 1, 1) := by decide +kernel
theorem dX11_fault_10 : decode cX11_fault 10 = .ok (.iconst 1, 1) := by decide +kernel
theorem dX11_fault_11 : decode cX11_fault 11 = .ok (.if_icmp .ne 10, 3) := by decide +kernel
theorem dX11_fault_14 : decode cX11_fault 14 = .ok (.aload_n 0, 1) := by decide +kernel
theorem dX11_fault_15 : decode cX11_fault 15 = .ok (.getfield 43, 3) := by decide +kernel
theorem dX11_fault_18 : decode cX11_fault 18 = .ok (.goto 4, 3) := by decide +kernel
theorem dX11_fault_21 : decode cX11_fault 21 = .ok (.iconst (-1), 1) := by decide +kernel
theorem dX11_fault_22 : decode cX11_fault 22 = .ok (.ireturn, 1) := by decide +kernel
theorem dX11_goes_0 : decode cX11_goes 0 = .ok (.aload_n 0, 1) := by decide +kernel
theorem dX11_goes_1 : decode cX11_goes 1 = .ok (.getfield 51, 3) := by decide +kernel
theorem dX11_goes_4 : decode cX11_goes 4 = .ok (.iload_n 1, 1) := by decide +kernel
theorem dX11_goes_5 : decode cX11_goes 5 = .ok (.invokevirtual 105, 3) := by decide +kernel
theorem dX11_goes_8 : decode cX11_goes 8 = .ok (.ifCond .eq 21, 3) := by decide +kernel
theorem dX11_goes_11 : decode cX11_goes 11 = .ok (.aload_n 0, 1) := by decide +kernel
theorem dX11_goes_12 : decode cX11_goes 12 = .ok (.getfield 51, 3) := by decide +kernel
theorem dX11_goes_15 : decode cX11_goes 15 = .ok (.iload_n 2, 1) := by decide +kernel
theorem dX11_goes_16 : decode cX11_goes 16 = .ok (.invokevirtual 102, 3) := by decide +kernel
theorem dX11_goes_19 : decode cX11_goes 19 = .ok (.ifCond .eq 10, 3) := by decide +kernel
theorem dX11_goes_22 : decode cX11_goes 22 = .ok (.iload_n 3, 1) := by decide +kernel
theorem dX11_goes_23 : decode cX11_goes 23 = .ok (.invokestatic 144, 3) := by decide +kernel
theorem dX11_goes_26 : decode cX11_goes 26 = .ok (.ifCond .ne 5, 3) := by decide +kernel
theorem dX11_goes_29 : decode cX11_goes 29 = .ok (.iconst (-1), 1) := by decide +kernel
theorem dX11_goes_30 : decode cX11_goes 30 = .ok (.ireturn, 1) := by decide +kernel
theorem dX11_goes_31 : decode cX11_goes 31 = .ok (.aload_n 0, 1) := by decide +kernel
theorem dX11_goes_32 : decode cX11_goes 32 = .ok (.getfield 63, 3) := by decide +kernel
theorem dX11_goes_35 : decode cX11_goes 35 = .ok (.iload_n 1, 1) := by decide +kernel
theorem dX11_goes_36 : decode cX11_goes 36 = .ok (.iload_n 2, 1) := by decide +kernel
theorem dX11_goes_37 : decode cX11_goes 37 = .ok (.iload_n 3, 1) := by decide +kernel
theorem dX11_goes_38 : decode cX11_goes 38 = .ok (.invokevirtual 147, 3) := by decide +kernel
theorem dX11_goes_41 : decode cX11_goes 41 = .ok (.ireturn, 1) := by decide +kernel
theorem dX11_tap_0 : decode cX11_tap 0 = .ok (.aload_n 0, 1) := by decide +kernel
theorem dX11_tap_1 : decode cX11_tap 1 = .ok (.getfield 51, 3) := by decide +kernel
theorem dX11_tap_4 : decode cX11_tap 4 = .ok (.iload_n 1, 1) := by decide +kernel
theorem dX11_tap_5 : decode cX11_tap 5 = .ok (.invokevirtual 151, 3) := by decide +kernel
theorem dX11_tap_8 : decode cX11_tap 8 = .ok (.ifCond .eq 10, 3) := by decide +kernel
theorem dX11_tap_11 : decode cX11_tap 11 = .ok (.iload_n 2, 1) := by decide +kernel
theorem dX11_tap_12 : decode cX11_tap 12 = .ok (.invokestatic 144, 3) := by decide +kernel
theorem dX11_tap_15 : decode cX11_tap 15 = .ok (.ifCond .ne 5, 3) := by decide +kernel
theorem dX11_tap_18 : decode cX11_tap 18 = .ok (.iconst (-1), 1) := by decide +kernel
theorem dX11_tap_19 : decode cX11_tap 19 = .ok (.ireturn, 1) := by decide +kernel
theorem dX11_tap_20 : decode cX11_tap 20 = .ok (.aload_n 0, 1) := by decide +kernel
theorem dX11_tap_21 : decode cX11_tap 21 = .ok (.getfield 51, 3) := by decide +kernel
theorem dX11_tap_24 : decode cX11_tap 24 = .ok (.iload_n 1, 1) := by decide +kernel
theorem dX11_tap_25 : decode cX11_tap 25 = .ok (.invokevirtual 154, 3) := by decide +kernel
theorem dX11_tap_28 : decode cX11_tap 28 = .ok (.aload_n 0, 1) := by decide +kernel
theorem dX11_tap_29 : decode cX11_tap 29 = .ok (.getfield 63, 3) := by decide +kernel
theorem dX11_tap_32 : decode cX11_tap 32 = .ok (.aload_n 0, 1) := by decide +kernel
theorem dX11_tap_33 : decode cX11_tap 33 = .ok (.getfield 51, 3) := by decide +kernel
theorem dX11_tap_36 : decode cX11_tap 36 = .ok (.getfield 118, 3) := by decide +kernel
theorem dX11_tap_39 : decode cX11_tap 39 = .ok (.iload_n 1, 1) := by decide +kernel
theorem dX11_tap_40 : decode cX11_tap 40 = .ok (.invokevirtual 157, 3) := by decide +kernel
theorem dX11_tap_43 : decode cX11_tap 43 = .ok (.aload_n 0, 1) := by decide +kernel
theorem dX11_tap_44 : decode cX11_tap 44 = .ok (.getfield 51, 3) := by decide +kernel
theorem dX11_tap_47 : decode cX11_tap 47 = .ok (.getfield 108, 3) := by decide +kernel
theorem dX11_tap_50 : decode cX11_tap 50 = .ok (.iload_n 1, 1) := by decide +kernel
theorem dX11_tap_51 : decode cX11_tap 51 = .ok (.invokevirtual 157, 3) := by decide +kernel
theorem dX11_tap_54 : decode cX11_tap 54 = .ok (.iload_n 2, 1) := by decide +kernel
theorem dX11_tap_55 : decode cX11_tap 55 = .ok (.invokevirtual 147, 3) := by decide +kernel
theorem dX11_tap_58 : decode cX11_tap 58 = .ok (.istore_n 3, 1) := by decide +kernel
theorem dX11_tap_59 : decode cX11_tap 59 = .ok (.aload_n 0, 1) := by decide +kernel
theorem dX11_tap_60 : decode cX11_tap 60 = .ok (.getfield 51, 3) := by decide +kernel
theorem dX11_tap_63 : decode cX11_tap 63 = .ok (.getfield 108, 3) := by decide +kernel
theorem dX11_tap_66 : decode cX11_tap 66 = .ok (.iload_n 1, 1) := by decide +kernel
theorem dX11_tap_67 : decode cX11_tap 67 = .ok (.iload_n 3, 1) := by decide +kernel
theorem dX11_tap_68 : decode cX11_tap 68 = .ok (.invokestatic 161, 3) := by decide +kernel
theorem dX11_tap_71 : decode cX11_tap 71 = .ok (.invokevirtual 93, 3) := by decide +kernel
theorem dX11_tap_74 : decode cX11_tap 74 = .ok (.iload_n 3, 1) := by decide +kernel
theorem dX11_tap_75 : decode cX11_tap 75 = .ok (.ireturn, 1) := by decide +kernel
theorem dX11_row_0 : decode cX11_row 0 = .ok (.iload_n 1, 1) := by decide +kernel
theorem dX11_row_1 : decode cX11_row 1 = .ok (.iconst (-1), 1) := by decide +kernel
theorem dX11_row_2 : decode cX11_row 2 = .ok (.if_icmp .ne 16, 3) := by decide +kernel
theorem dX11_row_5 : decode cX11_row 5 = .ok (.aload_n 0, 1) := by decide +kernel
theorem dX11_row_6 : decode cX11_row 6 = .ok (.getfield 51, 3) := by decide +kernel
theorem dX11_row_9 : decode cX11_row 9 = .ok (.getfield 164, 3) := by decide +kernel
theorem dX11_row_12 : decode cX11_row 12 = .ok (.iconst 0, 1) := by decide +kernel
theorem dX11_row_13 : decode cX11_row 13 = .ok (.invokevirtual 124, 3) := by decide +kernel
theorem dX11_row_16 : decode cX11_row 16 = .ok (.iconst 0, 1) := by decide +kernel
theorem dX11_row_17 : decode cX11_row 17 = .ok (.ireturn, 1) := by decide +kernel
theorem dX11_row_18 : decode cX11_row 18 = .ok (.iload_n 1, 1) := by decide +kernel
theorem dX11_row_19 : decode cX11_row 19 = .ok (.invokestatic 144, 3) := by decide +kernel
theorem dX11_row_22 : decode cX11_row 22 = .ok (.ifCond .eq 18, 3) := by decide +kernel
theorem dX11_row_25 : decode cX11_row 25 = .ok (.aload_n 0, 1) := by decide +kernel
theorem dX11_row_26 : decode cX11_row 26 = .ok (.getfield 51, 3) := by decide +kernel
theorem dX11_row_29 : decode cX11_row 29 = .ok (.getfield 164, 3) := by decide +kernel
theorem dX11_row_32 : decode cX11_row 32 = .ok (.invokevirtual 111, 3) := by decide +kernel
theorem dX11_row_35 : decode cX11_row 35 = .ok (.bipush 16, 2) := by decide +kernel
theorem dX11_row_37 : decode cX11_row 37 = .ok (.if_icmp .lt 5, 3) := by decide +kernel
theorem dX11_row_40 : decode cX11_row 40 = .ok (.iconst (-1), 1) := by decide +kernel
theorem dX11_row_41 : decode cX11_row 41 = .ok (.ireturn, 1) := by decide +kernel
theorem dX11_row_42 : decode cX11_row 42 = .ok (.aload_n 0, 1) := by decide +kernel
theorem dX11_row_43 : decode cX11_row 43 = .ok (.getfield 51, 3) := by decide +kernel
theorem dX11_row_46 : decode cX11_row 46 = .ok (.getfield 164, 3) := by decide +kernel
theorem dX11_row_49 : decode cX11_row 49 = .ok (.iload_n 1, 1) := by decide +kernel
theorem dX11_row_50 : decode cX11_row 50 = .ok (.invokevirtual 115, 3) := by decide +kernel
theorem dX11_row_53 : decode cX11_row 53 = .ok (.aload_n 0, 1) := by decide +kernel
theorem dX11_row_54 : decode cX11_row 54 = .ok (.getfield 51, 3) := by decide +kernel
theorem dX11_row_57 : decode cX11_row 57 = .ok (.getfield 164, 3) := by decide +kernel
theorem dX11_row_60 : decode cX11_row 60 = .ok (.invokevirtual 111, 3) := by decide +kernel
theorem dX11_row_63 : decode cX11_row 63 = .ok (.ireturn, 1) := by decide +kernel
theorem dX11_walk_0 : decode cX11_walk 0 = .ok (.aload_n 0, 1) := by decide +kernel
theorem dX11_walk_1 : decode cX11_walk 1 = .ok (.getfield 51, 3) := by decide +kernel
theorem dX11_walk_4 : decode cX11_walk 4 = .ok (.iload_n 1, 1) := by decide +kernel
theorem dX11_walk_5 : decode cX11_walk 5 = .ok (.invokevirtual 151, 3) := by decide +kernel
theorem dX11_walk_8 : decode cX11_walk 8 = .ok (.ifCond .ne 5, 3) := by decide +kernel
theorem dX11_walk_11 : decode cX11_walk 11 = .ok (.iconst (-1), 1) := by decide +kernel
theorem dX11_walk_12 : decode cX11_walk 12 = .ok (.ireturn, 1) := by decide +kernel
theorem dX11_walk_13 : decode cX11_walk 13 = .ok (.aload_n 0, 1) := by decide +kernel
theorem dX11_walk_14 : decode cX11_walk 14 = .ok (.getfield 51, 3) := by decide +kernel
theorem dX11_walk_17 : decode cX11_walk 17 = .ok (.iload_n 1, 1) := by decide +kernel
theorem dX11_walk_18 : decode cX11_walk 18 = .ok (.invokevirtual 154, 3) := by decide +kernel
theorem dX11_walk_21 : decode cX11_walk 21 = .ok (.aload_n 0, 1) := by decide +kernel
theorem dX11_walk_22 : decode cX11_walk 22 = .ok (.getfield 51, 3) := by decide +kernel
theorem dX11_walk_25 : decode cX11_walk 25 = .ok (.getfield 108, 3) := by decide +kernel
theorem dX11_walk_28 : decode cX11_walk 28 = .ok (.iload_n 1, 1) := by decide +kernel
theorem dX11_walk_29 : decode cX11_walk 29 = .ok (.invokevirtual 157, 3) := by decide +kernel
theorem dX11_walk_32 : decode cX11_walk 32 = .ok (.istore_n 2, 1) := by decide +kernel
theorem dX11_walk_33 : decode cX11_walk 33 = .ok (.iconst 0, 1) := by decide +kernel
theorem dX11_walk_34 : decode cX11_walk 34 = .ok (.istore_n 3, 1) := by decide +kernel
theorem dX11_walk_35 : decode cX11_walk 35 = .ok (.iconst 0, 1) := by decide +kernel
theorem dX11_walk_36 : decode cX11_walk 36 = .ok (.istore 4, 2) := by decide +kernel
theorem dX11_walk_38 : decode cX11_walk 38 = .ok (.iload 4, 2) := by decide +kernel
theorem dX11_walk_40 : decode cX11_walk 40 = .ok (.aload_n 0, 1) := by decide +kernel
theorem dX11_walk_41 : decode cX11_walk 41 = .ok (.getfield 51, 3) := by decide +kernel
theorem dX11_walk_44 : decode cX11_walk 44 = .ok (.getfield 164, 3) := by decide +kernel
theorem dX11_walk_47 : decode cX11_walk 47 = .ok (.invokevirtual 111, 3) := by decide +kernel
theorem dX11_walk_50 : decode cX11_walk 50 = .ok (.if_icmp .ge 64, 3) := by decide +kernel
theorem dX11_walk_53 : decode cX11_walk 53 = .ok (.aload_n 0, 1) := by decide +kernel
theorem dX11_walk_54 : decode cX11_walk 54 = .ok (.getfield 63, 3) := by decide +kernel
theorem dX11_walk_57 : decode cX11_walk 57 = .ok (.aload_n 0, 1) := by decide +kernel
theorem dX11_walk_58 : decode cX11_walk 58 = .ok (.getfield 51, 3) := by decide +kernel
theorem dX11_walk_61 : decode cX11_walk 61 = .ok (.getfield 118, 3) := by decide +kernel
theorem dX11_walk_64 : decode cX11_walk 64 = .ok (.iload_n 1, 1) := by decide +kernel
theorem dX11_walk_65 : decode cX11_walk 65 = .ok (.invokevirtual 157, 3) := by decide +kernel
theorem dX11_walk_68 : decode cX11_walk 68 = .ok (.iload_n 2, 1) := by decide +kernel
theorem dX11_walk_69 : decode cX11_walk 69 = .ok (.aload_n 0, 1) := by decide +kernel
theorem dX11_walk_70 : decode cX11_walk 70 = .ok (.getfield 51, 3) := by decide +kernel
theorem dX11_walk_73 : decode cX11_walk 73 = .ok (.getfield 164, 3) := by decide +kernel
theorem dX11_walk_76 : decode cX11_walk 76 = .ok (.iload 4, 2) := by decide +kernel
theorem dX11_walk_78 : decode cX11_walk 78 = .ok (.invokevirtual 157, 3) := by decide +kernel
theorem dX11_walk_81 : decode cX11_walk 81 = .ok (.invokevirtual 147, 3) := by decide +kernel
theorem dX11_walk_84 : decode cX11_walk 84 = .ok (.istore 5, 2) := by decide +kernel
theorem dX11_walk_86 : decode cX11_walk 86 = .ok (.iload_n 3, 1) := by decide +kernel
theorem dX11_walk_87 : decode cX11_walk 87 = .ok (.iload 5, 2) := by decide +kernel
theorem dX11_walk_89 : decode cX11_walk 89 = .ok (.invokestatic 167, 3) := by decide +kernel
theorem dX11_walk_92 : decode cX11_walk 92 = .ok (.ifCond .eq 7, 3) := by decide +kernel
theorem dX11_walk_95 : decode cX11_walk 95 = .ok (.iconst 1, 1) := by decide +kernel
theorem dX11_walk_96 : decode cX11_walk 96 = .ok (.goto 4, 3) := by decide +kernel
theorem dX11_walk_99 : decode cX11_walk 99 = .ok (.iconst 0, 1) := by decide +kernel
theorem dX11_walk_100 : decode cX11_walk 100 = .ok (.iadd, 1) := by decide +kernel
theorem dX11_walk_101 : decode cX11_walk 101 = .ok (.istore_n 3, 1) := by decide +kernel
theorem dX11_walk_102 : decode cX11_walk 102 = .ok (.iload 5, 2) := by decide +kernel
theorem dX11_walk_104 : decode cX11_walk 104 = .ok (.invokestatic 161, 3) := by decide +kernel
theorem dX11_walk_107 : decode cX11_walk 107 = .ok (.istore_n 2, 1) := by decide +kernel
theorem dX11_walk_108 : decode cX11_walk 108 = .ok (.iinc 4 1, 3) := by decide +kernel
theorem dX11_walk_111 : decode cX11_walk 111 = .ok (.goto (-73), 3) := by decide +kernel
theorem dX11_walk_114 : decode cX11_walk 114 = .ok (.aload_n 0, 1) := by decide +kernel
theorem dX11_walk_115 : decode cX11_walk 115 = .ok (.getfield 51, 3) := by decide +kernel
theorem dX11_walk_118 : decode cX11_walk 118 = .ok (.getfield 108, 3) := by decide +kernel
theorem dX11_walk_121 : decode cX11_walk 121 = .ok (.iload_n 1, 1) := by decide +kernel
theorem dX11_walk_122 : decode cX11_walk 122 = .ok (.iload_n 2, 1) := by decide +kernel
theorem dX11_walk_123 : decode cX11_walk 123 = .ok (.invokevirtual 93, 3) := by decide +kernel
theorem dX11_walk_126 : decode cX11_walk 126 = .ok (.iload_n 3, 1) := by decide +kernel
theorem dX11_walk_127 : decode cX11_walk 127 = .ok (.ireturn, 1) := by decide +kernel
theorem dX11_undo_0 : decode cX11_undo 0 = .ok (.aload_n 0, 1) := by decide +kernel
theorem dX11_undo_1 : decode cX11_undo 1 = .ok (.getfield 51, 3) := by decide +kernel
theorem dX11_undo_4 : decode cX11_undo 4 = .ok (.getfield 170, 3) := by decide +kernel
theorem dX11_undo_7 : decode cX11_undo 7 = .ok (.invokevirtual 111, 3) := by decide +kernel
theorem dX11_undo_10 : decode cX11_undo 10 = .ok (.iconst 1, 1) := by decide +kernel
theorem dX11_undo_11 : decode cX11_undo 11 = .ok (.isub, 1) := by decide +kernel
theorem dX11_undo_12 : decode cX11_undo 12 = .ok (.istore_n 1, 1) := by decide +kernel
theorem dX11_undo_13 : decode cX11_undo 13 = .ok (.iload_n 1, 1) := by decide +kernel
theorem dX11_undo_14 : decode cX11_undo 14 = .ok (.ifCond .ge 5, 3) := by decide +kernel
theorem dX11_undo_17 : decode cX11_undo 17 = .ok (.iconst (-1), 1) := by decide +kernel
theorem dX11_undo_18 : decode cX11_undo 18 = .ok (.ireturn, 1) := by decide +kernel
theorem dX11_undo_19 : decode cX11_undo 19 = .ok (.aload_n 0, 1) := by decide +kernel
theorem dX11_undo_20 : decode cX11_undo 20 = .ok (.getfield 51, 3) := by decide +kernel
theorem dX11_undo_23 : decode cX11_undo 23 = .ok (.getfield 170, 3) := by decide +kernel
theorem dX11_undo_26 : decode cX11_undo 26 = .ok (.iload_n 1, 1) := by decide +kernel
theorem dX11_undo_27 : decode cX11_undo 27 = .ok (.invokevirtual 157, 3) := by decide +kernel
theorem dX11_undo_30 : decode cX11_undo 30 = .ok (.istore_n 2, 1) := by decide +kernel
theorem dX11_undo_31 : decode cX11_undo 31 = .ok (.aload_n 0, 1) := by decide +kernel
theorem dX11_undo_32 : decode cX11_undo 32 = .ok (.getfield 51, 3) := by decide +kernel
theorem dX11_undo_35 : decode cX11_undo 35 = .ok (.getfield 108, 3) := by decide +kernel
theorem dX11_undo_38 : decode cX11_undo 38 = .ok (.iload_n 2, 1) := by decide +kernel
theorem dX11_undo_39 : decode cX11_undo 39 = .ok (.aload_n 0, 1) := by decide +kernel
theorem dX11_undo_40 : decode cX11_undo 40 = .ok (.getfield 51, 3) := by decide +kernel
theorem dX11_undo_43 : decode cX11_undo 43 = .ok (.getfield 173, 3) := by decide +kernel
theorem dX11_undo_46 : decode cX11_undo 46 = .ok (.iload_n 1, 1) := by decide +kernel
theorem dX11_undo_47 : decode cX11_undo 47 = .ok (.invokevirtual 157, 3) := by decide +kernel
theorem dX11_undo_50 : decode cX11_undo 50 = .ok (.invokevirtual 93, 3) := by decide +kernel
theorem dX11_undo_53 : decode cX11_undo 53 = .ok (.aload_n 0, 1) := by decide +kernel
theorem dX11_undo_54 : decode cX11_undo 54 = .ok (.getfield 51, 3) := by decide +kernel
theorem dX11_undo_57 : decode cX11_undo 57 = .ok (.getfield 170, 3) := by decide +kernel
theorem dX11_undo_60 : decode cX11_undo 60 = .ok (.iload_n 1, 1) := by decide +kernel
theorem dX11_undo_61 : decode cX11_undo 61 = .ok (.invokevirtual 124, 3) := by decide +kernel
theorem dX11_undo_64 : decode cX11_undo 64 = .ok (.aload_n 0, 1) := by decide +kernel
theorem dX11_undo_65 : decode cX11_undo 65 = .ok (.getfield 51, 3) := by decide +kernel
theorem dX11_undo_68 : decode cX11_undo 68 = .ok (.getfield 173, 3) := by decide +kernel
theorem dX11_undo_71 : decode cX11_undo 71 = .ok (.iload_n 1, 1) := by decide +kernel
theorem dX11_undo_72 : decode cX11_undo 72 = .ok (.invokevirtual 124, 3) := by decide +kernel
theorem dX11_undo_75 : decode cX11_undo 75 = .ok (.iload_n 2, 1) := by decide +kernel
theorem dX11_undo_76 : decode cX11_undo 76 = .ok (.ireturn, 1) := by decide +kernel
theorem dX11_of_0 : decode cX11_of 0 = .ok (.aload_n 0, 1) := by decide +kernel
theorem dX11_of_1 : decode cX11_of 1 = .ok (.getfield 51, 3) := by decide +kernel
theorem dX11_of_4 : decode cX11_of 4 = .ok (.iload_n 1, 1) := by decide +kernel
theorem dX11_of_5 : decode cX11_of 5 = .ok (.invokevirtual 151, 3) := by decide +kernel
theorem dX11_of_8 : decode cX11_of 8 = .ok (.ifCond .ne 5, 3) := by decide +kernel
theorem dX11_of_11 : decode cX11_of 11 = .ok (.iconst (-1), 1) := by decide +kernel
theorem dX11_of_12 : decode cX11_of 12 = .ok (.ireturn, 1) := by decide +kernel
theorem dX11_of_13 : decode cX11_of 13 = .ok (.iload_n 2, 1) := by decide +kernel
theorem dX11_of_14 : decode cX11_of 14 = .ok (.ifCond .ne 15, 3) := by decide +kernel
theorem dX11_of_17 : decode cX11_of 17 = .ok (.aload_n 0, 1) := by decide +kernel
theorem dX11_of_18 : decode cX11_of 18 = .ok (.getfield 51, 3) := by decide +kernel
theorem dX11_of_21 : decode cX11_of 21 = .ok (.getfield 108, 3) := by decide +kernel
theorem dX11_of_24 : decode cX11_of 24 = .ok (.iload_n 1, 1) := by decide +kernel
theorem dX11_of_25 : decode cX11_of 25 = .ok (.invokevirtual 157, 3) := by decide +kernel
theorem dX11_of_28 : decode cX11_of 28 = .ok (.ireturn, 1) := by decide +kernel
theorem dX11_of_29 : decode cX11_of 29 = .ok (.iload_n 2, 1) := by decide +kernel
theorem dX11_of_30 : decode cX11_of 30 = .ok (.iconst 1, 1) := by decide +kernel
theorem dX11_of_31 : decode cX11_of 31 = .ok (.if_icmp .ne 17, 3) := by decide +kernel
theorem dX11_of_34 : decode cX11_of 34 = .ok (.aload_n 0, 1) := by decide +kernel
theorem dX11_of_35 : decode cX11_of 35 = .ok (.getfield 51, 3) := by decide +kernel
theorem dX11_of_38 : decode cX11_of 38 = .ok (.getfield 118, 3) := by decide +kernel
theorem dX11_of_41 : decode cX11_of 41 = .ok (.iload_n 1, 1) := by decide +kernel
theorem dX11_of_42 : decode cX11_of 42 = .ok (.invokevirtual 157, 3) := by decide +kernel
theorem dX11_of_45 : decode cX11_of 45 = .ok (.goto 4, 3) := by decide +kernel
theorem dX11_of_48 : decode cX11_of 48 = .ok (.iconst (-1), 1) := by decide +kernel
theorem dX11_of_49 : decode cX11_of 49 = .ok (.ireturn, 1) := by decide +kernel
theorem dX11_fewest_0 : decode cX11_fewest 0 = .ok (.iload_n 1, 1) := by decide +kernel
theorem dX11_fewest_1 : decode cX11_fewest 1 = .ok (.ifCond .le 24, 3) := by decide +kernel
theorem dX11_fewest_4 : decode cX11_fewest 4 = .ok (.iload_n 1, 1) := by decide +kernel
theorem dX11_fewest_5 : decode cX11_fewest 5 = .ok (.iconst 1, 1) := by decide +kernel
theorem dX11_fewest_6 : decode cX11_fewest 6 = .ok (.aload_n 0, 1) := by decide +kernel
theorem dX11_fewest_7 : decode cX11_fewest 7 = .ok (.getfield 51, 3) := by decide +kernel
theorem dX11_fewest_10 : decode cX11_fewest 10 = .ok (.getfield 127, 3) := by decide +kernel
theorem dX11_fewest_13 : decode cX11_fewest 13 = .ok (.ishl, 1) := by decide +kernel
theorem dX11_fewest_14 : decode cX11_fewest 14 = .ok (.if_icmp .ge 11, 3) := by decide +kernel
theorem dX11_fewest_17 : decode cX11_fewest 17 = .ok (.iload_n 1, 1) := by decide +kernel
theorem dX11_fewest_18 : decode cX11_fewest 18 = .ok (.invokestatic 176, 3) := by decide +kernel
theorem dX11_fewest_21 : decode cX11_fewest 21 = .ok (.iconst 3, 1) := by decide +kernel
theorem dX11_fewest_22 : decode cX11_fewest 22 = .ok (.if_icmp .le 5, 3) := by decide +kernel
theorem dX11_fewest_25 : decode cX11_fewest 25 = .ok (.iconst (-1), 1) := by decide +kernel
theorem dX11_fewest_26 : decode cX11_fewest 26 = .ok (.ireturn, 1) := by decide +kernel
theorem dX11_fewest_27 : decode cX11_fewest 27 = .ok (.aload_n 0, 1) := by decide +kernel
theorem dX11_fewest_28 : decode cX11_fewest 28 = .ok (.getfield 51, 3) := by decide +kernel
theorem dX11_fewest_31 : decode cX11_fewest 31 = .ok (.iload_n 2, 1) := by decide +kernel
theorem dX11_fewest_32 : decode cX11_fewest 32 = .ok (.invokevirtual 102, 3) := by decide +kernel
theorem dX11_fewest_35 : decode cX11_fewest 35 = .ok (.ifCond .eq 20, 3) := by decide +kernel
theorem dX11_fewest_38 : decode cX11_fewest 38 = .ok (.aload_n 0, 1) := by decide +kernel
theorem dX11_fewest_39 : decode cX11_fewest 39 = .ok (.getfield 51, 3) := by decide +kernel
theorem dX11_fewest_42 : decode cX11_fewest 42 = .ok (.iload_n 3, 1) := by decide +kernel
theorem dX11_fewest_43 : decode cX11_fewest 43 = .ok (.invokevirtual 83, 3) := by decide +kernel
theorem dX11_fewest_46 : decode cX11_fewest 46 = .ok (.ifCond .eq 9, 3) := by decide +kernel
theorem dX11_fewest_49 : decode cX11_fewest 49 = .ok (.iload 4, 2) := by decide +kernel
theorem dX11_fewest_51 : decode cX11_fewest 51 = .ok (.iconst (-1), 1) := by decide +kernel
theorem dX11_fewest_52 : decode cX11_fewest 52 = .ok (.if_icmp .ge 5, 3) := by decide +kernel
theorem dX11_fewest_55 : decode cX11_fewest 55 = .ok (.iconst (-1), 1) := by decide +kernel
theorem dX11_fewest_56 : decode cX11_fewest 56 = .ok (.ireturn, 1) := by decide +kernel
theorem dX11_fewest_57 : decode cX11_fewest 57 = .ok (.aload_n 0, 1) := by decide +kernel
theorem dX11_fewest_58 : decode cX11_fewest 58 = .ok (.invokevirtual 181, 3) := by decide +kernel
theorem dX11_fewest_61 : decode cX11_fewest 61 = .ok (.astore 5, 2) := by decide +kernel
theorem dX11_fewest_63 : decode cX11_fewest 63 = .ok (.aload 5, 2) := by decide +kernel
theorem dX11_fewest_65 : decode cX11_fewest 65 = .ok (.iload_n 3, 1) := by decide +kernel
theorem dX11_fewest_66 : decode cX11_fewest 66 = .ok (.invokevirtual 185, 3) := by decide +kernel
theorem dX11_fewest_69 : decode cX11_fewest 69 = .ok (.iconst 0, 1) := by decide +kernel
theorem dX11_fewest_70 : decode cX11_fewest 70 = .ok (.istore 6, 2) := by decide +kernel
theorem dX11_fewest_72 : decode cX11_fewest 72 = .ok (.iload 6, 2) := by decide +kernel
theorem dX11_fewest_74 : decode cX11_fewest 74 = .ok (.aload_n 0, 1) := by decide +kernel
theorem dX11_fewest_75 : decode cX11_fewest 75 = .ok (.getfield 51, 3) := by decide +kernel
theorem dX11_fewest_78 : decode cX11_fewest 78 = .ok (.getfield 127, 3) := by decide +kernel
theorem dX11_fewest_81 : decode cX11_fewest 81 = .ok (.if_icmp .ge 26, 3) := by decide +kernel
theorem dX11_fewest_84 : decode cX11_fewest 84 = .ok (.iload_n 1, 1) := by decide +kernel
theorem dX11_fewest_85 : decode cX11_fewest 85 = .ok (.iload 6, 2) := by decide +kernel
theorem dX11_fewest_87 : decode cX11_fewest 87 = .ok (.ishr, 1) := by decide +kernel
theorem dX11_fewest_88 : decode cX11_fewest 88 = .ok (.iconst 1, 1) := by decide +kernel
theorem dX11_fewest_89 : decode cX11_fewest 89 = .ok (.iand, 1) := by decide +kernel
theorem dX11_fewest_90 : decode cX11_fewest 90 = .ok (.iconst 1, 1) := by decide +kernel
theorem dX11_fewest_91 : decode cX11_fewest 91 = .ok (.if_icmp .ne 10, 3) := by decide +kernel
theorem dX11_fewest_94 : decode cX11_fewest 94 = .ok (.aload 5, 2) := by decide +kernel
theorem dX11_fewest_96 : decode cX11_fewest 96 = .ok (.iload 6, 2) := by decide +kernel
theorem dX11_fewest_98 : decode cX11_fewest 98 = .ok (.invokevirtual 190, 3) := by decide +kernel
theorem dX11_fewest_101 : decode cX11_fewest 101 = .ok (.iinc 6 1, 3) := by decide +kernel
theorem dX11_fewest_104 : decode cX11_fewest 104 = .ok (.goto (-32), 3) := by decide +kernel
theorem dX11_fewest_107 : decode cX11_fewest 107 = .ok (.aload 5, 2) := by decide +kernel
theorem dX11_fewest_109 : decode cX11_fewest 109 = .ok (.aload 5, 2) := by decide +kernel
theorem dX11_fewest_111 : decode cX11_fewest 111 = .ok (.iload_n 2, 1) := by decide +kernel
theorem dX11_fewest_112 : decode cX11_fewest 112 = .ok (.invokevirtual 191, 3) := by decide +kernel
theorem dX11_fewest_115 : decode cX11_fewest 115 = .ok (.iload 4, 2) := by decide +kernel
theorem dX11_fewest_117 : decode cX11_fewest 117 = .ok (.invokestatic 194, 3) := by decide +kernel
theorem dX11_fewest_120 : decode cX11_fewest 120 = .ok (.ireturn, 1) := by decide +kernel
theorem dX11_tells_0 : decode cX11_tells 0 = .ok (.aload_n 0, 1) := by decide +kernel
theorem dX11_tells_1 : decode cX11_tells 1 = .ok (.getfield 51, 3) := by decide +kernel
theorem dX11_tells_4 : decode cX11_tells 4 = .ok (.iload_n 1, 1) := by decide +kernel
theorem dX11_tells_5 : decode cX11_tells 5 = .ok (.invokevirtual 105, 3) := by decide +kernel
theorem dX11_tells_8 : decode cX11_tells 8 = .ok (.ifCond .eq 31, 3) := by decide +kernel
theorem dX11_tells_11 : decode cX11_tells 11 = .ok (.aload_n 0, 1) := by decide +kernel
theorem dX11_tells_12 : decode cX11_tells 12 = .ok (.getfield 51, 3) := by decide +kernel
theorem dX11_tells_15 : decode cX11_tells 15 = .ok (.iload_n 2, 1) := by decide +kernel
theorem dX11_tells_16 : decode cX11_tells 16 = .ok (.invokevirtual 105, 3) := by decide +kernel
theorem dX11_tells_19 : decode cX11_tells 19 = .ok (.ifCond .eq 20, 3) := by decide +kernel
theorem dX11_tells_22 : decode cX11_tells 22 = .ok (.aload_n 0, 1) := by decide +kernel
theorem dX11_tells_23 : decode cX11_tells 23 = .ok (.getfield 51, 3) := by decide +kernel
theorem dX11_tells_26 : decode cX11_tells 26 = .ok (.iload_n 3, 1) := by decide +kernel
theorem dX11_tells_27 : decode cX11_tells 27 = .ok (.invokevirtual 102, 3) := by decide +kernel
theorem dX11_tells_30 : decode cX11_tells 30 = .ok (.ifCond .eq 9, 3) := by decide +kernel
theorem dX11_tells_33 : decode cX11_tells 33 = .ok (.iload 4, 2) := by decide +kernel
theorem dX11_tells_35 : decode cX11_tells 35 = .ok (.iconst (-1), 1) := by decide +kernel
theorem dX11_tells_36 : decode cX11_tells 36 = .ok (.if_icmp .ge 5, 3) := by decide +kernel
theorem dX11_tells_39 : decode cX11_tells 39 = .ok (.iconst (-1), 1) := by decide +kernel
theorem dX11_tells_40 : decode cX11_tells 40 = .ok (.ireturn, 1) := by decide +kernel
theorem dX11_tells_41 : decode cX11_tells 41 = .ok (.aload_n 0, 1) := by decide +kernel
theorem dX11_tells_42 : decode cX11_tells 42 = .ok (.invokevirtual 181, 3) := by decide +kernel
theorem dX11_tells_45 : decode cX11_tells 45 = .ok (.astore 5, 2) := by decide +kernel
theorem dX11_tells_47 : decode cX11_tells 47 = .ok (.aload 5, 2) := by decide +kernel
theorem dX11_tells_49 : decode cX11_tells 49 = .ok (.invokevirtual 198, 3) := by decide +kernel
theorem dX11_tells_52 : decode cX11_tells 52 = .ok (.aload 5, 2) := by decide +kernel
theorem dX11_tells_54 : decode cX11_tells 54 = .ok (.iload_n 1, 1) := by decide +kernel
theorem dX11_tells_55 : decode cX11_tells 55 = .ok (.invokevirtual 190, 3) := by decide +kernel
theorem dX11_tells_58 : decode cX11_tells 58 = .ok (.aload 5, 2) := by decide +kernel
theorem dX11_tells_60 : decode cX11_tells 60 = .ok (.iload_n 2, 1) := by decide +kernel
theorem dX11_tells_61 : decode cX11_tells 61 = .ok (.invokevirtual 190, 3) := by decide +kernel
theorem dX11_tells_64 : decode cX11_tells 64 = .ok (.aload 5, 2) := by decide +kernel
theorem dX11_tells_66 : decode cX11_tells 66 = .ok (.aload 5, 2) := by decide +kernel
theorem dX11_tells_68 : decode cX11_tells 68 = .ok (.iload_n 3, 1) := by decide +kernel
theorem dX11_tells_69 : decode cX11_tells 69 = .ok (.invokevirtual 191, 3) := by decide +kernel
theorem dX11_tells_72 : decode cX11_tells 72 = .ok (.iload 4, 2) := by decide +kernel
theorem dX11_tells_74 : decode cX11_tells 74 = .ok (.invokestatic 194, 3) := by decide +kernel
theorem dX11_tells_77 : decode cX11_tells 77 = .ok (.ireturn, 1) := by decide +kernel
theorem dX11_searcher_0 : decode cX11_searcher 0 = .ok (.aload_n 0, 1) := by decide +kernel
theorem dX11_searcher_1 : decode cX11_searcher 1 = .ok (.getfield 201, 3) := by decide +kernel
theorem dX11_searcher_4 : decode cX11_searcher 4 = .ok (.ifnonnull 18, 3) := by decide +kernel
theorem dX11_searcher_7 : decode cX11_searcher 7 = .ok (.aload_n 0, 1) := by decide +kernel
theorem dX11_searcher_8 : decode cX11_searcher 8 = .ok (.new 186, 3) := by decide +kernel
theorem dX11_searcher_11 : decode cX11_searcher 11 = .ok (.dup, 1) := by decide +kernel
theorem dX11_searcher_12 : decode cX11_searcher 12 = .ok (.aload_n 0, 1) := by decide +kernel
theorem dX11_searcher_13 : decode cX11_searcher 13 = .ok (.getfield 63, 3) := by decide +kernel
theorem dX11_searcher_16 : decode cX11_searcher 16 = .ok (.invokespecial 205, 3) := by decide +kernel
theorem dX11_searcher_19 : decode cX11_searcher 19 = .ok (.putfield 201, 3) := by decide +kernel
theorem dX11_searcher_22 : decode cX11_searcher 22 = .ok (.aload_n 0, 1) := by decide +kernel
theorem dX11_searcher_23 : decode cX11_searcher 23 = .ok (.getfield 201, 3) := by decide +kernel
theorem dX11_searcher_26 : decode cX11_searcher 26 = .ok (.areturn, 1) := by decide +kernel
theorem dX11_tapOrCount_0 : decode cX11_tapOrCount 0 = .ok (.iload_n 1, 1) := by decide +kernel
theorem dX11_tapOrCount_1 : decode cX11_tapOrCount 1 = .ok (.ifCond .lt 8, 3) := by decide +kernel
theorem dX11_tapOrCount_4 : decode cX11_tapOrCount 4 = .ok (.iload_n 2, 1) := by decide +kernel
theorem dX11_tapOrCount_5 : decode cX11_tapOrCount 5 = .ok (.iconst (-1), 1) := by decide +kernel
theorem dX11_tapOrCount_6 : decode cX11_tapOrCount 6 = .ok (.if_icmp .ne 5, 3) := by decide +kernel
theorem dX11_tapOrCount_9 : decode cX11_tapOrCount 9 = .ok (.iload_n 1, 1) := by decide +kernel
theorem dX11_tapOrCount_10 : decode cX11_tapOrCount 10 = .ok (.ireturn, 1) := by decide +kernel
theorem dX11_tapOrCount_11 : decode cX11_tapOrCount 11 = .ok (.iload_n 2, 1) := by decide +kernel
theorem dX11_tapOrCount_12 : decode cX11_tapOrCount 12 = .ok (.iload_n 1, 1) := by decide +kernel
theorem dX11_tapOrCount_13 : decode cX11_tapOrCount 13 = .ok (.if_icmp .ge 12, 3) := by decide +kernel
theorem dX11_tapOrCount_16 : decode cX11_tapOrCount 16 = .ok (.aload_n 0, 1) := by decide +kernel
theorem dX11_tapOrCount_17 : decode cX11_tapOrCount 17 = .ok (.iload_n 1, 1) := by decide +kernel
theorem dX11_tapOrCount_18 : decode cX11_tapOrCount 18 = .ok (.iload_n 2, 1) := by decide +kernel
theorem dX11_tapOrCount_19 : decode cX11_tapOrCount 19 = .ok (.invokevirtual 208, 3) := by decide +kernel
theorem dX11_tapOrCount_22 : decode cX11_tapOrCount 22 = .ok (.goto 4, 3) := by decide +kernel
theorem dX11_tapOrCount_25 : decode cX11_tapOrCount 25 = .ok (.iconst (-1), 1) := by decide +kernel
theorem dX11_tapOrCount_26 : decode cX11_tapOrCount 26 = .ok (.ireturn, 1) := by decide +kernel
theorem dX11_odds_0 : decode cX11_odds 0 = .ok (.aload_n 0, 1) := by decide +kernel
theorem dX11_odds_1 : decode cX11_odds 1 = .ok (.getfield 51, 3) := by decide +kernel
theorem dX11_odds_4 : decode cX11_odds 4 = .ok (.iload_n 1, 1) := by decide +kernel
theorem dX11_odds_5 : decode cX11_odds 5 = .ok (.invokevirtual 105, 3) := by decide +kernel
theorem dX11_odds_8 : decode cX11_odds 8 = .ok (.ifCond .eq 25, 3) := by decide +kernel
theorem dX11_odds_11 : decode cX11_odds 11 = .ok (.aload_n 0, 1) := by decide +kernel
theorem dX11_odds_12 : decode cX11_odds 12 = .ok (.getfield 51, 3) := by decide +kernel
theorem dX11_odds_15 : decode cX11_odds 15 = .ok (.iload_n 2, 1) := by decide +kernel
theorem dX11_odds_16 : decode cX11_odds 16 = .ok (.invokevirtual 102, 3) := by decide +kernel
theorem dX11_odds_19 : decode cX11_odds 19 = .ok (.ifCond .eq 14, 3) := by decide +kernel
theorem dX11_odds_22 : decode cX11_odds 22 = .ok (.aload_n 0, 1) := by decide +kernel
theorem dX11_odds_23 : decode cX11_odds 23 = .ok (.getfield 51, 3) := by decide +kernel
theorem dX11_odds_26 : decode cX11_odds 26 = .ok (.iload_n 3, 1) := by decide +kernel
theorem dX11_odds_27 : decode cX11_odds 27 = .ok (.invokevirtual 83, 3) := by decide +kernel
theorem dX11_odds_30 : decode cX11_odds 30 = .ok (.ifCond .ne 7, 3) := by decide +kernel
theorem dX11_odds_33 : decode cX11_odds 33 = .ok (.ldc2_w 212, 3) := by decide +kernel
theorem dX11_odds_36 : decode cX11_odds 36 = .ok (.lreturn, 1) := by decide +kernel
theorem dX11_odds_37 : decode cX11_odds 37 = .ok (.iload 4, 2) := by decide +kernel
theorem dX11_odds_39 : decode cX11_odds 39 = .ok (.ifCond .lt 36, 3) := by decide +kernel
theorem dX11_odds_42 : decode cX11_odds 42 = .ok (.iload 4, 2) := by decide +kernel
theorem dX11_odds_44 : decode cX11_odds 44 = .ok (.bipush 10, 2) := by decide +kernel
theorem dX11_odds_46 : decode cX11_odds 46 = .ok (.if_icmp .gt 29, 3) := by decide +kernel
theorem dX11_odds_49 : decode cX11_odds 49 = .ok (.iload 5, 2) := by decide +kernel
theorem dX11_odds_51 : decode cX11_odds 51 = .ok (.ifCond .lt 24, 3) := by decide +kernel
theorem dX11_odds_54 : decode cX11_odds 54 = .ok (.iload 5, 2) := by decide +kernel
theorem dX11_odds_56 : decode cX11_odds 56 = .ok (.iconst 1, 1) := by decide +kernel
theorem dX11_odds_57 : decode cX11_odds 57 = .ok (.if_icmp .gt 18, 3) := by decide +kernel
theorem dX11_odds_60 : decode cX11_odds 60 = .ok (.aload_n 0, 1) := by decide +kernel
theorem dX11_odds_61 : decode cX11_odds 61 = .ok (.getfield 51, 3) := by decide +kernel
theorem dX11_odds_64 : decode cX11_odds 64 = .ok (.getfield 164, 3) := by decide +kernel
theorem dX11_odds_67 : decode cX11_odds 67 = .ok (.invokevirtual 111, 3) := by decide +kernel
theorem dX11_odds_70 : decode cX11_odds 70 = .ok (.bipush 12, 2) := by decide +kernel
theorem dX11_odds_72 : decode cX11_odds 72 = .ok (.if_icmp .le 7, 3) := by decide +kernel
theorem dX11_odds_75 : decode cX11_odds 75 = .ok (.ldc2_w 212, 3) := by decide +kernel
theorem dX11_odds_78 : decode cX11_odds 78 = .ok (.lreturn, 1) := by decide +kernel
theorem dX11_odds_79 : decode cX11_odds 79 = .ok (.aload_n 0, 1) := by decide +kernel
theorem dX11_odds_80 : decode cX11_odds 80 = .ok (.getfield 32, 3) := by decide +kernel
theorem dX11_odds_83 : decode cX11_odds 83 = .ok (.lconst 0, 1) := by decide +kernel
theorem dX11_odds_84 : decode cX11_odds 84 = .ok (.invokestatic 214, 3) := by decide +kernel
theorem dX11_odds_87 : decode cX11_odds 87 = .ok (.aload_n 0, 1) := by decide +kernel
theorem dX11_odds_88 : decode cX11_odds 88 = .ok (.getfield 32, 3) := by decide +kernel
theorem dX11_odds_91 : decode cX11_odds 91 = .ok (.iload_n 2, 1) := by decide +kernel
theorem dX11_odds_92 : decode cX11_odds 92 = .ok (.lconst 1, 1) := by decide +kernel
theorem dX11_odds_93 : decode cX11_odds 93 = .ok (.lastore, 1) := by decide +kernel
theorem dX11_odds_94 : decode cX11_odds 94 = .ok (.lconst 1, 1) := by decide +kernel
theorem dX11_odds_95 : decode cX11_odds 95 = .ok (.lstore 6, 2) := by decide +kernel
theorem dX11_odds_97 : decode cX11_odds 97 = .ok (.iconst 0, 1) := by decide +kernel
theorem dX11_odds_98 : decode cX11_odds 98 = .ok (.istore 8, 2) := by decide +kernel
theorem dX11_odds_100 : decode cX11_odds 100 = .ok (.iload 8, 2) := by decide +kernel
theorem dX11_odds_102 : decode cX11_odds 102 = .ok (.aload_n 0, 1) := by decide +kernel
theorem dX11_odds_103 : decode cX11_odds 103 = .ok (.getfield 51, 3) := by decide +kernel
theorem dX11_odds_106 : decode cX11_odds 106 = .ok (.getfield 164, 3) := by decide +kernel
theorem dX11_odds_109 : decode cX11_odds 109 = .ok (.invokevirtual 111, 3) := by decide +kernel
theorem dX11_odds_112 : decode cX11_odds 112 = .ok (.if_icmp .ge 36, 3) := by decide +kernel
theorem dX11_odds_115 : decode cX11_odds 115 = .ok (.aload_n 0, 1) := by decide +kernel
theorem dX11_odds_116 : decode cX11_odds 116 = .ok (.iload_n 1, 1) := by decide +kernel
theorem dX11_odds_117 : decode cX11_odds 117 = .ok (.aload_n 0, 1) := by decide +kernel
theorem dX11_odds_118 : decode cX11_odds 118 = .ok (.getfield 51, 3) := by decide +kernel
theorem dX11_odds_121 : decode cX11_odds 121 = .ok (.getfield 164, 3) := by decide +kernel
theorem dX11_odds_124 : decode cX11_odds 124 = .ok (.iload 8, 2) := by decide +kernel
theorem dX11_odds_126 : decode cX11_odds 126 = .ok (.invokevirtual 157, 3) := by decide +kernel
theorem dX11_odds_129 : decode cX11_odds 129 = .ok (.iload 4, 2) := by decide +kernel
theorem dX11_odds_131 : decode cX11_odds 131 = .ok (.invokevirtual 220, 3) := by decide +kernel
theorem dX11_odds_134 : decode cX11_odds 134 = .ok (.lload 6, 2) := by decide +kernel
theorem dX11_odds_136 : decode cX11_odds 136 = .ok (.ldc2_w 224, 3) := by decide +kernel
theorem dX11_odds_139 : decode cX11_odds 139 = .ok (.lmul, 1) := by decide +kernel
theorem dX11_odds_140 : decode cX11_odds 140 = .ok (.lstore 6, 2) := by decide +kernel
theorem dX11_odds_142 : decode cX11_odds 142 = .ok (.iinc 8 1, 3) := by decide +kernel
theorem dX11_odds_145 : decode cX11_odds 145 = .ok (.goto (-45), 3) := by decide +kernel
theorem dX11_odds_148 : decode cX11_odds 148 = .ok (.lconst 0, 1) := by decide +kernel
theorem dX11_odds_149 : decode cX11_odds 149 = .ok (.lstore 8, 2) := by decide +kernel
theorem dX11_odds_151 : decode cX11_odds 151 = .ok (.iconst 0, 1) := by decide +kernel
theorem dX11_odds_152 : decode cX11_odds 152 = .ok (.istore 10, 2) := by decide +kernel
theorem dX11_odds_154 : decode cX11_odds 154 = .ok (.iload 10, 2) := by decide +kernel
theorem dX11_odds_156 : decode cX11_odds 156 = .ok (.iconst 4, 1) := by decide +kernel
theorem dX11_odds_157 : decode cX11_odds 157 = .ok (.if_icmp .ge 25, 3) := by decide +kernel
theorem dX11_odds_160 : decode cX11_odds 160 = .ok (.lload 8, 2) := by decide +kernel
theorem dX11_odds_162 : decode cX11_odds 162 = .ok (.aload_n 0, 1) := by decide +kernel
theorem dX11_odds_163 : decode cX11_odds 163 = .ok (.getfield 32, 3) := by decide +kernel
theorem dX11_odds_166 : decode cX11_odds 166 = .ok (.iconst 4, 1) := by decide +kernel
theorem dX11_odds_167 : decode cX11_odds 167 = .ok (.iload_n 3, 1) := by decide +kernel
theorem dX11_odds_168 : decode cX11_odds 168 = .ok (.imul, 1) := by decide +kernel
theorem dX11_odds_169 : decode cX11_odds 169 = .ok (.iload 10, 2) := by decide +kernel
theorem dX11_odds_171 : decode cX11_odds 171 = .ok (.iadd, 1) := by decide +kernel
theorem dX11_odds_172 : decode cX11_odds 172 = .ok (.laload, 1) := by decide +kernel
theorem dX11_odds_173 : decode cX11_odds 173 = .ok (.ladd, 1) := by decide +kernel
theorem dX11_odds_174 : decode cX11_odds 174 = .ok (.lstore 8, 2) := by decide +kernel
theorem dX11_odds_176 : decode cX11_odds 176 = .ok (.iinc 10 1, 3) := by decide +kernel
theorem dX11_odds_179 : decode cX11_odds 179 = .ok (.goto (-25), 3) := by decide +kernel
theorem dX11_odds_182 : decode cX11_odds 182 = .ok (.lload 6, 2) := by decide +kernel
theorem dX11_odds_184 : decode cX11_odds 184 = .ok (.lload 8, 2) := by decide +kernel
theorem dX11_odds_186 : decode cX11_odds 186 = .ok (.invokestatic 226, 3) := by decide +kernel
theorem dX11_odds_189 : decode cX11_odds 189 = .ok (.lstore 10, 2) := by decide +kernel
theorem dX11_odds_191 : decode cX11_odds 191 = .ok (.iload 5, 2) := by decide +kernel
theorem dX11_odds_193 : decode cX11_odds 193 = .ok (.ifCond .ne 8, 3) := by decide +kernel
theorem dX11_odds_196 : decode cX11_odds 196 = .ok (.lload 8, 2) := by decide +kernel
theorem dX11_odds_198 : decode cX11_odds 198 = .ok (.goto 5, 3) := by decide +kernel
theorem dX11_odds_201 : decode cX11_odds 201 = .ok (.lload 6, 2) := by decide +kernel
theorem dX11_odds_203 : decode cX11_odds 203 = .ok (.lload 10, 2) := by decide +kernel
theorem dX11_odds_205 : decode cX11_odds 205 = .ok (.ldiv, 1) := by decide +kernel
theorem dX11_odds_206 : decode cX11_odds 206 = .ok (.lreturn, 1) := by decide +kernel
theorem dX11_spreadBy_0 : decode cX11_spreadBy 0 = .ok (.aload_n 0, 1) := by decide +kernel
theorem dX11_spreadBy_1 : decode cX11_spreadBy 1 = .ok (.getfield 36, 3) := by decide +kernel
theorem dX11_spreadBy_4 : decode cX11_spreadBy 4 = .ok (.lconst 0, 1) := by decide +kernel
theorem dX11_spreadBy_5 : decode cX11_spreadBy 5 = .ok (.invokestatic 214, 3) := by decide +kernel
theorem dX11_spreadBy_8 : decode cX11_spreadBy 8 = .ok (.iconst 0, 1) := by decide +kernel
theorem dX11_spreadBy_9 : decode cX11_spreadBy 9 = .ok (.istore 4, 2) := by decide +kernel
theorem dX11_spreadBy_11 : decode cX11_spreadBy 11 = .ok (.iload 4, 2) := by decide +kernel
theorem dX11_spreadBy_13 : decode cX11_spreadBy 13 = .ok (.aload_n 0, 1) := by decide +kernel
theorem dX11_spreadBy_14 : decode cX11_spreadBy 14 = .ok (.getfield 51, 3) := by decide +kernel
theorem dX11_spreadBy_17 : decode cX11_spreadBy 17 = .ok (.invokevirtual 230, 3) := by decide +kernel
theorem dX11_spreadBy_20 : decode cX11_spreadBy 20 = .ok (.if_icmp .ge 92, 3) := by decide +kernel
theorem dX11_spreadBy_23 : decode cX11_spreadBy 23 = .ok (.aload_n 0, 1) := by decide +kernel
theorem dX11_spreadBy_24 : decode cX11_spreadBy 24 = .ok (.getfield 32, 3) := by decide +kernel
theorem dX11_spreadBy_27 : decode cX11_spreadBy 27 = .ok (.iload 4, 2) := by decide +kernel
theorem dX11_spreadBy_29 : decode cX11_spreadBy 29 = .ok (.laload, 1) := by decide +kernel
theorem dX11_spreadBy_30 : decode cX11_spreadBy 30 = .ok (.lconst 0, 1) := by decide +kernel
theorem dX11_spreadBy_31 : decode cX11_spreadBy 31 = .ok (.lcmp, 1) := by decide +kernel
theorem dX11_spreadBy_32 : decode cX11_spreadBy 32 = .ok (.ifCond .eq 74, 3) := by decide +kernel
theorem dX11_spreadBy_35 : decode cX11_spreadBy 35 = .ok (.aload_n 0, 1) := by decide +kernel
theorem dX11_spreadBy_36 : decode cX11_spreadBy 36 = .ok (.getfield 36, 3) := by decide +kernel
theorem dX11_spreadBy_39 : decode cX11_spreadBy 39 = .ok (.aload_n 0, 1) := by decide +kernel
theorem dX11_spreadBy_40 : decode cX11_spreadBy 40 = .ok (.getfield 63, 3) := by decide +kernel
theorem dX11_spreadBy_43 : decode cX11_spreadBy 43 = .ok (.iload_n 1, 1) := by decide +kernel
theorem dX11_spreadBy_44 : decode cX11_spreadBy 44 = .ok (.iload 4, 2) := by decide +kernel
theorem dX11_spreadBy_46 : decode cX11_spreadBy 46 = .ok (.iload_n 2, 1) := by decide +kernel
theorem dX11_spreadBy_47 : decode cX11_spreadBy 47 = .ok (.invokevirtual 147, 3) := by decide +kernel
theorem dX11_spreadBy_50 : decode cX11_spreadBy 50 = .ok (.invokestatic 161, 3) := by decide +kernel
theorem dX11_spreadBy_53 : decode cX11_spreadBy 53 = .ok (.dup2, 1) := by decide +kernel
theorem dX11_spreadBy_54 : decode cX11_spreadBy 54 = .ok (.laload, 1) := by decide +kernel
theorem dX11_spreadBy_55 : decode cX11_spreadBy 55 = .ok (.aload_n 0, 1) := by decide +kernel
theorem dX11_spreadBy_56 : decode cX11_spreadBy 56 = .ok (.getfield 32, 3) := by decide +kernel
theorem dX11_spreadBy_59 : decode cX11_spreadBy 59 = .ok (.iload 4, 2) := by decide +kernel
theorem dX11_spreadBy_61 : decode cX11_spreadBy 61 = .ok (.laload, 1) := by decide +kernel
theorem dX11_spreadBy_62 : decode cX11_spreadBy 62 = .ok (.bipush 10, 2) := by decide +kernel
theorem dX11_spreadBy_64 : decode cX11_spreadBy 64 = .ok (.iload_n 3, 1) := by decide +kernel
theorem dX11_spreadBy_65 : decode cX11_spreadBy 65 = .ok (.isub, 1) := by decide +kernel
theorem dX11_spreadBy_66 : decode cX11_spreadBy 66 = .ok (.i2l, 1) := by decide +kernel
theorem dX11_spreadBy_67 : decode cX11_spreadBy 67 = .ok (.lmul, 1) := by decide +kernel
theorem dX11_spreadBy_68 : decode cX11_spreadBy 68 = .ok (.ladd, 1) := by decide +kernel
theorem dX11_spreadBy_69 : decode cX11_spreadBy 69 = .ok (.lastore, 1) := by decide +kernel
theorem dX11_spreadBy_70 : decode cX11_spreadBy 70 = .ok (.aload_n 0, 1) := by decide +kernel
theorem dX11_spreadBy_71 : decode cX11_spreadBy 71 = .ok (.getfield 36, 3) := by decide +kernel
theorem dX11_spreadBy_74 : decode cX11_spreadBy 74 = .ok (.aload_n 0, 1) := by decide +kernel
theorem dX11_spreadBy_75 : decode cX11_spreadBy 75 = .ok (.getfield 63, 3) := by decide +kernel
theorem dX11_spreadBy_78 : decode cX11_spreadBy 78 = .ok (.iload_n 1, 1) := by decide +kernel
theorem dX11_spreadBy_79 : decode cX11_spreadBy 79 = .ok (.iload 4, 2) := by decide +kernel
theorem dX11_spreadBy_81 : decode cX11_spreadBy 81 = .ok (.iload_n 2, 1) := by decide +kernel
theorem dX11_spreadBy_82 : decode cX11_spreadBy 82 = .ok (.iconst 1, 1) := by decide +kernel
theorem dX11_spreadBy_83 : decode cX11_spreadBy 83 = .ok (.iadd, 1) := by decide +kernel
theorem dX11_spreadBy_84 : decode cX11_spreadBy 84 = .ok (.iconst 4, 1) := by decide +kernel
theorem dX11_spreadBy_85 : decode cX11_spreadBy 85 = .ok (.irem, 1) := by decide +kernel
theorem dX11_spreadBy_86 : decode cX11_spreadBy 86 = .ok (.invokevirtual 147, 3) := by decide +kernel
theorem dX11_spreadBy_89 : decode cX11_spreadBy 89 = .ok (.invokestatic 161, 3) := by decide +kernel
theorem dX11_spreadBy_92 : decode cX11_spreadBy 92 = .ok (.dup2, 1) := by decide +kernel
theorem dX11_spreadBy_93 : decode cX11_spreadBy 93 = .ok (.laload, 1) := by decide +kernel
theorem dX11_spreadBy_94 : decode cX11_spreadBy 94 = .ok (.aload_n 0, 1) := by decide +kernel
theorem dX11_spreadBy_95 : decode cX11_spreadBy 95 = .ok (.getfield 32, 3) := by decide +kernel
theorem dX11_spreadBy_98 : decode cX11_spreadBy 98 = .ok (.iload 4, 2) := by decide +kernel
theorem dX11_spreadBy_100 : decode cX11_spreadBy 100 = .ok (.laload, 1) := by decide +kernel
theorem dX11_spreadBy_101 : decode cX11_spreadBy 101 = .ok (.iload_n 3, 1) := by decide +kernel
theorem dX11_spreadBy_102 : decode cX11_spreadBy 102 = .ok (.i2l, 1) := by decide +kernel
theorem dX11_spreadBy_103 : decode cX11_spreadBy 103 = .ok (.lmul, 1) := by decide +kernel
theorem dX11_spreadBy_104 : decode cX11_spreadBy 104 = .ok (.ladd, 1) := by decide +kernel
theorem dX11_spreadBy_105 : decode cX11_spreadBy 105 = .ok (.lastore, 1) := by decide +kernel
theorem dX11_spreadBy_106 : decode cX11_spreadBy 106 = .ok (.iinc 4 1, 3) := by decide +kernel
theorem dX11_spreadBy_109 : decode cX11_spreadBy 109 = .ok (.goto (-98), 3) := by decide +kernel
theorem dX11_spreadBy_112 : decode cX11_spreadBy 112 = .ok (.aload_n 0, 1) := by decide +kernel
theorem dX11_spreadBy_113 : decode cX11_spreadBy 113 = .ok (.getfield 36, 3) := by decide +kernel
theorem dX11_spreadBy_116 : decode cX11_spreadBy 116 = .ok (.iconst 0, 1) := by decide +kernel
theorem dX11_spreadBy_117 : decode cX11_spreadBy 117 = .ok (.aload_n 0, 1) := by decide +kernel
theorem dX11_spreadBy_118 : decode cX11_spreadBy 118 = .ok (.getfield 32, 3) := by decide +kernel
theorem dX11_spreadBy_121 : decode cX11_spreadBy 121 = .ok (.iconst 0, 1) := by decide +kernel
theorem dX11_spreadBy_122 : decode cX11_spreadBy 122 = .ok (.aload_n 0, 1) := by decide +kernel
theorem dX11_spreadBy_123 : decode cX11_spreadBy 123 = .ok (.getfield 32, 3) := by decide +kernel
theorem dX11_spreadBy_126 : decode cX11_spreadBy 126 = .ok (.arraylength, 1) := by decide +kernel
theorem dX11_spreadBy_127 : decode cX11_spreadBy 127 = .ok (.invokestatic 233, 3) := by decide +kernel
theorem dX11_spreadBy_130 : decode cX11_spreadBy 130 = .ok (.return_, 1) := by decide +kernel
theorem dX11_commonDivisor_0 : decode cX11_commonDivisor 0 = .ok (.lconst 1, 1) := by decide +kernel
theorem dX11_commonDivisor_1 : decode cX11_commonDivisor 1 = .ok (.lload_n 0, 1) := by decide +kernel
theorem dX11_commonDivisor_2 : decode cX11_commonDivisor 2 = .ok (.invokestatic 239, 3) := by decide +kernel
theorem dX11_commonDivisor_5 : decode cX11_commonDivisor 5 = .ok (.lstore 4, 2) := by decide +kernel
theorem dX11_commonDivisor_7 : decode cX11_commonDivisor 7 = .ok (.lload_n 2, 1) := by decide +kernel
theorem dX11_commonDivisor_8 : decode cX11_commonDivisor 8 = .ok (.lstore 6, 2) := by decide +kernel
theorem dX11_commonDivisor_10 : decode cX11_commonDivisor 10 = .ok (.iconst 0, 1) := by decide +kernel
theorem dX11_commonDivisor_11 : decode cX11_commonDivisor 11 = .ok (.istore 8, 2) := by decide +kernel
theorem dX11_commonDivisor_13 : decode cX11_commonDivisor 13 = .ok (.iload 8, 2) := by decide +kernel
theorem dX11_commonDivisor_15 : decode cX11_commonDivisor 15 = .ok (.bipush 100, 2) := by decide +kernel
theorem dX11_commonDivisor_17 : decode cX11_commonDivisor 17 = .ok (.if_icmp .ge 31, 3) := by decide +kernel
theorem dX11_commonDivisor_20 : decode cX11_commonDivisor 20 = .ok (.lload 6, 2) := by decide +kernel
theorem dX11_commonDivisor_22 : decode cX11_commonDivisor 22 = .ok (.lconst 0, 1) := by decide +kernel
theorem dX11_commonDivisor_23 : decode cX11_commonDivisor 23 = .ok (.lcmp, 1) := by decide +kernel
theorem dX11_commonDivisor_24 : decode cX11_commonDivisor 24 = .ok (.ifCond .eq 24, 3) := by decide +kernel
theorem dX11_commonDivisor_27 : decode cX11_commonDivisor 27 = .ok (.lload 4, 2) := by decide +kernel
theorem dX11_commonDivisor_29 : decode cX11_commonDivisor 29 = .ok (.lload 6, 2) := by decide +kernel
theorem dX11_commonDivisor_31 : decode cX11_commonDivisor 31 = .ok (.lrem, 1) := by decide +kernel
theorem dX11_commonDivisor_32 : decode cX11_commonDivisor 32 = .ok (.lstore 9, 2) := by decide +kernel
theorem dX11_commonDivisor_34 : decode cX11_commonDivisor 34 = .ok (.lload 6, 2) := by decide +kernel
theorem dX11_commonDivisor_36 : decode cX11_commonDivisor 36 = .ok (.lstore 4, 2) := by decide +kernel
theorem dX11_commonDivisor_38 : decode cX11_commonDivisor 38 = .ok (.lload 9, 2) := by decide +kernel
theorem dX11_commonDivisor_40 : decode cX11_commonDivisor 40 = .ok (.lstore 6, 2) := by decide +kernel
theorem dX11_commonDivisor_42 : decode cX11_commonDivisor 42 = .ok (.iinc 8 1, 3) := by decide +kernel
theorem dX11_commonDivisor_45 : decode cX11_commonDivisor 45 = .ok (.goto (-32), 3) := by decide +kernel
theorem dX11_commonDivisor_48 : decode cX11_commonDivisor 48 = .ok (.lload 4, 2) := by decide +kernel
theorem dX11_commonDivisor_50 : decode cX11_commonDivisor 50 = .ok (.lreturn, 1) := by decide +kernel
theorem dX11_seen_0 : decode cX11_seen 0 = .ok (.aload_n 0, 1) := by decide +kernel
theorem dX11_seen_1 : decode cX11_seen 1 = .ok (.getfield 51, 3) := by decide +kernel
theorem dX11_seen_4 : decode cX11_seen 4 = .ok (.iload_n 1, 1) := by decide +kernel
theorem dX11_seen_5 : decode cX11_seen 5 = .ok (.invokevirtual 102, 3) := by decide +kernel
theorem dX11_seen_8 : decode cX11_seen 8 = .ok (.ifCond .eq 36, 3) := by decide +kernel
theorem dX11_seen_11 : decode cX11_seen 11 = .ok (.iload_n 2, 1) := by decide +kernel
theorem dX11_seen_12 : decode cX11_seen 12 = .ok (.invokestatic 144, 3) := by decide +kernel
theorem dX11_seen_15 : decode cX11_seen 15 = .ok (.ifCond .eq 29, 3) := by decide +kernel
theorem dX11_seen_18 : decode cX11_seen 18 = .ok (.aload_n 0, 1) := by decide +kernel
theorem dX11_seen_19 : decode cX11_seen 19 = .ok (.getfield 51, 3) := by decide +kernel
theorem dX11_seen_22 : decode cX11_seen 22 = .ok (.iload_n 3, 1) := by decide +kernel
theorem dX11_seen_23 : decode cX11_seen 23 = .ok (.invokevirtual 102, 3) := by decide +kernel
theorem dX11_seen_26 : decode cX11_seen 26 = .ok (.ifCond .eq 18, 3) := by decide +kernel
theorem dX11_seen_29 : decode cX11_seen 29 = .ok (.aload_n 0, 1) := by decide +kernel
theorem dX11_seen_30 : decode cX11_seen 30 = .ok (.getfield 51, 3) := by decide +kernel
theorem dX11_seen_33 : decode cX11_seen 33 = .ok (.getfield 244, 3) := by decide +kernel
theorem dX11_seen_36 : decode cX11_seen 36 = .ok (.invokevirtual 111, 3) := by decide +kernel
theorem dX11_seen_39 : decode cX11_seen 39 = .ok (.bipush 20, 2) := by decide +kernel
theorem dX11_seen_41 : decode cX11_seen 41 = .ok (.if_icmp .lt 5, 3) := by decide +kernel
theorem dX11_seen_44 : decode cX11_seen 44 = .ok (.iconst (-1), 1) := by decide +kernel
theorem dX11_seen_45 : decode cX11_seen 45 = .ok (.ireturn, 1) := by decide +kernel
theorem dX11_seen_46 : decode cX11_seen 46 = .ok (.aload_n 0, 1) := by decide +kernel
theorem dX11_seen_47 : decode cX11_seen 47 = .ok (.getfield 51, 3) := by decide +kernel
theorem dX11_seen_50 : decode cX11_seen 50 = .ok (.getfield 244, 3) := by decide +kernel
theorem dX11_seen_53 : decode cX11_seen 53 = .ok (.iload_n 1, 1) := by decide +kernel
theorem dX11_seen_54 : decode cX11_seen 54 = .ok (.invokevirtual 115, 3) := by decide +kernel
theorem dX11_seen_57 : decode cX11_seen 57 = .ok (.aload_n 0, 1) := by decide +kernel
theorem dX11_seen_58 : decode cX11_seen 58 = .ok (.getfield 51, 3) := by decide +kernel
theorem dX11_seen_61 : decode cX11_seen 61 = .ok (.getfield 247, 3) := by decide +kernel
theorem dX11_seen_64 : decode cX11_seen 64 = .ok (.iload_n 2, 1) := by decide +kernel
theorem dX11_seen_65 : decode cX11_seen 65 = .ok (.invokevirtual 115, 3) := by decide +kernel
theorem dX11_seen_68 : decode cX11_seen 68 = .ok (.aload_n 0, 1) := by decide +kernel
theorem dX11_seen_69 : decode cX11_seen 69 = .ok (.getfield 51, 3) := by decide +kernel
theorem dX11_seen_72 : decode cX11_seen 72 = .ok (.getfield 250, 3) := by decide +kernel
theorem dX11_seen_75 : decode cX11_seen 75 = .ok (.iload_n 3, 1) := by decide +kernel
theorem dX11_seen_76 : decode cX11_seen 76 = .ok (.invokevirtual 115, 3) := by decide +kernel
theorem dX11_seen_79 : decode cX11_seen 79 = .ok (.aload_n 0, 1) := by decide +kernel
theorem dX11_seen_80 : decode cX11_seen 80 = .ok (.getfield 51, 3) := by decide +kernel
theorem dX11_seen_83 : decode cX11_seen 83 = .ok (.getfield 244, 3) := by decide +kernel
theorem dX11_seen_86 : decode cX11_seen 86 = .ok (.invokevirtual 111, 3) := by decide +kernel
theorem dX11_seen_89 : decode cX11_seen 89 = .ok (.ireturn, 1) := by decide +kernel
theorem dX11_holds_0 : decode cX11_holds 0 = .ok (.iconst 0, 1) := by decide +kernel
theorem dX11_holds_1 : decode cX11_holds 1 = .ok (.istore_n 1, 1) := by decide +kernel
theorem dX11_holds_2 : decode cX11_holds 2 = .ok (.iconst 0, 1) := by decide +kernel
theorem dX11_holds_3 : decode cX11_holds 3 = .ok (.istore_n 2, 1) := by decide +kernel
theorem dX11_holds_4 : decode cX11_holds 4 = .ok (.iload_n 2, 1) := by decide +kernel
theorem dX11_holds_5 : decode cX11_holds 5 = .ok (.aload_n 0, 1) := by decide +kernel
theorem dX11_holds_6 : decode cX11_holds 6 = .ok (.getfield 51, 3) := by decide +kernel
theorem dX11_holds_9 : decode cX11_holds 9 = .ok (.getfield 127, 3) := by decide +kernel
theorem dX11_holds_12 : decode cX11_holds 12 = .ok (.if_icmp .ge 27, 3) := by decide +kernel
theorem dX11_holds_15 : decode cX11_holds 15 = .ok (.iload_n 1, 1) := by decide +kernel
theorem dX11_holds_16 : decode cX11_holds 16 = .ok (.aload_n 0, 1) := by decide +kernel
theorem dX11_holds_17 : decode cX11_holds 17 = .ok (.iload_n 2, 1) := by decide +kernel
theorem dX11_holds_18 : decode cX11_holds 18 = .ok (.invokevirtual 253, 3) := by decide +kernel
theorem dX11_holds_21 : decode cX11_holds 21 = .ok (.ifCond .eq 9, 3) := by decide +kernel
theorem dX11_holds_24 : decode cX11_holds 24 = .ok (.iconst 1, 1) := by decide +kernel
theorem dX11_holds_25 : decode cX11_holds 25 = .ok (.iload_n 2, 1) := by decide +kernel
theorem dX11_holds_26 : decode cX11_holds 26 = .ok (.ishl, 1) := by decide +kernel
theorem dX11_holds_27 : decode cX11_holds 27 = .ok (.goto 4, 3) := by decide +kernel
theorem dX11_holds_30 : decode cX11_holds 30 = .ok (.iconst 0, 1) := by decide +kernel
theorem dX11_holds_31 : decode cX11_holds 31 = .ok (.ior, 1) := by decide +kernel
theorem dX11_holds_32 : decode cX11_holds 32 = .ok (.istore_n 1, 1) := by decide +kernel
theorem dX11_holds_33 : decode cX11_holds 33 = .ok (.iinc 2 1, 3) := by decide +kernel
theorem dX11_holds_36 : decode cX11_holds 36 = .ok (.goto (-32), 3) := by decide +kernel
theorem dX11_holds_39 : decode cX11_holds 39 = .ok (.iload_n 1, 1) := by decide +kernel
theorem dX11_holds_40 : decode cX11_holds 40 = .ok (.ireturn, 1) := by decide +kernel
theorem dX11_isAllSeenBy_0 : decode cX11_isAllSeenBy 0 = .ok (.iconst 0, 1) := by decide +kernel
theorem dX11_isAllSeenBy_1 : decode cX11_isAllSeenBy 1 = .ok (.istore_n 2, 1) := by decide +kernel
theorem dX11_isAllSeenBy_2 : decode cX11_isAllSeenBy 2 = .ok (.iload_n 2, 1) := by decide +kernel
theorem dX11_isAllSeenBy_3 : decode cX11_isAllSeenBy 3 = .ok (.aload_n 0, 1) := by decide +kernel
theorem dX11_isAllSeenBy_4 : decode cX11_isAllSeenBy 4 = .ok (.getfield 51, 3) := by decide +kernel
theorem dX11_isAllSeenBy_7 : decode cX11_isAllSeenBy 7 = .ok (.getfield 244, 3) := by decide +kernel
theorem dX11_isAllSeenBy_10 : decode cX11_isAllSeenBy 10 = .ok (.invokevirtual 111, 3) := by decide +kernel
theorem dX11_isAllSeenBy_13 : decode cX11_isAllSeenBy 13 = .ok (.if_icmp .ge 89, 3) := by decide +kernel
theorem dX11_isAllSeenBy_16 : decode cX11_isAllSeenBy 16 = .ok (.aload_n 0, 1) := by decide +kernel
theorem dX11_isAllSeenBy_17 : decode cX11_isAllSeenBy 17 = .ok (.getfield 51, 3) := by decide +kernel
theorem dX11_isAllSeenBy_20 : decode cX11_isAllSeenBy 20 = .ok (.getfield 244, 3) := by decide +kernel
theorem dX11_isAllSeenBy_23 : decode cX11_isAllSeenBy 23 = .ok (.iload_n 2, 1) := by decide +kernel
theorem dX11_isAllSeenBy_24 : decode cX11_isAllSeenBy 24 = .ok (.invokevirtual 157, 3) := by decide +kernel
theorem dX11_isAllSeenBy_27 : decode cX11_isAllSeenBy 27 = .ok (.istore_n 3, 1) := by decide +kernel
theorem dX11_isAllSeenBy_28 : decode cX11_isAllSeenBy 28 = .ok (.aload_n 0, 1) := by decide +kernel
theorem dX11_isAllSeenBy_29 : decode cX11_isAllSeenBy 29 = .ok (.getfield 51, 3) := by decide +kernel
theorem dX11_isAllSeenBy_32 : decode cX11_isAllSeenBy 32 = .ok (.getfield 250, 3) := by decide +kernel
theorem dX11_isAllSeenBy_35 : decode cX11_isAllSeenBy 35 = .ok (.iload_n 2, 1) := by decide +kernel
theorem dX11_isAllSeenBy_36 : decode cX11_isAllSeenBy 36 = .ok (.invokevirtual 157, 3) := by decide +kernel
theorem dX11_isAllSeenBy_39 : decode cX11_isAllSeenBy 39 = .ok (.istore 4, 2) := by decide +kernel
theorem dX11_isAllSeenBy_41 : decode cX11_isAllSeenBy 41 = .ok (.aload_n 0, 1) := by decide +kernel
theorem dX11_isAllSeenBy_42 : decode cX11_isAllSeenBy 42 = .ok (.getfield 51, 3) := by decide +kernel
theorem dX11_isAllSeenBy_45 : decode cX11_isAllSeenBy 45 = .ok (.iload_n 3, 1) := by decide +kernel
theorem dX11_isAllSeenBy_46 : decode cX11_isAllSeenBy 46 = .ok (.invokevirtual 102, 3) := by decide +kernel
theorem dX11_isAllSeenBy_49 : decode cX11_isAllSeenBy 49 = .ok (.ifCond .eq 15, 3) := by decide +kernel
theorem dX11_isAllSeenBy_52 : decode cX11_isAllSeenBy 52 = .ok (.aload_n 0, 1) := by decide +kernel
theorem dX11_isAllSeenBy_53 : decode cX11_isAllSeenBy 53 = .ok (.getfield 51, 3) := by decide +kernel
theorem dX11_isAllSeenBy_56 : decode cX11_isAllSeenBy 56 = .ok (.iload 4, 2) := by decide +kernel
theorem dX11_isAllSeenBy_58 : decode cX11_isAllSeenBy 58 = .ok (.invokevirtual 102, 3) := by decide +kernel
theorem dX11_isAllSeenBy_61 : decode cX11_isAllSeenBy 61 = .ok (.ifCond .ne 5, 3) := by decide +kernel
theorem dX11_isAllSeenBy_64 : decode cX11_isAllSeenBy 64 = .ok (.iconst 0, 1) := by decide +kernel
theorem dX11_isAllSeenBy_65 : decode cX11_isAllSeenBy 65 = .ok (.ireturn, 1) := by decide +kernel
theorem dX11_isAllSeenBy_66 : decode cX11_isAllSeenBy 66 = .ok (.aload_n 0, 1) := by decide +kernel
theorem dX11_isAllSeenBy_67 : decode cX11_isAllSeenBy 67 = .ok (.getfield 63, 3) := by decide +kernel
theorem dX11_isAllSeenBy_70 : decode cX11_isAllSeenBy 70 = .ok (.iload_n 1, 1) := by decide +kernel
theorem dX11_isAllSeenBy_71 : decode cX11_isAllSeenBy 71 = .ok (.iload_n 3, 1) := by decide +kernel
theorem dX11_isAllSeenBy_72 : decode cX11_isAllSeenBy 72 = .ok (.aload_n 0, 1) := by decide +kernel
theorem dX11_isAllSeenBy_73 : decode cX11_isAllSeenBy 73 = .ok (.getfield 51, 3) := by decide +kernel
theorem dX11_isAllSeenBy_76 : decode cX11_isAllSeenBy 76 = .ok (.getfield 247, 3) := by decide +kernel
theorem dX11_isAllSeenBy_79 : decode cX11_isAllSeenBy 79 = .ok (.iload_n 2, 1) := by decide +kernel
theorem dX11_isAllSeenBy_80 : decode cX11_isAllSeenBy 80 = .ok (.invokevirtual 157, 3) := by decide +kernel
theorem dX11_isAllSeenBy_83 : decode cX11_isAllSeenBy 83 = .ok (.invokevirtual 147, 3) := by decide +kernel
theorem dX11_isAllSeenBy_86 : decode cX11_isAllSeenBy 86 = .ok (.invokestatic 161, 3) := by decide +kernel
theorem dX11_isAllSeenBy_89 : decode cX11_isAllSeenBy 89 = .ok (.iload 4, 2) := by decide +kernel
theorem dX11_isAllSeenBy_91 : decode cX11_isAllSeenBy 91 = .ok (.if_icmp .eq 5, 3) := by decide +kernel
theorem dX11_isAllSeenBy_94 : decode cX11_isAllSeenBy 94 = .ok (.iconst 0, 1) := by decide +kernel
theorem dX11_isAllSeenBy_95 : decode cX11_isAllSeenBy 95 = .ok (.ireturn, 1) := by decide +kernel
theorem dX11_isAllSeenBy_96 : decode cX11_isAllSeenBy 96 = .ok (.iinc 2 1, 3) := by decide +kernel
theorem dX11_isAllSeenBy_99 : decode cX11_isAllSeenBy 99 = .ok (.goto (-97), 3) := by decide +kernel
theorem dX11_isAllSeenBy_102 : decode cX11_isAllSeenBy 102 = .ok (.iconst 1, 1) := by decide +kernel
theorem dX11_isAllSeenBy_103 : decode cX11_isAllSeenBy 103 = .ok (.ireturn, 1) := by decide +kernel
theorem dX11_dark_0 : decode cX11_dark 0 = .ok (.aload_n 0, 1) := by decide +kernel
theorem dX11_dark_1 : decode cX11_dark 1 = .ok (.getfield 51, 3) := by decide +kernel
theorem dX11_dark_4 : decode cX11_dark 4 = .ok (.iload_n 1, 1) := by decide +kernel
theorem dX11_dark_5 : decode cX11_dark 5 = .ok (.invokevirtual 105, 3) := by decide +kernel
theorem dX11_dark_8 : decode cX11_dark 8 = .ok (.ifCond .eq 28, 3) := by decide +kernel
theorem dX11_dark_11 : decode cX11_dark 11 = .ok (.iload_n 2, 1) := by decide +kernel
theorem dX11_dark_12 : decode cX11_dark 12 = .ok (.ifCond .lt 24, 3) := by decide +kernel
theorem dX11_dark_15 : decode cX11_dark 15 = .ok (.iload_n 2, 1) := by decide +kernel
theorem dX11_dark_16 : decode cX11_dark 16 = .ok (.iconst 1, 1) := by decide +kernel
theorem dX11_dark_17 : decode cX11_dark 17 = .ok (.aload_n 0, 1) := by decide +kernel
theorem dX11_dark_18 : decode cX11_dark 18 = .ok (.getfield 51, 3) := by decide +kernel
theorem dX11_dark_21 : decode cX11_dark 21 = .ok (.getfield 164, 3) := by decide +kernel
theorem dX11_dark_24 : decode cX11_dark 24 = .ok (.invokevirtual 111, 3) := by decide +kernel
theorem dX11_dark_27 : decode cX11_dark 27 = .ok (.ishl, 1) := by decide +kernel
theorem dX11_dark_28 : decode cX11_dark 28 = .ok (.if_icmp .ge 8, 3) := by decide +kernel
theorem dX11_dark_31 : decode cX11_dark 31 = .ok (.iload_n 3, 1) := by decide +kernel
theorem dX11_dark_32 : decode cX11_dark 32 = .ok (.iconst (-1), 1) := by decide +kernel
theorem dX11_dark_33 : decode cX11_dark 33 = .ok (.if_icmp .ge 5, 3) := by decide +kernel
theorem dX11_dark_36 : decode cX11_dark 36 = .ok (.iconst (-1), 1) := by decide +kernel
theorem dX11_dark_37 : decode cX11_dark 37 = .ok (.ireturn, 1) := by decide +kernel
theorem dX11_dark_38 : decode cX11_dark 38 = .ok (.iconst 0, 1) := by decide +kernel
theorem dX11_dark_39 : decode cX11_dark 39 = .ok (.istore 4, 2) := by decide +kernel
theorem dX11_dark_41 : decode cX11_dark 41 = .ok (.iconst 0, 1) := by decide +kernel
theorem dX11_dark_42 : decode cX11_dark 42 = .ok (.istore 5, 2) := by decide +kernel
theorem dX11_dark_44 : decode cX11_dark 44 = .ok (.iload 5, 2) := by decide +kernel
theorem dX11_dark_46 : decode cX11_dark 46 = .ok (.aload_n 0, 1) := by decide +kernel
theorem dX11_dark_47 : decode cX11_dark 47 = .ok (.getfield 51, 3) := by decide +kernel
theorem dX11_dark_50 : decode cX11_dark 50 = .ok (.invokevirtual 230, 3) := by decide +kernel
theorem dX11_dark_53 : decode cX11_dark 53 = .ok (.if_icmp .ge 44, 3) := by decide +kernel
theorem dX11_dark_56 : decode cX11_dark 56 = .ok (.aload_n 0, 1) := by decide +kernel
theorem dX11_dark_57 : decode cX11_dark 57 = .ok (.getfield 51, 3) := by decide +kernel
theorem dX11_dark_60 : decode cX11_dark 60 = .ok (.iload 5, 2) := by decide +kernel
theorem dX11_dark_62 : decode cX11_dark 62 = .ok (.invokevirtual 102, 3) := by decide +kernel
theorem dX11_dark_65 : decode cX11_dark 65 = .ok (.ifCond .eq 26, 3) := by decide +kernel
theorem dX11_dark_68 : decode cX11_dark 68 = .ok (.aload_n 0, 1) := by decide +kernel
theorem dX11_dark_69 : decode cX11_dark 69 = .ok (.iload_n 1, 1) := by decide +kernel
theorem dX11_dark_70 : decode cX11_dark 70 = .ok (.iload 5, 2) := by decide +kernel
theorem dX11_dark_72 : decode cX11_dark 72 = .ok (.invokevirtual 256, 3) := by decide +kernel
theorem dX11_dark_75 : decode cX11_dark 75 = .ok (.iload_n 2, 1) := by decide +kernel
theorem dX11_dark_76 : decode cX11_dark 76 = .ok (.if_icmp .ne 15, 3) := by decide +kernel
theorem dX11_dark_79 : decode cX11_dark 79 = .ok (.iload 4, 2) := by decide +kernel
theorem dX11_dark_81 : decode cX11_dark 81 = .ok (.iload_n 3, 1) := by decide +kernel
theorem dX11_dark_82 : decode cX11_dark 82 = .ok (.if_icmp .ne 6, 3) := by decide +kernel
theorem dX11_dark_85 : decode cX11_dark 85 = .ok (.iload 5, 2) := by decide +kernel
theorem dX11_dark_87 : decode cX11_dark 87 = .ok (.ireturn, 1) := by decide +kernel
theorem dX11_dark_88 : decode cX11_dark 88 = .ok (.iinc 4 1, 3) := by decide +kernel
theorem dX11_dark_91 : decode cX11_dark 91 = .ok (.iinc 5 1, 3) := by decide +kernel
theorem dX11_dark_94 : decode cX11_dark 94 = .ok (.goto (-50), 3) := by decide +kernel
theorem dX11_dark_97 : decode cX11_dark 97 = .ok (.iload_n 3, 1) := by decide +kernel
theorem dX11_dark_98 : decode cX11_dark 98 = .ok (.iconst (-1), 1) := by decide +kernel
theorem dX11_dark_99 : decode cX11_dark 99 = .ok (.if_icmp .ne 8, 3) := by decide +kernel
theorem dX11_dark_102 : decode cX11_dark 102 = .ok (.iload 4, 2) := by decide +kernel
theorem dX11_dark_104 : decode cX11_dark 104 = .ok (.goto 4, 3) := by decide +kernel
theorem dX11_dark_107 : decode cX11_dark 107 = .ok (.iconst (-1), 1) := by decide +kernel
theorem dX11_dark_108 : decode cX11_dark 108 = .ok (.ireturn, 1) := by decide +kernel
theorem dX11_bumpsFrom_0 : decode cX11_bumpsFrom 0 = .ok (.iload_n 2, 1) := by decide +kernel
theorem dX11_bumpsFrom_1 : decode cX11_bumpsFrom 1 = .ok (.istore_n 3, 1) := by decide +kernel
theorem dX11_bumpsFrom_2 : decode cX11_bumpsFrom 2 = .ok (.iconst 0, 1) := by decide +kernel
theorem dX11_bumpsFrom_3 : decode cX11_bumpsFrom 3 = .ok (.istore 4, 2) := by decide +kernel
theorem dX11_bumpsFrom_5 : decode cX11_bumpsFrom 5 = .ok (.iconst 0, 1) := by decide +kernel
theorem dX11_bumpsFrom_6 : decode cX11_bumpsFrom 6 = .ok (.istore 5, 2) := by decide +kernel
theorem dX11_bumpsFrom_8 : decode cX11_bumpsFrom 8 = .ok (.iload 5, 2) := by decide +kernel
theorem dX11_bumpsFrom_10 : decode cX11_bumpsFrom 10 = .ok (.aload_n 0, 1) := by decide +kernel
theorem dX11_bumpsFrom_11 : decode cX11_bumpsFrom 11 = .ok (.getfield 51, 3) := by decide +kernel
theorem dX11_bumpsFrom_14 : decode cX11_bumpsFrom 14 = .ok (.getfield 164, 3) := by decide +kernel
theorem dX11_bumpsFrom_17 : decode cX11_bumpsFrom 17 = .ok (.invokevirtual 111, 3) := by decide +kernel
theorem dX11_bumpsFrom_20 : decode cX11_bumpsFrom 20 = .ok (.if_icmp .ge 59, 3) := by decide +kernel
theorem dX11_bumpsFrom_23 : decode cX11_bumpsFrom 23 = .ok (.aload_n 0, 1) := by decide +kernel
theorem dX11_bumpsFrom_24 : decode cX11_bumpsFrom 24 = .ok (.getfield 63, 3) := by decide +kernel
theorem dX11_bumpsFrom_27 : decode cX11_bumpsFrom 27 = .ok (.iload_n 1, 1) := by decide +kernel
theorem dX11_bumpsFrom_28 : decode cX11_bumpsFrom 28 = .ok (.iload_n 3, 1) := by decide +kernel
theorem dX11_bumpsFrom_29 : decode cX11_bumpsFrom 29 = .ok (.aload_n 0, 1) := by decide +kernel
theorem dX11_bumpsFrom_30 : decode cX11_bumpsFrom 30 = .ok (.getfield 51, 3) := by decide +kernel
theorem dX11_bumpsFrom_33 : decode cX11_bumpsFrom 33 = .ok (.getfield 164, 3) := by decide +kernel
theorem dX11_bumpsFrom_36 : decode cX11_bumpsFrom 36 = .ok (.iload 5, 2) := by decide +kernel
theorem dX11_bumpsFrom_38 : decode cX11_bumpsFrom 38 = .ok (.invokevirtual 157, 3) := by decide +kernel
theorem dX11_bumpsFrom_41 : decode cX11_bumpsFrom 41 = .ok (.invokevirtual 147, 3) := by decide +kernel
theorem dX11_bumpsFrom_44 : decode cX11_bumpsFrom 44 = .ok (.istore 6, 2) := by decide +kernel
theorem dX11_bumpsFrom_46 : decode cX11_bumpsFrom 46 = .ok (.iload 4, 2) := by decide +kernel
theorem dX11_bumpsFrom_48 : decode cX11_bumpsFrom 48 = .ok (.iload 6, 2) := by decide +kernel
theorem dX11_bumpsFrom_50 : decode cX11_bumpsFrom 50 = .ok (.invokestatic 167, 3) := by decide +kernel
theorem dX11_bumpsFrom_53 : decode cX11_bumpsFrom 53 = .ok (.ifCond .eq 10, 3) := by decide +kernel
theorem dX11_bumpsFrom_56 : decode cX11_bumpsFrom 56 = .ok (.iconst 1, 1) := by decide +kernel
theorem dX11_bumpsFrom_57 : decode cX11_bumpsFrom 57 = .ok (.iload 5, 2) := by decide +kernel
theorem dX11_bumpsFrom_59 : decode cX11_bumpsFrom 59 = .ok (.ishl, 1) := by decide +kernel
theorem dX11_bumpsFrom_60 : decode cX11_bumpsFrom 60 = .ok (.goto 4, 3) := by decide +kernel
theorem dX11_bumpsFrom_63 : decode cX11_bumpsFrom 63 = .ok (.iconst 0, 1) := by decide +kernel
theorem dX11_bumpsFrom_64 : decode cX11_bumpsFrom 64 = .ok (.ior, 1) := by decide +kernel
theorem dX11_bumpsFrom_65 : decode cX11_bumpsFrom 65 = .ok (.istore 4, 2) := by decide +kernel
theorem dX11_bumpsFrom_67 : decode cX11_bumpsFrom 67 = .ok (.iload 6, 2) := by decide +kernel
theorem dX11_bumpsFrom_69 : decode cX11_bumpsFrom 69 = .ok (.invokestatic 161, 3) := by decide +kernel
theorem dX11_bumpsFrom_72 : decode cX11_bumpsFrom 72 = .ok (.istore_n 3, 1) := by decide +kernel
theorem dX11_bumpsFrom_73 : decode cX11_bumpsFrom 73 = .ok (.iinc 5 1, 3) := by decide +kernel
theorem dX11_bumpsFrom_76 : decode cX11_bumpsFrom 76 = .ok (.goto (-68), 3) := by decide +kernel
theorem dX11_bumpsFrom_79 : decode cX11_bumpsFrom 79 = .ok (.iload 4, 2) := by decide +kernel
theorem dX11_bumpsFrom_81 : decode cX11_bumpsFrom 81 = .ok (.ireturn, 1) := by decide +kernel
theorem dX11_rider_0 : decode cX11_rider 0 = .ok (.aload_n 0, 1) := by decide +kernel
theorem dX11_rider_1 : decode cX11_rider 1 = .ok (.getfield 51, 3) := by decide +kernel
theorem dX11_rider_4 : decode cX11_rider 4 = .ok (.getfield 259, 3) := by decide +kernel
theorem dX11_rider_7 : decode cX11_rider 7 = .ok (.iload_n 1, 1) := by decide +kernel
theorem dX11_rider_8 : decode cX11_rider 8 = .ok (.invokestatic 262, 3) := by decide +kernel
theorem dX11_rider_11 : decode cX11_rider 11 = .ok (.ireturn, 1) := by decide +kernel
theorem dX11_carrier_0 : decode cX11_carrier 0 = .ok (.aload_n 0, 1) := by decide +kernel
theorem dX11_carrier_1 : decode cX11_carrier 1 = .ok (.getfield 51, 3) := by decide +kernel
theorem dX11_carrier_4 : decode cX11_carrier 4 = .ok (.getfield 266, 3) := by decide +kernel
theorem dX11_carrier_7 : decode cX11_carrier 7 = .ok (.iload_n 1, 1) := by decide +kernel
theorem dX11_carrier_8 : decode cX11_carrier 8 = .ok (.invokestatic 262, 3) := by decide +kernel
theorem dX11_carrier_11 : decode cX11_carrier 11 = .ok (.ireturn, 1) := by decide +kernel
theorem dX11_addToSide_0 : decode cX11_addToSide 0 = .ok (.iload_n 1, 1) := by decide +kernel
theorem dX11_addToSide_1 : decode cX11_addToSide 1 = .ok (.ifCond .lt 18, 3) := by decide +kernel
theorem dX11_addToSide_4 : decode cX11_addToSide 4 = .ok (.iload_n 1, 1) := by decide +kernel
theorem dX11_addToSide_5 : decode cX11_addToSide 5 = .ok (.bipush 9, 2) := by decide +kernel
theorem dX11_addToSide_7 : decode cX11_addToSide 7 = .ok (.if_icmp .gt 12, 3) := by decide +kernel
theorem dX11_addToSide_10 : decode cX11_addToSide 10 = .ok (.aload_n 0, 1) := by decide +kernel
theorem dX11_addToSide_11 : decode cX11_addToSide 11 = .ok (.invokevirtual 111, 3) := by decide +kernel
theorem dX11_addToSide_14 : decode cX11_addToSide 14 = .ok (.bipush 6, 2) := by decide +kernel
theorem dX11_addToSide_16 : decode cX11_addToSide 16 = .ok (.if_icmp .lt 5, 3) := by decide +kernel
theorem dX11_addToSide_19 : decode cX11_addToSide 19 = .ok (.iconst (-1), 1) := by decide +kernel
theorem dX11_addToSide_20 : decode cX11_addToSide 20 = .ok (.ireturn, 1) := by decide +kernel
theorem dX11_addToSide_21 : decode cX11_addToSide 21 = .ok (.aload_n 0, 1) := by decide +kernel
theorem dX11_addToSide_22 : decode cX11_addToSide 22 = .ok (.iload_n 1, 1) := by decide +kernel
theorem dX11_addToSide_23 : decode cX11_addToSide 23 = .ok (.invokevirtual 115, 3) := by decide +kernel
theorem dX11_addToSide_26 : decode cX11_addToSide 26 = .ok (.aload_n 0, 1) := by decide +kernel
theorem dX11_addToSide_27 : decode cX11_addToSide 27 = .ok (.invokevirtual 111, 3) := by decide +kernel
theorem dX11_addToSide_30 : decode cX11_addToSide 30 = .ok (.ireturn, 1) := by decide +kernel
theorem dX11_wed_0 : decode cX11_wed 0 = .ok (.aload_n 0, 1) := by decide +kernel
theorem dX11_wed_1 : decode cX11_wed 1 = .ok (.getfield 51, 3) := by decide +kernel
theorem dX11_wed_4 : decode cX11_wed 4 = .ok (.iload_n 1, 1) := by decide +kernel
theorem dX11_wed_5 : decode cX11_wed 5 = .ok (.invokevirtual 269, 3) := by decide +kernel
theorem dX11_wed_8 : decode cX11_wed 8 = .ok (.astore 4, 2) := by decide +kernel
theorem dX11_wed_10 : decode cX11_wed 10 = .ok (.aload 4, 2) := by decide +kernel
theorem dX11_wed_12 : decode cX11_wed 12 = .ok (.ifnull 30, 3) := by decide +kernel
theorem dX11_wed_15 : decode cX11_wed 15 = .ok (.iload_n 2, 1) := by decide +kernel
theorem dX11_wed_16 : decode cX11_wed 16 = .ok (.ifCond .lt 26, 3) := by decide +kernel
theorem dX11_wed_19 : decode cX11_wed 19 = .ok (.iload_n 2, 1) := by decide +kernel
theorem dX11_wed_20 : decode cX11_wed 20 = .ok (.iconst 1, 1) := by decide +kernel
theorem dX11_wed_21 : decode cX11_wed 21 = .ok (.if_icmp .gt 21, 3) := by decide +kernel
theorem dX11_wed_24 : decode cX11_wed 24 = .ok (.iload_n 3, 1) := by decide +kernel
theorem dX11_wed_25 : decode cX11_wed 25 = .ok (.ifCond .lt 17, 3) := by decide +kernel
theorem dX11_wed_28 : decode cX11_wed 28 = .ok (.iload_n 3, 1) := by decide +kernel
theorem dX11_wed_29 : decode cX11_wed 29 = .ok (.aload_n 0, 1) := by decide +kernel
theorem dX11_wed_30 : decode cX11_wed 30 = .ok (.getfield 51, 3) := by decide +kernel
theorem dX11_wed_33 : decode cX11_wed 33 = .ok (.getfield 259, 3) := by decide +kernel
theorem dX11_wed_36 : decode cX11_wed 36 = .ok (.invokevirtual 111, 3) := by decide +kernel
theorem dX11_wed_39 : decode cX11_wed 39 = .ok (.if_icmp .lt 5, 3) := by decide +kernel
theorem dX11_wed_42 : decode cX11_wed 42 = .ok (.iconst (-1), 1) := by decide +kernel
theorem dX11_wed_43 : decode cX11_wed 43 = .ok (.ireturn, 1) := by decide +kernel
theorem dX11_wed_44 : decode cX11_wed 44 = .ok (.aload_n 0, 1) := by decide +kernel
theorem dX11_wed_45 : decode cX11_wed 45 = .ok (.getfield 70, 3) := by decide +kernel
theorem dX11_wed_48 : decode cX11_wed 48 = .ok (.iload_n 3, 1) := by decide +kernel
theorem dX11_wed_49 : decode cX11_wed 49 = .ok (.iload_n 2, 1) := by decide +kernel
theorem dX11_wed_50 : decode cX11_wed 50 = .ok (.aload 4, 2) := by decide +kernel
theorem dX11_wed_52 : decode cX11_wed 52 = .ok (.invokevirtual 273, 3) := by decide +kernel
theorem dX11_wed_55 : decode cX11_wed 55 = .ok (.ireturn, 1) := by decide +kernel
theorem dX11_crowd_0 : decode cX11_crowd 0 = .ok (.aload_n 0, 1) := by decide +kernel
theorem dX11_crowd_1 : decode cX11_crowd 1 = .ok (.getfield 51, 3) := by decide +kernel
theorem dX11_crowd_4 : decode cX11_crowd 4 = .ok (.iload_n 1, 1) := by decide +kernel
theorem dX11_crowd_5 : decode cX11_crowd 5 = .ok (.invokevirtual 83, 3) := by decide +kernel
theorem dX11_crowd_8 : decode cX11_crowd 8 = .ok (.ifCond .eq 14, 3) := by decide +kernel
theorem dX11_crowd_11 : decode cX11_crowd 11 = .ok (.aload_n 0, 1) := by decide +kernel
theorem dX11_crowd_12 : decode cX11_crowd 12 = .ok (.getfield 79, 3) := by decide +kernel
theorem dX11_crowd_15 : decode cX11_crowd 15 = .ok (.iload_n 1, 1) := by decide +kernel
theorem dX11_crowd_16 : decode cX11_crowd 16 = .ok (.invokevirtual 277, 3) := by decide +kernel
theorem dX11_crowd_19 : decode cX11_crowd 19 = .ok (.goto 4, 3) := by decide +kernel
theorem dX11_crowd_22 : decode cX11_crowd 22 = .ok (.iconst (-1), 1) := by decide +kernel
theorem dX11_crowd_23 : decode cX11_crowd 23 = .ok (.ireturn, 1) := by decide +kernel
theorem dX11_chase_0 : decode cX11_chase 0 = .ok (.aload_n 0, 1) := by decide +kernel
theorem dX11_chase_1 : decode cX11_chase 1 = .ok (.iload_n 1, 1) := by decide +kernel
theorem dX11_chase_2 : decode cX11_chase 2 = .ok (.iload_n 2, 1) := by decide +kernel
theorem dX11_chase_3 : decode cX11_chase 3 = .ok (.iload_n 3, 1) := by decide +kernel
theorem dX11_chase_4 : decode cX11_chase 4 = .ok (.iload 4, 2) := by decide +kernel
theorem dX11_chase_6 : decode cX11_chase 6 = .ok (.invokevirtual 280, 3) := by decide +kernel
theorem dX11_chase_9 : decode cX11_chase 9 = .ok (.ifCond .ne 5, 3) := by decide +kernel
theorem dX11_chase_12 : decode cX11_chase 12 = .ok (.iconst (-1), 1) := by decide +kernel
theorem dX11_chase_13 : decode cX11_chase 13 = .ok (.ireturn, 1) := by decide +kernel
theorem dX11_chase_14 : decode cX11_chase 14 = .ok (.aload_n 0, 1) := by decide +kernel
theorem dX11_chase_15 : decode cX11_chase 15 = .ok (.invokevirtual 284, 3) := by decide +kernel
theorem dX11_chase_18 : decode cX11_chase 18 = .ok (.iload_n 1, 1) := by decide +kernel
theorem dX11_chase_19 : decode cX11_chase 19 = .ok (.iload_n 2, 1) := by decide +kernel
theorem dX11_chase_20 : decode cX11_chase 20 = .ok (.iload_n 3, 1) := by decide +kernel
theorem dX11_chase_21 : decode cX11_chase 21 = .ok (.iload 4, 2) := by decide +kernel
theorem dX11_chase_23 : decode cX11_chase 23 = .ok (.invokevirtual 288, 3) := by decide +kernel
theorem dX11_chase_26 : decode cX11_chase 26 = .ok (.ireturn, 1) := by decide +kernel
theorem dX11_hunt_0 : decode cX11_hunt 0 = .ok (.aload_n 0, 1) := by decide +kernel
theorem dX11_hunt_1 : decode cX11_hunt 1 = .ok (.iload_n 1, 1) := by decide +kernel
theorem dX11_hunt_2 : decode cX11_hunt 2 = .ok (.iload_n 2, 1) := by decide +kernel
theorem dX11_hunt_3 : decode cX11_hunt 3 = .ok (.iload_n 3, 1) := by decide +kernel
theorem dX11_hunt_4 : decode cX11_hunt 4 = .ok (.iload 4, 2) := by decide +kernel
theorem dX11_hunt_6 : decode cX11_hunt 6 = .ok (.invokevirtual 280, 3) := by decide +kernel
theorem dX11_hunt_9 : decode cX11_hunt 9 = .ok (.ifCond .ne 5, 3) := by decide +kernel
theorem dX11_hunt_12 : decode cX11_hunt 12 = .ok (.iconst (-1), 1) := by decide +kernel
theorem dX11_hunt_13 : decode cX11_hunt 13 = .ok (.ireturn, 1) := by decide +kernel
theorem dX11_hunt_14 : decode cX11_hunt 14 = .ok (.aload_n 0, 1) := by decide +kernel
theorem dX11_hunt_15 : decode cX11_hunt 15 = .ok (.invokevirtual 284, 3) := by decide +kernel
theorem dX11_hunt_18 : decode cX11_hunt 18 = .ok (.iload_n 1, 1) := by decide +kernel
theorem dX11_hunt_19 : decode cX11_hunt 19 = .ok (.iload_n 2, 1) := by decide +kernel
theorem dX11_hunt_20 : decode cX11_hunt 20 = .ok (.iload_n 3, 1) := by decide +kernel
theorem dX11_hunt_21 : decode cX11_hunt 21 = .ok (.iload 4, 2) := by decide +kernel
theorem dX11_hunt_23 : decode cX11_hunt 23 = .ok (.invokevirtual 288, 3) := by decide +kernel
theorem dX11_hunt_26 : decode cX11_hunt 26 = .ok (.istore 5, 2) := by decide +kernel
theorem dX11_hunt_28 : decode cX11_hunt 28 = .ok (.iload 5, 2) := by decide +kernel
theorem dX11_hunt_30 : decode cX11_hunt 30 = .ok (.ifCond .gt 7, 3) := by decide +kernel
theorem dX11_hunt_33 : decode cX11_hunt 33 = .ok (.iconst (-1), 1) := by decide +kernel
theorem dX11_hunt_34 : decode cX11_hunt 34 = .ok (.goto 16, 3) := by decide +kernel
theorem dX11_hunt_37 : decode cX11_hunt 37 = .ok (.aload_n 0, 1) := by decide +kernel
theorem dX11_hunt_38 : decode cX11_hunt 38 = .ok (.invokevirtual 284, 3) := by decide +kernel
theorem dX11_hunt_41 : decode cX11_hunt 41 = .ok (.iload_n 1, 1) := by decide +kernel
theorem dX11_hunt_42 : decode cX11_hunt 42 = .ok (.iload_n 2, 1) := by decide +kernel
theorem dX11_hunt_43 : decode cX11_hunt 43 = .ok (.iload 4, 2) := by decide +kernel
theorem dX11_hunt_45 : decode cX11_hunt 45 = .ok (.iload 5, 2) := by decide +kernel
theorem dX11_hunt_47 : decode cX11_hunt 47 = .ok (.invokevirtual 294, 3) := by decide +kernel
theorem dX11_hunt_50 : decode cX11_hunt 50 = .ok (.ireturn, 1) := by decide +kernel
theorem dX11_isChase_0 : decode cX11_isChase 0 = .ok (.aload_n 0, 1) := by decide +kernel
theorem dX11_isChase_1 : decode cX11_isChase 1 = .ok (.getfield 51, 3) := by decide +kernel
theorem dX11_isChase_4 : decode cX11_isChase 4 = .ok (.iload_n 1, 1) := by decide +kernel
theorem dX11_isChase_5 : decode cX11_isChase 5 = .ok (.invokevirtual 105, 3) := by decide +kernel
theorem dX11_isChase_8 : decode cX11_isChase 8 = .ok (.ifCond .eq 41, 3) := by decide +kernel
theorem dX11_isChase_11 : decode cX11_isChase 11 = .ok (.aload_n 0, 1) := by decide +kernel
theorem dX11_isChase_12 : decode cX11_isChase 12 = .ok (.getfield 51, 3) := by decide +kernel
theorem dX11_isChase_15 : decode cX11_isChase 15 = .ok (.iload_n 2, 1) := by decide +kernel
theorem dX11_isChase_16 : decode cX11_isChase 16 = .ok (.invokevirtual 102, 3) := by decide +kernel
theorem dX11_isChase_19 : decode cX11_isChase 19 = .ok (.ifCond .eq 30, 3) := by decide +kernel
theorem dX11_isChase_22 : decode cX11_isChase 22 = .ok (.aload_n 0, 1) := by decide +kernel
theorem dX11_isChase_23 : decode cX11_isChase 23 = .ok (.getfield 51, 3) := by decide +kernel
theorem dX11_isChase_26 : decode cX11_isChase 26 = .ok (.iload_n 3, 1) := by decide +kernel
theorem dX11_isChase_27 : decode cX11_isChase 27 = .ok (.invokevirtual 105, 3) := by decide +kernel
theorem dX11_isChase_30 : decode cX11_isChase 30 = .ok (.ifCond .eq 19, 3) := by decide +kernel
theorem dX11_isChase_33 : decode cX11_isChase 33 = .ok (.aload_n 0, 1) := by decide +kernel
theorem dX11_isChase_34 : decode cX11_isChase 34 = .ok (.getfield 51, 3) := by decide +kernel
theorem dX11_isChase_37 : decode cX11_isChase 37 = .ok (.iload 4, 2) := by decide +kernel
theorem dX11_isChase_39 : decode cX11_isChase 39 = .ok (.invokevirtual 102, 3) := by decide +kernel
theorem dX11_isChase_42 : decode cX11_isChase 42 = .ok (.ifCond .eq 7, 3) := by decide +kernel
theorem dX11_isChase_45 : decode cX11_isChase 45 = .ok (.iconst 1, 1) := by decide +kernel
theorem dX11_isChase_46 : decode cX11_isChase 46 = .ok (.goto 4, 3) := by decide +kernel
theorem dX11_isChase_49 : decode cX11_isChase 49 = .ok (.iconst 0, 1) := by decide +kernel
theorem dX11_isChase_50 : decode cX11_isChase 50 = .ok (.ireturn, 1) := by decide +kernel
theorem dX11_pursuer_0 : decode cX11_pursuer 0 = .ok (.aload_n 0, 1) := by decide +kernel
theorem dX11_pursuer_1 : decode cX11_pursuer 1 = .ok (.getfield 297, 3) := by decide +kernel
theorem dX11_pursuer_4 : decode cX11_pursuer 4 = .ok (.ifnonnull 22, 3) := by decide +kernel
theorem dX11_pursuer_7 : decode cX11_pursuer 7 = .ok (.aload_n 0, 1) := by decide +kernel
theorem dX11_pursuer_8 : decode cX11_pursuer 8 = .ok (.new 289, 3) := by decide +kernel
theorem dX11_pursuer_11 : decode cX11_pursuer 11 = .ok (.dup, 1) := by decide +kernel
theorem dX11_pursuer_12 : decode cX11_pursuer 12 = .ok (.aload_n 0, 1) := by decide +kernel
theorem dX11_pursuer_13 : decode cX11_pursuer 13 = .ok (.getfield 51, 3) := by decide +kernel
theorem dX11_pursuer_16 : decode cX11_pursuer 16 = .ok (.aload_n 0, 1) := by decide +kernel
theorem dX11_pursuer_17 : decode cX11_pursuer 17 = .ok (.getfield 63, 3) := by decide +kernel
theorem dX11_pursuer_20 : decode cX11_pursuer 20 = .ok (.invokespecial 301, 3) := by decide +kernel
theorem dX11_pursuer_23 : decode cX11_pursuer 23 = .ok (.putfield 297, 3) := by decide +kernel
theorem dX11_pursuer_26 : decode cX11_pursuer 26 = .ok (.aload_n 0, 1) := by decide +kernel
theorem dX11_pursuer_27 : decode cX11_pursuer 27 = .ok (.getfield 297, 3) := by decide +kernel
theorem dX11_pursuer_30 : decode cX11_pursuer 30 = .ok (.areturn, 1) := by decide +kernel
theorem dX11_image_0 : decode cX11_image 0 = .ok (.aload_n 0, 1) := by decide +kernel
theorem dX11_image_1 : decode cX11_image 1 = .ok (.getfield 55, 3) := by decide +kernel
theorem dX11_image_4 : decode cX11_image 4 = .ok (.aload_n 0, 1) := by decide +kernel
theorem dX11_image_5 : decode cX11_image 5 = .ok (.getfield 51, 3) := by decide +kernel
theorem dX11_image_8 : decode cX11_image 8 = .ok (.invokevirtual 302, 3) := by decide +kernel
theorem dX11_image_11 : decode cX11_image 11 = .ok (.aload_n 0, 1) := by decide +kernel
theorem dX11_image_12 : decode cX11_image 12 = .ok (.getfield 51, 3) := by decide +kernel
theorem dX11_image_15 : decode cX11_image 15 = .ok (.getfield 108, 3) := by decide +kernel
theorem dX11_image_18 : decode cX11_image 18 = .ok (.invokevirtual 111, 3) := by decide +kernel
theorem dX11_image_21 : decode cX11_image 21 = .ok (.ireturn, 1) := by decide +kernel
theorem dX11_back_0 : decode cX11_back 0 = .ok (.aload_n 0, 1) := by decide +kernel
theorem dX11_back_1 : decode cX11_back 1 = .ok (.getfield 51, 3) := by decide +kernel
theorem dX11_back_4 : decode cX11_back 4 = .ok (.aload_n 0, 1) := by decide +kernel
theorem dX11_back_5 : decode cX11_back 5 = .ok (.getfield 55, 3) := by decide +kernel
theorem dX11_back_8 : decode cX11_back 8 = .ok (.invokevirtual 302, 3) := by decide +kernel
theorem dX11_back_11 : decode cX11_back 11 = .ok (.aload_n 0, 1) := by decide +kernel
theorem dX11_back_12 : decode cX11_back 12 = .ok (.getfield 63, 3) := by decide +kernel
theorem dX11_back_15 : decode cX11_back 15 = .ok (.invokevirtual 99, 3) := by decide +kernel
theorem dX11_back_18 : decode cX11_back 18 = .ok (.aload_n 0, 1) := by decide +kernel
theorem dX11_back_19 : decode cX11_back 19 = .ok (.getfield 51, 3) := by decide +kernel
theorem dX11_back_22 : decode cX11_back 22 = .ok (.getfield 108, 3) := by decide +kernel
theorem dX11_back_25 : decode cX11_back 25 = .ok (.invokevirtual 111, 3) := by decide +kernel
theorem dX11_back_28 : decode cX11_back 28 = .ok (.ireturn, 1) := by decide +kernel
theorem dX11_about_0 : decode cX11_about 0 = .ok (.iload_n 1, 1) := by decide +kernel
theorem dX11_about_1 : decode cX11_about 1 = .ok (.tableswitch 153 0 9 #[55, 63, 71, 82, 90, 101, 112, 123, 134, 145], 55) := by decide +kernel
theorem dX11_about_56 : decode cX11_about 56 = .ok (.aload_n 0, 1) := by decide +kernel
theorem dX11_about_57 : decode cX11_about 57 = .ok (.getfield 51, 3) := by decide +kernel
theorem dX11_about_60 : decode cX11_about 60 = .ok (.getfield 306, 3) := by decide +kernel
theorem dX11_about_63 : decode cX11_about 63 = .ok (.ireturn, 1) := by decide +kernel
theorem dX11_about_64 : decode cX11_about 64 = .ok (.aload_n 0, 1) := by decide +kernel
theorem dX11_about_65 : decode cX11_about 65 = .ok (.getfield 51, 3) := by decide +kernel
theorem dX11_about_68 : decode cX11_about 68 = .ok (.getfield 309, 3) := by decide +kernel
theorem dX11_about_71 : decode cX11_about 71 = .ok (.ireturn, 1) := by decide +kernel
theorem dX11_about_72 : decode cX11_about 72 = .ok (.aload_n 0, 1) := by decide +kernel
theorem dX11_about_73 : decode cX11_about 73 = .ok (.getfield 51, 3) := by decide +kernel
theorem dX11_about_76 : decode cX11_about 76 = .ok (.getfield 108, 3) := by decide +kernel
theorem dX11_about_79 : decode cX11_about 79 = .ok (.invokevirtual 111, 3) := by decide +kernel
theorem dX11_about_82 : decode cX11_about 82 = .ok (.ireturn, 1) := by decide +kernel
theorem dX11_about_83 : decode cX11_about 83 = .ok (.aload_n 0, 1) := by decide +kernel
theorem dX11_about_84 : decode cX11_about 84 = .ok (.getfield 51, 3) := by decide +kernel
theorem dX11_about_87 : decode cX11_about 87 = .ok (.getfield 127, 3) := by decide +kernel
theorem dX11_about_90 : decode cX11_about 90 = .ok (.ireturn, 1) := by decide +kernel
theorem dX11_about_91 : decode cX11_about 91 = .ok (.aload_n 0, 1) := by decide +kernel
theorem dX11_about_92 : decode cX11_about 92 = .ok (.getfield 51, 3) := by decide +kernel
theorem dX11_about_95 : decode cX11_about 95 = .ok (.getfield 164, 3) := by decide +kernel
theorem dX11_about_98 : decode cX11_about 98 = .ok (.invokevirtual 111, 3) := by decide +kernel
theorem dX11_about_101 : decode cX11_about 101 = .ok (.ireturn, 1) := by decide +kernel
theorem dX11_about_102 : decode cX11_about 102 = .ok (.aload_n 0, 1) := by decide +kernel
theorem dX11_about_103 : decode cX11_about 103 = .ok (.getfield 51, 3) := by decide +kernel
theorem dX11_about_106 : decode cX11_about 106 = .ok (.getfield 170, 3) := by decide +kernel
theorem dX11_about_109 : decode cX11_about 109 = .ok (.invokevirtual 111, 3) := by decide +kernel
theorem dX11_about_112 : decode cX11_about 112 = .ok (.ireturn, 1) := by decide +kernel
theorem dX11_about_113 : decode cX11_about 113 = .ok (.aload_n 0, 1) := by decide +kernel
theorem dX11_about_114 : decode cX11_about 114 = .ok (.getfield 51, 3) := by decide +kernel
theorem dX11_about_117 : decode cX11_about 117 = .ok (.getfield 244, 3) := by decide +kernel
theorem dX11_about_120 : decode cX11_about 120 = .ok (.invokevirtual 111, 3) := by decide +kernel
theorem dX11_about_123 : decode cX11_about 123 = .ok (.ireturn, 1) := by decide +kernel
theorem dX11_about_124 : decode cX11_about 124 = .ok (.aload_n 0, 1) := by decide +kernel
theorem dX11_about_125 : decode cX11_about 125 = .ok (.getfield 51, 3) := by decide +kernel
theorem dX11_about_128 : decode cX11_about 128 = .ok (.getfield 259, 3) := by decide +kernel
theorem dX11_about_131 : decode cX11_about 131 = .ok (.invokevirtual 111, 3) := by decide +kernel
theorem dX11_about_134 : decode cX11_about 134 = .ok (.ireturn, 1) := by decide +kernel
theorem dX11_about_135 : decode cX11_about 135 = .ok (.aload_n 0, 1) := by decide +kernel
theorem dX11_about_136 : decode cX11_about 136 = .ok (.getfield 51, 3) := by decide +kernel
theorem dX11_about_139 : decode cX11_about 139 = .ok (.getfield 266, 3) := by decide +kernel
theorem dX11_about_142 : decode cX11_about 142 = .ok (.invokevirtual 111, 3) := by decide +kernel
theorem dX11_about_145 : decode cX11_about 145 = .ok (.ireturn, 1) := by decide +kernel
theorem dX11_about_146 : decode cX11_about 146 = .ok (.aload_n 0, 1) := by decide +kernel
theorem dX11_about_147 : decode cX11_about 147 = .ok (.getfield 14, 3) := by decide +kernel
theorem dX11_about_150 : decode cX11_about 150 = .ok (.invokevirtual 111, 3) := by decide +kernel
theorem dX11_about_153 : decode cX11_about 153 = .ok (.ireturn, 1) := by decide +kernel
theorem dX11_about_154 : decode cX11_about 154 = .ok (.iload_n 1, 1) := by decide +kernel
theorem dX11_about_155 : decode cX11_about 155 = .ok (.bipush 10, 2) := by decide +kernel
theorem dX11_about_157 : decode cX11_about 157 = .ok (.if_icmp .lt 34, 3) := by decide +kernel
theorem dX11_about_160 : decode cX11_about 160 = .ok (.aload_n 0, 1) := by decide +kernel
theorem dX11_about_161 : decode cX11_about 161 = .ok (.getfield 51, 3) := by decide +kernel
theorem dX11_about_164 : decode cX11_about 164 = .ok (.iload_n 1, 1) := by decide +kernel
theorem dX11_about_165 : decode cX11_about 165 = .ok (.bipush 10, 2) := by decide +kernel
theorem dX11_about_167 : decode cX11_about 167 = .ok (.isub, 1) := by decide +kernel
theorem dX11_about_168 : decode cX11_about 168 = .ok (.invokevirtual 83, 3) := by decide +kernel
theorem dX11_about_171 : decode cX11_about 171 = .ok (.ifCond .eq 20, 3) := by decide +kernel
theorem dX11_about_174 : decode cX11_about 174 = .ok (.aload_n 0, 1) := by decide +kernel
theorem dX11_about_175 : decode cX11_about 175 = .ok (.getfield 51, 3) := by decide +kernel
theorem dX11_about_178 : decode cX11_about 178 = .ok (.getfield 90, 3) := by decide +kernel
theorem dX11_about_181 : decode cX11_about 181 = .ok (.iload_n 1, 1) := by decide +kernel
theorem dX11_about_182 : decode cX11_about 182 = .ok (.bipush 10, 2) := by decide +kernel
theorem dX11_about_184 : decode cX11_about 184 = .ok (.isub, 1) := by decide +kernel
theorem dX11_about_185 : decode cX11_about 185 = .ok (.invokevirtual 157, 3) := by decide +kernel
theorem dX11_about_188 : decode cX11_about 188 = .ok (.goto 5, 3) := by decide +kernel
theorem dX11_about_191 : decode cX11_about 191 = .ok (.bipush (-2), 2) := by decide +kernel
theorem dX11_about_193 : decode cX11_about 193 = .ok (.ireturn, 1) := by decide +kernel
theorem dX11_isTap_0 : decode cX11_isTap 0 = .ok (.iload_n 0, 1) := by decide +kernel
theorem dX11_isTap_1 : decode cX11_isTap 1 = .ok (.ifCond .lt 12, 3) := by decide +kernel
theorem dX11_isTap_4 : decode cX11_isTap 4 = .ok (.iload_n 0, 1) := by decide +kernel
theorem dX11_isTap_5 : decode cX11_isTap 5 = .ok (.iconst 4, 1) := by decide +kernel
theorem dX11_isTap_6 : decode cX11_isTap 6 = .ok (.if_icmp .ge 7, 3) := by decide +kernel
theorem dX11_isTap_9 : decode cX11_isTap 9 = .ok (.iconst 1, 1) := by decide +kernel
theorem dX11_isTap_10 : decode cX11_isTap 10 = .ok (.goto 4, 3) := by decide +kernel
theorem dX11_isTap_13 : decode cX11_isTap 13 = .ok (.iconst 0, 1) := by decide +kernel
theorem dX11_isTap_14 : decode cX11_isTap 14 = .ok (.ireturn, 1) := by decide +kernel
theorem dX11_poseOf_0 : decode cX11_poseOf 0 = .ok (.iload_n 0, 1) := by decide +kernel
theorem dX11_poseOf_1 : decode cX11_poseOf 1 = .ok (.sipush 200, 3) := by decide +kernel
theorem dX11_poseOf_4 : decode cX11_poseOf 4 = .ok (.irem, 1) := by decide +kernel
theorem dX11_poseOf_5 : decode cX11_poseOf 5 = .ok (.ireturn, 1) := by decide +kernel
theorem dX11_hasBumped_0 : decode cX11_hasBumped 0 = .ok (.iload_n 0, 1) := by decide +kernel
theorem dX11_hasBumped_1 : decode cX11_hasBumped 1 = .ok (.sipush 200, 3) := by decide +kernel
theorem dX11_hasBumped_4 : decode cX11_hasBumped 4 = .ok (.if_icmp .lt 14, 3) := by decide +kernel
theorem dX11_hasBumped_7 : decode cX11_hasBumped 7 = .ok (.iload_n 0, 1) := by decide +kernel
theorem dX11_hasBumped_8 : decode cX11_hasBumped 8 = .ok (.sipush 400, 3) := by decide +kernel
theorem dX11_hasBumped_11 : decode cX11_hasBumped 11 = .ok (.if_icmp .ge 7, 3) := by decide +kernel
theorem dX11_hasBumped_14 : decode cX11_hasBumped 14 = .ok (.iconst 1, 1) := by decide +kernel
theorem dX11_hasBumped_15 : decode cX11_hasBumped 15 = .ok (.goto 4, 3) := by decide +kernel
theorem dX11_hasBumped_18 : decode cX11_hasBumped 18 = .ok (.iconst 0, 1) := by decide +kernel
theorem dX11_hasBumped_19 : decode cX11_hasBumped 19 = .ok (.ireturn, 1) := by decide +kernel
theorem dX12_init_0 : decode cX12_init 0 = .ok (.aload_n 0, 1) := by decide +kernel
theorem dX12_init_1 : decode cX12_init 1 = .ok (.invokespecial 1, 3) := by decide +kernel
theorem dX12_init_4 : decode cX12_init 4 = .ok (.aload_n 0, 1) := by decide +kernel
theorem dX12_init_5 : decode cX12_init 5 = .ok (.sipush 205, 3) := by decide +kernel
theorem dX12_init_8 : decode cX12_init 8 = .ok (.newarray .int, 2) := by decide +kernel
theorem dX12_init_10 : decode cX12_init 10 = .ok (.putfield 7, 3) := by decide +kernel
theorem dX12_init_13 : decode cX12_init 13 = .ok (.aload_n 0, 1) := by decide +kernel
theorem dX12_init_14 : decode cX12_init 14 = .ok (.sipush 205, 3) := by decide +kernel
theorem dX12_init_17 : decode cX12_init 17 = .ok (.newarray .int, 2) := by decide +kernel
theorem dX12_init_19 : decode cX12_init 19 = .ok (.putfield 13, 3) := by decide +kernel
theorem dX12_init_22 : decode cX12_init 22 = .ok (.aload_n 0, 1) := by decide +kernel
theorem dX12_init_23 : decode cX12_init 23 = .ok (.sipush 2480, 3) := by decide +kernel
theorem dX12_init_26 : decode cX12_init 26 = .ok (.newarray .int, 2) := by decide +kernel
theorem dX12_init_28 : decode cX12_init 28 = .ok (.putfield 16, 3) := by decide +kernel
theorem dX12_init_31 : decode cX12_init 31 = .ok (.aload_n 0, 1) := by decide +kernel
theorem dX12_init_32 : decode cX12_init 32 = .ok (.sipush 300, 3) := by decide +kernel
theorem dX12_init_35 : decode cX12_init 35 = .ok (.newarray .int, 2) := by decide +kernel
theorem dX12_init_37 : decode cX12_init 37 = .ok (.putfield 19, 3) := by decide +kernel
theorem dX12_init_40 : decode cX12_init 40 = .ok (.aload_n 0, 1) := by decide +kernel
theorem dX12_init_41 : decode cX12_init 41 = .ok (.iconst (-1), 1) := by decide +kernel
theorem dX12_init_42 : decode cX12_init 42 = .ok (.putfield 22, 3) := by decide +kernel
theorem dX12_init_45 : decode cX12_init 45 = .ok (.aload_n 0, 1) := by decide +kernel
theorem dX12_init_46 : decode cX12_init 46 = .ok (.iconst (-1), 1) := by decide +kernel
theorem dX12_init_47 : decode cX12_init 47 = .ok (.putfield 26, 3) := by decide +kernel
theorem dX12_init_50 : decode cX12_init 50 = .ok (.aload_n 0, 1) := by decide +kernel
theorem dX12_init_51 : decode cX12_init 51 = .ok (.sipush 160, 3) := by decide +kernel
theorem dX12_init_54 : decode cX12_init 54 = .ok (.newarray .int, 2) := by decide +kernel
theorem dX12_init_56 : decode cX12_init 56 = .ok (.putfield 29, 3) := by decide +kernel
theorem dX12_init_59 : decode cX12_init 59 = .ok (.aload_n 0, 1) := by decide +kernel
theorem dX12_init_60 : decode cX12_init 60 = .ok (.bipush 11, 2) := by decide +kernel
theorem dX12_init_62 : decode cX12_init 62 = .ok (.newarray .int, 2) := by decide +kernel
theorem dX12_init_64 : decode cX12_init 64 = .ok (.putfield 32, 3) := by decide +kernel
theorem dX12_init_67 : decode cX12_init 67 = .ok (.aload_n 0, 1) := by decide +kernel
theorem dX12_init_68 : decode cX12_init 68 = .ok (.sipush 330, 3) := by decide +kernel
theorem dX12_init_71 : decode cX12_init 71 = .ok (.newarray .long, 2) := by decide +kernel
theorem dX12_init_73 : decode cX12_init 73 = .ok (.putfield 35, 3) := by decide +kernel
theorem dX12_init_76 : decode cX12_init 76 = .ok (.aload_n 0, 1) := by decide +kernel
theorem dX12_init_77 : decode cX12_init 77 = .ok (.sipush 330, 3) := by decide +kernel
theorem dX12_init_80 : decode cX12_init 80 = .ok (.newarray .boolean, 2) := by decide +kernel
theorem dX12_init_82 : decode cX12_init 82 = .ok (.putfield 39, 3) := by decide +kernel
theorem dX12_init_85 : decode cX12_init 85 = .ok (.aload_n 0, 1) := by decide +kernel
theorem dX12_init_86 : decode cX12_init 86 = .ok (.sipush 1600, 3) := by decide +kernel
theorem dX12_init_89 : decode cX12_init 89 = .ok (.newarray .int, 2) := by decide +kernel
theorem dX12_init_91 : decode cX12_init 91 = .ok (.putfield 43, 3) := by decide +kernel
theorem dX12_init_94 : decode cX12_init 94 = .ok (.aload_n 0, 1) := by decide +kernel
theorem dX12_init_95 : decode cX12_init 95 = .ok (.sipush 9003, 3) := by decide +kernel
theorem dX12_init_98 : decode cX12_init 98 = .ok (.newarray .int, 2) := by decide +kernel
theorem dX12_init_100 : decode cX12_init 100 = .ok (.putfield 46, 3) := by decide +kernel
theorem dX12_init_103 : decode cX12_init 103 = .ok (.aload_n 0, 1) := by decide +kernel
theorem dX12_init_104 : decode cX12_init 104 = .ok (.sipush 3001, 3) := by decide +kernel
theorem dX12_init_107 : decode cX12_init 107 = .ok (.newarray .int, 2) := by decide +kernel
theorem dX12_init_109 : decode cX12_init 109 = .ok (.putfield 49, 3) := by decide +kernel
theorem dX12_init_112 : decode cX12_init 112 = .ok (.aload_n 0, 1) := by decide +kernel
theorem dX12_init_113 : decode cX12_init 113 = .ok (.sipush 3001, 3) := by decide +kernel
theorem dX12_init_116 : decode cX12_init 116 = .ok (.newarray .int, 2) := by decide +kernel
theorem dX12_init_118 : decode cX12_init 118 = .ok (.putfield 52, 3) := by decide +kernel
theorem dX12_init_121 : decode cX12_init 121 = .ok (.aload_n 0, 1) := by decide +kernel
theorem dX12_init_122 : decode cX12_init 122 = .ok (.sipush 3001, 3) := by decide +kernel
theorem dX12_init_125 : decode cX12_init 125 = .ok (.newarray .int, 2) := by decide +kernel
theorem dX12_init_127 : decode cX12_init 127 = .ok (.putfield 55, 3) := by decide +kernel
theorem dX12_init_130 : decode cX12_init 130 = .ok (.aload_n 0, 1) := by decide +kernel
theorem dX12_init_131 : decode cX12_init 131 = .ok (.sipush 4096, 3) := by decide +kernel
theorem dX12_init_134 : decode cX12_init 134 = .ok (.newarray .int, 2) := by decide +kernel
theorem dX12_init_136 : decode cX12_init 136 = .ok (.putfield 58, 3) := by decide +kernel
theorem dX12_init_139 : decode cX12_init 139 = .ok (.aload_n 0, 1) := by decide +kernel
theorem dX12_init_140 : decode cX12_init 140 = .ok (.iconst 3, 1) := by decide +kernel
theorem dX12_init_141 : decode cX12_init 141 = .ok (.newarray .int, 2) := by decide +kernel
theorem dX12_init_143 : decode cX12_init 143 = .ok (.putfield 61, 3) := by decide +kernel
theorem dX12_init_146 : decode cX12_init 146 = .ok (.aload_n 0, 1) := by decide +kernel
theorem dX12_init_147 : decode cX12_init 147 = .ok (.bipush 100, 2) := by decide +kernel
theorem dX12_init_149 : decode cX12_init 149 = .ok (.newarray .long, 2) := by decide +kernel
theorem dX12_init_151 : decode cX12_init 151 = .ok (.putfield 64, 3) := by decide +kernel
theorem dX12_init_154 : decode cX12_init 154 = .ok (.aload_n 0, 1) := by decide +kernel
theorem dX12_init_155 : decode cX12_init 155 = .ok (.bipush 100, 2) := by decide +kernel
theorem dX12_init_157 : decode cX12_init 157 = .ok (.newarray .long, 2) := by decide +kernel
theorem dX12_init_159 : decode cX12_init 159 = .ok (.putfield 67, 3) := by decide +kernel
theorem dX12_init_162 : decode cX12_init 162 = .ok (.aload_n 0, 1) := by decide +kernel
theorem dX12_init_163 : decode cX12_init 163 = .ok (.bipush 72, 2) := by decide +kernel
theorem dX12_init_165 : decode cX12_init 165 = .ok (.newarray .long, 2) := by decide +kernel
theorem dX12_init_167 : decode cX12_init 167 = .ok (.putfield 70, 3) := by decide +kernel
theorem dX12_init_170 : decode cX12_init 170 = .ok (.aload_n 0, 1) := by decide +kernel
theorem dX12_init_171 : decode cX12_init 171 = .ok (.bipush 12, 2) := by decide +kernel
theorem dX12_init_173 : decode cX12_init 173 = .ok (.newarray .int, 2) := by decide +kernel
theorem dX12_init_175 : decode cX12_init 175 = .ok (.putfield 73, 3) := by decide +kernel
theorem dX12_init_178 : decode cX12_init 178 = .ok (.aload_n 0, 1) := by decide +kernel
theorem dX12_init_179 : decode cX12_init 179 = .ok (.bipush 72, 2) := by decide +kernel
theorem dX12_init_181 : decode cX12_init 181 = .ok (.newarray .int, 2) := by decide +kernel
theorem dX12_init_183 : decode cX12_init 183 = .ok (.putfield 76, 3) := by decide +kernel
theorem dX12_init_186 : decode cX12_init 186 = .ok (.aload_n 0, 1) := by decide +kernel
theorem dX12_init_187 : decode cX12_init 187 = .ok (.bipush 6, 2) := by decide +kernel
theorem dX12_init_189 : decode cX12_init 189 = .ok (.newarray .int, 2) := by decide +kernel
theorem dX12_init_191 : decode cX12_init 191 = .ok (.putfield 79, 3) := by decide +kernel
theorem dX12_init_194 : decode cX12_init 194 = .ok (.aload_n 0, 1) := by decide +kernel
theorem dX12_init_195 : decode cX12_init 195 = .ok (.sipush 20000, 3) := by decide +kernel
theorem dX12_init_198 : decode cX12_init 198 = .ok (.newarray .int, 2) := by decide +kernel
theorem dX12_init_200 : decode cX12_init 200 = .ok (.putfield 82, 3) := by decide +kernel
theorem dX12_init_203 : decode cX12_init 203 = .ok (.aload_n 0, 1) := by decide +kernel
theorem dX12_init_204 : decode cX12_init 204 = .ok (.iload_n 1, 1) := by decide +kernel
theorem dX12_init_205 : decode cX12_init 205 = .ok (.iconst 2, 1) := by decide +kernel
theorem dX12_init_206 : decode cX12_init 206 = .ok (.if_icmp .ge 7, 3) := by decide +kernel
theorem dX12_init_209 : decode cX12_init 209 = .ok (.iconst 2, 1) := by decide +kernel
theorem dX12_init_210 : decode cX12_init 210 = .ok (.goto 13, 3) := by decide +kernel
theorem dX12_init_213 : decode cX12_init 213 = .ok (.iload_n 1, 1) := by decide +kernel
theorem dX12_init_214 : decode cX12_init 214 = .ok (.iconst 5, 1) := by decide +kernel
theorem dX12_init_215 : decode cX12_init 215 = .ok (.if_icmp .le 7, 3) := by decide +kernel
theorem dX12_init_218 : decode cX12_init 218 = .ok (.iconst 5, 1) := by decide +kernel
theorem dX12_init_219 : decode cX12_init 219 = .ok (.goto 4, 3) := by decide +kernel
theorem dX12_init_222 : decode cX12_init 222 = .ok (.iload_n 1, 1) := by decide +kernel
theorem dX12_init_223 : decode cX12_init 223 = .ok (.putfield 85, 3) := by decide +kernel
theorem dX12_init_226 : decode cX12_init 226 = .ok (.aload_n 0, 1) := by decide +kernel
theorem dX12_init_227 : decode cX12_init 227 = .ok (.iload_n 2, 1) := by decide +kernel
theorem dX12_init_228 : decode cX12_init 228 = .ok (.iconst 2, 1) := by decide +kernel
theorem dX12_init_229 : decode cX12_init 229 = .ok (.if_icmp .ge 7, 3) := by decide +kernel
theorem dX12_init_232 : decode cX12_init 232 = .ok (.iconst 2, 1) := by decide +kernel
theorem dX12_init_233 : decode cX12_init 233 = .ok (.goto 13, 3) := by decide +kernel
theorem dX12_init_236 : decode cX12_init 236 = .ok (.iload_n 2, 1) := by decide +kernel
theorem dX12_init_237 : decode cX12_init 237 = .ok (.iconst 5, 1) := by decide +kernel
theorem dX12_init_238 : decode cX12_init 238 = .ok (.if_icmp .le 7, 3) := by decide +kernel
theorem dX12_init_241 : decode cX12_init 241 = .ok (.iconst 5, 1) := by decide +kernel
theorem dX12_init_242 : decode cX12_init 242 = .ok (.goto 4, 3) := by decide +kernel
theorem dX12_init_245 : decode cX12_init 245 = .ok (.iload_n 2, 1) := by decide +kernel
theorem dX12_init_246 : decode cX12_init 246 = .ok (.putfield 88, 3) := by decide +kernel
theorem dX12_init_249 : decode cX12_init 249 = .ok (.aload_n 0, 1) := by decide +kernel
theorem dX12_init_250 : decode cX12_init 250 = .ok (.getfield 7, 3) := by decide +kernel
theorem dX12_init_253 : decode cX12_init 253 = .ok (.aload_n 0, 1) := by decide +kernel
theorem dX12_init_254 : decode cX12_init 254 = .ok (.getfield 13, 3) := by decide +kernel
theorem dX12_init_257 : decode cX12_init 257 = .ok (.invokestatic 91, 3) := by decide +kernel
theorem dX12_init_260 : decode cX12_init 260 = .ok (.return_, 1) := by decide +kernel
theorem dX12_copy_0 : decode cX12_copy 0 = .ok (.iconst 0, 1) := by decide +kernel
theorem dX12_copy_1 : decode cX12_copy 1 = .ok (.istore_n 2, 1) := by decide +kernel
theorem dX12_copy_2 : decode cX12_copy 2 = .ok (.iload_n 2, 1) := by decide +kernel
theorem dX12_copy_3 : decode cX12_copy 3 = .ok (.sipush 205, 3) := by decide +kernel
theorem dX12_copy_6 : decode cX12_copy 6 = .ok (.if_icmp .ge 15, 3) := by decide +kernel
theorem dX12_copy_9 : decode cX12_copy 9 = .ok (.aload_n 1, 1) := by decide +kernel
theorem dX12_copy_10 : decode cX12_copy 10 = .ok (.iload_n 2, 1) := by decide +kernel
theorem dX12_copy_11 : decode cX12_copy 11 = .ok (.aload_n 0, 1) := by decide +kernel
theorem dX12_copy_12 : decode cX12_copy 12 = .ok (.iload_n 2, 1) := by decide +kernel
theorem dX12_copy_13 : decode cX12_copy 13 = .ok (.iaload, 1) := by decide +kernel
theorem dX12_copy_14 : decode cX12_copy 14 = .ok (.iastore, 1) := by decide +kernel
theorem dX12_copy_15 : decode cX12_copy 15 = .ok (.iinc 2 1, 3) := by decide +kernel
theorem dX12_copy_18 : decode cX12_copy 18 = .ok (.goto (-16), 3) := by decide +kernel
theorem dX12_copy_21 : decode cX12_copy 21 = .ok (.return_, 1) := by decide +kernel
theorem dX12_isIn_0 : decode cX12_isIn 0 = .ok (.iload_n 0, 1) := by decide +kernel
theorem dX12_isIn_1 : decode cX12_isIn 1 = .ok (.iload_n 1, 1) := by decide +kernel
theorem dX12_isIn_2 : decode cX12_isIn 2 = .ok (.if_icmp .lt 12, 3) := by decide +kernel
theorem dX12_isIn_5 : decode cX12_isIn 5 = .ok (.iload_n 0, 1) := by decide +kernel
theorem dX12_isIn_6 : decode cX12_isIn 6 = .ok (.iload_n 2, 1) := by decide +kernel
theorem dX12_isIn_7 : decode cX12_isIn 7 = .ok (.if_icmp .gt 7, 3) := by decide +kernel
theorem dX12_isIn_10 : decode cX12_isIn 10 = .ok (.iconst 1, 1) := by decide +kernel
theorem dX12_isIn_11 : decode cX12_isIn 11 = .ok (.goto 4, 3) := by decide +kernel
theorem dX12_isIn_14 : decode cX12_isIn 14 = .ok (.iconst 0, 1) := by decide +kernel
theorem dX12_isIn_15 : decode cX12_isIn 15 = .ok (.ireturn, 1) := by decide +kernel
theorem dX12_isCell_0 : decode cX12_isCell 0 = .ok (.iload_n 1, 1) := by decide +kernel
theorem dX12_isCell_1 : decode cX12_isCell 1 = .ok (.iconst 0, 1) := by decide +kernel
theorem dX12_isCell_2 : decode cX12_isCell 2 = .ok (.aload_n 0, 1) := by decide +kernel
theorem dX12_isCell_3 : decode cX12_isCell 3 = .ok (.getfield 85, 3) := by decide +kernel
theorem dX12_isCell_6 : decode cX12_isCell 6 = .ok (.aload_n 0, 1) := by decide +kernel
theorem dX12_isCell_7 : decode cX12_isCell 7 = .ok (.getfield 88, 3) := by decide +kernel
theorem dX12_isCell_10 : decode cX12_isCell 10 = .ok (.imul, 1) := by decide +kernel
theorem dX12_isCell_11 : decode cX12_isCell 11 = .ok (.iconst 1, 1) := by decide +kernel
theorem dX12_isCell_12 : decode cX12_isCell 12 = .ok (.isub, 1) := by decide +kernel
theorem dX12_isCell_13 : decode cX12_isCell 13 = .ok (.invokestatic 95, 3) := by decide +kernel
theorem dX12_isCell_16 : decode cX12_isCell 16 = .ok (.ireturn, 1) := by decide +kernel
theorem dX12_isWall_0 : decode cX12_isWall 0 = .ok (.aload_n 0, 1) := by decide +kernel
theorem dX12_isWall_1 : decode cX12_isWall 1 = .ok (.getfield 7, 3) := by decide +kernel
theorem dX12_isWall_4 : decode cX12_isWall 4 = .ok (.bipush 10, 2) := by decide +kernel
theorem dX12_isWall_6 : decode cX12_isWall 6 = .ok (.iload_n 1, 1) := by decide +kernel
theorem dX12_isWall_7 : decode cX12_isWall 7 = .ok (.iadd, 1) := by decide +kernel
theorem dX12_isWall_8 : decode cX12_isWall 8 = .ok (.iaload, 1) := by decide +kernel
theorem dX12_isWall_9 : decode cX12_isWall 9 = .ok (.iconst 1, 1) := by decide +kernel
theorem dX12_isWall_10 : decode cX12_isWall 10 = .ok (.if_icmp .ne 7, 3) := by decide +kernel
theorem dX12_isWall_13 : decode cX12_isWall 13 = .ok (.iconst 1, 1) := by decide +kernel
theorem dX12_isWall_14 : decode cX12_isWall 14 = .ok (.goto 4, 3) := by decide +kernel
theorem dX12_isWall_17 : decode cX12_isWall 17 = .ok (.iconst 0, 1) := by decide +kernel
theorem dX12_isWall_18 : decode cX12_isWall 18 = .ok (.ireturn, 1) := by decide +kernel
theorem dX12_isPose_0 : decode cX12_isPose 0 = .ok (.iload_n 1, 1) := by decide +kernel
theorem dX12_isPose_1 : decode cX12_isPose 1 = .ok (.iconst 0, 1) := by decide +kernel
theorem dX12_isPose_2 : decode cX12_isPose 2 = .ok (.iconst 4, 1) := by decide +kernel
theorem dX12_isPose_3 : decode cX12_isPose 3 = .ok (.aload_n 0, 1) := by decide +kernel
theorem dX12_isPose_4 : decode cX12_isPose 4 = .ok (.getfield 85, 3) := by decide +kernel
theorem dX12_isPose_7 : decode cX12_isPose 7 = .ok (.imul, 1) := by decide +kernel
theorem dX12_isPose_8 : decode cX12_isPose 8 = .ok (.aload_n 0, 1) := by decide +kernel
theorem dX12_isPose_9 : decode cX12_isPose 9 = .ok (.getfield 88, 3) := by decide +kernel
theorem dX12_isPose_12 : decode cX12_isPose 12 = .ok (.imul, 1) := by decide +kernel
theorem dX12_isPose_13 : decode cX12_isPose 13 = .ok (.iconst 1, 1) := by decide +kernel
theorem dX12_isPose_14 : decode cX12_isPose 14 = .ok (.isub, 1) := by decide +kernel
theorem dX12_isPose_15 : decode cX12_isPose 15 = .ok (.invokestatic 95, 3) := by decide +kernel
theorem dX12_isPose_18 : decode cX12_isPose 18 = .ok (.ifCond .eq 17, 3) := by decide +kernel
theorem dX12_isPose_21 : decode cX12_isPose 21 = .ok (.aload_n 0, 1) := by decide +kernel
theorem dX12_isPose_22 : decode cX12_isPose 22 = .ok (.iload_n 1, 1) := by decide +kernel
theorem dX12_isPose_23 : decode cX12_isPose 23 = .ok (.iconst 4, 1) := by decide +kernel
theorem dX12_isPose_24 : decode cX12_isPose 24 = .ok (.idiv, 1) := by decide +kernel
theorem dX12_isPose_25 : decode cX12_isPose 25 = .ok (.invokevirtual 99, 3) := by decide +kernel
theorem dX12_isPose_28 : decode cX12_isPose 28 = .ok (.ifCond .ne 7, 3) := by decide +kernel
theorem dX12_isPose_31 : decode cX12_isPose 31 = .ok (.iconst 1, 1) := by decide +kernel
theorem dX12_isPose_32 : decode cX12_isPose 32 = .ok (.goto 4, 3) := by decide +kernel
theorem dX12_isPose_35 : decode cX12_isPose 35 = .ok (.iconst 0, 1) := by decide +kernel
theorem dX12_isPose_36 : decode cX12_isPose 36 = .ok (.ireturn, 1) := by decide +kernel
theorem dX12_isText_0 : decode cX12_isText 0 = .ok (.iload_n 1, 1) := by decide +kernel
theorem dX12_isText_1 : decode cX12_isText 1 = .ok (.iconst 0, 1) := by decide +kernel
theorem dX12_isText_2 : decode cX12_isText 2 = .ok (.aload_n 0, 1) := by decide +kernel
theorem dX12_isText_3 : decode cX12_isText 3 = .ok (.getfield 7, 3) := by decide +kernel
theorem dX12_isText_6 : decode cX12_isText 6 = .ok (.iconst 1, 1) := by decide +kernel
theorem dX12_isText_7 : decode cX12_isText 7 = .ok (.iaload, 1) := by decide +kernel
theorem dX12_isText_8 : decode cX12_isText 8 = .ok (.iconst 1, 1) := by decide +kernel
theorem dX12_isText_9 : decode cX12_isText 9 = .ok (.isub, 1) := by decide +kernel
theorem dX12_isText_10 : decode cX12_isText 10 = .ok (.invokestatic 95, 3) := by decide +kernel
theorem dX12_isText_13 : decode cX12_isText 13 = .ok (.ireturn, 1) := by decide +kernel
theorem dX12_isPair_0 : decode cX12_isPair 0 = .ok (.iload_n 1, 1) := by decide +kernel
theorem dX12_isPair_1 : decode cX12_isPair 1 = .ok (.iconst 0, 1) := by decide +kernel
theorem dX12_isPair_2 : decode cX12_isPair 2 = .ok (.aload_n 0, 1) := by decide +kernel
theorem dX12_isPair_3 : decode cX12_isPair 3 = .ok (.getfield 7, 3) := by decide +kernel
theorem dX12_isPair_6 : decode cX12_isPair 6 = .ok (.iconst 0, 1) := by decide +kernel
theorem dX12_isPair_7 : decode cX12_isPair 7 = .ok (.iaload, 1) := by decide +kernel
theorem dX12_isPair_8 : decode cX12_isPair 8 = .ok (.iconst 1, 1) := by decide +kernel
theorem dX12_isPair_9 : decode cX12_isPair 9 = .ok (.isub, 1) := by decide +kernel
theorem dX12_isPair_10 : decode cX12_isPair 10 = .ok (.invokestatic 95, 3) := by decide +kernel
theorem dX12_isPair_13 : decode cX12_isPair 13 = .ok (.ireturn, 1) := by decide +kernel
theorem dX12_poseOf_0 : decode cX12_poseOf 0 = .ok (.aload_n 0, 1) := by decide +kernel
theorem dX12_poseOf_1 : decode cX12_poseOf 1 = .ok (.getfield 7, 3) := by decide +kernel
theorem dX12_poseOf_4 : decode cX12_poseOf 4 = .ok (.bipush 35, 2) := by decide +kernel
theorem dX12_poseOf_6 : decode cX12_poseOf 6 = .ok (.iconst 2, 1) := by decide +kernel
theorem dX12_poseOf_7 : decode cX12_poseOf 7 = .ok (.iload_n 1, 1) := by decide +kernel
theorem dX12_poseOf_8 : decode cX12_poseOf 8 = .ok (.imul, 1) := by decide +kernel
theorem dX12_poseOf_9 : decode cX12_poseOf 9 = .ok (.iadd, 1) := by decide +kernel
theorem dX12_poseOf_10 : decode cX12_poseOf 10 = .ok (.iaload, 1) := by decide +kernel
theorem dX12_poseOf_11 : decode cX12_poseOf 11 = .ok (.ireturn, 1) := by decide +kernel
theorem dX12_habitOf_0 : decode cX12_habitOf 0 = .ok (.aload_n 0, 1) := by decide +kernel
theorem dX12_habitOf_1 : decode cX12_habitOf 1 = .ok (.getfield 7, 3) := by decide +kernel
theorem dX12_habitOf_4 : decode cX12_habitOf 4 = .ok (.bipush 35, 2) := by decide +kernel
theorem dX12_habitOf_6 : decode cX12_habitOf 6 = .ok (.iconst 2, 1) := by decide +kernel
theorem dX12_habitOf_7 : decode cX12_habitOf 7 = .ok (.iload_n 1, 1) := by decide +kernel
theorem dX12_habitOf_8 : decode cX12_habitOf 8 = .ok (.imul, 1) := by decide +kernel
theorem dX12_habitOf_9 : decode cX12_habitOf 9 = .ok (.iadd, 1) := by decide +kernel
theorem dX12_habitOf_10 : decode cX12_habitOf 10 = .ok (.iconst 1, 1) := by decide +kernel
theorem dX12_habitOf_11 : decode cX12_habitOf 11 = .ok (.iadd, 1) := by decide +kernel
theorem dX12_habitOf_12 : decode cX12_habitOf 12 = .ok (.iaload, 1) := by decide +kernel
theorem dX12_habitOf_13 : decode cX12_habitOf 13 = .ok (.ireturn, 1) := by decide +kernel
theorem dX12_ahead_0 : decode cX12_ahead 0 = .ok (.iload_n 1, 1) := by decide +kernel
theorem dX12_ahead_1 : decode cX12_ahead 1 = .ok (.iconst 4, 1) := by decide +kernel
theorem dX12_ahead_2 : decode cX12_ahead 2 = .ok (.idiv, 1) := by decide +kernel
theorem dX12_ahead_3 : decode cX12_ahead 3 = .ok (.aload_n 0, 1) := by decide +kernel
theorem dX12_ahead_4 : decode cX12_ahead 4 = .ok (.getfield 85, 3) := by decide +kernel
theorem dX12_ahead_7 : decode cX12_ahead 7 = .ok (.irem, 1) := by decide +kernel
theorem dX12_ahead_8 : decode cX12_ahead 8 = .ok (.istore_n 2, 1) := by decide +kernel
theorem dX12_ahead_9 : decode cX12_ahead 9 = .ok (.iload_n 1, 1) := by decide +kernel
theorem dX12_ahead_10 : decode cX12_ahead 10 = .ok (.iconst 4, 1) := by decide +kernel
theorem dX12_ahead_11 : decode cX12_ahead 11 = .ok (.idiv, 1) := by decide +kernel
theorem dX12_ahead_12 : decode cX12_ahead 12 = .ok (.aload_n 0, 1) := by decide +kernel
theorem dX12_ahead_13 : decode cX12_ahead 13 = .ok (.getfield 85, 3) := by decide +kernel
theorem dX12_ahead_16 : decode cX12_ahead 16 = .ok (.idiv, 1) := by decide +kernel
theorem dX12_ahead_17 : decode cX12_ahead 17 = .ok (.istore_n 3, 1) := by decide +kernel
theorem dX12_ahead_18 : decode cX12_ahead 18 = .ok (.iload_n 1, 1) := by decide +kernel
theorem dX12_ahead_19 : decode cX12_ahead 19 = .ok (.iconst 4, 1) := by decide +kernel
theorem dX12_ahead_20 : decode cX12_ahead 20 = .ok (.irem, 1) := by decide +kernel
theorem dX12_ahead_21 : decode cX12_ahead 21 = .ok (.istore 4, 2) := by decide +kernel
theorem dX12_ahead_23 : decode cX12_ahead 23 = .ok (.iload 4, 2) := by decide +kernel
theorem dX12_ahead_25 : decode cX12_ahead 25 = .ok (.ifCond .ne 20, 3) := by decide +kernel
theorem dX12_ahead_28 : decode cX12_ahead 28 = .ok (.iload_n 3, 1) := by decide +kernel
theorem dX12_ahead_29 : decode cX12_ahead 29 = .ok (.ifCond .ne 7, 3) := by decide +kernel
theorem dX12_ahead_32 : decode cX12_ahead 32 = .ok (.iconst (-1), 1) := by decide +kernel
theorem dX12_ahead_33 : decode cX12_ahead 33 = .ok (.goto 11, 3) := by decide +kernel
theorem dX12_ahead_36 : decode cX12_ahead 36 = .ok (.iload_n 1, 1) := by decide +kernel
theorem dX12_ahead_37 : decode cX12_ahead 37 = .ok (.iconst 4, 1) := by decide +kernel
theorem dX12_ahead_38 : decode cX12_ahead 38 = .ok (.idiv, 1) := by decide +kernel
theorem dX12_ahead_39 : decode cX12_ahead 39 = .ok (.aload_n 0, 1) := by decide +kernel
theorem dX12_ahead_40 : decode cX12_ahead 40 = .ok (.getfield 85, 3) := by decide +kernel
theorem dX12_ahead_43 : decode cX12_ahead 43 = .ok (.isub, 1) := by decide +kernel
theorem dX12_ahead_44 : decode cX12_ahead 44 = .ok (.ireturn, 1) := by decide +kernel
theorem dX12_ahead_45 : decode cX12_ahead 45 = .ok (.iload 4, 2) := by decide +kernel
theorem dX12_ahead_47 : decode cX12_ahead 47 = .ok (.iconst 1, 1) := by decide +kernel
theorem dX12_ahead_48 : decode cX12_ahead 48 = .ok (.if_icmp .ne 23, 3) := by decide +kernel
theorem dX12_ahead_51 : decode cX12_ahead 51 = .ok (.iload_n 2, 1) := by decide +kernel
theorem dX12_ahead_52 : decode cX12_ahead 52 = .ok (.aload_n 0, 1) := by decide +kernel
theorem dX12_ahead_53 : decode cX12_ahead 53 = .ok (.getfield 85, 3) := by decide +kernel
theorem dX12_ahead_56 : decode cX12_ahead 56 = .ok (.iconst 1, 1) := by decide +kernel
theorem dX12_ahead_57 : decode cX12_ahead 57 = .ok (.isub, 1) := by decide +kernel
theorem dX12_ahead_58 : decode cX12_ahead 58 = .ok (.if_icmp .ne 7, 3) := by decide +kernel
theorem dX12_ahead_61 : decode cX12_ahead 61 = .ok (.iconst (-1), 1) := by decide +kernel
theorem dX12_ahead_62 : decode cX12_ahead 62 = .ok (.goto 8, 3) := by decide +kernel
theorem dX12_ahead_65 : decode cX12_ahead 65 = .ok (.iload_n 1, 1) := by decide +kernel
theorem dX12_ahead_66 : decode cX12_ahead 66 = .ok (.iconst 4, 1) := by decide +kernel
theorem dX12_ahead_67 : decode cX12_ahead 67 = .ok (.idiv, 1) := by decide +kernel
theorem dX12_ahead_68 : decode cX12_ahead 68 = .ok (.iconst 1, 1) := by decide +kernel
theorem dX12_ahead_69 : decode cX12_ahead 69 = .ok (.iadd, 1) := by decide +kernel
theorem dX12_ahead_70 : decode cX12_ahead 70 = .ok (.ireturn, 1) := by decide +kernel
theorem dX12_ahead_71 : decode cX12_ahead 71 = .ok (.iload 4, 2) := by decide +kernel
theorem dX12_ahead_73 : decode cX12_ahead 73 = .ok (.iconst 2, 1) := by decide +kernel
theorem dX12_ahead_74 : decode cX12_ahead 74 = .ok (.if_icmp .ne 26, 3) := by decide +kernel
theorem dX12_ahead_77 : decode cX12_ahead 77 = .ok (.iload_n 3, 1) := by decide +kernel
theorem dX12_ahead_78 : decode cX12_ahead 78 = .ok (.aload_n 0, 1) := by decide +kernel
theorem dX12_ahead_79 : decode cX12_ahead 79 = .ok (.getfield 88, 3) := by decide +kernel
theorem dX12_ahead_82 : decode cX12_ahead 82 = .ok (.iconst 1, 1) := by decide +kernel
theorem dX12_ahead_83 : decode cX12_ahead 83 = .ok (.isub, 1) := by decide +kernel
theorem dX12_ahead_84 : decode cX12_ahead 84 = .ok (.if_icmp .ne 7, 3) := by decide +kernel
theorem dX12_ahead_87 : decode cX12_ahead 87 = .ok (.iconst (-1), 1) := by decide +kernel
theorem dX12_ahead_88 : decode cX12_ahead 88 = .ok (.goto 11, 3) := by decide +kernel
theorem dX12_ahead_91 : decode cX12_ahead 91 = .ok (.iload_n 1, 1) := by decide +kernel
theorem dX12_ahead_92 : decode cX12_ahead 92 = .ok (.iconst 4, 1) := by decide +kernel
theorem dX12_ahead_93 : decode cX12_ahead 93 = .ok (.idiv, 1) := by decide +kernel
theorem dX12_ahead_94 : decode cX12_ahead 94 = .ok (.aload_n 0, 1) := by decide +kernel
theorem dX12_ahead_95 : decode cX12_ahead 95 = .ok (.getfield 85, 3) := by decide +kernel
theorem dX12_ahead_98 : decode cX12_ahead 98 = .ok (.iadd, 1) := by decide +kernel
theorem dX12_ahead_99 : decode cX12_ahead 99 = .ok (.ireturn, 1) := by decide +kernel
theorem dX12_ahead_100 : decode cX12_ahead 100 = .ok (.iload_n 2, 1) := by decide +kernel
theorem dX12_ahead_101 : decode cX12_ahead 101 = .ok (.ifCond .ne 7, 3) := by decide +kernel
theorem dX12_ahead_104 : decode cX12_ahead 104 = .ok (.iconst (-1), 1) := by decide +kernel
theorem dX12_ahead_105 : decode cX12_ahead 105 = .ok (.goto 8, 3) := by decide +kernel
theorem dX12_ahead_108 : decode cX12_ahead 108 = .ok (.iload_n 1, 1) := by decide +kernel
theorem dX12_ahead_109 : decode cX12_ahead 109 = .ok (.iconst 4, 1) := by decide +kernel
theorem dX12_ahead_110 : decode cX12_ahead 110 = .ok (.idiv, 1) := by decide +kernel
theorem dX12_ahead_111 : decode cX12_ahead 111 = .ok (.iconst 1, 1) := by decide +kernel
theorem dX12_ahead_112 : decode cX12_ahead 112 = .ok (.isub, 1) := by decide +kernel
theorem dX12_ahead_113 : decode cX12_ahead 113 = .ok (.ireturn, 1) := by decide +kernel
theorem dX12_cell_0 : decode cX12_cell 0 = .ok (.aload_n 0, 1) := by decide +kernel
theorem dX12_cell_1 : decode cX12_cell 1 = .ok (.iload_n 1, 1) := by decide +kernel
theorem dX12_cell_2 : decode cX12_cell 2 = .ok (.invokevirtual 103, 3) := by decide +kernel
theorem dX12_cell_5 : decode cX12_cell 5 = .ok (.ifCond .eq 12, 3) := by decide +kernel
theorem dX12_cell_8 : decode cX12_cell 8 = .ok (.iload_n 2, 1) := by decide +kernel
theorem dX12_cell_9 : decode cX12_cell 9 = .ok (.iconst 0, 1) := by decide +kernel
theorem dX12_cell_10 : decode cX12_cell 10 = .ok (.iconst 3, 1) := by decide +kernel
theorem dX12_cell_11 : decode cX12_cell 11 = .ok (.invokestatic 95, 3) := by decide +kernel
theorem dX12_cell_14 : decode cX12_cell 14 = .ok (.ifCond .ne 5, 3) := by decide +kernel
theorem dX12_cell_17 : decode cX12_cell 17 = .ok (.iconst 0, 1) := by decide +kernel
theorem dX12_cell_18 : decode cX12_cell 18 = .ok (.ireturn, 1) := by decide +kernel
theorem dX12_cell_19 : decode cX12_cell 19 = .ok (.iconst 0, 1) := by decide +kernel
theorem dX12_cell_20 : decode cX12_cell 20 = .ok (.istore_n 3, 1) := by decide +kernel
theorem dX12_cell_21 : decode cX12_cell 21 = .ok (.iload_n 3, 1) := by decide +kernel
theorem dX12_cell_22 : decode cX12_cell 22 = .ok (.aload_n 0, 1) := by decide +kernel
theorem dX12_cell_23 : decode cX12_cell 23 = .ok (.getfield 7, 3) := by decide +kernel
theorem dX12_cell_26 : decode cX12_cell 26 = .ok (.iconst 0, 1) := by decide +kernel
theorem dX12_cell_27 : decode cX12_cell 27 = .ok (.iaload, 1) := by decide +kernel
theorem dX12_cell_28 : decode cX12_cell 28 = .ok (.if_icmp .ge 27, 3) := by decide +kernel
theorem dX12_cell_31 : decode cX12_cell 31 = .ok (.iload_n 2, 1) := by decide +kernel
theorem dX12_cell_32 : decode cX12_cell 32 = .ok (.iconst 1, 1) := by decide +kernel
theorem dX12_cell_33 : decode cX12_cell 33 = .ok (.if_icmp .ne 16, 3) := by decide +kernel
theorem dX12_cell_36 : decode cX12_cell 36 = .ok (.aload_n 0, 1) := by decide +kernel
theorem dX12_cell_37 : decode cX12_cell 37 = .ok (.iload_n 3, 1) := by decide +kernel
theorem dX12_cell_38 : decode cX12_cell 38 = .ok (.invokevirtual 106, 3) := by decide +kernel
theorem dX12_cell_41 : decode cX12_cell 41 = .ok (.iconst 4, 1) := by decide +kernel
theorem dX12_cell_42 : decode cX12_cell 42 = .ok (.idiv, 1) := by decide +kernel
theorem dX12_cell_43 : decode cX12_cell 43 = .ok (.iload_n 1, 1) := by decide +kernel
theorem dX12_cell_44 : decode cX12_cell 44 = .ok (.if_icmp .ne 5, 3) := by decide +kernel
theorem dX12_cell_47 : decode cX12_cell 47 = .ok (.iconst 0, 1) := by decide +kernel
theorem dX12_cell_48 : decode cX12_cell 48 = .ok (.ireturn, 1) := by decide +kernel
theorem dX12_cell_49 : decode cX12_cell 49 = .ok (.iinc 3 1, 3) := by decide +kernel
theorem dX12_cell_52 : decode cX12_cell 52 = .ok (.goto (-31), 3) := by decide +kernel
theorem dX12_cell_55 : decode cX12_cell 55 = .ok (.aload_n 0, 1) := by decide +kernel
theorem dX12_cell_56 : decode cX12_cell 56 = .ok (.getfield 7, 3) := by decide +kernel
theorem dX12_cell_59 : decode cX12_cell 59 = .ok (.bipush 10, 2) := by decide +kernel
theorem dX12_cell_61 : decode cX12_cell 61 = .ok (.iload_n 1, 1) := by decide +kernel
theorem dX12_cell_62 : decode cX12_cell 62 = .ok (.iadd, 1) := by decide +kernel
theorem dX12_cell_63 : decode cX12_cell 63 = .ok (.iload_n 2, 1) := by decide +kernel
theorem dX12_cell_64 : decode cX12_cell 64 = .ok (.iastore, 1) := by decide +kernel
theorem dX12_cell_65 : decode cX12_cell 65 = .ok (.aload_n 0, 1) := by decide +kernel
theorem dX12_cell_66 : decode cX12_cell 66 = .ok (.getfield 7, 3) := by decide +kernel
theorem dX12_cell_69 : decode cX12_cell 69 = .ok (.iconst 3, 1) := by decide +kernel
theorem dX12_cell_70 : decode cX12_cell 70 = .ok (.iconst 0, 1) := by decide +kernel
theorem dX12_cell_71 : decode cX12_cell 71 = .ok (.iastore, 1) := by decide +kernel
theorem dX12_cell_72 : decode cX12_cell 72 = .ok (.iconst 1, 1) := by decide +kernel
theorem dX12_cell_73 : decode cX12_cell 73 = .ok (.ireturn, 1) := by decide +kernel
theorem dX12_pair_0 : decode cX12_pair 0 = .ok (.aload_n 0, 1) := by decide +kernel
theorem dX12_pair_1 : decode cX12_pair 1 = .ok (.iload_n 1, 1) := by decide +kernel
theorem dX12_pair_2 : decode cX12_pair 2 = .ok (.invokevirtual 110, 3) := by decide +kernel
theorem dX12_pair_5 : decode cX12_pair 5 = .ok (.ifCond .eq 22, 3) := by decide +kernel
theorem dX12_pair_8 : decode cX12_pair 8 = .ok (.aload_n 0, 1) := by decide +kernel
theorem dX12_pair_9 : decode cX12_pair 9 = .ok (.iload_n 2, 1) := by decide +kernel
theorem dX12_pair_10 : decode cX12_pair 10 = .ok (.invokevirtual 113, 3) := by decide +kernel
theorem dX12_pair_13 : decode cX12_pair 13 = .ok (.ifCond .eq 14, 3) := by decide +kernel
theorem dX12_pair_16 : decode cX12_pair 16 = .ok (.aload_n 0, 1) := by decide +kernel
theorem dX12_pair_17 : decode cX12_pair 17 = .ok (.getfield 7, 3) := by decide +kernel
theorem dX12_pair_20 : decode cX12_pair 20 = .ok (.iconst 0, 1) := by decide +kernel
theorem dX12_pair_21 : decode cX12_pair 21 = .ok (.iaload, 1) := by decide +kernel
theorem dX12_pair_22 : decode cX12_pair 22 = .ok (.bipush 6, 2) := by decide +kernel
theorem dX12_pair_24 : decode cX12_pair 24 = .ok (.if_icmp .ne 5, 3) := by decide +kernel
theorem dX12_pair_27 : decode cX12_pair 27 = .ok (.iconst (-1), 1) := by decide +kernel
theorem dX12_pair_28 : decode cX12_pair 28 = .ok (.ireturn, 1) := by decide +kernel
theorem dX12_pair_29 : decode cX12_pair 29 = .ok (.aload_n 0, 1) := by decide +kernel
theorem dX12_pair_30 : decode cX12_pair 30 = .ok (.getfield 7, 3) := by decide +kernel
theorem dX12_pair_33 : decode cX12_pair 33 = .ok (.bipush 35, 2) := by decide +kernel
theorem dX12_pair_35 : decode cX12_pair 35 = .ok (.iconst 2, 1) := by decide +kernel
theorem dX12_pair_36 : decode cX12_pair 36 = .ok (.aload_n 0, 1) := by decide +kernel
theorem dX12_pair_37 : decode cX12_pair 37 = .ok (.getfield 7, 3) := by decide +kernel
theorem dX12_pair_40 : decode cX12_pair 40 = .ok (.iconst 0, 1) := by decide +kernel
theorem dX12_pair_41 : decode cX12_pair 41 = .ok (.iaload, 1) := by decide +kernel
theorem dX12_pair_42 : decode cX12_pair 42 = .ok (.imul, 1) := by decide +kernel
theorem dX12_pair_43 : decode cX12_pair 43 = .ok (.iadd, 1) := by decide +kernel
theorem dX12_pair_44 : decode cX12_pair 44 = .ok (.iload_n 1, 1) := by decide +kernel
theorem dX12_pair_45 : decode cX12_pair 45 = .ok (.iastore, 1) := by decide +kernel
theorem dX12_pair_46 : decode cX12_pair 46 = .ok (.aload_n 0, 1) := by decide +kernel
theorem dX12_pair_47 : decode cX12_pair 47 = .ok (.getfield 7, 3) := by decide +kernel
theorem dX12_pair_50 : decode cX12_pair 50 = .ok (.bipush 35, 2) := by decide +kernel
theorem dX12_pair_52 : decode cX12_pair 52 = .ok (.iconst 2, 1) := by decide +kernel
theorem dX12_pair_53 : decode cX12_pair 53 = .ok (.aload_n 0, 1) := by decide +kernel
theorem dX12_pair_54 : decode cX12_pair 54 = .ok (.getfield 7, 3) := by decide +kernel
theorem dX12_pair_57 : decode cX12_pair 57 = .ok (.iconst 0, 1) := by decide +kernel
theorem dX12_pair_58 : decode cX12_pair 58 = .ok (.iaload, 1) := by decide +kernel
theorem dX12_pair_59 : decode cX12_pair 59 = .ok (.imul, 1) := by decide +kernel
theorem dX12_pair_60 : decode cX12_pair 60 = .ok (.iadd, 1) := by decide +kernel
theorem dX12_pair_61 : decode cX12_pair 61 = .ok (.iconst 1, 1) := by decide +kernel
theorem dX12_pair_62 : decode cX12_pair 62 = .ok (.iadd, 1) := by decide +kernel
theorem dX12_pair_63 : decode cX12_pair 63 = .ok (.iload_n 2, 1) := by decide +kernel
theorem dX12_pair_64 : decode cX12_pair 64 = .ok (.iastore, 1) := by decide +kernel
theorem dX12_pair_65 : decode cX12_pair 65 = .ok (.aload_n 0, 1) := by decide +kernel
theorem dX12_pair_66 : decode cX12_pair 66 = .ok (.getfield 7, 3) := by decide +kernel
theorem dX12_pair_69 : decode cX12_pair 69 = .ok (.iconst 0, 1) := by decide +kernel
theorem dX12_pair_70 : decode cX12_pair 70 = .ok (.dup2, 1) := by decide +kernel
theorem dX12_pair_71 : decode cX12_pair 71 = .ok (.iaload, 1) := by decide +kernel
theorem dX12_pair_72 : decode cX12_pair 72 = .ok (.iconst 1, 1) := by decide +kernel
theorem dX12_pair_73 : decode cX12_pair 73 = .ok (.iadd, 1) := by decide +kernel
theorem dX12_pair_74 : decode cX12_pair 74 = .ok (.iastore, 1) := by decide +kernel
theorem dX12_pair_75 : decode cX12_pair 75 = .ok (.aload_n 0, 1) := by decide +kernel
theorem dX12_pair_76 : decode cX12_pair 76 = .ok (.getfield 7, 3) := by decide +kernel
theorem dX12_pair_79 : decode cX12_pair 79 = .ok (.iconst 0, 1) := by decide +kernel
theorem dX12_pair_80 : decode cX12_pair 80 = .ok (.iaload, 1) := by decide +kernel
theorem dX12_pair_81 : decode cX12_pair 81 = .ok (.iconst 1, 1) := by decide +kernel
theorem dX12_pair_82 : decode cX12_pair 82 = .ok (.isub, 1) := by decide +kernel
theorem dX12_pair_83 : decode cX12_pair 83 = .ok (.ireturn, 1) := by decide +kernel
theorem dX12_rider_0 : decode cX12_rider 0 = .ok (.iload_n 1, 1) := by decide +kernel
theorem dX12_rider_1 : decode cX12_rider 1 = .ok (.iconst 0, 1) := by decide +kernel
theorem dX12_rider_2 : decode cX12_rider 2 = .ok (.bipush 9, 2) := by decide +kernel
theorem dX12_rider_4 : decode cX12_rider 4 = .ok (.invokestatic 95, 3) := by decide +kernel
theorem dX12_rider_7 : decode cX12_rider 7 = .ok (.ifCond .eq 14, 3) := by decide +kernel
theorem dX12_rider_10 : decode cX12_rider 10 = .ok (.aload_n 0, 1) := by decide +kernel
theorem dX12_rider_11 : decode cX12_rider 11 = .ok (.getfield 7, 3) := by decide +kernel
theorem dX12_rider_14 : decode cX12_rider 14 = .ok (.iconst 5, 1) := by decide +kernel
theorem dX12_rider_15 : decode cX12_rider 15 = .ok (.iaload, 1) := by decide +kernel
theorem dX12_rider_16 : decode cX12_rider 16 = .ok (.bipush 6, 2) := by decide +kernel
theorem dX12_rider_18 : decode cX12_rider 18 = .ok (.if_icmp .ne 5, 3) := by decide +kernel
theorem dX12_rider_21 : decode cX12_rider 21 = .ok (.iconst (-1), 1) := by decide +kernel
theorem dX12_rider_22 : decode cX12_rider 22 = .ok (.ireturn, 1) := by decide +kernel
theorem dX12_rider_23 : decode cX12_rider 23 = .ok (.aload_n 0, 1) := by decide +kernel
theorem dX12_rider_24 : decode cX12_rider 24 = .ok (.getfield 7, 3) := by decide +kernel
theorem dX12_rider_27 : decode cX12_rider 27 = .ok (.sipush 190, 3) := by decide +kernel
theorem dX12_rider_30 : decode cX12_rider 30 = .ok (.aload_n 0, 1) := by decide +kernel
theorem dX12_rider_31 : decode cX12_rider 31 = .ok (.getfield 7, 3) := by decide +kernel
theorem dX12_rider_34 : decode cX12_rider 34 = .ok (.iconst 5, 1) := by decide +kernel
theorem dX12_rider_35 : decode cX12_rider 35 = .ok (.iaload, 1) := by decide +kernel
theorem dX12_rider_36 : decode cX12_rider 36 = .ok (.iadd, 1) := by decide +kernel
theorem dX12_rider_37 : decode cX12_rider 37 = .ok (.iload_n 1, 1) := by decide +kernel
theorem dX12_rider_38 : decode cX12_rider 38 = .ok (.iastore, 1) := by decide +kernel
theorem dX12_rider_39 : decode cX12_rider 39 = .ok (.aload_n 0, 1) := by decide +kernel
theorem dX12_rider_40 : decode cX12_rider 40 = .ok (.getfield 7, 3) := by decide +kernel
theorem dX12_rider_43 : decode cX12_rider 43 = .ok (.iconst 5, 1) := by decide +kernel
theorem dX12_rider_44 : decode cX12_rider 44 = .ok (.dup2, 1) := by decide +kernel
theorem dX12_rider_45 : decode cX12_rider 45 = .ok (.iaload, 1) := by decide +kernel
theorem dX12_rider_46 : decode cX12_rider 46 = .ok (.iconst 1, 1) := by decide +kernel
theorem dX12_rider_47 : decode cX12_rider 47 = .ok (.iadd, 1) := by decide +kernel
theorem dX12_rider_48 : decode cX12_rider 48 = .ok (.iastore, 1) := by decide +kernel
theorem dX12_rider_49 : decode cX12_rider 49 = .ok (.aload_n 0, 1) := by decide +kernel
theorem dX12_rider_50 : decode cX12_rider 50 = .ok (.getfield 7, 3) := by decide +kernel
theorem dX12_rider_53 : decode cX12_rider 53 = .ok (.iconst 5, 1) := by decide +kernel
theorem dX12_rider_54 : decode cX12_rider 54 = .ok (.iaload, 1) := by decide +kernel
theorem dX12_rider_55 : decode cX12_rider 55 = .ok (.ireturn, 1) := by decide +kernel
theorem dX12_carrier_0 : decode cX12_carrier 0 = .ok (.iload_n 1, 1) := by decide +kernel
theorem dX12_carrier_1 : decode cX12_carrier 1 = .ok (.iconst 0, 1) := by decide +kernel
theorem dX12_carrier_2 : decode cX12_carrier 2 = .ok (.bipush 9, 2) := by decide +kernel
theorem dX12_carrier_4 : decode cX12_carrier 4 = .ok (.invokestatic 95, 3) := by decide +kernel
theorem dX12_carrier_7 : decode cX12_carrier 7 = .ok (.ifCond .eq 15, 3) := by decide +kernel
theorem dX12_carrier_10 : decode cX12_carrier 10 = .ok (.aload_n 0, 1) := by decide +kernel
theorem dX12_carrier_11 : decode cX12_carrier 11 = .ok (.getfield 7, 3) := by decide +kernel
theorem dX12_carrier_14 : decode cX12_carrier 14 = .ok (.bipush 6, 2) := by decide +kernel
theorem dX12_carrier_16 : decode cX12_carrier 16 = .ok (.iaload, 1) := by decide +kernel
