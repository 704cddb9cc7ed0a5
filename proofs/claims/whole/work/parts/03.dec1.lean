theorem dX5_readName_12 : decode cX5_readName 12 = .ok (.iload_n 1, 1) := by decide +kernel
theorem dX5_readName_13 : decode cX5_readName 13 = .ok (.bipush 6, 2) := by decide +kernel
theorem dX5_readName_15 : decode cX5_readName 15 = .ok (.if_icmp .lt 7, 3) := by decide +kernel
theorem dX5_readName_18 : decode cX5_readName 18 = .ok (.iconst 1, 1) := by decide +kernel
theorem dX5_readName_19 : decode cX5_readName 19 = .ok (.goto 4, 3) := by decide +kernel
theorem dX5_readName_22 : decode cX5_readName 22 = .ok (.iconst 0, 1) := by decide +kernel
theorem dX5_readName_23 : decode cX5_readName 23 = .ok (.aload_n 0, 1) := by decide +kernel
theorem dX5_readName_24 : decode cX5_readName 24 = .ok (.getfield 74, 3) := by decide +kernel
theorem dX5_readName_27 : decode cX5_readName 27 = .ok (.bipush 13, 2) := by decide +kernel
theorem dX5_readName_29 : decode cX5_readName 29 = .ok (.if_icmp .ne 7, 3) := by decide +kernel
theorem dX5_readName_32 : decode cX5_readName 32 = .ok (.iconst 1, 1) := by decide +kernel
theorem dX5_readName_33 : decode cX5_readName 33 = .ok (.goto 4, 3) := by decide +kernel
theorem dX5_readName_36 : decode cX5_readName 36 = .ok (.iconst 0, 1) := by decide +kernel
theorem dX5_readName_37 : decode cX5_readName 37 = .ok (.if_icmp .eq 9, 3) := by decide +kernel
theorem dX5_readName_40 : decode cX5_readName 40 = .ok (.aload_n 0, 1) := by decide +kernel
theorem dX5_readName_41 : decode cX5_readName 41 = .ok (.iconst 5, 1) := by decide +kernel
theorem dX5_readName_42 : decode cX5_readName 42 = .ok (.invokevirtual 70, 3) := by decide +kernel
theorem dX5_readName_45 : decode cX5_readName 45 = .ok (.return_, 1) := by decide +kernel
theorem dX5_readName_46 : decode cX5_readName 46 = .ok (.aload_n 0, 1) := by decide +kernel
theorem dX5_readName_47 : decode cX5_readName 47 = .ok (.bipush 20, 2) := by decide +kernel
theorem dX5_readName_49 : decode cX5_readName 49 = .ok (.iload_n 1, 1) := by decide +kernel
theorem dX5_readName_50 : decode cX5_readName 50 = .ok (.invokevirtual 120, 3) := by decide +kernel
theorem dX5_readName_53 : decode cX5_readName 53 = .ok (.pop, 1) := by decide +kernel
theorem dX5_readName_54 : decode cX5_readName 54 = .ok (.aload_n 0, 1) := by decide +kernel
theorem dX5_readName_55 : decode cX5_readName 55 = .ok (.invokevirtual 77, 3) := by decide +kernel
theorem dX5_readName_58 : decode cX5_readName 58 = .ok (.return_, 1) := by decide +kernel
theorem dX5_readOpened_0 : decode cX5_readOpened 0 = .ok (.aload_n 0, 1) := by decide +kernel
theorem dX5_readOpened_1 : decode cX5_readOpened 1 = .ok (.getfield 52, 3) := by decide +kernel
theorem dX5_readOpened_4 : decode cX5_readOpened 4 = .ok (.istore_n 1, 1) := by decide +kernel
theorem dX5_readOpened_5 : decode cX5_readOpened 5 = .ok (.aload_n 0, 1) := by decide +kernel
theorem dX5_readOpened_6 : decode cX5_readOpened 6 = .ok (.invokevirtual 77, 3) := by decide +kernel
theorem dX5_readOpened_9 : decode cX5_readOpened 9 = .ok (.iload_n 1, 1) := by decide +kernel
theorem dX5_readOpened_10 : decode cX5_readOpened 10 = .ok (.bipush 31, 2) := by decide +kernel
theorem dX5_readOpened_12 : decode cX5_readOpened 12 = .ok (.if_icmp .ne 16, 3) := by decide +kernel
theorem dX5_readOpened_15 : decode cX5_readOpened 15 = .ok (.aload_n 0, 1) := by decide +kernel
theorem dX5_readOpened_16 : decode cX5_readOpened 16 = .ok (.invokevirtual 83, 3) := by decide +kernel
theorem dX5_readOpened_19 : decode cX5_readOpened 19 = .ok (.aload_n 0, 1) := by decide +kernel
theorem dX5_readOpened_20 : decode cX5_readOpened 20 = .ok (.bipush 32, 2) := by decide +kernel
theorem dX5_readOpened_22 : decode cX5_readOpened 22 = .ok (.invokevirtual 86, 3) := by decide +kernel
theorem dX5_readOpened_25 : decode cX5_readOpened 25 = .ok (.goto 26, 3) := by decide +kernel
theorem dX5_readOpened_28 : decode cX5_readOpened 28 = .ok (.iload_n 1, 1) := by decide +kernel
theorem dX5_readOpened_29 : decode cX5_readOpened 29 = .ok (.bipush 28, 2) := by decide +kernel
theorem dX5_readOpened_31 : decode cX5_readOpened 31 = .ok (.if_icmp .ne 16, 3) := by decide +kernel
theorem dX5_readOpened_34 : decode cX5_readOpened 34 = .ok (.aload_n 0, 1) := by decide +kernel
theorem dX5_readOpened_35 : decode cX5_readOpened 35 = .ok (.invokevirtual 105, 3) := by decide +kernel
theorem dX5_readOpened_38 : decode cX5_readOpened 38 = .ok (.aload_n 0, 1) := by decide +kernel
theorem dX5_readOpened_39 : decode cX5_readOpened 39 = .ok (.bipush 38, 2) := by decide +kernel
theorem dX5_readOpened_41 : decode cX5_readOpened 41 = .ok (.invokevirtual 89, 3) := by decide +kernel
theorem dX5_readOpened_44 : decode cX5_readOpened 44 = .ok (.goto 7, 3) := by decide +kernel
theorem dX5_readOpened_47 : decode cX5_readOpened 47 = .ok (.aload_n 0, 1) := by decide +kernel
theorem dX5_readOpened_48 : decode cX5_readOpened 48 = .ok (.invokevirtual 124, 3) := by decide +kernel
theorem dX5_readOpened_51 : decode cX5_readOpened 51 = .ok (.return_, 1) := by decide +kernel
theorem dX5_readIf_0 : decode cX5_readIf 0 = .ok (.aload_n 0, 1) := by decide +kernel
theorem dX5_readIf_1 : decode cX5_readIf 1 = .ok (.invokevirtual 80, 3) := by decide +kernel
theorem dX5_readIf_4 : decode cX5_readIf 4 = .ok (.aload_n 0, 1) := by decide +kernel
theorem dX5_readIf_5 : decode cX5_readIf 5 = .ok (.bipush 34, 2) := by decide +kernel
theorem dX5_readIf_7 : decode cX5_readIf 7 = .ok (.invokevirtual 86, 3) := by decide +kernel
theorem dX5_readIf_10 : decode cX5_readIf 10 = .ok (.aload_n 0, 1) := by decide +kernel
theorem dX5_readIf_11 : decode cX5_readIf 11 = .ok (.bipush 34, 2) := by decide +kernel
theorem dX5_readIf_13 : decode cX5_readIf 13 = .ok (.iconst 0, 1) := by decide +kernel
theorem dX5_readIf_14 : decode cX5_readIf 14 = .ok (.invokevirtual 120, 3) := by decide +kernel
theorem dX5_readIf_17 : decode cX5_readIf 17 = .ok (.istore_n 1, 1) := by decide +kernel
theorem dX5_readIf_18 : decode cX5_readIf 18 = .ok (.aload_n 0, 1) := by decide +kernel
theorem dX5_readIf_19 : decode cX5_readIf 19 = .ok (.invokevirtual 83, 3) := by decide +kernel
theorem dX5_readIf_22 : decode cX5_readIf 22 = .ok (.aload_n 0, 1) := by decide +kernel
theorem dX5_readIf_23 : decode cX5_readIf 23 = .ok (.bipush 35, 2) := by decide +kernel
theorem dX5_readIf_25 : decode cX5_readIf 25 = .ok (.invokevirtual 86, 3) := by decide +kernel
theorem dX5_readIf_28 : decode cX5_readIf 28 = .ok (.aload_n 0, 1) := by decide +kernel
theorem dX5_readIf_29 : decode cX5_readIf 29 = .ok (.bipush 35, 2) := by decide +kernel
theorem dX5_readIf_31 : decode cX5_readIf 31 = .ok (.iconst 0, 1) := by decide +kernel
theorem dX5_readIf_32 : decode cX5_readIf 32 = .ok (.invokevirtual 120, 3) := by decide +kernel
theorem dX5_readIf_35 : decode cX5_readIf 35 = .ok (.istore_n 2, 1) := by decide +kernel
theorem dX5_readIf_36 : decode cX5_readIf 36 = .ok (.aload_n 0, 1) := by decide +kernel
theorem dX5_readIf_37 : decode cX5_readIf 37 = .ok (.iload_n 1, 1) := by decide +kernel
theorem dX5_readIf_38 : decode cX5_readIf 38 = .ok (.invokevirtual 127, 3) := by decide +kernel
theorem dX5_readIf_41 : decode cX5_readIf 41 = .ok (.aload_n 0, 1) := by decide +kernel
theorem dX5_readIf_42 : decode cX5_readIf 42 = .ok (.invokevirtual 83, 3) := by decide +kernel
theorem dX5_readIf_45 : decode cX5_readIf 45 = .ok (.aload_n 0, 1) := by decide +kernel
theorem dX5_readIf_46 : decode cX5_readIf 46 = .ok (.bipush 15, 2) := by decide +kernel
theorem dX5_readIf_48 : decode cX5_readIf 48 = .ok (.invokevirtual 86, 3) := by decide +kernel
theorem dX5_readIf_51 : decode cX5_readIf 51 = .ok (.aload_n 0, 1) := by decide +kernel
theorem dX5_readIf_52 : decode cX5_readIf 52 = .ok (.iload_n 2, 1) := by decide +kernel
theorem dX5_readIf_53 : decode cX5_readIf 53 = .ok (.invokevirtual 127, 3) := by decide +kernel
theorem dX5_readIf_56 : decode cX5_readIf 56 = .ok (.return_, 1) := by decide +kernel
theorem dX5_opens_0 : decode cX5_opens 0 = .ok (.aload_n 0, 1) := by decide +kernel
theorem dX5_opens_1 : decode cX5_opens 1 = .ok (.getfield 55, 3) := by decide +kernel
theorem dX5_opens_4 : decode cX5_opens 4 = .ok (.bipush 8, 2) := by decide +kernel
theorem dX5_opens_6 : decode cX5_opens 6 = .ok (.if_icmp .lt 10, 3) := by decide +kernel
theorem dX5_opens_9 : decode cX5_opens 9 = .ok (.aload_n 0, 1) := by decide +kernel
theorem dX5_opens_10 : decode cX5_opens 10 = .ok (.iconst 3, 1) := by decide +kernel
theorem dX5_opens_11 : decode cX5_opens 11 = .ok (.invokevirtual 70, 3) := by decide +kernel
theorem dX5_opens_14 : decode cX5_opens 14 = .ok (.iconst 0, 1) := by decide +kernel
theorem dX5_opens_15 : decode cX5_opens 15 = .ok (.ireturn, 1) := by decide +kernel
theorem dX5_opens_16 : decode cX5_opens 16 = .ok (.aload_n 0, 1) := by decide +kernel
theorem dX5_opens_17 : decode cX5_opens 17 = .ok (.dup, 1) := by decide +kernel
theorem dX5_opens_18 : decode cX5_opens 18 = .ok (.getfield 55, 3) := by decide +kernel
theorem dX5_opens_21 : decode cX5_opens 21 = .ok (.iconst 1, 1) := by decide +kernel
theorem dX5_opens_22 : decode cX5_opens 22 = .ok (.iadd, 1) := by decide +kernel
theorem dX5_opens_23 : decode cX5_opens 23 = .ok (.putfield 55, 3) := by decide +kernel
theorem dX5_opens_26 : decode cX5_opens 26 = .ok (.iconst 1, 1) := by decide +kernel
theorem dX5_opens_27 : decode cX5_opens 27 = .ok (.ireturn, 1) := by decide +kernel
theorem dX5_take_0 : decode cX5_take 0 = .ok (.aload_n 0, 1) := by decide +kernel
theorem dX5_take_1 : decode cX5_take 1 = .ok (.getfield 52, 3) := by decide +kernel
theorem dX5_take_4 : decode cX5_take 4 = .ok (.iload_n 1, 1) := by decide +kernel
theorem dX5_take_5 : decode cX5_take 5 = .ok (.if_icmp .ne 10, 3) := by decide +kernel
theorem dX5_take_8 : decode cX5_take 8 = .ok (.aload_n 0, 1) := by decide +kernel
theorem dX5_take_9 : decode cX5_take 9 = .ok (.invokevirtual 77, 3) := by decide +kernel
theorem dX5_take_12 : decode cX5_take 12 = .ok (.goto 8, 3) := by decide +kernel
theorem dX5_take_15 : decode cX5_take 15 = .ok (.aload_n 0, 1) := by decide +kernel
theorem dX5_take_16 : decode cX5_take 16 = .ok (.iconst 1, 1) := by decide +kernel
theorem dX5_take_17 : decode cX5_take 17 = .ok (.invokevirtual 70, 3) := by decide +kernel
theorem dX5_take_20 : decode cX5_take 20 = .ok (.return_, 1) := by decide +kernel
theorem dX5_next_0 : decode cX5_next 0 = .ok (.aload_n 0, 1) := by decide +kernel
theorem dX5_next_1 : decode cX5_next 1 = .ok (.getfield 25, 3) := by decide +kernel
theorem dX5_next_4 : decode cX5_next 4 = .ok (.ifCond .ne 28, 3) := by decide +kernel
theorem dX5_next_7 : decode cX5_next 7 = .ok (.aload_n 0, 1) := by decide +kernel
theorem dX5_next_8 : decode cX5_next 8 = .ok (.dup, 1) := by decide +kernel
theorem dX5_next_9 : decode cX5_next 9 = .ok (.getfield 45, 3) := by decide +kernel
theorem dX5_next_12 : decode cX5_next 12 = .ok (.iconst 1, 1) := by decide +kernel
theorem dX5_next_13 : decode cX5_next 13 = .ok (.iadd, 1) := by decide +kernel
theorem dX5_next_14 : decode cX5_next 14 = .ok (.putfield 45, 3) := by decide +kernel
theorem dX5_next_17 : decode cX5_next 17 = .ok (.aload_n 0, 1) := by decide +kernel
theorem dX5_next_18 : decode cX5_next 18 = .ok (.aload_n 0, 1) := by decide +kernel
theorem dX5_next_19 : decode cX5_next 19 = .ok (.getfield 12, 3) := by decide +kernel
theorem dX5_next_22 : decode cX5_next 22 = .ok (.aload_n 0, 1) := by decide +kernel
theorem dX5_next_23 : decode cX5_next 23 = .ok (.getfield 45, 3) := by decide +kernel
theorem dX5_next_26 : decode cX5_next 26 = .ok (.invokevirtual 48, 3) := by decide +kernel
theorem dX5_next_29 : decode cX5_next 29 = .ok (.putfield 52, 3) := by decide +kernel
theorem dX5_next_32 : decode cX5_next 32 = .ok (.return_, 1) := by decide +kernel
theorem dX5_fail_0 : decode cX5_fail 0 = .ok (.aload_n 0, 1) := by decide +kernel
theorem dX5_fail_1 : decode cX5_fail 1 = .ok (.getfield 25, 3) := by decide +kernel
theorem dX5_fail_4 : decode cX5_fail 4 = .ok (.ifCond .ne 29, 3) := by decide +kernel
theorem dX5_fail_7 : decode cX5_fail 7 = .ok (.aload_n 0, 1) := by decide +kernel
theorem dX5_fail_8 : decode cX5_fail 8 = .ok (.iload_n 1, 1) := by decide +kernel
theorem dX5_fail_9 : decode cX5_fail 9 = .ok (.putfield 25, 3) := by decide +kernel
theorem dX5_fail_12 : decode cX5_fail 12 = .ok (.aload_n 0, 1) := by decide +kernel
theorem dX5_fail_13 : decode cX5_fail 13 = .ok (.aload_n 0, 1) := by decide +kernel
theorem dX5_fail_14 : decode cX5_fail 14 = .ok (.getfield 12, 3) := by decide +kernel
theorem dX5_fail_17 : decode cX5_fail 17 = .ok (.aload_n 0, 1) := by decide +kernel
theorem dX5_fail_18 : decode cX5_fail 18 = .ok (.getfield 45, 3) := by decide +kernel
theorem dX5_fail_21 : decode cX5_fail 21 = .ok (.invokevirtual 130, 3) := by decide +kernel
theorem dX5_fail_24 : decode cX5_fail 24 = .ok (.putfield 29, 3) := by decide +kernel
theorem dX5_fail_27 : decode cX5_fail 27 = .ok (.aload_n 0, 1) := by decide +kernel
theorem dX5_fail_28 : decode cX5_fail 28 = .ok (.bipush 36, 2) := by decide +kernel
theorem dX5_fail_30 : decode cX5_fail 30 = .ok (.putfield 52, 3) := by decide +kernel
theorem dX5_fail_33 : decode cX5_fail 33 = .ok (.return_, 1) := by decide +kernel
theorem dX5_order_0 : decode cX5_order 0 = .ok (.aload_n 0, 1) := by decide +kernel
theorem dX5_order_1 : decode cX5_order 1 = .ok (.getfield 42, 3) := by decide +kernel
theorem dX5_order_4 : decode cX5_order 4 = .ok (.aload_n 0, 1) := by decide +kernel
theorem dX5_order_5 : decode cX5_order 5 = .ok (.getfield 18, 3) := by decide +kernel
theorem dX5_order_8 : decode cX5_order 8 = .ok (.arraylength, 1) := by decide +kernel
theorem dX5_order_9 : decode cX5_order 9 = .ok (.if_icmp .ge 23, 3) := by decide +kernel
theorem dX5_order_12 : decode cX5_order 12 = .ok (.aload_n 0, 1) := by decide +kernel
theorem dX5_order_13 : decode cX5_order 13 = .ok (.getfield 18, 3) := by decide +kernel
theorem dX5_order_16 : decode cX5_order 16 = .ok (.aload_n 0, 1) := by decide +kernel
theorem dX5_order_17 : decode cX5_order 17 = .ok (.getfield 42, 3) := by decide +kernel
theorem dX5_order_20 : decode cX5_order 20 = .ok (.iload_n 1, 1) := by decide +kernel
theorem dX5_order_21 : decode cX5_order 21 = .ok (.iastore, 1) := by decide +kernel
theorem dX5_order_22 : decode cX5_order 22 = .ok (.aload_n 0, 1) := by decide +kernel
theorem dX5_order_23 : decode cX5_order 23 = .ok (.dup, 1) := by decide +kernel
theorem dX5_order_24 : decode cX5_order 24 = .ok (.getfield 42, 3) := by decide +kernel
theorem dX5_order_27 : decode cX5_order 27 = .ok (.iconst 1, 1) := by decide +kernel
theorem dX5_order_28 : decode cX5_order 28 = .ok (.iadd, 1) := by decide +kernel
theorem dX5_order_29 : decode cX5_order 29 = .ok (.putfield 42, 3) := by decide +kernel
theorem dX5_order_32 : decode cX5_order 32 = .ok (.return_, 1) := by decide +kernel
theorem dX5_orderWith_0 : decode cX5_orderWith 0 = .ok (.aload_n 0, 1) := by decide +kernel
theorem dX5_orderWith_1 : decode cX5_orderWith 1 = .ok (.iload_n 1, 1) := by decide +kernel
theorem dX5_orderWith_2 : decode cX5_orderWith 2 = .ok (.invokevirtual 89, 3) := by decide +kernel
theorem dX5_orderWith_5 : decode cX5_orderWith 5 = .ok (.aload_n 0, 1) := by decide +kernel
theorem dX5_orderWith_6 : decode cX5_orderWith 6 = .ok (.iload_n 2, 1) := by decide +kernel
theorem dX5_orderWith_7 : decode cX5_orderWith 7 = .ok (.invokevirtual 89, 3) := by decide +kernel
theorem dX5_orderWith_10 : decode cX5_orderWith 10 = .ok (.aload_n 0, 1) := by decide +kernel
theorem dX5_orderWith_11 : decode cX5_orderWith 11 = .ok (.getfield 42, 3) := by decide +kernel
theorem dX5_orderWith_14 : decode cX5_orderWith 14 = .ok (.iconst 1, 1) := by decide +kernel
theorem dX5_orderWith_15 : decode cX5_orderWith 15 = .ok (.isub, 1) := by decide +kernel
theorem dX5_orderWith_16 : decode cX5_orderWith 16 = .ok (.ireturn, 1) := by decide +kernel
theorem dX5_landHere_0 : decode cX5_landHere 0 = .ok (.iload_n 1, 1) := by decide +kernel
theorem dX5_landHere_1 : decode cX5_landHere 1 = .ok (.ifCond .lt 22, 3) := by decide +kernel
theorem dX5_landHere_4 : decode cX5_landHere 4 = .ok (.iload_n 1, 1) := by decide +kernel
theorem dX5_landHere_5 : decode cX5_landHere 5 = .ok (.aload_n 0, 1) := by decide +kernel
theorem dX5_landHere_6 : decode cX5_landHere 6 = .ok (.getfield 18, 3) := by decide +kernel
theorem dX5_landHere_9 : decode cX5_landHere 9 = .ok (.arraylength, 1) := by decide +kernel
theorem dX5_landHere_10 : decode cX5_landHere 10 = .ok (.if_icmp .ge 13, 3) := by decide +kernel
theorem dX5_landHere_13 : decode cX5_landHere 13 = .ok (.aload_n 0, 1) := by decide +kernel
theorem dX5_landHere_14 : decode cX5_landHere 14 = .ok (.getfield 18, 3) := by decide +kernel
theorem dX5_landHere_17 : decode cX5_landHere 17 = .ok (.iload_n 1, 1) := by decide +kernel
theorem dX5_landHere_18 : decode cX5_landHere 18 = .ok (.aload_n 0, 1) := by decide +kernel
theorem dX5_landHere_19 : decode cX5_landHere 19 = .ok (.getfield 42, 3) := by decide +kernel
theorem dX5_landHere_22 : decode cX5_landHere 22 = .ok (.iastore, 1) := by decide +kernel
theorem dX5_landHere_23 : decode cX5_landHere 23 = .ok (.return_, 1) := by decide +kernel
theorem dX6_init_0 : decode cX6_init 0 = .ok (.aload_n 0, 1) := by decide +kernel
theorem dX6_init_1 : decode cX6_init 1 = .ok (.invokespecial 1, 3) := by decide +kernel
theorem dX6_init_4 : decode cX6_init 4 = .ok (.aload_n 0, 1) := by decide +kernel
theorem dX6_init_5 : decode cX6_init 5 = .ok (.aload_n 1, 1) := by decide +kernel
theorem dX6_init_6 : decode cX6_init 6 = .ok (.putfield 7, 3) := by decide +kernel
theorem dX6_init_9 : decode cX6_init 9 = .ok (.aload_n 0, 1) := by decide +kernel
theorem dX6_init_10 : decode cX6_init 10 = .ok (.iload_n 2, 1) := by decide +kernel
theorem dX6_init_11 : decode cX6_init 11 = .ok (.putfield 13, 3) := by decide +kernel
theorem dX6_init_14 : decode cX6_init 14 = .ok (.aload_n 0, 1) := by decide +kernel
theorem dX6_init_15 : decode cX6_init 15 = .ok (.iload_n 3, 1) := by decide +kernel
theorem dX6_init_16 : decode cX6_init 16 = .ok (.putfield 17, 3) := by decide +kernel
theorem dX6_init_19 : decode cX6_init 19 = .ok (.aload_n 0, 1) := by decide +kernel
theorem dX6_init_20 : decode cX6_init 20 = .ok (.iload 4, 2) := by decide +kernel
theorem dX6_init_22 : decode cX6_init 22 = .ok (.putfield 20, 3) := by decide +kernel
theorem dX6_init_25 : decode cX6_init 25 = .ok (.return_, 1) := by decide +kernel
theorem dX7_init_0 : decode cX7_init 0 = .ok (.aload_n 0, 1) := by decide +kernel
theorem dX7_init_1 : decode cX7_init 1 = .ok (.invokespecial 5, 3) := by decide +kernel
theorem dX7_init_4 : decode cX7_init 4 = .ok (.aload_n 0, 1) := by decide +kernel
theorem dX7_init_5 : decode cX7_init 5 = .ok (.new 11, 3) := by decide +kernel
theorem dX7_init_8 : decode cX7_init 8 = .ok (.dup, 1) := by decide +kernel
theorem dX7_init_9 : decode cX7_init 9 = .ok (.iconst 3, 1) := by decide +kernel
theorem dX7_init_10 : decode cX7_init 10 = .ok (.invokespecial 13, 3) := by decide +kernel
theorem dX7_init_13 : decode cX7_init 13 = .ok (.putfield 16, 3) := by decide +kernel
theorem dX7_init_16 : decode cX7_init 16 = .ok (.aload_n 0, 1) := by decide +kernel
theorem dX7_init_17 : decode cX7_init 17 = .ok (.sipush 3001, 3) := by decide +kernel
theorem dX7_init_20 : decode cX7_init 20 = .ok (.newarray .int, 2) := by decide +kernel
theorem dX7_init_22 : decode cX7_init 22 = .ok (.putfield 20, 3) := by decide +kernel
theorem dX7_init_25 : decode cX7_init 25 = .ok (.aload_n 0, 1) := by decide +kernel
theorem dX7_init_26 : decode cX7_init 26 = .ok (.sipush 3001, 3) := by decide +kernel
theorem dX7_init_29 : decode cX7_init 29 = .ok (.newarray .int, 2) := by decide +kernel
theorem dX7_init_31 : decode cX7_init 31 = .ok (.putfield 24, 3) := by decide +kernel
theorem dX7_init_34 : decode cX7_init 34 = .ok (.aload_n 0, 1) := by decide +kernel
theorem dX7_init_35 : decode cX7_init 35 = .ok (.sipush 3001, 3) := by decide +kernel
theorem dX7_init_38 : decode cX7_init 38 = .ok (.newarray .int, 2) := by decide +kernel
theorem dX7_init_40 : decode cX7_init 40 = .ok (.putfield 27, 3) := by decide +kernel
theorem dX7_init_43 : decode cX7_init 43 = .ok (.aload_n 0, 1) := by decide +kernel
theorem dX7_init_44 : decode cX7_init 44 = .ok (.sipush 8192, 3) := by decide +kernel
theorem dX7_init_47 : decode cX7_init 47 = .ok (.newarray .int, 2) := by decide +kernel
theorem dX7_init_49 : decode cX7_init 49 = .ok (.putfield 30, 3) := by decide +kernel
theorem dX7_init_52 : decode cX7_init 52 = .ok (.aload_n 0, 1) := by decide +kernel
theorem dX7_init_53 : decode cX7_init 53 = .ok (.aload_n 1, 1) := by decide +kernel
theorem dX7_init_54 : decode cX7_init 54 = .ok (.putfield 33, 3) := by decide +kernel
theorem dX7_init_57 : decode cX7_init 57 = .ok (.return_, 1) := by decide +kernel
theorem dX7_goTo_0 : decode cX7_goTo 0 = .ok (.aload_n 0, 1) := by decide +kernel
theorem dX7_goTo_1 : decode cX7_goTo 1 = .ok (.iload_n 1, 1) := by decide +kernel
theorem dX7_goTo_2 : decode cX7_goTo 2 = .ok (.putfield 37, 3) := by decide +kernel
theorem dX7_goTo_5 : decode cX7_goTo 5 = .ok (.aload_n 0, 1) := by decide +kernel
theorem dX7_goTo_6 : decode cX7_goTo 6 = .ok (.getfield 16, 3) := by decide +kernel
theorem dX7_goTo_9 : decode cX7_goTo 9 = .ok (.iconst 0, 1) := by decide +kernel
theorem dX7_goTo_10 : decode cX7_goTo 10 = .ok (.invokevirtual 41, 3) := by decide +kernel
theorem dX7_goTo_13 : decode cX7_goTo 13 = .ok (.return_, 1) := by decide +kernel
theorem dX7_goApart_0 : decode cX7_goApart 0 = .ok (.aload_n 0, 1) := by decide +kernel
theorem dX7_goApart_1 : decode cX7_goApart 1 = .ok (.iconst (-1), 1) := by decide +kernel
theorem dX7_goApart_2 : decode cX7_goApart 2 = .ok (.putfield 37, 3) := by decide +kernel
theorem dX7_goApart_5 : decode cX7_goApart 5 = .ok (.aload_n 0, 1) := by decide +kernel
theorem dX7_goApart_6 : decode cX7_goApart 6 = .ok (.getfield 16, 3) := by decide +kernel
theorem dX7_goApart_9 : decode cX7_goApart 9 = .ok (.iconst 0, 1) := by decide +kernel
theorem dX7_goApart_10 : decode cX7_goApart 10 = .ok (.invokevirtual 41, 3) := by decide +kernel
theorem dX7_goApart_13 : decode cX7_goApart 13 = .ok (.return_, 1) := by decide +kernel
theorem dX7_add_0 : decode cX7_add 0 = .ok (.aload_n 0, 1) := by decide +kernel
theorem dX7_add_1 : decode cX7_add 1 = .ok (.getfield 16, 3) := by decide +kernel
theorem dX7_add_4 : decode cX7_add 4 = .ok (.iload_n 1, 1) := by decide +kernel
theorem dX7_add_5 : decode cX7_add 5 = .ok (.invokevirtual 44, 3) := by decide +kernel
theorem dX7_add_8 : decode cX7_add 8 = .ok (.return_, 1) := by decide +kernel
theorem dX7_seek_0 : decode cX7_seek 0 = .ok (.aload_n 0, 1) := by decide +kernel
theorem dX7_seek_1 : decode cX7_seek 1 = .ok (.getfield 30, 3) := by decide +kernel
theorem dX7_seek_4 : decode cX7_seek 4 = .ok (.iconst 0, 1) := by decide +kernel
theorem dX7_seek_5 : decode cX7_seek 5 = .ok (.invokestatic 47, 3) := by decide +kernel
theorem dX7_seek_8 : decode cX7_seek 8 = .ok (.aload_n 0, 1) := by decide +kernel
theorem dX7_seek_9 : decode cX7_seek 9 = .ok (.iconst 0, 1) := by decide +kernel
theorem dX7_seek_10 : decode cX7_seek 10 = .ok (.putfield 53, 3) := by decide +kernel
theorem dX7_seek_13 : decode cX7_seek 13 = .ok (.iconst 0, 1) := by decide +kernel
theorem dX7_seek_14 : decode cX7_seek 14 = .ok (.istore_n 2, 1) := by decide +kernel
theorem dX7_seek_15 : decode cX7_seek 15 = .ok (.iconst 0, 1) := by decide +kernel
theorem dX7_seek_16 : decode cX7_seek 16 = .ok (.istore_n 3, 1) := by decide +kernel
theorem dX7_seek_17 : decode cX7_seek 17 = .ok (.iload_n 3, 1) := by decide +kernel
theorem dX7_seek_18 : decode cX7_seek 18 = .ok (.aload_n 0, 1) := by decide +kernel
theorem dX7_seek_19 : decode cX7_seek 19 = .ok (.getfield 16, 3) := by decide +kernel
theorem dX7_seek_22 : decode cX7_seek 22 = .ok (.invokevirtual 56, 3) := by decide +kernel
theorem dX7_seek_25 : decode cX7_seek 25 = .ok (.if_icmp .ge 16, 3) := by decide +kernel
theorem dX7_seek_28 : decode cX7_seek 28 = .ok (.iload_n 2, 1) := by decide +kernel
theorem dX7_seek_29 : decode cX7_seek 29 = .ok (.bipush 100, 2) := by decide +kernel
theorem dX7_seek_31 : decode cX7_seek 31 = .ok (.imul, 1) := by decide +kernel
theorem dX7_seek_32 : decode cX7_seek 32 = .ok (.iload_n 1, 1) := by decide +kernel
theorem dX7_seek_33 : decode cX7_seek 33 = .ok (.iadd, 1) := by decide +kernel
theorem dX7_seek_34 : decode cX7_seek 34 = .ok (.istore_n 2, 1) := by decide +kernel
theorem dX7_seek_35 : decode cX7_seek 35 = .ok (.iinc 3 1, 3) := by decide +kernel
theorem dX7_seek_38 : decode cX7_seek 38 = .ok (.goto (-21), 3) := by decide +kernel
theorem dX7_seek_41 : decode cX7_seek 41 = .ok (.aload_n 0, 1) := by decide +kernel
theorem dX7_seek_42 : decode cX7_seek 42 = .ok (.iload_n 2, 1) := by decide +kernel
theorem dX7_seek_43 : decode cX7_seek 43 = .ok (.aload_n 0, 1) := by decide +kernel
theorem dX7_seek_44 : decode cX7_seek 44 = .ok (.iload_n 2, 1) := by decide +kernel
theorem dX7_seek_45 : decode cX7_seek 45 = .ok (.invokevirtual 60, 3) := by decide +kernel
theorem dX7_seek_48 : decode cX7_seek 48 = .ok (.iconst (-1), 1) := by decide +kernel
theorem dX7_seek_49 : decode cX7_seek 49 = .ok (.iconst (-1), 1) := by decide +kernel
theorem dX7_seek_50 : decode cX7_seek 50 = .ok (.invokevirtual 64, 3) := by decide +kernel
theorem dX7_seek_53 : decode cX7_seek 53 = .ok (.aload_n 0, 1) := by decide +kernel
theorem dX7_seek_54 : decode cX7_seek 54 = .ok (.iload_n 2, 1) := by decide +kernel
theorem dX7_seek_55 : decode cX7_seek 55 = .ok (.invokevirtual 68, 3) := by decide +kernel
theorem dX7_seek_58 : decode cX7_seek 58 = .ok (.ifCond .eq 5, 3) := by decide +kernel
theorem dX7_seek_61 : decode cX7_seek 61 = .ok (.iconst 0, 1) := by decide +kernel
theorem dX7_seek_62 : decode cX7_seek 62 = .ok (.ireturn, 1) := by decide +kernel
theorem dX7_seek_63 : decode cX7_seek 63 = .ok (.iconst 0, 1) := by decide +kernel
theorem dX7_seek_64 : decode cX7_seek 64 = .ok (.istore_n 3, 1) := by decide +kernel
theorem dX7_seek_65 : decode cX7_seek 65 = .ok (.iload_n 3, 1) := by decide +kernel
theorem dX7_seek_66 : decode cX7_seek 66 = .ok (.aload_n 0, 1) := by decide +kernel
theorem dX7_seek_67 : decode cX7_seek 67 = .ok (.getfield 53, 3) := by decide +kernel
theorem dX7_seek_70 : decode cX7_seek 70 = .ok (.if_icmp .ge 104, 3) := by decide +kernel
theorem dX7_seek_73 : decode cX7_seek 73 = .ok (.iload_n 3, 1) := by decide +kernel
theorem dX7_seek_74 : decode cX7_seek 74 = .ok (.sipush 3001, 3) := by decide +kernel
theorem dX7_seek_77 : decode cX7_seek 77 = .ok (.if_icmp .ge 97, 3) := by decide +kernel
theorem dX7_seek_80 : decode cX7_seek 80 = .ok (.iconst 0, 1) := by decide +kernel
theorem dX7_seek_81 : decode cX7_seek 81 = .ok (.istore 4, 2) := by decide +kernel
theorem dX7_seek_83 : decode cX7_seek 83 = .ok (.iload 4, 2) := by decide +kernel
theorem dX7_seek_85 : decode cX7_seek 85 = .ok (.iconst 4, 1) := by decide +kernel
theorem dX7_seek_86 : decode cX7_seek 86 = .ok (.if_icmp .ge 82, 3) := by decide +kernel
theorem dX7_seek_89 : decode cX7_seek 89 = .ok (.aload_n 0, 1) := by decide +kernel
theorem dX7_seek_90 : decode cX7_seek 90 = .ok (.aload_n 0, 1) := by decide +kernel
theorem dX7_seek_91 : decode cX7_seek 91 = .ok (.getfield 20, 3) := by decide +kernel
theorem dX7_seek_94 : decode cX7_seek 94 = .ok (.iload_n 3, 1) := by decide +kernel
theorem dX7_seek_95 : decode cX7_seek 95 = .ok (.iaload, 1) := by decide +kernel
theorem dX7_seek_96 : decode cX7_seek 96 = .ok (.iload 4, 2) := by decide +kernel
theorem dX7_seek_98 : decode cX7_seek 98 = .ok (.invokevirtual 72, 3) := by decide +kernel
theorem dX7_seek_101 : decode cX7_seek 101 = .ok (.istore 5, 2) := by decide +kernel
theorem dX7_seek_103 : decode cX7_seek 103 = .ok (.aload_n 0, 1) := by decide +kernel
theorem dX7_seek_104 : decode cX7_seek 104 = .ok (.iload 5, 2) := by decide +kernel
theorem dX7_seek_106 : decode cX7_seek 106 = .ok (.invokevirtual 60, 3) := by decide +kernel
theorem dX7_seek_109 : decode cX7_seek 109 = .ok (.istore 6, 2) := by decide +kernel
theorem dX7_seek_111 : decode cX7_seek 111 = .ok (.aload_n 0, 1) := by decide +kernel
theorem dX7_seek_112 : decode cX7_seek 112 = .ok (.getfield 30, 3) := by decide +kernel
theorem dX7_seek_115 : decode cX7_seek 115 = .ok (.iload 6, 2) := by decide +kernel
theorem dX7_seek_117 : decode cX7_seek 117 = .ok (.iaload, 1) := by decide +kernel
theorem dX7_seek_118 : decode cX7_seek 118 = .ok (.ifCond .eq 6, 3) := by decide +kernel
theorem dX7_seek_121 : decode cX7_seek 121 = .ok (.goto 41, 3) := by decide +kernel
theorem dX7_seek_124 : decode cX7_seek 124 = .ok (.aload_n 0, 1) := by decide +kernel
theorem dX7_seek_125 : decode cX7_seek 125 = .ok (.iload 5, 2) := by decide +kernel
theorem dX7_seek_127 : decode cX7_seek 127 = .ok (.iload 6, 2) := by decide +kernel
theorem dX7_seek_129 : decode cX7_seek 129 = .ok (.iload_n 3, 1) := by decide +kernel
theorem dX7_seek_130 : decode cX7_seek 130 = .ok (.iload 4, 2) := by decide +kernel
theorem dX7_seek_132 : decode cX7_seek 132 = .ok (.invokevirtual 64, 3) := by decide +kernel
theorem dX7_seek_135 : decode cX7_seek 135 = .ok (.aload_n 0, 1) := by decide +kernel
theorem dX7_seek_136 : decode cX7_seek 136 = .ok (.getfield 53, 3) := by decide +kernel
theorem dX7_seek_139 : decode cX7_seek 139 = .ok (.sipush 3001, 3) := by decide +kernel
theorem dX7_seek_142 : decode cX7_seek 142 = .ok (.if_icmp .lt 6, 3) := by decide +kernel
theorem dX7_seek_145 : decode cX7_seek 145 = .ok (.bipush (-2), 2) := by decide +kernel
theorem dX7_seek_147 : decode cX7_seek 147 = .ok (.ireturn, 1) := by decide +kernel
theorem dX7_seek_148 : decode cX7_seek 148 = .ok (.aload_n 0, 1) := by decide +kernel
theorem dX7_seek_149 : decode cX7_seek 149 = .ok (.iload 5, 2) := by decide +kernel
theorem dX7_seek_151 : decode cX7_seek 151 = .ok (.invokevirtual 68, 3) := by decide +kernel
theorem dX7_seek_154 : decode cX7_seek 154 = .ok (.ifCond .eq 8, 3) := by decide +kernel
theorem dX7_seek_157 : decode cX7_seek 157 = .ok (.aload_n 0, 1) := by decide +kernel
theorem dX7_seek_158 : decode cX7_seek 158 = .ok (.invokevirtual 76, 3) := by decide +kernel
theorem dX7_seek_161 : decode cX7_seek 161 = .ok (.ireturn, 1) := by decide +kernel
theorem dX7_seek_162 : decode cX7_seek 162 = .ok (.iinc 4 1, 3) := by decide +kernel
theorem dX7_seek_165 : decode cX7_seek 165 = .ok (.goto (-82), 3) := by decide +kernel
theorem dX7_seek_168 : decode cX7_seek 168 = .ok (.iinc 3 1, 3) := by decide +kernel
theorem dX7_seek_171 : decode cX7_seek 171 = .ok (.goto (-106), 3) := by decide +kernel
theorem dX7_seek_174 : decode cX7_seek 174 = .ok (.iconst (-1), 1) := by decide +kernel
theorem dX7_seek_175 : decode cX7_seek 175 = .ok (.ireturn, 1) := by decide +kernel
theorem dX7_tapAt_0 : decode cX7_tapAt 0 = .ok (.aload_n 0, 1) := by decide +kernel
theorem dX7_tapAt_1 : decode cX7_tapAt 1 = .ok (.getfield 53, 3) := by decide +kernel
theorem dX7_tapAt_4 : decode cX7_tapAt 4 = .ok (.iconst 1, 1) := by decide +kernel
theorem dX7_tapAt_5 : decode cX7_tapAt 5 = .ok (.isub, 1) := by decide +kernel
theorem dX7_tapAt_6 : decode cX7_tapAt 6 = .ok (.istore_n 3, 1) := by decide +kernel
theorem dX7_tapAt_7 : decode cX7_tapAt 7 = .ok (.iload_n 1, 1) := by decide +kernel
theorem dX7_tapAt_8 : decode cX7_tapAt 8 = .ok (.iconst 1, 1) := by decide +kernel
theorem dX7_tapAt_9 : decode cX7_tapAt 9 = .ok (.isub, 1) := by decide +kernel
theorem dX7_tapAt_10 : decode cX7_tapAt 10 = .ok (.istore 4, 2) := by decide +kernel
theorem dX7_tapAt_12 : decode cX7_tapAt 12 = .ok (.iload 4, 2) := by decide +kernel
theorem dX7_tapAt_14 : decode cX7_tapAt 14 = .ok (.iload_n 2, 1) := by decide +kernel
theorem dX7_tapAt_15 : decode cX7_tapAt 15 = .ok (.if_icmp .le 20, 3) := by decide +kernel
theorem dX7_tapAt_18 : decode cX7_tapAt 18 = .ok (.iload_n 3, 1) := by decide +kernel
theorem dX7_tapAt_19 : decode cX7_tapAt 19 = .ok (.ifCond .le 16, 3) := by decide +kernel
theorem dX7_tapAt_22 : decode cX7_tapAt 22 = .ok (.aload_n 0, 1) := by decide +kernel
theorem dX7_tapAt_23 : decode cX7_tapAt 23 = .ok (.getfield 24, 3) := by decide +kernel
theorem dX7_tapAt_26 : decode cX7_tapAt 26 = .ok (.iload_n 3, 1) := by decide +kernel
theorem dX7_tapAt_27 : decode cX7_tapAt 27 = .ok (.iaload, 1) := by decide +kernel
theorem dX7_tapAt_28 : decode cX7_tapAt 28 = .ok (.istore_n 3, 1) := by decide +kernel
theorem dX7_tapAt_29 : decode cX7_tapAt 29 = .ok (.iinc 4 (-1), 3) := by decide +kernel
theorem dX7_tapAt_32 : decode cX7_tapAt 32 = .ok (.goto (-20), 3) := by decide +kernel
theorem dX7_tapAt_35 : decode cX7_tapAt 35 = .ok (.iload_n 3, 1) := by decide +kernel
theorem dX7_tapAt_36 : decode cX7_tapAt 36 = .ok (.ifCond .le 12, 3) := by decide +kernel
theorem dX7_tapAt_39 : decode cX7_tapAt 39 = .ok (.aload_n 0, 1) := by decide +kernel
theorem dX7_tapAt_40 : decode cX7_tapAt 40 = .ok (.getfield 27, 3) := by decide +kernel
theorem dX7_tapAt_43 : decode cX7_tapAt 43 = .ok (.iload_n 3, 1) := by decide +kernel
theorem dX7_tapAt_44 : decode cX7_tapAt 44 = .ok (.iaload, 1) := by decide +kernel
theorem dX7_tapAt_45 : decode cX7_tapAt 45 = .ok (.goto 4, 3) := by decide +kernel
theorem dX7_tapAt_48 : decode cX7_tapAt 48 = .ok (.iconst (-1), 1) := by decide +kernel
theorem dX7_tapAt_49 : decode cX7_tapAt 49 = .ok (.ireturn, 1) := by decide +kernel
theorem dX7_tapsToLatest_0 : decode cX7_tapsToLatest 0 = .ok (.iconst 0, 1) := by decide +kernel
theorem dX7_tapsToLatest_1 : decode cX7_tapsToLatest 1 = .ok (.istore_n 1, 1) := by decide +kernel
theorem dX7_tapsToLatest_2 : decode cX7_tapsToLatest 2 = .ok (.aload_n 0, 1) := by decide +kernel
theorem dX7_tapsToLatest_3 : decode cX7_tapsToLatest 3 = .ok (.getfield 53, 3) := by decide +kernel
theorem dX7_tapsToLatest_6 : decode cX7_tapsToLatest 6 = .ok (.iconst 1, 1) := by decide +kernel
theorem dX7_tapsToLatest_7 : decode cX7_tapsToLatest 7 = .ok (.isub, 1) := by decide +kernel
theorem dX7_tapsToLatest_8 : decode cX7_tapsToLatest 8 = .ok (.istore_n 2, 1) := by decide +kernel
theorem dX7_tapsToLatest_9 : decode cX7_tapsToLatest 9 = .ok (.iconst 0, 1) := by decide +kernel
theorem dX7_tapsToLatest_10 : decode cX7_tapsToLatest 10 = .ok (.istore_n 3, 1) := by decide +kernel
theorem dX7_tapsToLatest_11 : decode cX7_tapsToLatest 11 = .ok (.iload_n 3, 1) := by decide +kernel
theorem dX7_tapsToLatest_12 : decode cX7_tapsToLatest 12 = .ok (.sipush 3001, 3) := by decide +kernel
theorem dX7_tapsToLatest_15 : decode cX7_tapsToLatest 15 = .ok (.if_icmp .ge 23, 3) := by decide +kernel
theorem dX7_tapsToLatest_18 : decode cX7_tapsToLatest 18 = .ok (.iload_n 2, 1) := by decide +kernel
theorem dX7_tapsToLatest_19 : decode cX7_tapsToLatest 19 = .ok (.ifCond .le 19, 3) := by decide +kernel
theorem dX7_tapsToLatest_22 : decode cX7_tapsToLatest 22 = .ok (.aload_n 0, 1) := by decide +kernel
theorem dX7_tapsToLatest_23 : decode cX7_tapsToLatest 23 = .ok (.getfield 24, 3) := by decide +kernel
theorem dX7_tapsToLatest_26 : decode cX7_tapsToLatest 26 = .ok (.iload_n 2, 1) := by decide +kernel
theorem dX7_tapsToLatest_27 : decode cX7_tapsToLatest 27 = .ok (.iaload, 1) := by decide +kernel
theorem dX7_tapsToLatest_28 : decode cX7_tapsToLatest 28 = .ok (.istore_n 2, 1) := by decide +kernel
theorem dX7_tapsToLatest_29 : decode cX7_tapsToLatest 29 = .ok (.iinc 1 1, 3) := by decide +kernel
theorem dX7_tapsToLatest_32 : decode cX7_tapsToLatest 32 = .ok (.iinc 3 1, 3) := by decide +kernel
theorem dX7_tapsToLatest_35 : decode cX7_tapsToLatest 35 = .ok (.goto (-24), 3) := by decide +kernel
theorem dX7_tapsToLatest_38 : decode cX7_tapsToLatest 38 = .ok (.iload_n 1, 1) := by decide +kernel
theorem dX7_tapsToLatest_39 : decode cX7_tapsToLatest 39 = .ok (.ireturn, 1) := by decide +kernel
theorem dX7_rowBehind_0 : decode cX7_rowBehind 0 = .ok (.iload_n 1, 1) := by decide +kernel
theorem dX7_rowBehind_1 : decode cX7_rowBehind 1 = .ok (.istore_n 3, 1) := by decide +kernel
theorem dX7_rowBehind_2 : decode cX7_rowBehind 2 = .ok (.iconst 0, 1) := by decide +kernel
theorem dX7_rowBehind_3 : decode cX7_rowBehind 3 = .ok (.istore 4, 2) := by decide +kernel
theorem dX7_rowBehind_5 : decode cX7_rowBehind 5 = .ok (.iconst 1, 1) := by decide +kernel
theorem dX7_rowBehind_6 : decode cX7_rowBehind 6 = .ok (.istore 5, 2) := by decide +kernel
theorem dX7_rowBehind_8 : decode cX7_rowBehind 8 = .ok (.aload_n 0, 1) := by decide +kernel
theorem dX7_rowBehind_9 : decode cX7_rowBehind 9 = .ok (.getfield 16, 3) := by decide +kernel
theorem dX7_rowBehind_12 : decode cX7_rowBehind 12 = .ok (.invokevirtual 56, 3) := by decide +kernel
theorem dX7_rowBehind_15 : decode cX7_rowBehind 15 = .ok (.iconst 1, 1) := by decide +kernel
theorem dX7_rowBehind_16 : decode cX7_rowBehind 16 = .ok (.isub, 1) := by decide +kernel
theorem dX7_rowBehind_17 : decode cX7_rowBehind 17 = .ok (.istore 6, 2) := by decide +kernel
theorem dX7_rowBehind_19 : decode cX7_rowBehind 19 = .ok (.iload 6, 2) := by decide +kernel
theorem dX7_rowBehind_21 : decode cX7_rowBehind 21 = .ok (.ifCond .lt 53, 3) := by decide +kernel
theorem dX7_rowBehind_24 : decode cX7_rowBehind 24 = .ok (.iload 4, 2) := by decide +kernel
theorem dX7_rowBehind_26 : decode cX7_rowBehind 26 = .ok (.iload 5, 2) := by decide +kernel
theorem dX7_rowBehind_28 : decode cX7_rowBehind 28 = .ok (.aload_n 0, 1) := by decide +kernel
theorem dX7_rowBehind_29 : decode cX7_rowBehind 29 = .ok (.getfield 33, 3) := by decide +kernel
theorem dX7_rowBehind_32 : decode cX7_rowBehind 32 = .ok (.aload_n 0, 1) := by decide +kernel
theorem dX7_rowBehind_33 : decode cX7_rowBehind 33 = .ok (.getfield 16, 3) := by decide +kernel
theorem dX7_rowBehind_36 : decode cX7_rowBehind 36 = .ok (.iload 6, 2) := by decide +kernel
theorem dX7_rowBehind_38 : decode cX7_rowBehind 38 = .ok (.invokevirtual 79, 3) := by decide +kernel
theorem dX7_rowBehind_41 : decode cX7_rowBehind 41 = .ok (.iload_n 3, 1) := by decide +kernel
theorem dX7_rowBehind_42 : decode cX7_rowBehind 42 = .ok (.bipush 100, 2) := by decide +kernel
theorem dX7_rowBehind_44 : decode cX7_rowBehind 44 = .ok (.irem, 1) := by decide +kernel
theorem dX7_rowBehind_45 : decode cX7_rowBehind 45 = .ok (.iload_n 2, 1) := by decide +kernel
theorem dX7_rowBehind_46 : decode cX7_rowBehind 46 = .ok (.invokevirtual 82, 3) := by decide +kernel
theorem dX7_rowBehind_49 : decode cX7_rowBehind 49 = .ok (.invokestatic 88, 3) := by decide +kernel
theorem dX7_rowBehind_52 : decode cX7_rowBehind 52 = .ok (.imul, 1) := by decide +kernel
theorem dX7_rowBehind_53 : decode cX7_rowBehind 53 = .ok (.iadd, 1) := by decide +kernel
theorem dX7_rowBehind_54 : decode cX7_rowBehind 54 = .ok (.istore 4, 2) := by decide +kernel
theorem dX7_rowBehind_56 : decode cX7_rowBehind 56 = .ok (.iload_n 3, 1) := by decide +kernel
theorem dX7_rowBehind_57 : decode cX7_rowBehind 57 = .ok (.bipush 100, 2) := by decide +kernel
theorem dX7_rowBehind_59 : decode cX7_rowBehind 59 = .ok (.idiv, 1) := by decide +kernel
theorem dX7_rowBehind_60 : decode cX7_rowBehind 60 = .ok (.istore_n 3, 1) := by decide +kernel
theorem dX7_rowBehind_61 : decode cX7_rowBehind 61 = .ok (.iload 5, 2) := by decide +kernel
theorem dX7_rowBehind_63 : decode cX7_rowBehind 63 = .ok (.bipush 100, 2) := by decide +kernel
theorem dX7_rowBehind_65 : decode cX7_rowBehind 65 = .ok (.imul, 1) := by decide +kernel
theorem dX7_rowBehind_66 : decode cX7_rowBehind 66 = .ok (.istore 5, 2) := by decide +kernel
theorem dX7_rowBehind_68 : decode cX7_rowBehind 68 = .ok (.iinc 6 (-1), 3) := by decide +kernel
theorem dX7_rowBehind_71 : decode cX7_rowBehind 71 = .ok (.goto (-52), 3) := by decide +kernel
theorem dX7_rowBehind_74 : decode cX7_rowBehind 74 = .ok (.iload 4, 2) := by decide +kernel
theorem dX7_rowBehind_76 : decode cX7_rowBehind 76 = .ok (.ireturn, 1) := by decide +kernel
theorem dX7_isThere_0 : decode cX7_isThere 0 = .ok (.iload_n 1, 1) := by decide +kernel
theorem dX7_isThere_1 : decode cX7_isThere 1 = .ok (.istore_n 2, 1) := by decide +kernel
theorem dX7_isThere_2 : decode cX7_isThere 2 = .ok (.iload_n 1, 1) := by decide +kernel
theorem dX7_isThere_3 : decode cX7_isThere 3 = .ok (.bipush 100, 2) := by decide +kernel
theorem dX7_isThere_5 : decode cX7_isThere 5 = .ok (.irem, 1) := by decide +kernel
theorem dX7_isThere_6 : decode cX7_isThere 6 = .ok (.istore_n 3, 1) := by decide +kernel
theorem dX7_isThere_7 : decode cX7_isThere 7 = .ok (.iconst 1, 1) := by decide +kernel
theorem dX7_isThere_8 : decode cX7_isThere 8 = .ok (.istore 4, 2) := by decide +kernel
theorem dX7_isThere_10 : decode cX7_isThere 10 = .ok (.iconst 1, 1) := by decide +kernel
theorem dX7_isThere_11 : decode cX7_isThere 11 = .ok (.istore 5, 2) := by decide +kernel
theorem dX7_isThere_13 : decode cX7_isThere 13 = .ok (.iconst 0, 1) := by decide +kernel
theorem dX7_isThere_14 : decode cX7_isThere 14 = .ok (.istore 6, 2) := by decide +kernel
theorem dX7_isThere_16 : decode cX7_isThere 16 = .ok (.iload 6, 2) := by decide +kernel
theorem dX7_isThere_18 : decode cX7_isThere 18 = .ok (.aload_n 0, 1) := by decide +kernel
theorem dX7_isThere_19 : decode cX7_isThere 19 = .ok (.getfield 16, 3) := by decide +kernel
theorem dX7_isThere_22 : decode cX7_isThere 22 = .ok (.invokevirtual 56, 3) := by decide +kernel
theorem dX7_isThere_25 : decode cX7_isThere 25 = .ok (.if_icmp .ge 59, 3) := by decide +kernel
theorem dX7_isThere_28 : decode cX7_isThere 28 = .ok (.iload 4, 2) := by decide +kernel
theorem dX7_isThere_30 : decode cX7_isThere 30 = .ok (.ifCond .eq 20, 3) := by decide +kernel
theorem dX7_isThere_33 : decode cX7_isThere 33 = .ok (.iload_n 2, 1) := by decide +kernel
theorem dX7_isThere_34 : decode cX7_isThere 34 = .ok (.bipush 100, 2) := by decide +kernel
theorem dX7_isThere_36 : decode cX7_isThere 36 = .ok (.irem, 1) := by decide +kernel
theorem dX7_isThere_37 : decode cX7_isThere 37 = .ok (.iconst 4, 1) := by decide +kernel
theorem dX7_isThere_38 : decode cX7_isThere 38 = .ok (.idiv, 1) := by decide +kernel
theorem dX7_isThere_39 : decode cX7_isThere 39 = .ok (.aload_n 0, 1) := by decide +kernel
theorem dX7_isThere_40 : decode cX7_isThere 40 = .ok (.getfield 37, 3) := by decide +kernel
theorem dX7_isThere_43 : decode cX7_isThere 43 = .ok (.if_icmp .ne 7, 3) := by decide +kernel
theorem dX7_isThere_46 : decode cX7_isThere 46 = .ok (.iconst 1, 1) := by decide +kernel
theorem dX7_isThere_47 : decode cX7_isThere 47 = .ok (.goto 4, 3) := by decide +kernel
theorem dX7_isThere_50 : decode cX7_isThere 50 = .ok (.iconst 0, 1) := by decide +kernel
theorem dX7_isThere_51 : decode cX7_isThere 51 = .ok (.istore 4, 2) := by decide +kernel
theorem dX7_isThere_53 : decode cX7_isThere 53 = .ok (.iload 5, 2) := by decide +kernel
theorem dX7_isThere_55 : decode cX7_isThere 55 = .ok (.ifCond .eq 15, 3) := by decide +kernel
theorem dX7_isThere_58 : decode cX7_isThere 58 = .ok (.iload_n 2, 1) := by decide +kernel
theorem dX7_isThere_59 : decode cX7_isThere 59 = .ok (.bipush 100, 2) := by decide +kernel
theorem dX7_isThere_61 : decode cX7_isThere 61 = .ok (.irem, 1) := by decide +kernel
theorem dX7_isThere_62 : decode cX7_isThere 62 = .ok (.iload_n 3, 1) := by decide +kernel
theorem dX7_isThere_63 : decode cX7_isThere 63 = .ok (.if_icmp .ne 7, 3) := by decide +kernel
theorem dX7_isThere_66 : decode cX7_isThere 66 = .ok (.iconst 1, 1) := by decide +kernel
theorem dX7_isThere_67 : decode cX7_isThere 67 = .ok (.goto 4, 3) := by decide +kernel
theorem dX7_isThere_70 : decode cX7_isThere 70 = .ok (.iconst 0, 1) := by decide +kernel
theorem dX7_isThere_71 : decode cX7_isThere 71 = .ok (.istore 5, 2) := by decide +kernel
theorem dX7_isThere_73 : decode cX7_isThere 73 = .ok (.iload_n 2, 1) := by decide +kernel
theorem dX7_isThere_74 : decode cX7_isThere 74 = .ok (.bipush 100, 2) := by decide +kernel
theorem dX7_isThere_76 : decode cX7_isThere 76 = .ok (.idiv, 1) := by decide +kernel
theorem dX7_isThere_77 : decode cX7_isThere 77 = .ok (.istore_n 2, 1) := by decide +kernel
theorem dX7_isThere_78 : decode cX7_isThere 78 = .ok (.iinc 6 1, 3) := by decide +kernel
theorem dX7_isThere_81 : decode cX7_isThere 81 = .ok (.goto (-65), 3) := by decide +kernel
theorem dX7_isThere_84 : decode cX7_isThere 84 = .ok (.aload_n 0, 1) := by decide +kernel
theorem dX7_isThere_85 : decode cX7_isThere 85 = .ok (.getfield 37, 3) := by decide +kernel
theorem dX7_isThere_88 : decode cX7_isThere 88 = .ok (.iconst (-1), 1) := by decide +kernel
theorem dX7_isThere_89 : decode cX7_isThere 89 = .ok (.if_icmp .ne 16, 3) := by decide +kernel
theorem dX7_isThere_92 : decode cX7_isThere 92 = .ok (.iload 5, 2) := by decide +kernel
theorem dX7_isThere_94 : decode cX7_isThere 94 = .ok (.ifCond .ne 7, 3) := by decide +kernel
theorem dX7_isThere_97 : decode cX7_isThere 97 = .ok (.iconst 1, 1) := by decide +kernel
theorem dX7_isThere_98 : decode cX7_isThere 98 = .ok (.goto 9, 3) := by decide +kernel
theorem dX7_isThere_101 : decode cX7_isThere 101 = .ok (.iconst 0, 1) := by decide +kernel
theorem dX7_isThere_102 : decode cX7_isThere 102 = .ok (.goto 5, 3) := by decide +kernel
theorem dX7_isThere_105 : decode cX7_isThere 105 = .ok (.iload 4, 2) := by decide +kernel
theorem dX7_isThere_107 : decode cX7_isThere 107 = .ok (.ireturn, 1) := by decide +kernel
theorem dX7_slotOf_0 : decode cX7_slotOf 0 = .ok (.iload_n 1, 1) := by decide +kernel
theorem dX7_slotOf_1 : decode cX7_slotOf 1 = .ok (.ldc 91, 2) := by decide +kernel
theorem dX7_slotOf_3 : decode cX7_slotOf 3 = .ok (.imul, 1) := by decide +kernel
theorem dX7_slotOf_4 : decode cX7_slotOf 4 = .ok (.bipush 19, 2) := by decide +kernel
theorem dX7_slotOf_6 : decode cX7_slotOf 6 = .ok (.iushr, 1) := by decide +kernel
theorem dX7_slotOf_7 : decode cX7_slotOf 7 = .ok (.istore_n 2, 1) := by decide +kernel
theorem dX7_slotOf_8 : decode cX7_slotOf 8 = .ok (.iconst 0, 1) := by decide +kernel
theorem dX7_slotOf_9 : decode cX7_slotOf 9 = .ok (.istore_n 3, 1) := by decide +kernel
theorem dX7_slotOf_10 : decode cX7_slotOf 10 = .ok (.iload_n 3, 1) := by decide +kernel
theorem dX7_slotOf_11 : decode cX7_slotOf 11 = .ok (.sipush 8192, 3) := by decide +kernel
theorem dX7_slotOf_14 : decode cX7_slotOf 14 = .ok (.if_icmp .ge 43, 3) := by decide +kernel
theorem dX7_slotOf_17 : decode cX7_slotOf 17 = .ok (.aload_n 0, 1) := by decide +kernel
theorem dX7_slotOf_18 : decode cX7_slotOf 18 = .ok (.getfield 30, 3) := by decide +kernel
theorem dX7_slotOf_21 : decode cX7_slotOf 21 = .ok (.iload_n 2, 1) := by decide +kernel
theorem dX7_slotOf_22 : decode cX7_slotOf 22 = .ok (.iaload, 1) := by decide +kernel
theorem dX7_slotOf_23 : decode cX7_slotOf 23 = .ok (.ifCond .eq 34, 3) := by decide +kernel
theorem dX7_slotOf_26 : decode cX7_slotOf 26 = .ok (.aload_n 0, 1) := by decide +kernel
theorem dX7_slotOf_27 : decode cX7_slotOf 27 = .ok (.getfield 20, 3) := by decide +kernel
theorem dX7_slotOf_30 : decode cX7_slotOf 30 = .ok (.aload_n 0, 1) := by decide +kernel
theorem dX7_slotOf_31 : decode cX7_slotOf 31 = .ok (.getfield 30, 3) := by decide +kernel
theorem dX7_slotOf_34 : decode cX7_slotOf 34 = .ok (.iload_n 2, 1) := by decide +kernel
theorem dX7_slotOf_35 : decode cX7_slotOf 35 = .ok (.iaload, 1) := by decide +kernel
theorem dX7_slotOf_36 : decode cX7_slotOf 36 = .ok (.iconst 1, 1) := by decide +kernel
theorem dX7_slotOf_37 : decode cX7_slotOf 37 = .ok (.isub, 1) := by decide +kernel
theorem dX7_slotOf_38 : decode cX7_slotOf 38 = .ok (.iaload, 1) := by decide +kernel
theorem dX7_slotOf_39 : decode cX7_slotOf 39 = .ok (.iload_n 1, 1) := by decide +kernel
theorem dX7_slotOf_40 : decode cX7_slotOf 40 = .ok (.if_icmp .eq 17, 3) := by decide +kernel
theorem dX7_slotOf_43 : decode cX7_slotOf 43 = .ok (.iload_n 2, 1) := by decide +kernel
theorem dX7_slotOf_44 : decode cX7_slotOf 44 = .ok (.iconst 1, 1) := by decide +kernel
theorem dX7_slotOf_45 : decode cX7_slotOf 45 = .ok (.iadd, 1) := by decide +kernel
theorem dX7_slotOf_46 : decode cX7_slotOf 46 = .ok (.sipush 8192, 3) := by decide +kernel
theorem dX7_slotOf_49 : decode cX7_slotOf 49 = .ok (.irem, 1) := by decide +kernel
theorem dX7_slotOf_50 : decode cX7_slotOf 50 = .ok (.istore_n 2, 1) := by decide +kernel
theorem dX7_slotOf_51 : decode cX7_slotOf 51 = .ok (.iinc 3 1, 3) := by decide +kernel
theorem dX7_slotOf_54 : decode cX7_slotOf 54 = .ok (.goto (-44), 3) := by decide +kernel
theorem dX7_slotOf_57 : decode cX7_slotOf 57 = .ok (.iload_n 2, 1) := by decide +kernel
theorem dX7_slotOf_58 : decode cX7_slotOf 58 = .ok (.ireturn, 1) := by decide +kernel
theorem dX7_keep_0 : decode cX7_keep 0 = .ok (.aload_n 0, 1) := by decide +kernel
theorem dX7_keep_1 : decode cX7_keep 1 = .ok (.getfield 53, 3) := by decide +kernel
theorem dX7_keep_4 : decode cX7_keep 4 = .ok (.sipush 3001, 3) := by decide +kernel
theorem dX7_keep_7 : decode cX7_keep 7 = .ok (.if_icmp .ge 54, 3) := by decide +kernel
theorem dX7_keep_10 : decode cX7_keep 10 = .ok (.aload_n 0, 1) := by decide +kernel
theorem dX7_keep_11 : decode cX7_keep 11 = .ok (.getfield 20, 3) := by decide +kernel
theorem dX7_keep_14 : decode cX7_keep 14 = .ok (.aload_n 0, 1) := by decide +kernel
theorem dX7_keep_15 : decode cX7_keep 15 = .ok (.getfield 53, 3) := by decide +kernel
theorem dX7_keep_18 : decode cX7_keep 18 = .ok (.iload_n 1, 1) := by decide +kernel
theorem dX7_keep_19 : decode cX7_keep 19 = .ok (.iastore, 1) := by decide +kernel
theorem dX7_keep_20 : decode cX7_keep 20 = .ok (.aload_n 0, 1) := by decide +kernel
theorem dX7_keep_21 : decode cX7_keep 21 = .ok (.getfield 24, 3) := by decide +kernel
theorem dX7_keep_24 : decode cX7_keep 24 = .ok (.aload_n 0, 1) := by decide +kernel
theorem dX7_keep_25 : decode cX7_keep 25 = .ok (.getfield 53, 3) := by decide +kernel
theorem dX7_keep_28 : decode cX7_keep 28 = .ok (.iload_n 3, 1) := by decide +kernel
theorem dX7_keep_29 : decode cX7_keep 29 = .ok (.iastore, 1) := by decide +kernel
theorem dX7_keep_30 : decode cX7_keep 30 = .ok (.aload_n 0, 1) := by decide +kernel
theorem dX7_keep_31 : decode cX7_keep 31 = .ok (.getfield 27, 3) := by decide +kernel
theorem dX7_keep_34 : decode cX7_keep 34 = .ok (.aload_n 0, 1) := by decide +kernel
theorem dX7_keep_35 : decode cX7_keep 35 = .ok (.getfield 53, 3) := by decide +kernel
theorem dX7_keep_38 : decode cX7_keep 38 = .ok (.iload 4, 2) := by decide +kernel
theorem dX7_keep_40 : decode cX7_keep 40 = .ok (.iastore, 1) := by decide +kernel
theorem dX7_keep_41 : decode cX7_keep 41 = .ok (.aload_n 0, 1) := by decide +kernel
theorem dX7_keep_42 : decode cX7_keep 42 = .ok (.dup, 1) := by decide +kernel
theorem dX7_keep_43 : decode cX7_keep 43 = .ok (.getfield 53, 3) := by decide +kernel
theorem dX7_keep_46 : decode cX7_keep 46 = .ok (.iconst 1, 1) := by decide +kernel
theorem dX7_keep_47 : decode cX7_keep 47 = .ok (.iadd, 1) := by decide +kernel
theorem dX7_keep_48 : decode cX7_keep 48 = .ok (.putfield 53, 3) := by decide +kernel
theorem dX7_keep_51 : decode cX7_keep 51 = .ok (.aload_n 0, 1) := by decide +kernel
theorem dX7_keep_52 : decode cX7_keep 52 = .ok (.getfield 30, 3) := by decide +kernel
theorem dX7_keep_55 : decode cX7_keep 55 = .ok (.iload_n 2, 1) := by decide +kernel
theorem dX7_keep_56 : decode cX7_keep 56 = .ok (.aload_n 0, 1) := by decide +kernel
theorem dX7_keep_57 : decode cX7_keep 57 = .ok (.getfield 53, 3) := by decide +kernel
theorem dX7_keep_60 : decode cX7_keep 60 = .ok (.iastore, 1) := by decide +kernel
theorem dX7_keep_61 : decode cX7_keep 61 = .ok (.return_, 1) := by decide +kernel
theorem dX8_init_0 : decode cX8_init 0 = .ok (.aload_n 0, 1) := by decide +kernel
theorem dX8_init_1 : decode cX8_init 1 = .ok (.invokespecial 3, 3) := by decide +kernel
theorem dX8_init_4 : decode cX8_init 4 = .ok (.aload_n 0, 1) := by decide +kernel
theorem dX8_init_5 : decode cX8_init 5 = .ok (.new 9, 3) := by decide +kernel
theorem dX8_init_8 : decode cX8_init 8 = .ok (.dup, 1) := by decide +kernel
theorem dX8_init_9 : decode cX8_init 9 = .ok (.bipush 6, 2) := by decide +kernel
theorem dX8_init_11 : decode cX8_init 11 = .ok (.invokespecial 11, 3) := by decide +kernel
theorem dX8_init_14 : decode cX8_init 14 = .ok (.putfield 14, 3) := by decide +kernel
theorem dX8_init_17 : decode cX8_init 17 = .ok (.aload_n 0, 1) := by decide +kernel
theorem dX8_init_18 : decode cX8_init 18 = .ok (.new 9, 3) := by decide +kernel
theorem dX8_init_21 : decode cX8_init 21 = .ok (.dup, 1) := by decide +kernel
theorem dX8_init_22 : decode cX8_init 22 = .ok (.bipush 6, 2) := by decide +kernel
theorem dX8_init_24 : decode cX8_init 24 = .ok (.invokespecial 11, 3) := by decide +kernel
theorem dX8_init_27 : decode cX8_init 27 = .ok (.putfield 20, 3) := by decide +kernel
theorem dX8_init_30 : decode cX8_init 30 = .ok (.aload_n 0, 1) := by decide +kernel
theorem dX8_init_31 : decode cX8_init 31 = .ok (.new 9, 3) := by decide +kernel
theorem dX8_init_34 : decode cX8_init 34 = .ok (.dup, 1) := by decide +kernel
theorem dX8_init_35 : decode cX8_init 35 = .ok (.bipush 16, 2) := by decide +kernel
theorem dX8_init_37 : decode cX8_init 37 = .ok (.invokespecial 11, 3) := by decide +kernel
theorem dX8_init_40 : decode cX8_init 40 = .ok (.putfield 23, 3) := by decide +kernel
theorem dX8_init_43 : decode cX8_init 43 = .ok (.aload_n 0, 1) := by decide +kernel
theorem dX8_init_44 : decode cX8_init 44 = .ok (.new 9, 3) := by decide +kernel
theorem dX8_init_47 : decode cX8_init 47 = .ok (.dup, 1) := by decide +kernel
theorem dX8_init_48 : decode cX8_init 48 = .ok (.bipush 30, 2) := by decide +kernel
theorem dX8_init_50 : decode cX8_init 50 = .ok (.invokespecial 11, 3) := by decide +kernel
theorem dX8_init_53 : decode cX8_init 53 = .ok (.putfield 26, 3) := by decide +kernel
theorem dX8_init_56 : decode cX8_init 56 = .ok (.aload_n 0, 1) := by decide +kernel
theorem dX8_init_57 : decode cX8_init 57 = .ok (.new 9, 3) := by decide +kernel
theorem dX8_init_60 : decode cX8_init 60 = .ok (.dup, 1) := by decide +kernel
theorem dX8_init_61 : decode cX8_init 61 = .ok (.bipush 30, 2) := by decide +kernel
theorem dX8_init_63 : decode cX8_init 63 = .ok (.invokespecial 11, 3) := by decide +kernel
theorem dX8_init_66 : decode cX8_init 66 = .ok (.putfield 29, 3) := by decide +kernel
theorem dX8_init_69 : decode cX8_init 69 = .ok (.aload_n 0, 1) := by decide +kernel
theorem dX8_init_70 : decode cX8_init 70 = .ok (.new 9, 3) := by decide +kernel
theorem dX8_init_73 : decode cX8_init 73 = .ok (.dup, 1) := by decide +kernel
theorem dX8_init_74 : decode cX8_init 74 = .ok (.bipush 20, 2) := by decide +kernel
theorem dX8_init_76 : decode cX8_init 76 = .ok (.invokespecial 11, 3) := by decide +kernel
theorem dX8_init_79 : decode cX8_init 79 = .ok (.putfield 32, 3) := by decide +kernel
theorem dX8_init_82 : decode cX8_init 82 = .ok (.aload_n 0, 1) := by decide +kernel
theorem dX8_init_83 : decode cX8_init 83 = .ok (.new 9, 3) := by decide +kernel
theorem dX8_init_86 : decode cX8_init 86 = .ok (.dup, 1) := by decide +kernel
theorem dX8_init_87 : decode cX8_init 87 = .ok (.bipush 20, 2) := by decide +kernel
theorem dX8_init_89 : decode cX8_init 89 = .ok (.invokespecial 11, 3) := by decide +kernel
theorem dX8_init_92 : decode cX8_init 92 = .ok (.putfield 35, 3) := by decide +kernel
theorem dX8_init_95 : decode cX8_init 95 = .ok (.aload_n 0, 1) := by decide +kernel
theorem dX8_init_96 : decode cX8_init 96 = .ok (.new 9, 3) := by decide +kernel
theorem dX8_init_99 : decode cX8_init 99 = .ok (.dup, 1) := by decide +kernel
theorem dX8_init_100 : decode cX8_init 100 = .ok (.bipush 20, 2) := by decide +kernel
theorem dX8_init_102 : decode cX8_init 102 = .ok (.invokespecial 11, 3) := by decide +kernel
theorem dX8_init_105 : decode cX8_init 105 = .ok (.putfield 38, 3) := by decide +kernel
theorem dX8_init_108 : decode cX8_init 108 = .ok (.aload_n 0, 1) := by decide +kernel
theorem dX8_init_109 : decode cX8_init 109 = .ok (.new 9, 3) := by decide +kernel
theorem dX8_init_112 : decode cX8_init 112 = .ok (.dup, 1) := by decide +kernel
theorem dX8_init_113 : decode cX8_init 113 = .ok (.bipush 6, 2) := by decide +kernel
theorem dX8_init_115 : decode cX8_init 115 = .ok (.invokespecial 11, 3) := by decide +kernel
theorem dX8_init_118 : decode cX8_init 118 = .ok (.putfield 41, 3) := by decide +kernel
theorem dX8_init_121 : decode cX8_init 121 = .ok (.aload_n 0, 1) := by decide +kernel
theorem dX8_init_122 : decode cX8_init 122 = .ok (.new 9, 3) := by decide +kernel
theorem dX8_init_125 : decode cX8_init 125 = .ok (.dup, 1) := by decide +kernel
theorem dX8_init_126 : decode cX8_init 126 = .ok (.bipush 6, 2) := by decide +kernel
theorem dX8_init_128 : decode cX8_init 128 = .ok (.invokespecial 11, 3) := by decide +kernel
theorem dX8_init_131 : decode cX8_init 131 = .ok (.putfield 44, 3) := by decide +kernel
theorem dX8_init_134 : decode cX8_init 134 = .ok (.aload_n 0, 1) := by decide +kernel
theorem dX8_init_135 : decode cX8_init 135 = .ok (.iconst 4, 1) := by decide +kernel
theorem dX8_init_136 : decode cX8_init 136 = .ok (.anewarray 47, 3) := by decide +kernel
theorem dX8_init_139 : decode cX8_init 139 = .ok (.putfield 49, 3) := by decide +kernel
theorem dX8_init_142 : decode cX8_init 142 = .ok (.aload_n 0, 1) := by decide +kernel
theorem dX8_init_143 : decode cX8_init 143 = .ok (.iconst 2, 1) := by decide +kernel
theorem dX8_init_144 : decode cX8_init 144 = .ok (.iconst 5, 1) := by decide +kernel
theorem dX8_init_145 : decode cX8_init 145 = .ok (.iload_n 1, 1) := by decide +kernel
theorem dX8_init_146 : decode cX8_init 146 = .ok (.invokestatic 53, 3) := by decide +kernel
theorem dX8_init_149 : decode cX8_init 149 = .ok (.invokestatic 59, 3) := by decide +kernel
theorem dX8_init_152 : decode cX8_init 152 = .ok (.putfield 62, 3) := by decide +kernel
theorem dX8_init_155 : decode cX8_init 155 = .ok (.aload_n 0, 1) := by decide +kernel
theorem dX8_init_156 : decode cX8_init 156 = .ok (.iconst 2, 1) := by decide +kernel
theorem dX8_init_157 : decode cX8_init 157 = .ok (.iconst 5, 1) := by decide +kernel
theorem dX8_init_158 : decode cX8_init 158 = .ok (.iload_n 2, 1) := by decide +kernel
theorem dX8_init_159 : decode cX8_init 159 = .ok (.invokestatic 53, 3) := by decide +kernel
theorem dX8_init_162 : decode cX8_init 162 = .ok (.invokestatic 59, 3) := by decide +kernel
theorem dX8_init_165 : decode cX8_init 165 = .ok (.putfield 66, 3) := by decide +kernel
theorem dX8_init_168 : decode cX8_init 168 = .ok (.aload_n 0, 1) := by decide +kernel
theorem dX8_init_169 : decode cX8_init 169 = .ok (.new 9, 3) := by decide +kernel
theorem dX8_init_172 : decode cX8_init 172 = .ok (.dup, 1) := by decide +kernel
theorem dX8_init_173 : decode cX8_init 173 = .ok (.aload_n 0, 1) := by decide +kernel
theorem dX8_init_174 : decode cX8_init 174 = .ok (.getfield 62, 3) := by decide +kernel
theorem dX8_init_177 : decode cX8_init 177 = .ok (.aload_n 0, 1) := by decide +kernel
theorem dX8_init_178 : decode cX8_init 178 = .ok (.getfield 66, 3) := by decide +kernel
theorem dX8_init_181 : decode cX8_init 181 = .ok (.imul, 1) := by decide +kernel
theorem dX8_init_182 : decode cX8_init 182 = .ok (.invokespecial 11, 3) := by decide +kernel
theorem dX8_init_185 : decode cX8_init 185 = .ok (.putfield 69, 3) := by decide +kernel
theorem dX8_init_188 : decode cX8_init 188 = .ok (.iconst 0, 1) := by decide +kernel
theorem dX8_init_189 : decode cX8_init 189 = .ok (.istore_n 3, 1) := by decide +kernel
theorem dX8_init_190 : decode cX8_init 190 = .ok (.iload_n 3, 1) := by decide +kernel
theorem dX8_init_191 : decode cX8_init 191 = .ok (.aload_n 0, 1) := by decide +kernel
theorem dX8_init_192 : decode cX8_init 192 = .ok (.getfield 62, 3) := by decide +kernel
theorem dX8_init_195 : decode cX8_init 195 = .ok (.aload_n 0, 1) := by decide +kernel
theorem dX8_init_196 : decode cX8_init 196 = .ok (.getfield 66, 3) := by decide +kernel
theorem dX8_init_199 : decode cX8_init 199 = .ok (.imul, 1) := by decide +kernel
theorem dX8_init_200 : decode cX8_init 200 = .ok (.if_icmp .ge 17, 3) := by decide +kernel
theorem dX8_init_203 : decode cX8_init 203 = .ok (.aload_n 0, 1) := by decide +kernel
theorem dX8_init_204 : decode cX8_init 204 = .ok (.getfield 69, 3) := by decide +kernel
theorem dX8_init_207 : decode cX8_init 207 = .ok (.iconst 0, 1) := by decide +kernel
theorem dX8_init_208 : decode cX8_init 208 = .ok (.invokevirtual 72, 3) := by decide +kernel
theorem dX8_init_211 : decode cX8_init 211 = .ok (.iinc 3 1, 3) := by decide +kernel
theorem dX8_init_214 : decode cX8_init 214 = .ok (.goto (-24), 3) := by decide +kernel
theorem dX8_init_217 : decode cX8_init 217 = .ok (.return_, 1) := by decide +kernel
theorem dX8_copyFrom_0 : decode cX8_copyFrom 0 = .ok (.aload_n 0, 1) := by decide +kernel
theorem dX8_copyFrom_1 : decode cX8_copyFrom 1 = .ok (.getfield 69, 3) := by decide +kernel
theorem dX8_copyFrom_4 : decode cX8_copyFrom 4 = .ok (.aload_n 1, 1) := by decide +kernel
theorem dX8_copyFrom_5 : decode cX8_copyFrom 5 = .ok (.getfield 69, 3) := by decide +kernel
theorem dX8_copyFrom_8 : decode cX8_copyFrom 8 = .ok (.invokevirtual 75, 3) := by decide +kernel
theorem dX8_copyFrom_11 : decode cX8_copyFrom 11 = .ok (.aload_n 0, 1) := by decide +kernel
theorem dX8_copyFrom_12 : decode cX8_copyFrom 12 = .ok (.getfield 14, 3) := by decide +kernel
theorem dX8_copyFrom_15 : decode cX8_copyFrom 15 = .ok (.aload_n 1, 1) := by decide +kernel
theorem dX8_copyFrom_16 : decode cX8_copyFrom 16 = .ok (.getfield 14, 3) := by decide +kernel
theorem dX8_copyFrom_19 : decode cX8_copyFrom 19 = .ok (.invokevirtual 75, 3) := by decide +kernel
theorem dX8_copyFrom_22 : decode cX8_copyFrom 22 = .ok (.aload_n 0, 1) := by decide +kernel
theorem dX8_copyFrom_23 : decode cX8_copyFrom 23 = .ok (.getfield 20, 3) := by decide +kernel
theorem dX8_copyFrom_26 : decode cX8_copyFrom 26 = .ok (.aload_n 1, 1) := by decide +kernel
theorem dX8_copyFrom_27 : decode cX8_copyFrom 27 = .ok (.getfield 20, 3) := by decide +kernel
theorem dX8_copyFrom_30 : decode cX8_copyFrom 30 = .ok (.invokevirtual 75, 3) := by decide +kernel
theorem dX8_copyFrom_33 : decode cX8_copyFrom 33 = .ok (.aload_n 0, 1) := by decide +kernel
theorem dX8_copyFrom_34 : decode cX8_copyFrom 34 = .ok (.getfield 23, 3) := by decide +kernel
theorem dX8_copyFrom_37 : decode cX8_copyFrom 37 = .ok (.aload_n 1, 1) := by decide +kernel
theorem dX8_copyFrom_38 : decode cX8_copyFrom 38 = .ok (.getfield 23, 3) := by decide +kernel
theorem dX8_copyFrom_41 : decode cX8_copyFrom 41 = .ok (.invokevirtual 75, 3) := by decide +kernel
theorem dX8_copyFrom_44 : decode cX8_copyFrom 44 = .ok (.aload_n 0, 1) := by decide +kernel
theorem dX8_copyFrom_45 : decode cX8_copyFrom 45 = .ok (.getfield 26, 3) := by decide +kernel
theorem dX8_copyFrom_48 : decode cX8_copyFrom 48 = .ok (.aload_n 1, 1) := by decide +kernel
theorem dX8_copyFrom_49 : decode cX8_copyFrom 49 = .ok (.getfield 26, 3) := by decide +kernel
theorem dX8_copyFrom_52 : decode cX8_copyFrom 52 = .ok (.invokevirtual 75, 3) := by decide +kernel
theorem dX8_copyFrom_55 : decode cX8_copyFrom 55 = .ok (.aload_n 0, 1) := by decide +kernel
theorem dX8_copyFrom_56 : decode cX8_copyFrom 56 = .ok (.getfield 29, 3) := by decide +kernel
theorem dX8_copyFrom_59 : decode cX8_copyFrom 59 = .ok (.aload_n 1, 1) := by decide +kernel
theorem dX8_copyFrom_60 : decode cX8_copyFrom 60 = .ok (.getfield 29, 3) := by decide +kernel
theorem dX8_copyFrom_63 : decode cX8_copyFrom 63 = .ok (.invokevirtual 75, 3) := by decide +kernel
theorem dX8_copyFrom_66 : decode cX8_copyFrom 66 = .ok (.aload_n 0, 1) := by decide +kernel
theorem dX8_copyFrom_67 : decode cX8_copyFrom 67 = .ok (.getfield 32, 3) := by decide +kernel
theorem dX8_copyFrom_70 : decode cX8_copyFrom 70 = .ok (.aload_n 1, 1) := by decide +kernel
theorem dX8_copyFrom_71 : decode cX8_copyFrom 71 = .ok (.getfield 32, 3) := by decide +kernel
theorem dX8_copyFrom_74 : decode cX8_copyFrom 74 = .ok (.invokevirtual 75, 3) := by decide +kernel
theorem dX8_copyFrom_77 : decode cX8_copyFrom 77 = .ok (.aload_n 0, 1) := by decide +kernel
theorem dX8_copyFrom_78 : decode cX8_copyFrom 78 = .ok (.getfield 35, 3) := by decide +kernel
theorem dX8_copyFrom_81 : decode cX8_copyFrom 81 = .ok (.aload_n 1, 1) := by decide +kernel
theorem dX8_copyFrom_82 : decode cX8_copyFrom 82 = .ok (.getfield 35, 3) := by decide +kernel
theorem dX8_copyFrom_85 : decode cX8_copyFrom 85 = .ok (.invokevirtual 75, 3) := by decide +kernel
theorem dX8_copyFrom_88 : decode cX8_copyFrom 88 = .ok (.aload_n 0, 1) := by decide +kernel
theorem dX8_copyFrom_89 : decode cX8_copyFrom 89 = .ok (.getfield 38, 3) := by decide +kernel
theorem dX8_copyFrom_92 : decode cX8_copyFrom 92 = .ok (.aload_n 1, 1) := by decide +kernel
theorem dX8_copyFrom_93 : decode cX8_copyFrom 93 = .ok (.getfield 38, 3) := by decide +kernel
theorem dX8_copyFrom_96 : decode cX8_copyFrom 96 = .ok (.invokevirtual 75, 3) := by decide +kernel
theorem dX8_copyFrom_99 : decode cX8_copyFrom 99 = .ok (.aload_n 0, 1) := by decide +kernel
theorem dX8_copyFrom_100 : decode cX8_copyFrom 100 = .ok (.getfield 41, 3) := by decide +kernel
theorem dX8_copyFrom_103 : decode cX8_copyFrom 103 = .ok (.aload_n 1, 1) := by decide +kernel
theorem dX8_copyFrom_104 : decode cX8_copyFrom 104 = .ok (.getfield 41, 3) := by decide +kernel
theorem dX8_copyFrom_107 : decode cX8_copyFrom 107 = .ok (.invokevirtual 75, 3) := by decide +kernel
theorem dX8_copyFrom_110 : decode cX8_copyFrom 110 = .ok (.aload_n 0, 1) := by decide +kernel
theorem dX8_copyFrom_111 : decode cX8_copyFrom 111 = .ok (.getfield 44, 3) := by decide +kernel
theorem dX8_copyFrom_114 : decode cX8_copyFrom 114 = .ok (.aload_n 1, 1) := by decide +kernel
theorem dX8_copyFrom_115 : decode cX8_copyFrom 115 = .ok (.getfield 44, 3) := by decide +kernel
theorem dX8_copyFrom_118 : decode cX8_copyFrom 118 = .ok (.invokevirtual 75, 3) := by decide +kernel
theorem dX8_copyFrom_121 : decode cX8_copyFrom 121 = .ok (.iconst 0, 1) := by decide +kernel
theorem dX8_copyFrom_122 : decode cX8_copyFrom 122 = .ok (.istore_n 2, 1) := by decide +kernel
theorem dX8_copyFrom_123 : decode cX8_copyFrom 123 = .ok (.iload_n 2, 1) := by decide +kernel
theorem dX8_copyFrom_124 : decode cX8_copyFrom 124 = .ok (.iconst 4, 1) := by decide +kernel
theorem dX8_copyFrom_125 : decode cX8_copyFrom 125 = .ok (.if_icmp .ge 21, 3) := by decide +kernel
theorem dX8_copyFrom_128 : decode cX8_copyFrom 128 = .ok (.aload_n 0, 1) := by decide +kernel
theorem dX8_copyFrom_129 : decode cX8_copyFrom 129 = .ok (.getfield 49, 3) := by decide +kernel
theorem dX8_copyFrom_132 : decode cX8_copyFrom 132 = .ok (.iload_n 2, 1) := by decide +kernel
theorem dX8_copyFrom_133 : decode cX8_copyFrom 133 = .ok (.aload_n 1, 1) := by decide +kernel
theorem dX8_copyFrom_134 : decode cX8_copyFrom 134 = .ok (.getfield 49, 3) := by decide +kernel
theorem dX8_copyFrom_137 : decode cX8_copyFrom 137 = .ok (.iload_n 2, 1) := by decide +kernel
theorem dX8_copyFrom_138 : decode cX8_copyFrom 138 = .ok (.aaload, 1) := by decide +kernel
theorem dX8_copyFrom_139 : decode cX8_copyFrom 139 = .ok (.aastore, 1) := by decide +kernel
theorem dX8_copyFrom_140 : decode cX8_copyFrom 140 = .ok (.iinc 2 1, 3) := by decide +kernel
theorem dX8_copyFrom_143 : decode cX8_copyFrom 143 = .ok (.goto (-20), 3) := by decide +kernel
theorem dX8_copyFrom_146 : decode cX8_copyFrom 146 = .ok (.aload_n 0, 1) := by decide +kernel
theorem dX8_copyFrom_147 : decode cX8_copyFrom 147 = .ok (.aload_n 1, 1) := by decide +kernel
theorem dX8_copyFrom_148 : decode cX8_copyFrom 148 = .ok (.getfield 79, 3) := by decide +kernel
theorem dX8_copyFrom_151 : decode cX8_copyFrom 151 = .ok (.putfield 79, 3) := by decide +kernel
theorem dX8_copyFrom_154 : decode cX8_copyFrom 154 = .ok (.return_, 1) := by decide +kernel
theorem dX8_posesInAll_0 : decode cX8_posesInAll 0 = .ok (.iconst 4, 1) := by decide +kernel
theorem dX8_posesInAll_1 : decode cX8_posesInAll 1 = .ok (.aload_n 0, 1) := by decide +kernel
theorem dX8_posesInAll_2 : decode cX8_posesInAll 2 = .ok (.getfield 62, 3) := by decide +kernel
theorem dX8_posesInAll_5 : decode cX8_posesInAll 5 = .ok (.imul, 1) := by decide +kernel
theorem dX8_posesInAll_6 : decode cX8_posesInAll 6 = .ok (.aload_n 0, 1) := by decide +kernel
theorem dX8_posesInAll_7 : decode cX8_posesInAll 7 = .ok (.getfield 66, 3) := by decide +kernel
theorem dX8_posesInAll_10 : decode cX8_posesInAll 10 = .ok (.imul, 1) := by decide +kernel
theorem dX8_posesInAll_11 : decode cX8_posesInAll 11 = .ok (.ireturn, 1) := by decide +kernel
theorem dX8_isCell_0 : decode cX8_isCell 0 = .ok (.iload_n 1, 1) := by decide +kernel
theorem dX8_isCell_1 : decode cX8_isCell 1 = .ok (.ifCond .lt 20, 3) := by decide +kernel
theorem dX8_isCell_4 : decode cX8_isCell 4 = .ok (.iload_n 1, 1) := by decide +kernel
theorem dX8_isCell_5 : decode cX8_isCell 5 = .ok (.aload_n 0, 1) := by decide +kernel
theorem dX8_isCell_6 : decode cX8_isCell 6 = .ok (.getfield 62, 3) := by decide +kernel
theorem dX8_isCell_9 : decode cX8_isCell 9 = .ok (.aload_n 0, 1) := by decide +kernel
theorem dX8_isCell_10 : decode cX8_isCell 10 = .ok (.getfield 66, 3) := by decide +kernel
theorem dX8_isCell_13 : decode cX8_isCell 13 = .ok (.imul, 1) := by decide +kernel
theorem dX8_isCell_14 : decode cX8_isCell 14 = .ok (.if_icmp .ge 7, 3) := by decide +kernel
theorem dX8_isCell_17 : decode cX8_isCell 17 = .ok (.iconst 1, 1) := by decide +kernel
theorem dX8_isCell_18 : decode cX8_isCell 18 = .ok (.goto 4, 3) := by decide +kernel
theorem dX8_isCell_21 : decode cX8_isCell 21 = .ok (.iconst 0, 1) := by decide +kernel
theorem dX8_isCell_22 : decode cX8_isCell 22 = .ok (.ireturn, 1) := by decide +kernel
theorem dX8_isPose_0 : decode cX8_isPose 0 = .ok (.iload_n 1, 1) := by decide +kernel
theorem dX8_isPose_1 : decode cX8_isPose 1 = .ok (.ifCond .lt 29, 3) := by decide +kernel
theorem dX8_isPose_4 : decode cX8_isPose 4 = .ok (.iload_n 1, 1) := by decide +kernel
theorem dX8_isPose_5 : decode cX8_isPose 5 = .ok (.aload_n 0, 1) := by decide +kernel
theorem dX8_isPose_6 : decode cX8_isPose 6 = .ok (.invokevirtual 82, 3) := by decide +kernel
theorem dX8_isPose_9 : decode cX8_isPose 9 = .ok (.if_icmp .ge 21, 3) := by decide +kernel
theorem dX8_isPose_12 : decode cX8_isPose 12 = .ok (.aload_n 0, 1) := by decide +kernel
theorem dX8_isPose_13 : decode cX8_isPose 13 = .ok (.getfield 69, 3) := by decide +kernel
theorem dX8_isPose_16 : decode cX8_isPose 16 = .ok (.iload_n 1, 1) := by decide +kernel
theorem dX8_isPose_17 : decode cX8_isPose 17 = .ok (.iconst 4, 1) := by decide +kernel
theorem dX8_isPose_18 : decode cX8_isPose 18 = .ok (.idiv, 1) := by decide +kernel
theorem dX8_isPose_19 : decode cX8_isPose 19 = .ok (.invokevirtual 86, 3) := by decide +kernel
theorem dX8_isPose_22 : decode cX8_isPose 22 = .ok (.iconst 1, 1) := by decide +kernel
theorem dX8_isPose_23 : decode cX8_isPose 23 = .ok (.if_icmp .eq 7, 3) := by decide +kernel
theorem dX8_isPose_26 : decode cX8_isPose 26 = .ok (.iconst 1, 1) := by decide +kernel
theorem dX8_isPose_27 : decode cX8_isPose 27 = .ok (.goto 4, 3) := by decide +kernel
theorem dX8_isPose_30 : decode cX8_isPose 30 = .ok (.iconst 0, 1) := by decide +kernel
theorem dX8_isPose_31 : decode cX8_isPose 31 = .ok (.ireturn, 1) := by decide +kernel
theorem dX8_isText_0 : decode cX8_isText 0 = .ok (.iload_n 1, 1) := by decide +kernel
theorem dX8_isText_1 : decode cX8_isText 1 = .ok (.ifCond .lt 15, 3) := by decide +kernel
theorem dX8_isText_4 : decode cX8_isText 4 = .ok (.iload_n 1, 1) := by decide +kernel
theorem dX8_isText_5 : decode cX8_isText 5 = .ok (.aload_n 0, 1) := by decide +kernel
theorem dX8_isText_6 : decode cX8_isText 6 = .ok (.getfield 79, 3) := by decide +kernel
theorem dX8_isText_9 : decode cX8_isText 9 = .ok (.if_icmp .ge 7, 3) := by decide +kernel
theorem dX8_isText_12 : decode cX8_isText 12 = .ok (.iconst 1, 1) := by decide +kernel
theorem dX8_isText_13 : decode cX8_isText 13 = .ok (.goto 4, 3) := by decide +kernel
theorem dX8_isText_16 : decode cX8_isText 16 = .ok (.iconst 0, 1) := by decide +kernel
theorem dX8_isText_17 : decode cX8_isText 17 = .ok (.ireturn, 1) := by decide +kernel
theorem dX8_isPair_0 : decode cX8_isPair 0 = .ok (.iload_n 1, 1) := by decide +kernel
theorem dX8_isPair_1 : decode cX8_isPair 1 = .ok (.ifCond .lt 18, 3) := by decide +kernel
theorem dX8_isPair_4 : decode cX8_isPair 4 = .ok (.iload_n 1, 1) := by decide +kernel
theorem dX8_isPair_5 : decode cX8_isPair 5 = .ok (.aload_n 0, 1) := by decide +kernel
theorem dX8_isPair_6 : decode cX8_isPair 6 = .ok (.getfield 14, 3) := by decide +kernel
theorem dX8_isPair_9 : decode cX8_isPair 9 = .ok (.invokevirtual 90, 3) := by decide +kernel
theorem dX8_isPair_12 : decode cX8_isPair 12 = .ok (.if_icmp .ge 7, 3) := by decide +kernel
theorem dX8_isPair_15 : decode cX8_isPair 15 = .ok (.iconst 1, 1) := by decide +kernel
theorem dX8_isPair_16 : decode cX8_isPair 16 = .ok (.goto 4, 3) := by decide +kernel
theorem dX8_isPair_19 : decode cX8_isPair 19 = .ok (.iconst 0, 1) := by decide +kernel
theorem dX8_isPair_20 : decode cX8_isPair 20 = .ok (.ireturn, 1) := by decide +kernel
theorem dX8_hasPairIn_0 : decode cX8_hasPairIn 0 = .ok (.iconst 0, 1) := by decide +kernel
theorem dX8_hasPairIn_1 : decode cX8_hasPairIn 1 = .ok (.istore_n 2, 1) := by decide +kernel
theorem dX8_hasPairIn_2 : decode cX8_hasPairIn 2 = .ok (.iload_n 2, 1) := by decide +kernel
theorem dX8_hasPairIn_3 : decode cX8_hasPairIn 3 = .ok (.aload_n 0, 1) := by decide +kernel
theorem dX8_hasPairIn_4 : decode cX8_hasPairIn 4 = .ok (.getfield 14, 3) := by decide +kernel
theorem dX8_hasPairIn_7 : decode cX8_hasPairIn 7 = .ok (.invokevirtual 90, 3) := by decide +kernel
theorem dX8_hasPairIn_10 : decode cX8_hasPairIn 10 = .ok (.if_icmp .ge 25, 3) := by decide +kernel
theorem dX8_hasPairIn_13 : decode cX8_hasPairIn 13 = .ok (.aload_n 0, 1) := by decide +kernel
theorem dX8_hasPairIn_14 : decode cX8_hasPairIn 14 = .ok (.getfield 14, 3) := by decide +kernel
theorem dX8_hasPairIn_17 : decode cX8_hasPairIn 17 = .ok (.iload_n 2, 1) := by decide +kernel
theorem dX8_hasPairIn_18 : decode cX8_hasPairIn 18 = .ok (.invokevirtual 86, 3) := by decide +kernel
theorem dX8_hasPairIn_21 : decode cX8_hasPairIn 21 = .ok (.iconst 4, 1) := by decide +kernel
theorem dX8_hasPairIn_22 : decode cX8_hasPairIn 22 = .ok (.idiv, 1) := by decide +kernel
theorem dX8_hasPairIn_23 : decode cX8_hasPairIn 23 = .ok (.iload_n 1, 1) := by decide +kernel
theorem dX8_hasPairIn_24 : decode cX8_hasPairIn 24 = .ok (.if_icmp .ne 5, 3) := by decide +kernel
theorem dX8_hasPairIn_27 : decode cX8_hasPairIn 27 = .ok (.iconst 1, 1) := by decide +kernel
theorem dX8_hasPairIn_28 : decode cX8_hasPairIn 28 = .ok (.ireturn, 1) := by decide +kernel
theorem dX8_hasPairIn_29 : decode cX8_hasPairIn 29 = .ok (.iinc 2 1, 3) := by decide +kernel
theorem dX8_hasPairIn_32 : decode cX8_hasPairIn 32 = .ok (.goto (-30), 3) := by decide +kernel
theorem dX8_hasPairIn_35 : decode cX8_hasPairIn 35 = .ok (.iconst 0, 1) := by decide +kernel
theorem dX8_hasPairIn_36 : decode cX8_hasPairIn 36 = .ok (.ireturn, 1) := by decide +kernel
theorem dX8_scriptOf_0 : decode cX8_scriptOf 0 = .ok (.iload_n 1, 1) := by decide +kernel
theorem dX8_scriptOf_1 : decode cX8_scriptOf 1 = .ok (.ifCond .lt 29, 3) := by decide +kernel
theorem dX8_scriptOf_4 : decode cX8_scriptOf 4 = .ok (.iload_n 1, 1) := by decide +kernel
theorem dX8_scriptOf_5 : decode cX8_scriptOf 5 = .ok (.aload_n 0, 1) := by decide +kernel
theorem dX8_scriptOf_6 : decode cX8_scriptOf 6 = .ok (.getfield 79, 3) := by decide +kernel
theorem dX8_scriptOf_9 : decode cX8_scriptOf 9 = .ok (.if_icmp .ge 21, 3) := by decide +kernel
theorem dX8_scriptOf_12 : decode cX8_scriptOf 12 = .ok (.iload_n 1, 1) := by decide +kernel
theorem dX8_scriptOf_13 : decode cX8_scriptOf 13 = .ok (.aload_n 0, 1) := by decide +kernel
theorem dX8_scriptOf_14 : decode cX8_scriptOf 14 = .ok (.getfield 49, 3) := by decide +kernel
theorem dX8_scriptOf_17 : decode cX8_scriptOf 17 = .ok (.arraylength, 1) := by decide +kernel
theorem dX8_scriptOf_18 : decode cX8_scriptOf 18 = .ok (.if_icmp .ge 12, 3) := by decide +kernel
theorem dX8_scriptOf_21 : decode cX8_scriptOf 21 = .ok (.aload_n 0, 1) := by decide +kernel
theorem dX8_scriptOf_22 : decode cX8_scriptOf 22 = .ok (.getfield 49, 3) := by decide +kernel
theorem dX8_scriptOf_25 : decode cX8_scriptOf 25 = .ok (.iload_n 1, 1) := by decide +kernel
theorem dX8_scriptOf_26 : decode cX8_scriptOf 26 = .ok (.aaload, 1) := by decide +kernel
theorem dX8_scriptOf_27 : decode cX8_scriptOf 27 = .ok (.goto 4, 3) := by decide +kernel
theorem dX8_scriptOf_30 : decode cX8_scriptOf 30 = .ok (.aconst_null, 1) := by decide +kernel
theorem dX8_scriptOf_31 : decode cX8_scriptOf 31 = .ok (.areturn, 1) := by decide +kernel
theorem dX8_addText_0 : decode cX8_addText 0 = .ok (.aload_n 0, 1) := by decide +kernel
theorem dX8_addText_1 : decode cX8_addText 1 = .ok (.getfield 79, 3) := by decide +kernel
theorem dX8_addText_4 : decode cX8_addText 4 = .ok (.aload_n 0, 1) := by decide +kernel
theorem dX8_addText_5 : decode cX8_addText 5 = .ok (.getfield 49, 3) := by decide +kernel
theorem dX8_addText_8 : decode cX8_addText 8 = .ok (.arraylength, 1) := by decide +kernel
theorem dX8_addText_9 : decode cX8_addText 9 = .ok (.if_icmp .lt 5, 3) := by decide +kernel
theorem dX8_addText_12 : decode cX8_addText 12 = .ok (.iconst (-1), 1) := by decide +kernel
theorem dX8_addText_13 : decode cX8_addText 13 = .ok (.ireturn, 1) := by decide +kernel
theorem dX8_addText_14 : decode cX8_addText 14 = .ok (.aload_n 0, 1) := by decide +kernel
theorem dX8_addText_15 : decode cX8_addText 15 = .ok (.getfield 49, 3) := by decide +kernel
theorem dX8_addText_18 : decode cX8_addText 18 = .ok (.aload_n 0, 1) := by decide +kernel
theorem dX8_addText_19 : decode cX8_addText 19 = .ok (.getfield 79, 3) := by decide +kernel
theorem dX8_addText_22 : decode cX8_addText 22 = .ok (.aload_n 1, 1) := by decide +kernel
theorem dX8_addText_23 : decode cX8_addText 23 = .ok (.aastore, 1) := by decide +kernel
theorem dX8_addText_24 : decode cX8_addText 24 = .ok (.aload_n 0, 1) := by decide +kernel
theorem dX8_addText_25 : decode cX8_addText 25 = .ok (.dup, 1) := by decide +kernel
theorem dX8_addText_26 : decode cX8_addText 26 = .ok (.getfield 79, 3) := by decide +kernel
theorem dX8_addText_29 : decode cX8_addText 29 = .ok (.iconst 1, 1) := by decide +kernel
theorem dX8_addText_30 : decode cX8_addText 30 = .ok (.iadd, 1) := by decide +kernel
theorem dX8_addText_31 : decode cX8_addText 31 = .ok (.putfield 79, 3) := by decide +kernel
theorem dX8_addText_34 : decode cX8_addText 34 = .ok (.aload_n 0, 1) := by decide +kernel
theorem dX8_addText_35 : decode cX8_addText 35 = .ok (.getfield 79, 3) := by decide +kernel
theorem dX8_addText_38 : decode cX8_addText 38 = .ok (.iconst 1, 1) := by decide +kernel
theorem dX8_addText_39 : decode cX8_addText 39 = .ok (.isub, 1) := by decide +kernel
theorem dX8_addText_40 : decode cX8_addText 40 = .ok (.ireturn, 1) := by decide +kernel
theorem dX8_keepStep_0 : decode cX8_keepStep 0 = .ok (.aload_n 0, 1) := by decide +kernel
theorem dX8_keepStep_1 : decode cX8_keepStep 1 = .ok (.getfield 26, 3) := by decide +kernel
theorem dX8_keepStep_4 : decode cX8_keepStep 4 = .ok (.invokevirtual 90, 3) := by decide +kernel
theorem dX8_keepStep_7 : decode cX8_keepStep 7 = .ok (.bipush 30, 2) := by decide +kernel
theorem dX8_keepStep_9 : decode cX8_keepStep 9 = .ok (.if_icmp .lt 17, 3) := by decide +kernel
theorem dX8_keepStep_12 : decode cX8_keepStep 12 = .ok (.aload_n 0, 1) := by decide +kernel
theorem dX8_keepStep_13 : decode cX8_keepStep 13 = .ok (.getfield 26, 3) := by decide +kernel
theorem dX8_keepStep_16 : decode cX8_keepStep 16 = .ok (.invokevirtual 93, 3) := by decide +kernel
theorem dX8_keepStep_19 : decode cX8_keepStep 19 = .ok (.aload_n 0, 1) := by decide +kernel
theorem dX8_keepStep_20 : decode cX8_keepStep 20 = .ok (.getfield 29, 3) := by decide +kernel
theorem dX8_keepStep_23 : decode cX8_keepStep 23 = .ok (.invokevirtual 93, 3) := by decide +kernel
theorem dX8_keepStep_26 : decode cX8_keepStep 26 = .ok (.aload_n 0, 1) := by decide +kernel
theorem dX8_keepStep_27 : decode cX8_keepStep 27 = .ok (.getfield 26, 3) := by decide +kernel
theorem dX8_keepStep_30 : decode cX8_keepStep 30 = .ok (.iload_n 1, 1) := by decide +kernel
theorem dX8_keepStep_31 : decode cX8_keepStep 31 = .ok (.invokevirtual 72, 3) := by decide +kernel
theorem dX8_keepStep_34 : decode cX8_keepStep 34 = .ok (.aload_n 0, 1) := by decide +kernel
theorem dX8_keepStep_35 : decode cX8_keepStep 35 = .ok (.getfield 29, 3) := by decide +kernel
theorem dX8_keepStep_38 : decode cX8_keepStep 38 = .ok (.aload_n 0, 1) := by decide +kernel
theorem dX8_keepStep_39 : decode cX8_keepStep 39 = .ok (.getfield 14, 3) := by decide +kernel
theorem dX8_keepStep_42 : decode cX8_keepStep 42 = .ok (.iload_n 1, 1) := by decide +kernel
theorem dX8_keepStep_43 : decode cX8_keepStep 43 = .ok (.invokevirtual 86, 3) := by decide +kernel
theorem dX8_keepStep_46 : decode cX8_keepStep 46 = .ok (.invokevirtual 72, 3) := by decide +kernel
theorem dX8_keepStep_49 : decode cX8_keepStep 49 = .ok (.return_, 1) := by decide +kernel
theorem dX8_forgetSteps_0 : decode cX8_forgetSteps 0 = .ok (.aload_n 0, 1) := by decide +kernel
theorem dX8_forgetSteps_1 : decode cX8_forgetSteps 1 = .ok (.getfield 26, 3) := by decide +kernel
theorem dX8_forgetSteps_4 : decode cX8_forgetSteps 4 = .ok (.iconst 0, 1) := by decide +kernel
theorem dX8_forgetSteps_5 : decode cX8_forgetSteps 5 = .ok (.invokevirtual 96, 3) := by decide +kernel
theorem dX8_forgetSteps_8 : decode cX8_forgetSteps 8 = .ok (.aload_n 0, 1) := by decide +kernel
theorem dX8_forgetSteps_9 : decode cX8_forgetSteps 9 = .ok (.getfield 29, 3) := by decide +kernel
theorem dX8_forgetSteps_12 : decode cX8_forgetSteps 12 = .ok (.iconst 0, 1) := by decide +kernel
theorem dX8_forgetSteps_13 : decode cX8_forgetSteps 13 = .ok (.invokevirtual 96, 3) := by decide +kernel
theorem dX8_forgetSteps_16 : decode cX8_forgetSteps 16 = .ok (.return_, 1) := by decide +kernel
theorem dX9_init_0 : decode cX9_init 0 = .ok (.aload_n 0, 1) := by decide +kernel
theorem dX9_init_1 : decode cX9_init 1 = .ok (.invokespecial 3, 3) := by decide +kernel
theorem dX9_init_4 : decode cX9_init 4 = .ok (.aload_n 0, 1) := by decide +kernel
theorem dX9_init_5 : decode cX9_init 5 = .ok (.new 9, 3) := by decide +kernel
theorem dX9_init_8 : decode cX9_init 8 = .ok (.dup, 1) := by decide +kernel
theorem dX9_init_9 : decode cX9_init 9 = .ok (.sipush 301, 3) := by decide +kernel
theorem dX9_init_12 : decode cX9_init 12 = .ok (.invokespecial 11, 3) := by decide +kernel
theorem dX9_init_15 : decode cX9_init 15 = .ok (.putfield 14, 3) := by decide +kernel
theorem dX9_init_18 : decode cX9_init 18 = .ok (.aload_n 0, 1) := by decide +kernel
theorem dX9_init_19 : decode cX9_init 19 = .ok (.new 9, 3) := by decide +kernel
theorem dX9_init_22 : decode cX9_init 22 = .ok (.dup, 1) := by decide +kernel
theorem dX9_init_23 : decode cX9_init 23 = .ok (.sipush 301, 3) := by decide +kernel
theorem dX9_init_26 : decode cX9_init 26 = .ok (.invokespecial 11, 3) := by decide +kernel
theorem dX9_init_29 : decode cX9_init 29 = .ok (.putfield 20, 3) := by decide +kernel
theorem dX9_init_32 : decode cX9_init 32 = .ok (.aload_n 0, 1) := by decide +kernel
theorem dX9_init_33 : decode cX9_init 33 = .ok (.new 9, 3) := by decide +kernel
theorem dX9_init_36 : decode cX9_init 36 = .ok (.dup, 1) := by decide +kernel
theorem dX9_init_37 : decode cX9_init 37 = .ok (.sipush 301, 3) := by decide +kernel
theorem dX9_init_40 : decode cX9_init 40 = .ok (.invokespecial 11, 3) := by decide +kernel
theorem dX9_init_43 : decode cX9_init 43 = .ok (.putfield 23, 3) := by decide +kernel
theorem dX9_init_46 : decode cX9_init 46 = .ok (.return_, 1) := by decide +kernel
theorem dX9_kindAt_0 : decode cX9_kindAt 0 = .ok (.iload_n 1, 1) := by decide +kernel
theorem dX9_kindAt_1 : decode cX9_kindAt 1 = .ok (.aload_n 0, 1) := by decide +kernel
theorem dX9_kindAt_2 : decode cX9_kindAt 2 = .ok (.getfield 14, 3) := by decide +kernel
theorem dX9_kindAt_5 : decode cX9_kindAt 5 = .ok (.invokevirtual 26, 3) := by decide +kernel
theorem dX9_kindAt_8 : decode cX9_kindAt 8 = .ok (.if_icmp .ge 14, 3) := by decide +kernel
theorem dX9_kindAt_11 : decode cX9_kindAt 11 = .ok (.aload_n 0, 1) := by decide +kernel
theorem dX9_kindAt_12 : decode cX9_kindAt 12 = .ok (.getfield 14, 3) := by decide +kernel
theorem dX9_kindAt_15 : decode cX9_kindAt 15 = .ok (.iload_n 1, 1) := by decide +kernel
theorem dX9_kindAt_16 : decode cX9_kindAt 16 = .ok (.invokevirtual 30, 3) := by decide +kernel
theorem dX9_kindAt_19 : decode cX9_kindAt 19 = .ok (.goto 5, 3) := by decide +kernel
theorem dX9_kindAt_22 : decode cX9_kindAt 22 = .ok (.bipush 37, 2) := by decide +kernel
theorem dX9_kindAt_24 : decode cX9_kindAt 24 = .ok (.ireturn, 1) := by decide +kernel
theorem dX9_placeAt_0 : decode cX9_placeAt 0 = .ok (.aload_n 0, 1) := by decide +kernel
theorem dX9_placeAt_1 : decode cX9_placeAt 1 = .ok (.getfield 20, 3) := by decide +kernel
theorem dX9_placeAt_4 : decode cX9_placeAt 4 = .ok (.iload_n 1, 1) := by decide +kernel
theorem dX9_placeAt_5 : decode cX9_placeAt 5 = .ok (.invokevirtual 30, 3) := by decide +kernel
theorem dX9_placeAt_8 : decode cX9_placeAt 8 = .ok (.ireturn, 1) := by decide +kernel
theorem dX9_valueAt_0 : decode cX9_valueAt 0 = .ok (.aload_n 0, 1) := by decide +kernel
theorem dX9_valueAt_1 : decode cX9_valueAt 1 = .ok (.getfield 23, 3) := by decide +kernel
theorem dX9_valueAt_4 : decode cX9_valueAt 4 = .ok (.iload_n 1, 1) := by decide +kernel
theorem dX9_valueAt_5 : decode cX9_valueAt 5 = .ok (.invokevirtual 30, 3) := by decide +kernel
theorem dX9_valueAt_8 : decode cX9_valueAt 8 = .ok (.ireturn, 1) := by decide +kernel
theorem dX9_scan_0 : decode cX9_scan 0 = .ok (.aload_n 0, 1) := by decide +kernel
theorem dX9_scan_1 : decode cX9_scan 1 = .ok (.getfield 14, 3) := by decide +kernel
theorem dX9_scan_4 : decode cX9_scan 4 = .ok (.iconst 0, 1) := by decide +kernel
theorem dX9_scan_5 : decode cX9_scan 5 = .ok (.invokevirtual 34, 3) := by decide +kernel
theorem dX9_scan_8 : decode cX9_scan 8 = .ok (.aload_n 0, 1) := by decide +kernel
theorem dX9_scan_9 : decode cX9_scan 9 = .ok (.getfield 20, 3) := by decide +kernel
theorem dX9_scan_12 : decode cX9_scan 12 = .ok (.iconst 0, 1) := by decide +kernel
theorem dX9_scan_13 : decode cX9_scan 13 = .ok (.invokevirtual 34, 3) := by decide +kernel
theorem dX9_scan_16 : decode cX9_scan 16 = .ok (.aload_n 0, 1) := by decide +kernel
theorem dX9_scan_17 : decode cX9_scan 17 = .ok (.getfield 23, 3) := by decide +kernel
theorem dX9_scan_20 : decode cX9_scan 20 = .ok (.iconst 0, 1) := by decide +kernel
theorem dX9_scan_21 : decode cX9_scan 21 = .ok (.invokevirtual 34, 3) := by decide +kernel
theorem dX9_scan_24 : decode cX9_scan 24 = .ok (.iconst 0, 1) := by decide +kernel
theorem dX9_scan_25 : decode cX9_scan 25 = .ok (.istore_n 2, 1) := by decide +kernel
theorem dX9_scan_26 : decode cX9_scan 26 = .ok (.iconst 0, 1) := by decide +kernel
theorem dX9_scan_27 : decode cX9_scan 27 = .ok (.istore_n 3, 1) := by decide +kernel
theorem dX9_scan_28 : decode cX9_scan 28 = .ok (.iload_n 3, 1) := by decide +kernel
theorem dX9_scan_29 : decode cX9_scan 29 = .ok (.sipush 300, 3) := by decide +kernel
theorem dX9_scan_32 : decode cX9_scan 32 = .ok (.if_icmp .ge 24, 3) := by decide +kernel
theorem dX9_scan_35 : decode cX9_scan 35 = .ok (.iload_n 2, 1) := by decide +kernel
theorem dX9_scan_36 : decode cX9_scan 36 = .ok (.aload_n 1, 1) := by decide +kernel
theorem dX9_scan_37 : decode cX9_scan 37 = .ok (.invokevirtual 26, 3) := by decide +kernel
theorem dX9_scan_40 : decode cX9_scan 40 = .ok (.if_icmp .ge 16, 3) := by decide +kernel
theorem dX9_scan_43 : decode cX9_scan 43 = .ok (.aload_n 0, 1) := by decide +kernel
theorem dX9_scan_44 : decode cX9_scan 44 = .ok (.aload_n 1, 1) := by decide +kernel
theorem dX9_scan_45 : decode cX9_scan 45 = .ok (.iload_n 2, 1) := by decide +kernel
theorem dX9_scan_46 : decode cX9_scan 46 = .ok (.invokevirtual 37, 3) := by decide +kernel
theorem dX9_scan_49 : decode cX9_scan 49 = .ok (.istore_n 2, 1) := by decide +kernel
theorem dX9_scan_50 : decode cX9_scan 50 = .ok (.iinc 3 1, 3) := by decide +kernel
theorem dX9_scan_53 : decode cX9_scan 53 = .ok (.goto (-25), 3) := by decide +kernel
theorem dX9_scan_56 : decode cX9_scan 56 = .ok (.aload_n 0, 1) := by decide +kernel
theorem dX9_scan_57 : decode cX9_scan 57 = .ok (.bipush 37, 2) := by decide +kernel
theorem dX9_scan_59 : decode cX9_scan 59 = .ok (.aload_n 1, 1) := by decide +kernel
theorem dX9_scan_60 : decode cX9_scan 60 = .ok (.invokevirtual 26, 3) := by decide +kernel
theorem dX9_scan_63 : decode cX9_scan 63 = .ok (.iconst 0, 1) := by decide +kernel
theorem dX9_scan_64 : decode cX9_scan 64 = .ok (.invokevirtual 41, 3) := by decide +kernel
theorem dX9_scan_67 : decode cX9_scan 67 = .ok (.return_, 1) := by decide +kernel
theorem dX9_scanOne_0 : decode cX9_scanOne 0 = .ok (.aload_n 1, 1) := by decide +kernel
theorem dX9_scanOne_1 : decode cX9_scanOne 1 = .ok (.iload_n 2, 1) := by decide +kernel
theorem dX9_scanOne_2 : decode cX9_scanOne 2 = .ok (.invokevirtual 30, 3) := by decide +kernel
theorem dX9_scanOne_5 : decode cX9_scanOne 5 = .ok (.istore_n 3, 1) := by decide +kernel
theorem dX9_scanOne_6 : decode cX9_scanOne 6 = .ok (.iload_n 3, 1) := by decide +kernel
theorem dX9_scanOne_7 : decode cX9_scanOne 7 = .ok (.bipush 32, 2) := by decide +kernel
theorem dX9_scanOne_9 : decode cX9_scanOne 9 = .ok (.if_icmp .eq 9, 3) := by decide +kernel
theorem dX9_scanOne_12 : decode cX9_scanOne 12 = .ok (.iload_n 3, 1) := by decide +kernel
theorem dX9_scanOne_13 : decode cX9_scanOne 13 = .ok (.bipush 10, 2) := by decide +kernel
theorem dX9_scanOne_15 : decode cX9_scanOne 15 = .ok (.if_icmp .ne 7, 3) := by decide +kernel
theorem dX9_scanOne_18 : decode cX9_scanOne 18 = .ok (.iload_n 2, 1) := by decide +kernel
theorem dX9_scanOne_19 : decode cX9_scanOne 19 = .ok (.iconst 1, 1) := by decide +kernel
theorem dX9_scanOne_20 : decode cX9_scanOne 20 = .ok (.iadd, 1) := by decide +kernel
theorem dX9_scanOne_21 : decode cX9_scanOne 21 = .ok (.ireturn, 1) := by decide +kernel
theorem dX9_scanOne_22 : decode cX9_scanOne 22 = .ok (.iload_n 3, 1) := by decide +kernel
theorem dX9_scanOne_23 : decode cX9_scanOne 23 = .ok (.invokestatic 45, 3) := by decide +kernel
theorem dX9_scanOne_26 : decode cX9_scanOne 26 = .ok (.ifCond .eq 10, 3) := by decide +kernel
theorem dX9_scanOne_29 : decode cX9_scanOne 29 = .ok (.aload_n 0, 1) := by decide +kernel
theorem dX9_scanOne_30 : decode cX9_scanOne 30 = .ok (.aload_n 1, 1) := by decide +kernel
theorem dX9_scanOne_31 : decode cX9_scanOne 31 = .ok (.iload_n 2, 1) := by decide +kernel
theorem dX9_scanOne_32 : decode cX9_scanOne 32 = .ok (.invokevirtual 49, 3) := by decide +kernel
theorem dX9_scanOne_35 : decode cX9_scanOne 35 = .ok (.ireturn, 1) := by decide +kernel
theorem dX9_scanOne_36 : decode cX9_scanOne 36 = .ok (.iload_n 3, 1) := by decide +kernel
theorem dX9_scanOne_37 : decode cX9_scanOne 37 = .ok (.invokestatic 52, 3) := by decide +kernel
theorem dX9_scanOne_40 : decode cX9_scanOne 40 = .ok (.ifCond .eq 10, 3) := by decide +kernel
theorem dX9_scanOne_43 : decode cX9_scanOne 43 = .ok (.aload_n 0, 1) := by decide +kernel
theorem dX9_scanOne_44 : decode cX9_scanOne 44 = .ok (.aload_n 1, 1) := by decide +kernel
theorem dX9_scanOne_45 : decode cX9_scanOne 45 = .ok (.iload_n 2, 1) := by decide +kernel
theorem dX9_scanOne_46 : decode cX9_scanOne 46 = .ok (.invokevirtual 55, 3) := by decide +kernel
theorem dX9_scanOne_49 : decode cX9_scanOne 49 = .ok (.ireturn, 1) := by decide +kernel
theorem dX9_scanOne_50 : decode cX9_scanOne 50 = .ok (.iload_n 3, 1) := by decide +kernel
theorem dX9_scanOne_51 : decode cX9_scanOne 51 = .ok (.bipush 60, 2) := by decide +kernel
theorem dX9_scanOne_53 : decode cX9_scanOne 53 = .ok (.if_icmp .eq 9, 3) := by decide +kernel
theorem dX9_scanOne_56 : decode cX9_scanOne 56 = .ok (.iload_n 3, 1) := by decide +kernel
theorem dX9_scanOne_57 : decode cX9_scanOne 57 = .ok (.bipush 62, 2) := by decide +kernel
theorem dX9_scanOne_59 : decode cX9_scanOne 59 = .ok (.if_icmp .ne 19, 3) := by decide +kernel
theorem dX9_scanOne_62 : decode cX9_scanOne 62 = .ok (.aload_n 1, 1) := by decide +kernel
theorem dX9_scanOne_63 : decode cX9_scanOne 63 = .ok (.iload_n 2, 1) := by decide +kernel
theorem dX9_scanOne_64 : decode cX9_scanOne 64 = .ok (.iconst 1, 1) := by decide +kernel
theorem dX9_scanOne_65 : decode cX9_scanOne 65 = .ok (.iadd, 1) := by decide +kernel
theorem dX9_scanOne_66 : decode cX9_scanOne 66 = .ok (.invokevirtual 30, 3) := by decide +kernel
theorem dX9_scanOne_69 : decode cX9_scanOne 69 = .ok (.bipush 61, 2) := by decide +kernel
theorem dX9_scanOne_71 : decode cX9_scanOne 71 = .ok (.if_icmp .ne 7, 3) := by decide +kernel
theorem dX9_scanOne_74 : decode cX9_scanOne 74 = .ok (.iconst 1, 1) := by decide +kernel
theorem dX9_scanOne_75 : decode cX9_scanOne 75 = .ok (.goto 4, 3) := by decide +kernel
theorem dX9_scanOne_78 : decode cX9_scanOne 78 = .ok (.iconst 0, 1) := by decide +kernel
theorem dX9_scanOne_79 : decode cX9_scanOne 79 = .ok (.istore 4, 2) := by decide +kernel
theorem dX9_scanOne_81 : decode cX9_scanOne 81 = .ok (.iload_n 3, 1) := by decide +kernel
theorem dX9_scanOne_82 : decode cX9_scanOne 82 = .ok (.invokestatic 58, 3) := by decide +kernel
theorem dX9_scanOne_85 : decode cX9_scanOne 85 = .ok (.istore 5, 2) := by decide +kernel
theorem dX9_scanOne_87 : decode cX9_scanOne 87 = .ok (.aload_n 0, 1) := by decide +kernel
theorem dX9_scanOne_88 : decode cX9_scanOne 88 = .ok (.iload 4, 2) := by decide +kernel
theorem dX9_scanOne_90 : decode cX9_scanOne 90 = .ok (.ifCond .eq 10, 3) := by decide +kernel
theorem dX9_scanOne_93 : decode cX9_scanOne 93 = .ok (.iload 5, 2) := by decide +kernel
theorem dX9_scanOne_95 : decode cX9_scanOne 95 = .ok (.iconst 1, 1) := by decide +kernel
theorem dX9_scanOne_96 : decode cX9_scanOne 96 = .ok (.iadd, 1) := by decide +kernel
theorem dX9_scanOne_97 : decode cX9_scanOne 97 = .ok (.goto 5, 3) := by decide +kernel
theorem dX9_scanOne_100 : decode cX9_scanOne 100 = .ok (.iload 5, 2) := by decide +kernel
theorem dX9_scanOne_102 : decode cX9_scanOne 102 = .ok (.iload_n 2, 1) := by decide +kernel
theorem dX9_scanOne_103 : decode cX9_scanOne 103 = .ok (.iconst 0, 1) := by decide +kernel
theorem dX9_scanOne_104 : decode cX9_scanOne 104 = .ok (.invokevirtual 41, 3) := by decide +kernel
theorem dX9_scanOne_107 : decode cX9_scanOne 107 = .ok (.iload 4, 2) := by decide +kernel
theorem dX9_scanOne_109 : decode cX9_scanOne 109 = .ok (.ifCond .eq 9, 3) := by decide +kernel
theorem dX9_scanOne_112 : decode cX9_scanOne 112 = .ok (.iload_n 2, 1) := by decide +kernel
theorem dX9_scanOne_113 : decode cX9_scanOne 113 = .ok (.iconst 2, 1) := by decide +kernel
theorem dX9_scanOne_114 : decode cX9_scanOne 114 = .ok (.iadd, 1) := by decide +kernel
theorem dX9_scanOne_115 : decode cX9_scanOne 115 = .ok (.goto 6, 3) := by decide +kernel
theorem dX9_scanOne_118 : decode cX9_scanOne 118 = .ok (.iload_n 2, 1) := by decide +kernel
theorem dX9_scanOne_119 : decode cX9_scanOne 119 = .ok (.iconst 1, 1) := by decide +kernel
theorem dX9_scanOne_120 : decode cX9_scanOne 120 = .ok (.iadd, 1) := by decide +kernel
theorem dX9_scanOne_121 : decode cX9_scanOne 121 = .ok (.ireturn, 1) := by decide +kernel
theorem dX9_scanWord_0 : decode cX9_scanWord 0 = .ok (.iload_n 2, 1) := by decide +kernel
theorem dX9_scanWord_1 : decode cX9_scanWord 1 = .ok (.istore_n 3, 1) := by decide +kernel
theorem dX9_scanWord_2 : decode cX9_scanWord 2 = .ok (.iconst 0, 1) := by decide +kernel
theorem dX9_scanWord_3 : decode cX9_scanWord 3 = .ok (.istore 4, 2) := by decide +kernel
theorem dX9_scanWord_5 : decode cX9_scanWord 5 = .ok (.iload 4, 2) := by decide +kernel
theorem dX9_scanWord_7 : decode cX9_scanWord 7 = .ok (.sipush 300, 3) := by decide +kernel
theorem dX9_scanWord_10 : decode cX9_scanWord 10 = .ok (.if_icmp .ge 23, 3) := by decide +kernel
theorem dX9_scanWord_13 : decode cX9_scanWord 13 = .ok (.aload_n 1, 1) := by decide +kernel
theorem dX9_scanWord_14 : decode cX9_scanWord 14 = .ok (.iload_n 3, 1) := by decide +kernel
theorem dX9_scanWord_15 : decode cX9_scanWord 15 = .ok (.invokevirtual 30, 3) := by decide +kernel
theorem dX9_scanWord_18 : decode cX9_scanWord 18 = .ok (.invokestatic 45, 3) := by decide +kernel
theorem dX9_scanWord_21 : decode cX9_scanWord 21 = .ok (.ifCond .eq 12, 3) := by decide +kernel
theorem dX9_scanWord_24 : decode cX9_scanWord 24 = .ok (.iinc 3 1, 3) := by decide +kernel
theorem dX9_scanWord_27 : decode cX9_scanWord 27 = .ok (.iinc 4 1, 3) := by decide +kernel
theorem dX9_scanWord_30 : decode cX9_scanWord 30 = .ok (.goto (-25), 3) := by decide +kernel
theorem dX9_scanWord_33 : decode cX9_scanWord 33 = .ok (.iconst 0, 1) := by decide +kernel
theorem dX9_scanWord_34 : decode cX9_scanWord 34 = .ok (.istore 4, 2) := by decide +kernel
theorem dX9_scanWord_36 : decode cX9_scanWord 36 = .ok (.iconst 0, 1) := by decide +kernel
theorem dX9_scanWord_37 : decode cX9_scanWord 37 = .ok (.istore 5, 2) := by decide +kernel
theorem dX9_scanWord_39 : decode cX9_scanWord 39 = .ok (.iload 5, 2) := by decide +kernel
theorem dX9_scanWord_41 : decode cX9_scanWord 41 = .ok (.bipush 19, 2) := by decide +kernel
theorem dX9_scanWord_43 : decode cX9_scanWord 43 = .ok (.if_icmp .ge 26, 3) := by decide +kernel
theorem dX9_scanWord_46 : decode cX9_scanWord 46 = .ok (.aload_n 1, 1) := by decide +kernel
theorem dX9_scanWord_47 : decode cX9_scanWord 47 = .ok (.iload_n 2, 1) := by decide +kernel
theorem dX9_scanWord_48 : decode cX9_scanWord 48 = .ok (.iload_n 3, 1) := by decide +kernel
theorem dX9_scanWord_49 : decode cX9_scanWord 49 = .ok (.iload 4, 2) := by decide +kernel
theorem dX9_scanWord_51 : decode cX9_scanWord 51 = .ok (.invokestatic 61, 3) := by decide +kernel
theorem dX9_scanWord_54 : decode cX9_scanWord 54 = .ok (.invokestatic 65, 3) := by decide +kernel
theorem dX9_scanWord_57 : decode cX9_scanWord 57 = .ok (.ifCond .ne 12, 3) := by decide +kernel
theorem dX9_scanWord_60 : decode cX9_scanWord 60 = .ok (.iinc 4 1, 3) := by decide +kernel
theorem dX9_scanWord_63 : decode cX9_scanWord 63 = .ok (.iinc 5 1, 3) := by decide +kernel
theorem dX9_scanWord_66 : decode cX9_scanWord 66 = .ok (.goto (-27), 3) := by decide +kernel
theorem dX9_scanWord_69 : decode cX9_scanWord 69 = .ok (.iload 4, 2) := by decide +kernel
theorem dX9_scanWord_71 : decode cX9_scanWord 71 = .ok (.bipush 11, 2) := by decide +kernel
theorem dX9_scanWord_73 : decode cX9_scanWord 73 = .ok (.if_icmp .ge 15, 3) := by decide +kernel
theorem dX9_scanWord_76 : decode cX9_scanWord 76 = .ok (.aload_n 0, 1) := by decide +kernel
theorem dX9_scanWord_77 : decode cX9_scanWord 77 = .ok (.bipush 20, 2) := by decide +kernel
theorem dX9_scanWord_79 : decode cX9_scanWord 79 = .ok (.iload_n 2, 1) := by decide +kernel
theorem dX9_scanWord_80 : decode cX9_scanWord 80 = .ok (.iload 4, 2) := by decide +kernel
theorem dX9_scanWord_82 : decode cX9_scanWord 82 = .ok (.invokevirtual 41, 3) := by decide +kernel
theorem dX9_scanWord_85 : decode cX9_scanWord 85 = .ok (.goto 23, 3) := by decide +kernel
theorem dX9_scanWord_88 : decode cX9_scanWord 88 = .ok (.aload_n 0, 1) := by decide +kernel
theorem dX9_scanWord_89 : decode cX9_scanWord 89 = .ok (.iload 4, 2) := by decide +kernel
theorem dX9_scanWord_91 : decode cX9_scanWord 91 = .ok (.bipush 19, 2) := by decide +kernel
theorem dX9_scanWord_93 : decode cX9_scanWord 93 = .ok (.if_icmp .ge 8, 3) := by decide +kernel
theorem dX9_scanWord_96 : decode cX9_scanWord 96 = .ok (.iload 4, 2) := by decide +kernel
theorem dX9_scanWord_98 : decode cX9_scanWord 98 = .ok (.goto 5, 3) := by decide +kernel
theorem dX9_scanWord_101 : decode cX9_scanWord 101 = .ok (.bipush 36, 2) := by decide +kernel
theorem dX9_scanWord_103 : decode cX9_scanWord 103 = .ok (.iload_n 2, 1) := by decide +kernel
theorem dX9_scanWord_104 : decode cX9_scanWord 104 = .ok (.iconst 0, 1) := by decide +kernel
theorem dX9_scanWord_105 : decode cX9_scanWord 105 = .ok (.invokevirtual 41, 3) := by decide +kernel
theorem dX9_scanWord_108 : decode cX9_scanWord 108 = .ok (.iload_n 3, 1) := by decide +kernel
theorem dX9_scanWord_109 : decode cX9_scanWord 109 = .ok (.ireturn, 1) := by decide +kernel
theorem dX9_scanNumber_0 : decode cX9_scanNumber 0 = .ok (.iload_n 2, 1) := by decide +kernel
theorem dX9_scanNumber_1 : decode cX9_scanNumber 1 = .ok (.istore_n 3, 1) := by decide +kernel
theorem dX9_scanNumber_2 : decode cX9_scanNumber 2 = .ok (.iconst 0, 1) := by decide +kernel
theorem dX9_scanNumber_3 : decode cX9_scanNumber 3 = .ok (.istore 4, 2) := by decide +kernel
theorem dX9_scanNumber_5 : decode cX9_scanNumber 5 = .ok (.iconst 0, 1) := by decide +kernel
theorem dX9_scanNumber_6 : decode cX9_scanNumber 6 = .ok (.istore 5, 2) := by decide +kernel
theorem dX9_scanNumber_8 : decode cX9_scanNumber 8 = .ok (.iload 5, 2) := by decide +kernel
theorem dX9_scanNumber_10 : decode cX9_scanNumber 10 = .ok (.sipush 300, 3) := by decide +kernel
theorem dX9_scanNumber_13 : decode cX9_scanNumber 13 = .ok (.if_icmp .ge 45, 3) := by decide +kernel
theorem dX9_scanNumber_16 : decode cX9_scanNumber 16 = .ok (.aload_n 1, 1) := by decide +kernel
theorem dX9_scanNumber_17 : decode cX9_scanNumber 17 = .ok (.iload_n 3, 1) := by decide +kernel
theorem dX9_scanNumber_18 : decode cX9_scanNumber 18 = .ok (.invokevirtual 30, 3) := by decide +kernel
theorem dX9_scanNumber_21 : decode cX9_scanNumber 21 = .ok (.invokestatic 52, 3) := by decide +kernel
theorem dX9_scanNumber_24 : decode cX9_scanNumber 24 = .ok (.ifCond .eq 34, 3) := by decide +kernel
theorem dX9_scanNumber_27 : decode cX9_scanNumber 27 = .ok (.sipush 10000, 3) := by decide +kernel
theorem dX9_scanNumber_30 : decode cX9_scanNumber 30 = .ok (.bipush 10, 2) := by decide +kernel
theorem dX9_scanNumber_32 : decode cX9_scanNumber 32 = .ok (.iload 4, 2) := by decide +kernel
theorem dX9_scanNumber_34 : decode cX9_scanNumber 34 = .ok (.imul, 1) := by decide +kernel
theorem dX9_scanNumber_35 : decode cX9_scanNumber 35 = .ok (.aload_n 1, 1) := by decide +kernel
theorem dX9_scanNumber_36 : decode cX9_scanNumber 36 = .ok (.iload_n 3, 1) := by decide +kernel
theorem dX9_scanNumber_37 : decode cX9_scanNumber 37 = .ok (.invokevirtual 30, 3) := by decide +kernel
theorem dX9_scanNumber_40 : decode cX9_scanNumber 40 = .ok (.iadd, 1) := by decide +kernel
theorem dX9_scanNumber_41 : decode cX9_scanNumber 41 = .ok (.bipush 48, 2) := by decide +kernel
theorem dX9_scanNumber_43 : decode cX9_scanNumber 43 = .ok (.isub, 1) := by decide +kernel
theorem dX9_scanNumber_44 : decode cX9_scanNumber 44 = .ok (.invokestatic 69, 3) := by decide +kernel
theorem dX9_scanNumber_47 : decode cX9_scanNumber 47 = .ok (.istore 4, 2) := by decide +kernel
theorem dX9_scanNumber_49 : decode cX9_scanNumber 49 = .ok (.iinc 3 1, 3) := by decide +kernel
theorem dX9_scanNumber_52 : decode cX9_scanNumber 52 = .ok (.iinc 5 1, 3) := by decide +kernel
theorem dX9_scanNumber_55 : decode cX9_scanNumber 55 = .ok (.goto (-47), 3) := by decide +kernel
theorem dX9_scanNumber_58 : decode cX9_scanNumber 58 = .ok (.aload_n 0, 1) := by decide +kernel
theorem dX9_scanNumber_59 : decode cX9_scanNumber 59 = .ok (.bipush 19, 2) := by decide +kernel
theorem dX9_scanNumber_61 : decode cX9_scanNumber 61 = .ok (.iload_n 2, 1) := by decide +kernel
theorem dX9_scanNumber_62 : decode cX9_scanNumber 62 = .ok (.iload 4, 2) := by decide +kernel
theorem dX9_scanNumber_64 : decode cX9_scanNumber 64 = .ok (.invokevirtual 41, 3) := by decide +kernel
theorem dX9_scanNumber_67 : decode cX9_scanNumber 67 = .ok (.iload_n 3, 1) := by decide +kernel
theorem dX9_scanNumber_68 : decode cX9_scanNumber 68 = .ok (.ireturn, 1) := by decide +kernel
theorem dX9_note_0 : decode cX9_note 0 = .ok (.aload_n 0, 1) := by decide +kernel
theorem dX9_note_1 : decode cX9_note 1 = .ok (.getfield 14, 3) := by decide +kernel
theorem dX9_note_4 : decode cX9_note 4 = .ok (.iload_n 1, 1) := by decide +kernel
theorem dX9_note_5 : decode cX9_note 5 = .ok (.invokevirtual 75, 3) := by decide +kernel
theorem dX9_note_8 : decode cX9_note 8 = .ok (.aload_n 0, 1) := by decide +kernel
theorem dX9_note_9 : decode cX9_note 9 = .ok (.getfield 20, 3) := by decide +kernel
theorem dX9_note_12 : decode cX9_note 12 = .ok (.iload_n 2, 1) := by decide +kernel
theorem dX9_note_13 : decode cX9_note 13 = .ok (.invokevirtual 75, 3) := by decide +kernel
theorem dX9_note_16 : decode cX9_note 16 = .ok (.aload_n 0, 1) := by decide +kernel
theorem dX9_note_17 : decode cX9_note 17 = .ok (.getfield 23, 3) := by decide +kernel
theorem dX9_note_20 : decode cX9_note 20 = .ok (.iload_n 3, 1) := by decide +kernel
theorem dX9_note_21 : decode cX9_note 21 = .ok (.invokevirtual 75, 3) := by decide +kernel
theorem dX9_note_24 : decode cX9_note 24 = .ok (.return_, 1) := by decide +kernel
theorem dX9_isLetter_0 : decode cX9_isLetter 0 = .ok (.iload_n 0, 1) := by decide +kernel
theorem dX9_isLetter_1 : decode cX9_isLetter 1 = .ok (.bipush 97, 2) := by decide +kernel
theorem dX9_isLetter_3 : decode cX9_isLetter 3 = .ok (.if_icmp .lt 9, 3) := by decide +kernel
theorem dX9_isLetter_6 : decode cX9_isLetter 6 = .ok (.iload_n 0, 1) := by decide +kernel
theorem dX9_isLetter_7 : decode cX9_isLetter 7 = .ok (.bipush 122, 2) := by decide +kernel
theorem dX9_isLetter_9 : decode cX9_isLetter 9 = .ok (.if_icmp .le 15, 3) := by decide +kernel
theorem dX9_isLetter_12 : decode cX9_isLetter 12 = .ok (.iload_n 0, 1) := by decide +kernel
theorem dX9_isLetter_13 : decode cX9_isLetter 13 = .ok (.bipush 65, 2) := by decide +kernel
theorem dX9_isLetter_15 : decode cX9_isLetter 15 = .ok (.if_icmp .lt 13, 3) := by decide +kernel
theorem dX9_isLetter_18 : decode cX9_isLetter 18 = .ok (.iload_n 0, 1) := by decide +kernel
theorem dX9_isLetter_19 : decode cX9_isLetter 19 = .ok (.bipush 90, 2) := by decide +kernel
theorem dX9_isLetter_21 : decode cX9_isLetter 21 = .ok (.if_icmp .gt 7, 3) := by decide +kernel
theorem dX9_isLetter_24 : decode cX9_isLetter 24 = .ok (.iconst 1, 1) := by decide +kernel
theorem dX9_isLetter_25 : decode cX9_isLetter 25 = .ok (.goto 4, 3) := by decide +kernel
theorem dX9_isLetter_28 : decode cX9_isLetter 28 = .ok (.iconst 0, 1) := by decide +kernel
theorem dX9_isLetter_29 : decode cX9_isLetter 29 = .ok (.ireturn, 1) := by decide +kernel
theorem dX9_isDigit_0 : decode cX9_isDigit 0 = .ok (.iload_n 0, 1) := by decide +kernel
theorem dX9_isDigit_1 : decode cX9_isDigit 1 = .ok (.bipush 48, 2) := by decide +kernel
theorem dX9_isDigit_3 : decode cX9_isDigit 3 = .ok (.if_icmp .lt 13, 3) := by decide +kernel
theorem dX9_isDigit_6 : decode cX9_isDigit 6 = .ok (.iload_n 0, 1) := by decide +kernel
theorem dX9_isDigit_7 : decode cX9_isDigit 7 = .ok (.bipush 57, 2) := by decide +kernel
theorem dX9_isDigit_9 : decode cX9_isDigit 9 = .ok (.if_icmp .gt 7, 3) := by decide +kernel
theorem dX9_isDigit_12 : decode cX9_isDigit 12 = .ok (.iconst 1, 1) := by decide +kernel
theorem dX9_isDigit_13 : decode cX9_isDigit 13 = .ok (.goto 4, 3) := by decide +kernel
theorem dX9_isDigit_16 : decode cX9_isDigit 16 = .ok (.iconst 0, 1) := by decide +kernel
theorem dX9_isDigit_17 : decode cX9_isDigit 17 = .ok (.ireturn, 1) := by decide +kernel
theorem dX9_isSpelled_0 : decode cX9_isSpelled 0 = .ok (.iload_n 2, 1) := by decide +kernel
theorem dX9_isSpelled_1 : decode cX9_isSpelled 1 = .ok (.iload_n 1, 1) := by decide +kernel
theorem dX9_isSpelled_2 : decode cX9_isSpelled 2 = .ok (.isub, 1) := by decide +kernel
theorem dX9_isSpelled_3 : decode cX9_isSpelled 3 = .ok (.aload_n 3, 1) := by decide +kernel
theorem dX9_isSpelled_4 : decode cX9_isSpelled 4 = .ok (.invokevirtual 78, 3) := by decide +kernel
theorem dX9_isSpelled_7 : decode cX9_isSpelled 7 = .ok (.if_icmp .eq 5, 3) := by decide +kernel
theorem dX9_isSpelled_10 : decode cX9_isSpelled 10 = .ok (.iconst 0, 1) := by decide +kernel
theorem dX9_isSpelled_11 : decode cX9_isSpelled 11 = .ok (.ireturn, 1) := by decide +kernel
theorem dX9_isSpelled_12 : decode cX9_isSpelled 12 = .ok (.iconst 0, 1) := by decide +kernel
theorem dX9_isSpelled_13 : decode cX9_isSpelled 13 = .ok (.istore 4, 2) := by decide +kernel
theorem dX9_isSpelled_15 : decode cX9_isSpelled 15 = .ok (.iload 4, 2) := by decide +kernel
theorem dX9_isSpelled_17 : decode cX9_isSpelled 17 = .ok (.aload_n 3, 1) := by decide +kernel
theorem dX9_isSpelled_18 : decode cX9_isSpelled 18 = .ok (.invokevirtual 78, 3) := by decide +kernel
theorem dX9_isSpelled_21 : decode cX9_isSpelled 21 = .ok (.if_icmp .ge 28, 3) := by decide +kernel
theorem dX9_isSpelled_24 : decode cX9_isSpelled 24 = .ok (.aload_n 0, 1) := by decide +kernel
theorem dX9_isSpelled_25 : decode cX9_isSpelled 25 = .ok (.iload_n 1, 1) := by decide +kernel
theorem dX9_isSpelled_26 : decode cX9_isSpelled 26 = .ok (.iload 4, 2) := by decide +kernel
theorem dX9_isSpelled_28 : decode cX9_isSpelled 28 = .ok (.iadd, 1) := by decide +kernel
theorem dX9_isSpelled_29 : decode cX9_isSpelled 29 = .ok (.invokevirtual 30, 3) := by decide +kernel
theorem dX9_isSpelled_32 : decode cX9_isSpelled 32 = .ok (.aload_n 3, 1) := by decide +kernel
theorem dX9_isSpelled_33 : decode cX9_isSpelled 33 = .ok (.iload 4, 2) := by decide +kernel
theorem dX9_isSpelled_35 : decode cX9_isSpelled 35 = .ok (.invokevirtual 83, 3) := by decide +kernel
theorem dX9_isSpelled_38 : decode cX9_isSpelled 38 = .ok (.if_icmp .eq 5, 3) := by decide +kernel
theorem dX9_isSpelled_41 : decode cX9_isSpelled 41 = .ok (.iconst 0, 1) := by decide +kernel
theorem dX9_isSpelled_42 : decode cX9_isSpelled 42 = .ok (.ireturn, 1) := by decide +kernel
theorem dX9_isSpelled_43 : decode cX9_isSpelled 43 = .ok (.iinc 4 1, 3) := by decide +kernel
theorem dX9_isSpelled_46 : decode cX9_isSpelled 46 = .ok (.goto (-31), 3) := by decide +kernel
theorem dX9_isSpelled_49 : decode cX9_isSpelled 49 = .ok (.iconst 1, 1) := by decide +kernel
theorem dX9_isSpelled_50 : decode cX9_isSpelled 50 = .ok (.ireturn, 1) := by decide +kernel
theorem dX9_kindOfSign_0 : decode cX9_kindOfSign 0 = .ok (.iload_n 0, 1) := by decide +kernel
theorem dX9_kindOfSign_1 : decode cX9_kindOfSign 1 = .ok (.tableswitch 170 35 63 #[140, 170, 170, 170, 170, 155, 158, 149, 143, 170, 146, 170, 152, 170, 170, 170, 170, 170, 170, 170, 170, 170, 170, 167, 161, 131, 137, 134, 164], 131) := by decide +kernel
theorem dX9_kindOfSign_132 : decode cX9_kindOfSign 132 = .ok (.bipush 21, 2) := by decide +kernel
theorem dX9_kindOfSign_134 : decode cX9_kindOfSign 134 = .ok (.ireturn, 1) := by decide +kernel
theorem dX9_kindOfSign_135 : decode cX9_kindOfSign 135 = .ok (.bipush 23, 2) := by decide +kernel
theorem dX9_kindOfSign_137 : decode cX9_kindOfSign 137 = .ok (.ireturn, 1) := by decide +kernel
theorem dX9_kindOfSign_138 : decode cX9_kindOfSign 138 = .ok (.bipush 25, 2) := by decide +kernel
theorem dX9_kindOfSign_140 : decode cX9_kindOfSign 140 = .ok (.ireturn, 1) := by decide +kernel
theorem dX9_kindOfSign_141 : decode cX9_kindOfSign 141 = .ok (.bipush 26, 2) := by decide +kernel
theorem dX9_kindOfSign_143 : decode cX9_kindOfSign 143 = .ok (.ireturn, 1) := by decide +kernel
theorem dX9_kindOfSign_144 : decode cX9_kindOfSign 144 = .ok (.bipush 27, 2) := by decide +kernel
theorem dX9_kindOfSign_146 : decode cX9_kindOfSign 146 = .ok (.ireturn, 1) := by decide +kernel
theorem dX9_kindOfSign_147 : decode cX9_kindOfSign 147 = .ok (.bipush 28, 2) := by decide +kernel
theorem dX9_kindOfSign_149 : decode cX9_kindOfSign 149 = .ok (.ireturn, 1) := by decide +kernel
theorem dX9_kindOfSign_150 : decode cX9_kindOfSign 150 = .ok (.bipush 29, 2) := by decide +kernel
theorem dX9_kindOfSign_152 : decode cX9_kindOfSign 152 = .ok (.ireturn, 1) := by decide +kernel
theorem dX9_kindOfSign_153 : decode cX9_kindOfSign 153 = .ok (.bipush 30, 2) := by decide +kernel
theorem dX9_kindOfSign_155 : decode cX9_kindOfSign 155 = .ok (.ireturn, 1) := by decide +kernel
theorem dX9_kindOfSign_156 : decode cX9_kindOfSign 156 = .ok (.bipush 31, 2) := by decide +kernel
theorem dX9_kindOfSign_158 : decode cX9_kindOfSign 158 = .ok (.ireturn, 1) := by decide +kernel
theorem dX9_kindOfSign_159 : decode cX9_kindOfSign 159 = .ok (.bipush 32, 2) := by decide +kernel
theorem dX9_kindOfSign_161 : decode cX9_kindOfSign 161 = .ok (.ireturn, 1) := by decide +kernel
theorem dX9_kindOfSign_162 : decode cX9_kindOfSign 162 = .ok (.bipush 33, 2) := by decide +kernel
theorem dX9_kindOfSign_164 : decode cX9_kindOfSign 164 = .ok (.ireturn, 1) := by decide +kernel
theorem dX9_kindOfSign_165 : decode cX9_kindOfSign 165 = .ok (.bipush 34, 2) := by decide +kernel
theorem dX9_kindOfSign_167 : decode cX9_kindOfSign 167 = .ok (.ireturn, 1) := by decide +kernel
theorem dX9_kindOfSign_168 : decode cX9_kindOfSign 168 = .ok (.bipush 35, 2) := by decide +kernel
theorem dX9_kindOfSign_170 : decode cX9_kindOfSign 170 = .ok (.ireturn, 1) := by decide +kernel
theorem dX9_kindOfSign_171 : decode cX9_kindOfSign 171 = .ok (.bipush 36, 2) := by decide +kernel
theorem dX9_kindOfSign_173 : decode cX9_kindOfSign 173 = .ok (.ireturn, 1) := by decide +kernel
theorem dX9_spelling_0 : decode cX9_spelling 0 = .ok (.iload_n 0, 1) := by decide +kernel
theorem dX9_spelling_1 : decode cX9_spelling 1 = .ok (.tableswitch 148 0 18 #[91, 94, 97, 100, 103, 106, 109, 112, 115, 118, 121, 124, 127, 130, 133, 136, 139, 142, 145], 91) := by decide +kernel
theorem dX9_spelling_92 : decode cX9_spelling 92 = .ok (.ldc 87, 2) := by decide +kernel
theorem dX9_spelling_94 : decode cX9_spelling 94 = .ok (.areturn, 1) := by decide +kernel
theorem dX9_spelling_95 : decode cX9_spelling 95 = .ok (.ldc 89, 2) := by decide +kernel
theorem dX9_spelling_97 : decode cX9_spelling 97 = .ok (.areturn, 1) := by decide +kernel
theorem dX9_spelling_98 : decode cX9_spelling 98 = .ok (.ldc 91, 2) := by decide +kernel
theorem dX9_spelling_100 : decode cX9_spelling 100 = .ok (.areturn, 1) := by decide +kernel
theorem dX9_spelling_101 : decode cX9_spelling 101 = .ok (.ldc 93, 2) := by decide +kernel
theorem dX9_spelling_103 : decode cX9_spelling 103 = .ok (.areturn, 1) := by decide +kernel
theorem dX9_spelling_104 : decode cX9_spelling 104 = .ok (.ldc 95, 2) := by decide +kernel
theorem dX9_spelling_106 : decode cX9_spelling 106 = .ok (.areturn, 1) := by decide +kernel
theorem dX9_spelling_107 : decode cX9_spelling 107 = .ok (.ldc 97, 2) := by decide +kernel
theorem dX9_spelling_109 : decode cX9_spelling 109 = .ok (.areturn, 1) := by decide +kernel
theorem dX9_spelling_110 : decode cX9_spelling 110 = .ok (.ldc 99, 2) := by decide +kernel
theorem dX9_spelling_112 : decode cX9_spelling 112 = .ok (.areturn, 1) := by decide +kernel
theorem dX9_spelling_113 : decode cX9_spelling 113 = .ok (.ldc 101, 2) := by decide +kernel
theorem dX9_spelling_115 : decode cX9_spelling 115 = .ok (.areturn, 1) := by decide +kernel
theorem dX9_spelling_116 : decode cX9_spelling 116 = .ok (.ldc 103, 2) := by decide +kernel
theorem dX9_spelling_118 : decode cX9_spelling 118 = .ok (.areturn, 1) := by decide +kernel
theorem dX9_spelling_119 : decode cX9_spelling 119 = .ok (.ldc 105, 2) := by decide +kernel
theorem dX9_spelling_121 : decode cX9_spelling 121 = .ok (.areturn, 1) := by decide +kernel
theorem dX9_spelling_122 : decode cX9_spelling 122 = .ok (.ldc 107, 2) := by decide +kernel
theorem dX9_spelling_124 : decode cX9_spelling 124 = .ok (.areturn, 1) := by decide +kernel
theorem dX9_spelling_125 : decode cX9_spelling 125 = .ok (.ldc 109, 2) := by decide +kernel
theorem dX9_spelling_127 : decode cX9_spelling 127 = .ok (.areturn, 1) := by decide +kernel
theorem dX9_spelling_128 : decode cX9_spelling 128 = .ok (.ldc 111, 2) := by decide +kernel
theorem dX9_spelling_130 : decode cX9_spelling 130 = .ok (.areturn, 1) := by decide +kernel
theorem dX9_spelling_131 : decode cX9_spelling 131 = .ok (.ldc 113, 2) := by decide +kernel
theorem dX9_spelling_133 : decode cX9_spelling 133 = .ok (.areturn, 1) := by decide +kernel
theorem dX9_spelling_134 : decode cX9_spelling 134 = .ok (.ldc 115, 2) := by decide +kernel
theorem dX9_spelling_136 : decode cX9_spelling 136 = .ok (.areturn, 1) := by decide +kernel
theorem dX9_spelling_137 : decode cX9_spelling 137 = .ok (.ldc 117, 2) := by decide +kernel
theorem dX9_spelling_139 : decode cX9_spelling 139 = .ok (.areturn, 1) := by decide +kernel
theorem dX9_spelling_140 : decode cX9_spelling 140 = .ok (.ldc 119, 2) := by decide +kernel
theorem dX9_spelling_142 : decode cX9_spelling 142 = .ok (.areturn, 1) := by decide +kernel
theorem dX9_spelling_143 : decode cX9_spelling 143 = .ok (.ldc 121, 2) := by decide +kernel
theorem dX9_spelling_145 : decode cX9_spelling 145 = .ok (.areturn, 1) := by decide +kernel
theorem dX9_spelling_146 : decode cX9_spelling 146 = .ok (.ldc 123, 2) := by decide +kernel
theorem dX9_spelling_148 : decode cX9_spelling 148 = .ok (.areturn, 1) := by decide +kernel
theorem dX9_spelling_149 : decode cX9_spelling 149 = .ok (.ldc 125, 2) := by decide +kernel
theorem dX9_spelling_151 : decode cX9_spelling 151 = .ok (.areturn, 1) := by decide +kernel
theorem dX10_init_0 : decode cX10_init 0 = .ok (.aload_n 0, 1) := by decide +kernel
theorem dX10_init_1 : decode cX10_init 1 = .ok (.invokespecial 3, 3) := by decide +kernel
theorem dX10_init_4 : decode cX10_init 4 = .ok (.aload_n 0, 1) := by decide +kernel
theorem dX10_init_5 : decode cX10_init 5 = .ok (.bipush 36, 2) := by decide +kernel
theorem dX10_init_7 : decode cX10_init 7 = .ok (.newarray .int, 2) := by decide +kernel
theorem dX10_init_9 : decode cX10_init 9 = .ok (.putfield 11, 3) := by decide +kernel
theorem dX10_init_12 : decode cX10_init 12 = .ok (.aload_n 0, 1) := by decide +kernel
theorem dX10_init_13 : decode cX10_init 13 = .ok (.bipush 36, 2) := by decide +kernel
theorem dX10_init_15 : decode cX10_init 15 = .ok (.newarray .int, 2) := by decide +kernel
theorem dX10_init_17 : decode cX10_init 17 = .ok (.putfield 15, 3) := by decide +kernel
theorem dX10_init_20 : decode cX10_init 20 = .ok (.aload_n 0, 1) := by decide +kernel
theorem dX10_init_21 : decode cX10_init 21 = .ok (.bipush 36, 2) := by decide +kernel
theorem dX10_init_23 : decode cX10_init 23 = .ok (.newarray .boolean, 2) := by decide +kernel
theorem dX10_init_25 : decode cX10_init 25 = .ok (.putfield 18, 3) := by decide +kernel
theorem dX10_init_28 : decode cX10_init 28 = .ok (.aload_n 0, 1) := by decide +kernel
theorem dX10_init_29 : decode cX10_init 29 = .ok (.bipush 6, 2) := by decide +kernel
theorem dX10_init_31 : decode cX10_init 31 = .ok (.newarray .int, 2) := by decide +kernel
theorem dX10_init_33 : decode cX10_init 33 = .ok (.putfield 22, 3) := by decide +kernel
theorem dX10_init_36 : decode cX10_init 36 = .ok (.aload_n 0, 1) := by decide +kernel
theorem dX10_init_37 : decode cX10_init 37 = .ok (.bipush 6, 2) := by decide +kernel
theorem dX10_init_39 : decode cX10_init 39 = .ok (.newarray .int, 2) := by decide +kernel
theorem dX10_init_41 : decode cX10_init 41 = .ok (.putfield 25, 3) := by decide +kernel
theorem dX10_init_44 : decode cX10_init 44 = .ok (.aload_n 0, 1) := by decide +kernel
theorem dX10_init_45 : decode cX10_init 45 = .ok (.aload_n 1, 1) := by decide +kernel
theorem dX10_init_46 : decode cX10_init 46 = .ok (.putfield 28, 3) := by decide +kernel
theorem dX10_init_49 : decode cX10_init 49 = .ok (.aload_n 0, 1) := by decide +kernel
theorem dX10_init_50 : decode cX10_init 50 = .ok (.aload_n 2, 1) := by decide +kernel
theorem dX10_init_51 : decode cX10_init 51 = .ok (.putfield 32, 3) := by decide +kernel
theorem dX10_init_54 : decode cX10_init 54 = .ok (.return_, 1) := by decide +kernel
theorem dX10_carrierOf_0 : decode cX10_carrierOf 0 = .ok (.aload_n 0, 1) := by decide +kernel
theorem dX10_carrierOf_1 : decode cX10_carrierOf 1 = .ok (.iload_n 2, 1) := by decide +kernel
theorem dX10_carrierOf_2 : decode cX10_carrierOf 2 = .ok (.ifCond .ne 16, 3) := by decide +kernel
theorem dX10_carrierOf_5 : decode cX10_carrierOf 5 = .ok (.aload_n 0, 1) := by decide +kernel
theorem dX10_carrierOf_6 : decode cX10_carrierOf 6 = .ok (.getfield 28, 3) := by decide +kernel
theorem dX10_carrierOf_9 : decode cX10_carrierOf 9 = .ok (.getfield 36, 3) := by decide +kernel
theorem dX10_carrierOf_12 : decode cX10_carrierOf 12 = .ok (.invokevirtual 42, 3) := by decide +kernel
theorem dX10_carrierOf_15 : decode cX10_carrierOf 15 = .ok (.goto 13, 3) := by decide +kernel
theorem dX10_carrierOf_18 : decode cX10_carrierOf 18 = .ok (.aload_n 0, 1) := by decide +kernel
theorem dX10_carrierOf_19 : decode cX10_carrierOf 19 = .ok (.getfield 28, 3) := by decide +kernel
theorem dX10_carrierOf_22 : decode cX10_carrierOf 22 = .ok (.getfield 48, 3) := by decide +kernel
theorem dX10_carrierOf_25 : decode cX10_carrierOf 25 = .ok (.invokevirtual 42, 3) := by decide +kernel
theorem dX10_carrierOf_28 : decode cX10_carrierOf 28 = .ok (.putfield 51, 3) := by decide +kernel
theorem dX10_carrierOf_31 : decode cX10_carrierOf 31 = .ok (.aload_n 0, 1) := by decide +kernel
theorem dX10_carrierOf_32 : decode cX10_carrierOf 32 = .ok (.iload_n 2, 1) := by decide +kernel
theorem dX10_carrierOf_33 : decode cX10_carrierOf 33 = .ok (.ifCond .ne 16, 3) := by decide +kernel
theorem dX10_carrierOf_36 : decode cX10_carrierOf 36 = .ok (.aload_n 0, 1) := by decide +kernel
theorem dX10_carrierOf_37 : decode cX10_carrierOf 37 = .ok (.getfield 28, 3) := by decide +kernel
theorem dX10_carrierOf_40 : decode cX10_carrierOf 40 = .ok (.getfield 48, 3) := by decide +kernel
theorem dX10_carrierOf_43 : decode cX10_carrierOf 43 = .ok (.invokevirtual 42, 3) := by decide +kernel
theorem dX10_carrierOf_46 : decode cX10_carrierOf 46 = .ok (.goto 13, 3) := by decide +kernel
theorem dX10_carrierOf_49 : decode cX10_carrierOf 49 = .ok (.aload_n 0, 1) := by decide +kernel
theorem dX10_carrierOf_50 : decode cX10_carrierOf 50 = .ok (.getfield 28, 3) := by decide +kernel
theorem dX10_carrierOf_53 : decode cX10_carrierOf 53 = .ok (.getfield 36, 3) := by decide +kernel
theorem dX10_carrierOf_56 : decode cX10_carrierOf 56 = .ok (.invokevirtual 42, 3) := by decide +kernel
theorem dX10_carrierOf_59 : decode cX10_carrierOf 59 = .ok (.putfield 55, 3) := by decide +kernel
theorem dX10_carrierOf_62 : decode cX10_carrierOf 62 = .ok (.aload_n 0, 1) := by decide +kernel
theorem dX10_carrierOf_63 : decode cX10_carrierOf 63 = .ok (.invokevirtual 58, 3) := by decide +kernel
theorem dX10_carrierOf_66 : decode cX10_carrierOf 66 = .ok (.aload_n 0, 1) := by decide +kernel
theorem dX10_carrierOf_67 : decode cX10_carrierOf 67 = .ok (.iload_n 2, 1) := by decide +kernel
theorem dX10_carrierOf_68 : decode cX10_carrierOf 68 = .ok (.aload_n 3, 1) := by decide +kernel
theorem dX10_carrierOf_69 : decode cX10_carrierOf 69 = .ok (.invokevirtual 61, 3) := by decide +kernel
theorem dX10_carrierOf_72 : decode cX10_carrierOf 72 = .ok (.iconst 0, 1) := by decide +kernel
theorem dX10_carrierOf_73 : decode cX10_carrierOf 73 = .ok (.istore 4, 2) := by decide +kernel
theorem dX10_carrierOf_75 : decode cX10_carrierOf 75 = .ok (.iload 4, 2) := by decide +kernel
theorem dX10_carrierOf_77 : decode cX10_carrierOf 77 = .ok (.bipush 36, 2) := by decide +kernel
theorem dX10_carrierOf_79 : decode cX10_carrierOf 79 = .ok (.if_icmp .ge 13, 3) := by decide +kernel
theorem dX10_carrierOf_82 : decode cX10_carrierOf 82 = .ok (.aload_n 0, 1) := by decide +kernel
theorem dX10_carrierOf_83 : decode cX10_carrierOf 83 = .ok (.invokevirtual 65, 3) := by decide +kernel
theorem dX10_carrierOf_86 : decode cX10_carrierOf 86 = .ok (.iinc 4 1, 3) := by decide +kernel
theorem dX10_carrierOf_89 : decode cX10_carrierOf 89 = .ok (.goto (-14), 3) := by decide +kernel
theorem dX10_carrierOf_92 : decode cX10_carrierOf 92 = .ok (.iload_n 1, 1) := by decide +kernel
theorem dX10_carrierOf_93 : decode cX10_carrierOf 93 = .ok (.ifCond .lt 9, 3) := by decide +kernel
theorem dX10_carrierOf_96 : decode cX10_carrierOf 96 = .ok (.iload_n 1, 1) := by decide +kernel
theorem dX10_carrierOf_97 : decode cX10_carrierOf 97 = .ok (.bipush 6, 2) := by decide +kernel
theorem dX10_carrierOf_99 : decode cX10_carrierOf 99 = .ok (.if_icmp .lt 5, 3) := by decide +kernel
theorem dX10_carrierOf_102 : decode cX10_carrierOf 102 = .ok (.iconst (-1), 1) := by decide +kernel
theorem dX10_carrierOf_103 : decode cX10_carrierOf 103 = .ok (.ireturn, 1) := by decide +kernel
theorem dX10_carrierOf_104 : decode cX10_carrierOf 104 = .ok (.iload_n 2, 1) := by decide +kernel
theorem dX10_carrierOf_105 : decode cX10_carrierOf 105 = .ok (.ifCond .ne 12, 3) := by decide +kernel
theorem dX10_carrierOf_108 : decode cX10_carrierOf 108 = .ok (.aload_n 0, 1) := by decide +kernel
theorem dX10_carrierOf_109 : decode cX10_carrierOf 109 = .ok (.getfield 22, 3) := by decide +kernel
theorem dX10_carrierOf_112 : decode cX10_carrierOf 112 = .ok (.iload_n 1, 1) := by decide +kernel
theorem dX10_carrierOf_113 : decode cX10_carrierOf 113 = .ok (.iaload, 1) := by decide +kernel
theorem dX10_carrierOf_114 : decode cX10_carrierOf 114 = .ok (.goto 9, 3) := by decide +kernel
theorem dX10_carrierOf_117 : decode cX10_carrierOf 117 = .ok (.aload_n 0, 1) := by decide +kernel
theorem dX10_carrierOf_118 : decode cX10_carrierOf 118 = .ok (.getfield 25, 3) := by decide +kernel
theorem dX10_carrierOf_121 : decode cX10_carrierOf 121 = .ok (.iload_n 1, 1) := by decide +kernel
theorem dX10_carrierOf_122 : decode cX10_carrierOf 122 = .ok (.iaload, 1) := by decide +kernel
theorem dX10_carrierOf_123 : decode cX10_carrierOf 123 = .ok (.ireturn, 1) := by decide +kernel
theorem dX10_begin_0 : decode cX10_begin 0 = .ok (.aload_n 0, 1) := by decide +kernel
theorem dX10_begin_1 : decode cX10_begin 1 = .ok (.getfield 22, 3) := by decide +kernel
theorem dX10_begin_4 : decode cX10_begin 4 = .ok (.iconst (-1), 1) := by decide +kernel
theorem dX10_begin_5 : decode cX10_begin 5 = .ok (.invokestatic 68, 3) := by decide +kernel
theorem dX10_begin_8 : decode cX10_begin 8 = .ok (.aload_n 0, 1) := by decide +kernel
theorem dX10_begin_9 : decode cX10_begin 9 = .ok (.getfield 25, 3) := by decide +kernel
theorem dX10_begin_12 : decode cX10_begin 12 = .ok (.iconst (-1), 1) := by decide +kernel
theorem dX10_begin_13 : decode cX10_begin 13 = .ok (.invokestatic 68, 3) := by decide +kernel
theorem dX10_begin_16 : decode cX10_begin 16 = .ok (.iconst 0, 1) := by decide +kernel
theorem dX10_begin_17 : decode cX10_begin 17 = .ok (.istore_n 1, 1) := by decide +kernel
theorem dX10_begin_18 : decode cX10_begin 18 = .ok (.iload_n 1, 1) := by decide +kernel
theorem dX10_begin_19 : decode cX10_begin 19 = .ok (.bipush 36, 2) := by decide +kernel
theorem dX10_begin_21 : decode cX10_begin 21 = .ok (.if_icmp .ge 16, 3) := by decide +kernel
theorem dX10_begin_24 : decode cX10_begin 24 = .ok (.aload_n 0, 1) := by decide +kernel
theorem dX10_begin_25 : decode cX10_begin 25 = .ok (.getfield 18, 3) := by decide +kernel
theorem dX10_begin_28 : decode cX10_begin 28 = .ok (.iload_n 1, 1) := by decide +kernel
theorem dX10_begin_29 : decode cX10_begin 29 = .ok (.iconst 0, 1) := by decide +kernel
theorem dX10_begin_30 : decode cX10_begin 30 = .ok (.bastore, 1) := by decide +kernel
theorem dX10_begin_31 : decode cX10_begin 31 = .ok (.iinc 1 1, 3) := by decide +kernel
theorem dX10_begin_34 : decode cX10_begin 34 = .ok (.goto (-16), 3) := by decide +kernel
theorem dX10_begin_37 : decode cX10_begin 37 = .ok (.return_, 1) := by decide +kernel
theorem dX10_learn_0 : decode cX10_learn 0 = .ok (.iconst 0, 1) := by decide +kernel
theorem dX10_learn_1 : decode cX10_learn 1 = .ok (.istore_n 3, 1) := by decide +kernel
theorem dX10_learn_2 : decode cX10_learn 2 = .ok (.iload_n 3, 1) := by decide +kernel
theorem dX10_learn_3 : decode cX10_learn 3 = .ok (.aload_n 0, 1) := by decide +kernel
theorem dX10_learn_4 : decode cX10_learn 4 = .ok (.getfield 51, 3) := by decide +kernel
theorem dX10_learn_7 : decode cX10_learn 7 = .ok (.if_icmp .ge 97, 3) := by decide +kernel
theorem dX10_learn_10 : decode cX10_learn 10 = .ok (.iconst 0, 1) := by decide +kernel
theorem dX10_learn_11 : decode cX10_learn 11 = .ok (.istore 4, 2) := by decide +kernel
theorem dX10_learn_13 : decode cX10_learn 13 = .ok (.iload 4, 2) := by decide +kernel
theorem dX10_learn_15 : decode cX10_learn 15 = .ok (.aload_n 0, 1) := by decide +kernel
theorem dX10_learn_16 : decode cX10_learn 16 = .ok (.getfield 55, 3) := by decide +kernel
theorem dX10_learn_19 : decode cX10_learn 19 = .ok (.if_icmp .ge 79, 3) := by decide +kernel
theorem dX10_learn_22 : decode cX10_learn 22 = .ok (.iload_n 1, 1) := by decide +kernel
theorem dX10_learn_23 : decode cX10_learn 23 = .ok (.ifCond .ne 7, 3) := by decide +kernel
theorem dX10_learn_26 : decode cX10_learn 26 = .ok (.iload_n 3, 1) := by decide +kernel
theorem dX10_learn_27 : decode cX10_learn 27 = .ok (.goto 5, 3) := by decide +kernel
theorem dX10_learn_30 : decode cX10_learn 30 = .ok (.iload 4, 2) := by decide +kernel
theorem dX10_learn_32 : decode cX10_learn 32 = .ok (.istore 5, 2) := by decide +kernel
theorem dX10_learn_34 : decode cX10_learn 34 = .ok (.iload_n 1, 1) := by decide +kernel
theorem dX10_learn_35 : decode cX10_learn 35 = .ok (.ifCond .ne 8, 3) := by decide +kernel
theorem dX10_learn_38 : decode cX10_learn 38 = .ok (.iload 4, 2) := by decide +kernel
theorem dX10_learn_40 : decode cX10_learn 40 = .ok (.goto 4, 3) := by decide +kernel
theorem dX10_learn_43 : decode cX10_learn 43 = .ok (.iload_n 3, 1) := by decide +kernel
theorem dX10_learn_44 : decode cX10_learn 44 = .ok (.istore 6, 2) := by decide +kernel
theorem dX10_learn_46 : decode cX10_learn 46 = .ok (.aload_n 0, 1) := by decide +kernel
theorem dX10_learn_47 : decode cX10_learn 47 = .ok (.getfield 11, 3) := by decide +kernel
theorem dX10_learn_50 : decode cX10_learn 50 = .ok (.iload_n 3, 1) := by decide +kernel
theorem dX10_learn_51 : decode cX10_learn 51 = .ok (.bipush 6, 2) := by decide +kernel
theorem dX10_learn_53 : decode cX10_learn 53 = .ok (.imul, 1) := by decide +kernel
theorem dX10_learn_54 : decode cX10_learn 54 = .ok (.iload 4, 2) := by decide +kernel
theorem dX10_learn_56 : decode cX10_learn 56 = .ok (.iadd, 1) := by decide +kernel
theorem dX10_learn_57 : decode cX10_learn 57 = .ok (.aload_n 0, 1) := by decide +kernel
theorem dX10_learn_58 : decode cX10_learn 58 = .ok (.aload_n 2, 1) := by decide +kernel
theorem dX10_learn_59 : decode cX10_learn 59 = .ok (.iload 5, 2) := by decide +kernel
theorem dX10_learn_61 : decode cX10_learn 61 = .ok (.iload 6, 2) := by decide +kernel
theorem dX10_learn_63 : decode cX10_learn 63 = .ok (.iload_n 1, 1) := by decide +kernel
theorem dX10_learn_64 : decode cX10_learn 64 = .ok (.invokevirtual 74, 3) := by decide +kernel
theorem dX10_learn_67 : decode cX10_learn 67 = .ok (.iastore, 1) := by decide +kernel
theorem dX10_learn_68 : decode cX10_learn 68 = .ok (.aload_n 0, 1) := by decide +kernel
theorem dX10_learn_69 : decode cX10_learn 69 = .ok (.getfield 15, 3) := by decide +kernel
theorem dX10_learn_72 : decode cX10_learn 72 = .ok (.iload 4, 2) := by decide +kernel
theorem dX10_learn_74 : decode cX10_learn 74 = .ok (.bipush 6, 2) := by decide +kernel
theorem dX10_learn_76 : decode cX10_learn 76 = .ok (.imul, 1) := by decide +kernel
theorem dX10_learn_77 : decode cX10_learn 77 = .ok (.iload_n 3, 1) := by decide +kernel
theorem dX10_learn_78 : decode cX10_learn 78 = .ok (.iadd, 1) := by decide +kernel
theorem dX10_learn_79 : decode cX10_learn 79 = .ok (.aload_n 0, 1) := by decide +kernel
theorem dX10_learn_80 : decode cX10_learn 80 = .ok (.aload_n 2, 1) := by decide +kernel
theorem dX10_learn_81 : decode cX10_learn 81 = .ok (.iload 5, 2) := by decide +kernel
theorem dX10_learn_83 : decode cX10_learn 83 = .ok (.iload 6, 2) := by decide +kernel
theorem dX10_learn_85 : decode cX10_learn 85 = .ok (.iconst 1, 1) := by decide +kernel
theorem dX10_learn_86 : decode cX10_learn 86 = .ok (.iload_n 1, 1) := by decide +kernel
theorem dX10_learn_87 : decode cX10_learn 87 = .ok (.isub, 1) := by decide +kernel
theorem dX10_learn_88 : decode cX10_learn 88 = .ok (.invokevirtual 74, 3) := by decide +kernel
theorem dX10_learn_91 : decode cX10_learn 91 = .ok (.iastore, 1) := by decide +kernel
theorem dX10_learn_92 : decode cX10_learn 92 = .ok (.iinc 4 1, 3) := by decide +kernel
theorem dX10_learn_95 : decode cX10_learn 95 = .ok (.goto (-82), 3) := by decide +kernel
theorem dX10_learn_98 : decode cX10_learn 98 = .ok (.iinc 3 1, 3) := by decide +kernel
theorem dX10_learn_101 : decode cX10_learn 101 = .ok (.goto (-99), 3) := by decide +kernel
theorem dX10_learn_104 : decode cX10_learn 104 = .ok (.return_, 1) := by decide +kernel
theorem dX10_liking_0 : decode cX10_liking 0 = .ok (.aload_n 1, 1) := by decide +kernel
theorem dX10_liking_1 : decode cX10_liking 1 = .ok (.getfield 78, 3) := by decide +kernel
theorem dX10_liking_4 : decode cX10_liking 4 = .ok (.iconst (-1), 1) := by decide +kernel
theorem dX10_liking_5 : decode cX10_liking 5 = .ok (.if_icmp .ne 5, 3) := by decide +kernel
theorem dX10_liking_8 : decode cX10_liking 8 = .ok (.iconst 0, 1) := by decide +kernel
theorem dX10_liking_9 : decode cX10_liking 9 = .ok (.ireturn, 1) := by decide +kernel
theorem dX10_liking_10 : decode cX10_liking 10 = .ok (.aload_n 0, 1) := by decide +kernel
theorem dX10_liking_11 : decode cX10_liking 11 = .ok (.getfield 32, 3) := by decide +kernel
theorem dX10_liking_14 : decode cX10_liking 14 = .ok (.bipush 6, 2) := by decide +kernel
theorem dX10_liking_16 : decode cX10_liking 16 = .ok (.iload_n 2, 1) := by decide +kernel
theorem dX10_liking_17 : decode cX10_liking 17 = .ok (.invokevirtual 83, 3) := by decide +kernel
theorem dX10_liking_20 : decode cX10_liking 20 = .ok (.aload_n 0, 1) := by decide +kernel
theorem dX10_liking_21 : decode cX10_liking 21 = .ok (.getfield 32, 3) := by decide +kernel
theorem dX10_liking_24 : decode cX10_liking 24 = .ok (.bipush 7, 2) := by decide +kernel
theorem dX10_liking_26 : decode cX10_liking 26 = .ok (.iload_n 3, 1) := by decide +kernel
theorem dX10_liking_27 : decode cX10_liking 27 = .ok (.invokevirtual 83, 3) := by decide +kernel
theorem dX10_liking_30 : decode cX10_liking 30 = .ok (.aload_n 0, 1) := by decide +kernel
theorem dX10_liking_31 : decode cX10_liking 31 = .ok (.getfield 32, 3) := by decide +kernel
theorem dX10_liking_34 : decode cX10_liking 34 = .ok (.bipush 8, 2) := by decide +kernel
theorem dX10_liking_36 : decode cX10_liking 36 = .ok (.aload_n 0, 1) := by decide +kernel
theorem dX10_liking_37 : decode cX10_liking 37 = .ok (.getfield 28, 3) := by decide +kernel
theorem dX10_liking_40 : decode cX10_liking 40 = .ok (.getfield 36, 3) := by decide +kernel
theorem dX10_liking_43 : decode cX10_liking 43 = .ok (.iload_n 2, 1) := by decide +kernel
theorem dX10_liking_44 : decode cX10_liking 44 = .ok (.invokevirtual 89, 3) := by decide +kernel
theorem dX10_liking_47 : decode cX10_liking 47 = .ok (.invokevirtual 83, 3) := by decide +kernel
theorem dX10_liking_50 : decode cX10_liking 50 = .ok (.aload_n 0, 1) := by decide +kernel
theorem dX10_liking_51 : decode cX10_liking 51 = .ok (.getfield 32, 3) := by decide +kernel
theorem dX10_liking_54 : decode cX10_liking 54 = .ok (.bipush 9, 2) := by decide +kernel
theorem dX10_liking_56 : decode cX10_liking 56 = .ok (.aload_n 0, 1) := by decide +kernel
theorem dX10_liking_57 : decode cX10_liking 57 = .ok (.getfield 28, 3) := by decide +kernel
theorem dX10_liking_60 : decode cX10_liking 60 = .ok (.getfield 48, 3) := by decide +kernel
theorem dX10_liking_63 : decode cX10_liking 63 = .ok (.iload_n 3, 1) := by decide +kernel
theorem dX10_liking_64 : decode cX10_liking 64 = .ok (.invokevirtual 89, 3) := by decide +kernel
theorem dX10_liking_67 : decode cX10_liking 67 = .ok (.invokevirtual 83, 3) := by decide +kernel
theorem dX10_liking_70 : decode cX10_liking 70 = .ok (.aload_n 0, 1) := by decide +kernel
theorem dX10_liking_71 : decode cX10_liking 71 = .ok (.getfield 32, 3) := by decide +kernel
theorem dX10_liking_74 : decode cX10_liking 74 = .ok (.bipush 10, 2) := by decide +kernel
theorem dX10_liking_76 : decode cX10_liking 76 = .ok (.iload 4, 2) := by decide +kernel
theorem dX10_liking_78 : decode cX10_liking 78 = .ok (.invokevirtual 83, 3) := by decide +kernel
theorem dX10_liking_81 : decode cX10_liking 81 = .ok (.aload_n 0, 1) := by decide +kernel
theorem dX10_liking_82 : decode cX10_liking 82 = .ok (.getfield 32, 3) := by decide +kernel
theorem dX10_liking_85 : decode cX10_liking 85 = .ok (.aload_n 1, 1) := by decide +kernel
theorem dX10_liking_86 : decode cX10_liking 86 = .ok (.getfield 93, 3) := by decide +kernel
theorem dX10_liking_89 : decode cX10_liking 89 = .ok (.aload_n 1, 1) := by decide +kernel
theorem dX10_liking_90 : decode cX10_liking 90 = .ok (.getfield 78, 3) := by decide +kernel
theorem dX10_liking_93 : decode cX10_liking 93 = .ok (.invokevirtual 96, 3) := by decide +kernel
theorem dX10_liking_96 : decode cX10_liking 96 = .ok (.ireturn, 1) := by decide +kernel
theorem dX10_oneAsks_0 : decode cX10_oneAsks 0 = .ok (.iconst 0, 1) := by decide +kernel
theorem dX10_oneAsks_1 : decode cX10_oneAsks 1 = .ok (.istore_n 1, 1) := by decide +kernel
theorem dX10_oneAsks_2 : decode cX10_oneAsks 2 = .ok (.iload_n 1, 1) := by decide +kernel
theorem dX10_oneAsks_3 : decode cX10_oneAsks 3 = .ok (.aload_n 0, 1) := by decide +kernel
theorem dX10_oneAsks_4 : decode cX10_oneAsks 4 = .ok (.getfield 51, 3) := by decide +kernel
theorem dX10_oneAsks_7 : decode cX10_oneAsks 7 = .ok (.if_icmp .ge 53, 3) := by decide +kernel
theorem dX10_oneAsks_10 : decode cX10_oneAsks 10 = .ok (.aload_n 0, 1) := by decide +kernel
theorem dX10_oneAsks_11 : decode cX10_oneAsks 11 = .ok (.getfield 22, 3) := by decide +kernel
theorem dX10_oneAsks_14 : decode cX10_oneAsks 14 = .ok (.iload_n 1, 1) := by decide +kernel
theorem dX10_oneAsks_15 : decode cX10_oneAsks 15 = .ok (.iaload, 1) := by decide +kernel
theorem dX10_oneAsks_16 : decode cX10_oneAsks 16 = .ok (.iconst (-1), 1) := by decide +kernel
theorem dX10_oneAsks_17 : decode cX10_oneAsks 17 = .ok (.if_icmp .ne 11, 3) := by decide +kernel
theorem dX10_oneAsks_20 : decode cX10_oneAsks 20 = .ok (.aload_n 0, 1) := by decide +kernel
theorem dX10_oneAsks_21 : decode cX10_oneAsks 21 = .ok (.iload_n 1, 1) := by decide +kernel
theorem dX10_oneAsks_22 : decode cX10_oneAsks 22 = .ok (.invokevirtual 100, 3) := by decide +kernel
theorem dX10_oneAsks_25 : decode cX10_oneAsks 25 = .ok (.goto 4, 3) := by decide +kernel
theorem dX10_oneAsks_28 : decode cX10_oneAsks 28 = .ok (.iconst (-1), 1) := by decide +kernel
theorem dX10_oneAsks_29 : decode cX10_oneAsks 29 = .ok (.istore_n 2, 1) := by decide +kernel
theorem dX10_oneAsks_30 : decode cX10_oneAsks 30 = .ok (.iload_n 2, 1) := by decide +kernel
theorem dX10_oneAsks_31 : decode cX10_oneAsks 31 = .ok (.iconst (-1), 1) := by decide +kernel
theorem dX10_oneAsks_32 : decode cX10_oneAsks 32 = .ok (.if_icmp .eq 22, 3) := by decide +kernel
theorem dX10_oneAsks_35 : decode cX10_oneAsks 35 = .ok (.aload_n 0, 1) := by decide +kernel
theorem dX10_oneAsks_36 : decode cX10_oneAsks 36 = .ok (.getfield 18, 3) := by decide +kernel
theorem dX10_oneAsks_39 : decode cX10_oneAsks 39 = .ok (.iload_n 1, 1) := by decide +kernel
theorem dX10_oneAsks_40 : decode cX10_oneAsks 40 = .ok (.bipush 6, 2) := by decide +kernel
theorem dX10_oneAsks_42 : decode cX10_oneAsks 42 = .ok (.imul, 1) := by decide +kernel
theorem dX10_oneAsks_43 : decode cX10_oneAsks 43 = .ok (.iload_n 2, 1) := by decide +kernel
theorem dX10_oneAsks_44 : decode cX10_oneAsks 44 = .ok (.iadd, 1) := by decide +kernel
theorem dX10_oneAsks_45 : decode cX10_oneAsks 45 = .ok (.iconst 1, 1) := by decide +kernel
theorem dX10_oneAsks_46 : decode cX10_oneAsks 46 = .ok (.bastore, 1) := by decide +kernel
theorem dX10_oneAsks_47 : decode cX10_oneAsks 47 = .ok (.aload_n 0, 1) := by decide +kernel
theorem dX10_oneAsks_48 : decode cX10_oneAsks 48 = .ok (.iload_n 1, 1) := by decide +kernel
theorem dX10_oneAsks_49 : decode cX10_oneAsks 49 = .ok (.iload_n 2, 1) := by decide +kernel
theorem dX10_oneAsks_50 : decode cX10_oneAsks 50 = .ok (.invokevirtual 103, 3) := by decide +kernel
theorem dX10_oneAsks_53 : decode cX10_oneAsks 53 = .ok (.return_, 1) := by decide +kernel
theorem dX10_oneAsks_54 : decode cX10_oneAsks 54 = .ok (.iinc 1 1, 3) := by decide +kernel
theorem dX10_oneAsks_57 : decode cX10_oneAsks 57 = .ok (.goto (-55), 3) := by decide +kernel
theorem dX10_oneAsks_60 : decode cX10_oneAsks 60 = .ok (.return_, 1) := by decide +kernel
theorem dX10_likedMost_0 : decode cX10_likedMost 0 = .ok (.iconst (-1), 1) := by decide +kernel
theorem dX10_likedMost_1 : decode cX10_likedMost 1 = .ok (.istore_n 2, 1) := by decide +kernel
theorem dX10_likedMost_2 : decode cX10_likedMost 2 = .ok (.iconst 0, 1) := by decide +kernel
theorem dX10_likedMost_3 : decode cX10_likedMost 3 = .ok (.istore_n 3, 1) := by decide +kernel
theorem dX10_likedMost_4 : decode cX10_likedMost 4 = .ok (.iload_n 3, 1) := by decide +kernel
theorem dX10_likedMost_5 : decode cX10_likedMost 5 = .ok (.aload_n 0, 1) := by decide +kernel
theorem dX10_likedMost_6 : decode cX10_likedMost 6 = .ok (.getfield 55, 3) := by decide +kernel
theorem dX10_likedMost_9 : decode cX10_likedMost 9 = .ok (.if_icmp .ge 67, 3) := by decide +kernel
theorem dX10_likedMost_12 : decode cX10_likedMost 12 = .ok (.aload_n 0, 1) := by decide +kernel
theorem dX10_likedMost_13 : decode cX10_likedMost 13 = .ok (.getfield 18, 3) := by decide +kernel
theorem dX10_likedMost_16 : decode cX10_likedMost 16 = .ok (.iload_n 1, 1) := by decide +kernel
theorem dX10_likedMost_17 : decode cX10_likedMost 17 = .ok (.bipush 6, 2) := by decide +kernel
theorem dX10_likedMost_19 : decode cX10_likedMost 19 = .ok (.imul, 1) := by decide +kernel
theorem dX10_likedMost_20 : decode cX10_likedMost 20 = .ok (.iload_n 3, 1) := by decide +kernel
theorem dX10_likedMost_21 : decode cX10_likedMost 21 = .ok (.iadd, 1) := by decide +kernel
theorem dX10_likedMost_22 : decode cX10_likedMost 22 = .ok (.baload, 1) := by decide +kernel
theorem dX10_likedMost_23 : decode cX10_likedMost 23 = .ok (.ifCond .ne 7, 3) := by decide +kernel
theorem dX10_likedMost_26 : decode cX10_likedMost 26 = .ok (.iconst 1, 1) := by decide +kernel
theorem dX10_likedMost_27 : decode cX10_likedMost 27 = .ok (.goto 4, 3) := by decide +kernel
theorem dX10_likedMost_30 : decode cX10_likedMost 30 = .ok (.iconst 0, 1) := by decide +kernel
theorem dX10_likedMost_31 : decode cX10_likedMost 31 = .ok (.istore 4, 2) := by decide +kernel
theorem dX10_likedMost_33 : decode cX10_likedMost 33 = .ok (.iload 4, 2) := by decide +kernel
theorem dX10_likedMost_35 : decode cX10_likedMost 35 = .ok (.ifCond .eq 35, 3) := by decide +kernel
theorem dX10_likedMost_38 : decode cX10_likedMost 38 = .ok (.iload_n 2, 1) := by decide +kernel
theorem dX10_likedMost_39 : decode cX10_likedMost 39 = .ok (.iconst (-1), 1) := by decide +kernel
theorem dX10_likedMost_40 : decode cX10_likedMost 40 = .ok (.if_icmp .eq 28, 3) := by decide +kernel
theorem dX10_likedMost_43 : decode cX10_likedMost 43 = .ok (.aload_n 0, 1) := by decide +kernel
theorem dX10_likedMost_44 : decode cX10_likedMost 44 = .ok (.getfield 11, 3) := by decide +kernel
theorem dX10_likedMost_47 : decode cX10_likedMost 47 = .ok (.iload_n 1, 1) := by decide +kernel
theorem dX10_likedMost_48 : decode cX10_likedMost 48 = .ok (.bipush 6, 2) := by decide +kernel
theorem dX10_likedMost_50 : decode cX10_likedMost 50 = .ok (.imul, 1) := by decide +kernel
theorem dX10_likedMost_51 : decode cX10_likedMost 51 = .ok (.iload_n 3, 1) := by decide +kernel
theorem dX10_likedMost_52 : decode cX10_likedMost 52 = .ok (.iadd, 1) := by decide +kernel
theorem dX10_likedMost_53 : decode cX10_likedMost 53 = .ok (.iaload, 1) := by decide +kernel
theorem dX10_likedMost_54 : decode cX10_likedMost 54 = .ok (.aload_n 0, 1) := by decide +kernel
theorem dX10_likedMost_55 : decode cX10_likedMost 55 = .ok (.getfield 11, 3) := by decide +kernel
theorem dX10_likedMost_58 : decode cX10_likedMost 58 = .ok (.iload_n 1, 1) := by decide +kernel
theorem dX10_likedMost_59 : decode cX10_likedMost 59 = .ok (.bipush 6, 2) := by decide +kernel
theorem dX10_likedMost_61 : decode cX10_likedMost 61 = .ok (.imul, 1) := by decide +kernel
theorem dX10_likedMost_62 : decode cX10_likedMost 62 = .ok (.iload_n 2, 1) := by decide +kernel
theorem dX10_likedMost_63 : decode cX10_likedMost 63 = .ok (.iadd, 1) := by decide +kernel
theorem dX10_likedMost_64 : decode cX10_likedMost 64 = .ok (.iaload, 1) := by decide +kernel
theorem dX10_likedMost_65 : decode cX10_likedMost 65 = .ok (.if_icmp .le 5, 3) := by decide +kernel
theorem dX10_likedMost_68 : decode cX10_likedMost 68 = .ok (.iload_n 3, 1) := by decide +kernel
theorem dX10_likedMost_69 : decode cX10_likedMost 69 = .ok (.istore_n 2, 1) := by decide +kernel
theorem dX10_likedMost_70 : decode cX10_likedMost 70 = .ok (.iinc 3 1, 3) := by decide +kernel
theorem dX10_likedMost_73 : decode cX10_likedMost 73 = .ok (.goto (-69), 3) := by decide +kernel
theorem dX10_likedMost_76 : decode cX10_likedMost 76 = .ok (.iload_n 2, 1) := by decide +kernel
theorem dX10_likedMost_77 : decode cX10_likedMost 77 = .ok (.ireturn, 1) := by decide +kernel
theorem dX10_answer_0 : decode cX10_answer 0 = .ok (.aload_n 0, 1) := by decide +kernel
theorem dX10_answer_1 : decode cX10_answer 1 = .ok (.getfield 25, 3) := by decide +kernel
theorem dX10_answer_4 : decode cX10_answer 4 = .ok (.iload_n 2, 1) := by decide +kernel
theorem dX10_answer_5 : decode cX10_answer 5 = .ok (.iaload, 1) := by decide +kernel
theorem dX10_answer_6 : decode cX10_answer 6 = .ok (.istore_n 3, 1) := by decide +kernel
theorem dX10_answer_7 : decode cX10_answer 7 = .ok (.iload_n 3, 1) := by decide +kernel
theorem dX10_answer_8 : decode cX10_answer 8 = .ok (.iconst (-1), 1) := by decide +kernel
theorem dX10_answer_9 : decode cX10_answer 9 = .ok (.if_icmp .eq 51, 3) := by decide +kernel
theorem dX10_answer_12 : decode cX10_answer 12 = .ok (.aload_n 0, 1) := by decide +kernel
theorem dX10_answer_13 : decode cX10_answer 13 = .ok (.getfield 15, 3) := by decide +kernel
theorem dX10_answer_16 : decode cX10_answer 16 = .ok (.iload_n 2, 1) := by decide +kernel
theorem dX10_answer_17 : decode cX10_answer 17 = .ok (.bipush 6, 2) := by decide +kernel
theorem dX10_answer_19 : decode cX10_answer 19 = .ok (.imul, 1) := by decide +kernel
theorem dX10_answer_20 : decode cX10_answer 20 = .ok (.iload_n 1, 1) := by decide +kernel
theorem dX10_answer_21 : decode cX10_answer 21 = .ok (.iadd, 1) := by decide +kernel
theorem dX10_answer_22 : decode cX10_answer 22 = .ok (.iaload, 1) := by decide +kernel
theorem dX10_answer_23 : decode cX10_answer 23 = .ok (.aload_n 0, 1) := by decide +kernel
theorem dX10_answer_24 : decode cX10_answer 24 = .ok (.getfield 15, 3) := by decide +kernel
theorem dX10_answer_27 : decode cX10_answer 27 = .ok (.iload_n 2, 1) := by decide +kernel
theorem dX10_answer_28 : decode cX10_answer 28 = .ok (.bipush 6, 2) := by decide +kernel
theorem dX10_answer_30 : decode cX10_answer 30 = .ok (.imul, 1) := by decide +kernel
theorem dX10_answer_31 : decode cX10_answer 31 = .ok (.iload_n 3, 1) := by decide +kernel
theorem dX10_answer_32 : decode cX10_answer 32 = .ok (.iadd, 1) := by decide +kernel
theorem dX10_answer_33 : decode cX10_answer 33 = .ok (.iaload, 1) := by decide +kernel
theorem dX10_answer_34 : decode cX10_answer 34 = .ok (.isub, 1) := by decide +kernel
theorem dX10_answer_35 : decode cX10_answer 35 = .ok (.istore 4, 2) := by decide +kernel
theorem dX10_answer_37 : decode cX10_answer 37 = .ok (.iload 4, 2) := by decide +kernel
theorem dX10_answer_39 : decode cX10_answer 39 = .ok (.ifCond .lt 13, 3) := by decide +kernel
theorem dX10_answer_42 : decode cX10_answer 42 = .ok (.iload 4, 2) := by decide +kernel
theorem dX10_answer_44 : decode cX10_answer 44 = .ok (.ifCond .ne 9, 3) := by decide +kernel
theorem dX10_answer_47 : decode cX10_answer 47 = .ok (.iload_n 3, 1) := by decide +kernel
theorem dX10_answer_48 : decode cX10_answer 48 = .ok (.iload_n 1, 1) := by decide +kernel
theorem dX10_answer_49 : decode cX10_answer 49 = .ok (.if_icmp .ge 4, 3) := by decide +kernel
theorem dX10_answer_52 : decode cX10_answer 52 = .ok (.return_, 1) := by decide +kernel
theorem dX10_answer_53 : decode cX10_answer 53 = .ok (.aload_n 0, 1) := by decide +kernel
theorem dX10_answer_54 : decode cX10_answer 54 = .ok (.getfield 22, 3) := by decide +kernel
theorem dX10_answer_57 : decode cX10_answer 57 = .ok (.iload_n 3, 1) := by decide +kernel
theorem dX10_answer_58 : decode cX10_answer 58 = .ok (.iconst (-1), 1) := by decide +kernel
theorem dX10_answer_59 : decode cX10_answer 59 = .ok (.iastore, 1) := by decide +kernel
theorem dX10_answer_60 : decode cX10_answer 60 = .ok (.aload_n 0, 1) := by decide +kernel
theorem dX10_answer_61 : decode cX10_answer 61 = .ok (.getfield 25, 3) := by decide +kernel
theorem dX10_answer_64 : decode cX10_answer 64 = .ok (.iload_n 2, 1) := by decide +kernel
theorem dX10_answer_65 : decode cX10_answer 65 = .ok (.iload_n 1, 1) := by decide +kernel
theorem dX10_answer_66 : decode cX10_answer 66 = .ok (.iastore, 1) := by decide +kernel
theorem dX10_answer_67 : decode cX10_answer 67 = .ok (.aload_n 0, 1) := by decide +kernel
theorem dX10_answer_68 : decode cX10_answer 68 = .ok (.getfield 22, 3) := by decide +kernel
theorem dX10_answer_71 : decode cX10_answer 71 = .ok (.iload_n 1, 1) := by decide +kernel
theorem dX10_answer_72 : decode cX10_answer 72 = .ok (.iload_n 2, 1) := by decide +kernel
theorem dX10_answer_73 : decode cX10_answer 73 = .ok (.iastore, 1) := by decide +kernel
theorem dX10_answer_74 : decode cX10_answer 74 = .ok (.return_, 1) := by decide +kernel
theorem dX11_init_0 : decode cX11_init 0 = .ok (.aload_n 0, 1) := by decide +kernel
theorem dX11_init_1 : decode cX11_init 1 = .ok (.invokespecial 1, 3) := by decide +kernel
theorem dX11_init_4 : decode cX11_init 4 = .ok (.aload_n 0, 1) := by decide +kernel
theorem dX11_init_5 : decode cX11_init 5 = .ok (.new 7, 3) := by decide +kernel
theorem dX11_init_8 : decode cX11_init 8 = .ok (.dup, 1) := by decide +kernel
theorem dX11_init_9 : decode cX11_init 9 = .ok (.sipush 300, 3) := by decide +kernel
theorem dX11_init_12 : decode cX11_init 12 = .ok (.invokespecial 11, 3) := by decide +kernel
theorem dX11_init_15 : decode cX11_init 15 = .ok (.putfield 14, 3) := by decide +kernel
theorem dX11_init_18 : decode cX11_init 18 = .ok (.aload_n 0, 1) := by decide +kernel
theorem dX11_init_19 : decode cX11_init 19 = .ok (.new 18, 3) := by decide +kernel
theorem dX11_init_22 : decode cX11_init 22 = .ok (.dup, 1) := by decide +kernel
theorem dX11_init_23 : decode cX11_init 23 = .ok (.invokespecial 20, 3) := by decide +kernel
theorem dX11_init_26 : decode cX11_init 26 = .ok (.putfield 21, 3) := by decide +kernel
theorem dX11_init_29 : decode cX11_init 29 = .ok (.aload_n 0, 1) := by decide +kernel
theorem dX11_init_30 : decode cX11_init 30 = .ok (.new 25, 3) := by decide +kernel
theorem dX11_init_33 : decode cX11_init 33 = .ok (.dup, 1) := by decide +kernel
theorem dX11_init_34 : decode cX11_init 34 = .ok (.invokespecial 27, 3) := by decide +kernel
theorem dX11_init_37 : decode cX11_init 37 = .ok (.putfield 28, 3) := by decide +kernel
theorem dX11_init_40 : decode cX11_init 40 = .ok (.aload_n 0, 1) := by decide +kernel
theorem dX11_init_41 : decode cX11_init 41 = .ok (.bipush 100, 2) := by decide +kernel
theorem dX11_init_43 : decode cX11_init 43 = .ok (.newarray .long, 2) := by decide +kernel
theorem dX11_init_45 : decode cX11_init 45 = .ok (.putfield 32, 3) := by decide +kernel
theorem dX11_init_48 : decode cX11_init 48 = .ok (.aload_n 0, 1) := by decide +kernel
theorem dX11_init_49 : decode cX11_init 49 = .ok (.bipush 100, 2) := by decide +kernel
theorem dX11_init_51 : decode cX11_init 51 = .ok (.newarray .long, 2) := by decide +kernel
theorem dX11_init_53 : decode cX11_init 53 = .ok (.putfield 36, 3) := by decide +kernel
theorem dX11_init_56 : decode cX11_init 56 = .ok (.aload_n 0, 1) := by decide +kernel
theorem dX11_init_57 : decode cX11_init 57 = .ok (.iconst (-1), 1) := by decide +kernel
theorem dX11_init_58 : decode cX11_init 58 = .ok (.putfield 39, 3) := by decide +kernel
theorem dX11_init_61 : decode cX11_init 61 = .ok (.aload_n 0, 1) := by decide +kernel
theorem dX11_init_62 : decode cX11_init 62 = .ok (.iconst (-1), 1) := by decide +kernel
theorem dX11_init_63 : decode cX11_init 63 = .ok (.putfield 43, 3) := by decide +kernel
theorem dX11_init_66 : decode cX11_init 66 = .ok (.aload_n 0, 1) := by decide +kernel
theorem dX11_init_67 : decode cX11_init 67 = .ok (.new 46, 3) := by decide +kernel
theorem dX11_init_70 : decode cX11_init 70 = .ok (.dup, 1) := by decide +kernel
theorem dX11_init_71 : decode cX11_init 71 = .ok (.iload_n 1, 1) := by decide +kernel
theorem dX11_init_72 : decode cX11_init 72 = .ok (.iload_n 2, 1) := by decide +kernel
theorem dX11_init_73 : decode cX11_init 73 = .ok (.invokespecial 48, 3) := by decide +kernel
theorem dX11_init_76 : decode cX11_init 76 = .ok (.putfield 51, 3) := by decide +kernel
theorem dX11_init_79 : decode cX11_init 79 = .ok (.aload_n 0, 1) := by decide +kernel
theorem dX11_init_80 : decode cX11_init 80 = .ok (.new 46, 3) := by decide +kernel
theorem dX11_init_83 : decode cX11_init 83 = .ok (.dup, 1) := by decide +kernel
theorem dX11_init_84 : decode cX11_init 84 = .ok (.iload_n 1, 1) := by decide +kernel
theorem dX11_init_85 : decode cX11_init 85 = .ok (.iload_n 2, 1) := by decide +kernel
theorem dX11_init_86 : decode cX11_init 86 = .ok (.invokespecial 48, 3) := by decide +kernel
theorem dX11_init_89 : decode cX11_init 89 = .ok (.putfield 55, 3) := by decide +kernel
theorem dX11_init_92 : decode cX11_init 92 = .ok (.aload_n 0, 1) := by decide +kernel
theorem dX11_init_93 : decode cX11_init 93 = .ok (.new 58, 3) := by decide +kernel
theorem dX11_init_96 : decode cX11_init 96 = .ok (.dup, 1) := by decide +kernel
theorem dX11_init_97 : decode cX11_init 97 = .ok (.aload_n 0, 1) := by decide +kernel
theorem dX11_init_98 : decode cX11_init 98 = .ok (.getfield 51, 3) := by decide +kernel
theorem dX11_init_101 : decode cX11_init 101 = .ok (.aload_n 0, 1) := by decide +kernel
