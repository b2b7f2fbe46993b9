theorem dX0_init_0 : decode cX0_init 0 = .ok (.aload_n 0, 1) := by decide +kernel
theorem dX0_init_1 : decode cX0_init 1 = .ok (.invokespecial 3, 3) := by decide +kernel
theorem dX0_init_4 : decode cX0_init 4 = .ok (.aload_n 0, 1) := by decide +kernel
theorem dX0_init_5 : decode cX0_init 5 = .ok (.bipush 12, 2) := by decide +kernel
theorem dX0_init_7 : decode cX0_init 7 = .ok (.newarray .int, 2) := by decide +kernel
theorem dX0_init_9 : decode cX0_init 9 = .ok (.putfield 9, 3) := by decide +kernel
theorem dX0_init_12 : decode cX0_init 12 = .ok (.aload_n 0, 1) := by decide +kernel
theorem dX0_init_13 : decode cX0_init 13 = .ok (.bipush 12, 2) := by decide +kernel
theorem dX0_init_15 : decode cX0_init 15 = .ok (.newarray .int, 2) := by decide +kernel
theorem dX0_init_17 : decode cX0_init 17 = .ok (.putfield 15, 3) := by decide +kernel
theorem dX0_init_20 : decode cX0_init 20 = .ok (.iconst 0, 1) := by decide +kernel
theorem dX0_init_21 : decode cX0_init 21 = .ok (.istore_n 1, 1) := by decide +kernel
theorem dX0_init_22 : decode cX0_init 22 = .ok (.iload_n 1, 1) := by decide +kernel
theorem dX0_init_23 : decode cX0_init 23 = .ok (.bipush 12, 2) := by decide +kernel
theorem dX0_init_25 : decode cX0_init 25 = .ok (.if_icmp .ge 35, 3) := by decide +kernel
theorem dX0_init_28 : decode cX0_init 28 = .ok (.aload_n 0, 1) := by decide +kernel
theorem dX0_init_29 : decode cX0_init 29 = .ok (.getfield 9, 3) := by decide +kernel
theorem dX0_init_32 : decode cX0_init 32 = .ok (.iload_n 1, 1) := by decide +kernel
theorem dX0_init_33 : decode cX0_init 33 = .ok (.iload_n 1, 1) := by decide +kernel
theorem dX0_init_34 : decode cX0_init 34 = .ok (.iconst 1, 1) := by decide +kernel
theorem dX0_init_35 : decode cX0_init 35 = .ok (.iadd, 1) := by decide +kernel
theorem dX0_init_36 : decode cX0_init 36 = .ok (.iastore, 1) := by decide +kernel
theorem dX0_init_37 : decode cX0_init 37 = .ok (.aload_n 0, 1) := by decide +kernel
theorem dX0_init_38 : decode cX0_init 38 = .ok (.getfield 15, 3) := by decide +kernel
theorem dX0_init_41 : decode cX0_init 41 = .ok (.iload_n 1, 1) := by decide +kernel
theorem dX0_init_42 : decode cX0_init 42 = .ok (.bipush 127, 2) := by decide +kernel
theorem dX0_init_44 : decode cX0_init 44 = .ok (.aload_n 0, 1) := by decide +kernel
theorem dX0_init_45 : decode cX0_init 45 = .ok (.getfield 9, 3) := by decide +kernel
theorem dX0_init_48 : decode cX0_init 48 = .ok (.iload_n 1, 1) := by decide +kernel
theorem dX0_init_49 : decode cX0_init 49 = .ok (.iaload, 1) := by decide +kernel
theorem dX0_init_50 : decode cX0_init 50 = .ok (.iconst (-1), 1) := by decide +kernel
theorem dX0_init_51 : decode cX0_init 51 = .ok (.ixor, 1) := by decide +kernel
theorem dX0_init_52 : decode cX0_init 52 = .ok (.iand, 1) := by decide +kernel
theorem dX0_init_53 : decode cX0_init 53 = .ok (.iastore, 1) := by decide +kernel
theorem dX0_init_54 : decode cX0_init 54 = .ok (.iinc 1 1, 3) := by decide +kernel
theorem dX0_init_57 : decode cX0_init 57 = .ok (.goto (-35), 3) := by decide +kernel
theorem dX0_init_60 : decode cX0_init 60 = .ok (.return_, 1) := by decide +kernel
theorem dX0_fallOf_0 : decode cX0_fallOf 0 = .ok (.iconst 0, 1) := by decide +kernel
theorem dX0_fallOf_1 : decode cX0_fallOf 1 = .ok (.istore_n 2, 1) := by decide +kernel
theorem dX0_fallOf_2 : decode cX0_fallOf 2 = .ok (.iload_n 2, 1) := by decide +kernel
theorem dX0_fallOf_3 : decode cX0_fallOf 3 = .ok (.bipush 12, 2) := by decide +kernel
theorem dX0_fallOf_5 : decode cX0_fallOf 5 = .ok (.if_icmp .ge 22, 3) := by decide +kernel
theorem dX0_fallOf_8 : decode cX0_fallOf 8 = .ok (.aload_n 0, 1) := by decide +kernel
theorem dX0_fallOf_9 : decode cX0_fallOf 9 = .ok (.getfield 15, 3) := by decide +kernel
theorem dX0_fallOf_12 : decode cX0_fallOf 12 = .ok (.iload_n 2, 1) := by decide +kernel
theorem dX0_fallOf_13 : decode cX0_fallOf 13 = .ok (.iaload, 1) := by decide +kernel
theorem dX0_fallOf_14 : decode cX0_fallOf 14 = .ok (.iload_n 1, 1) := by decide +kernel
theorem dX0_fallOf_15 : decode cX0_fallOf 15 = .ok (.iand, 1) := by decide +kernel
theorem dX0_fallOf_16 : decode cX0_fallOf 16 = .ok (.ifCond .ne 5, 3) := by decide +kernel
theorem dX0_fallOf_19 : decode cX0_fallOf 19 = .ok (.iload_n 2, 1) := by decide +kernel
theorem dX0_fallOf_20 : decode cX0_fallOf 20 = .ok (.ireturn, 1) := by decide +kernel
theorem dX0_fallOf_21 : decode cX0_fallOf 21 = .ok (.iinc 2 1, 3) := by decide +kernel
theorem dX0_fallOf_24 : decode cX0_fallOf 24 = .ok (.goto (-22), 3) := by decide +kernel
theorem dX0_fallOf_27 : decode cX0_fallOf 27 = .ok (.bipush 12, 2) := by decide +kernel
theorem dX0_fallOf_29 : decode cX0_fallOf 29 = .ok (.ireturn, 1) := by decide +kernel
theorem dX0_firstAstray_0 : decode cX0_firstAstray 0 = .ok (.iconst 0, 1) := by decide +kernel
theorem dX0_firstAstray_1 : decode cX0_firstAstray 1 = .ok (.istore_n 1, 1) := by decide +kernel
theorem dX0_firstAstray_2 : decode cX0_firstAstray 2 = .ok (.iload_n 1, 1) := by decide +kernel
theorem dX0_firstAstray_3 : decode cX0_firstAstray 3 = .ok (.bipush 12, 2) := by decide +kernel
theorem dX0_firstAstray_5 : decode cX0_firstAstray 5 = .ok (.if_icmp .ge 25, 3) := by decide +kernel
theorem dX0_firstAstray_8 : decode cX0_firstAstray 8 = .ok (.aload_n 0, 1) := by decide +kernel
theorem dX0_firstAstray_9 : decode cX0_firstAstray 9 = .ok (.aload_n 0, 1) := by decide +kernel
theorem dX0_firstAstray_10 : decode cX0_firstAstray 10 = .ok (.getfield 9, 3) := by decide +kernel
theorem dX0_firstAstray_13 : decode cX0_firstAstray 13 = .ok (.iload_n 1, 1) := by decide +kernel
theorem dX0_firstAstray_14 : decode cX0_firstAstray 14 = .ok (.iaload, 1) := by decide +kernel
theorem dX0_firstAstray_15 : decode cX0_firstAstray 15 = .ok (.invokevirtual 18, 3) := by decide +kernel
theorem dX0_firstAstray_18 : decode cX0_firstAstray 18 = .ok (.iload_n 1, 1) := by decide +kernel
theorem dX0_firstAstray_19 : decode cX0_firstAstray 19 = .ok (.if_icmp .eq 5, 3) := by decide +kernel
theorem dX0_firstAstray_22 : decode cX0_firstAstray 22 = .ok (.iload_n 1, 1) := by decide +kernel
theorem dX0_firstAstray_23 : decode cX0_firstAstray 23 = .ok (.ireturn, 1) := by decide +kernel
theorem dX0_firstAstray_24 : decode cX0_firstAstray 24 = .ok (.iinc 1 1, 3) := by decide +kernel
theorem dX0_firstAstray_27 : decode cX0_firstAstray 27 = .ok (.goto (-25), 3) := by decide +kernel
theorem dX0_firstAstray_30 : decode cX0_firstAstray 30 = .ok (.bipush (-4), 2) := by decide +kernel
theorem dX0_firstAstray_32 : decode cX0_firstAstray 32 = .ok (.ireturn, 1) := by decide +kernel
theorem dX0_fewestLost_0 : decode cX0_fewestLost 0 = .ok (.aload_n 0, 1) := by decide +kernel
theorem dX0_fewestLost_1 : decode cX0_fewestLost 1 = .ok (.getfield 9, 3) := by decide +kernel
theorem dX0_fewestLost_4 : decode cX0_fewestLost 4 = .ok (.iload_n 1, 1) := by decide +kernel
theorem dX0_fewestLost_5 : decode cX0_fewestLost 5 = .ok (.iaload, 1) := by decide +kernel
theorem dX0_fewestLost_6 : decode cX0_fewestLost 6 = .ok (.istore_n 3, 1) := by decide +kernel
theorem dX0_fewestLost_7 : decode cX0_fewestLost 7 = .ok (.bipush (-4), 2) := by decide +kernel
theorem dX0_fewestLost_9 : decode cX0_fewestLost 9 = .ok (.istore 4, 2) := by decide +kernel
theorem dX0_fewestLost_11 : decode cX0_fewestLost 11 = .ok (.iconst 0, 1) := by decide +kernel
theorem dX0_fewestLost_12 : decode cX0_fewestLost 12 = .ok (.istore 5, 2) := by decide +kernel
theorem dX0_fewestLost_14 : decode cX0_fewestLost 14 = .ok (.iload 5, 2) := by decide +kernel
theorem dX0_fewestLost_16 : decode cX0_fewestLost 16 = .ok (.iload_n 3, 1) := by decide +kernel
theorem dX0_fewestLost_17 : decode cX0_fewestLost 17 = .ok (.if_icmp .gt 68, 3) := by decide +kernel
theorem dX0_fewestLost_20 : decode cX0_fewestLost 20 = .ok (.iload 5, 2) := by decide +kernel
theorem dX0_fewestLost_22 : decode cX0_fewestLost 22 = .ok (.iload_n 3, 1) := by decide +kernel
theorem dX0_fewestLost_23 : decode cX0_fewestLost 23 = .ok (.iconst (-1), 1) := by decide +kernel
theorem dX0_fewestLost_24 : decode cX0_fewestLost 24 = .ok (.ixor, 1) := by decide +kernel
theorem dX0_fewestLost_25 : decode cX0_fewestLost 25 = .ok (.iand, 1) := by decide +kernel
theorem dX0_fewestLost_26 : decode cX0_fewestLost 26 = .ok (.ifCond .ne 21, 3) := by decide +kernel
theorem dX0_fewestLost_29 : decode cX0_fewestLost 29 = .ok (.aload_n 0, 1) := by decide +kernel
theorem dX0_fewestLost_30 : decode cX0_fewestLost 30 = .ok (.iload_n 3, 1) := by decide +kernel
theorem dX0_fewestLost_31 : decode cX0_fewestLost 31 = .ok (.iload 5, 2) := by decide +kernel
theorem dX0_fewestLost_33 : decode cX0_fewestLost 33 = .ok (.iconst (-1), 1) := by decide +kernel
theorem dX0_fewestLost_34 : decode cX0_fewestLost 34 = .ok (.ixor, 1) := by decide +kernel
theorem dX0_fewestLost_35 : decode cX0_fewestLost 35 = .ok (.iand, 1) := by decide +kernel
theorem dX0_fewestLost_36 : decode cX0_fewestLost 36 = .ok (.invokevirtual 18, 3) := by decide +kernel
theorem dX0_fewestLost_39 : decode cX0_fewestLost 39 = .ok (.iload_n 2, 1) := by decide +kernel
theorem dX0_fewestLost_40 : decode cX0_fewestLost 40 = .ok (.if_icmp .ne 7, 3) := by decide +kernel
theorem dX0_fewestLost_43 : decode cX0_fewestLost 43 = .ok (.iconst 1, 1) := by decide +kernel
theorem dX0_fewestLost_44 : decode cX0_fewestLost 44 = .ok (.goto 4, 3) := by decide +kernel
theorem dX0_fewestLost_47 : decode cX0_fewestLost 47 = .ok (.iconst 0, 1) := by decide +kernel
theorem dX0_fewestLost_48 : decode cX0_fewestLost 48 = .ok (.istore 6, 2) := by decide +kernel
theorem dX0_fewestLost_50 : decode cX0_fewestLost 50 = .ok (.iload 6, 2) := by decide +kernel
theorem dX0_fewestLost_52 : decode cX0_fewestLost 52 = .ok (.ifCond .eq 27, 3) := by decide +kernel
theorem dX0_fewestLost_55 : decode cX0_fewestLost 55 = .ok (.iload 4, 2) := by decide +kernel
theorem dX0_fewestLost_57 : decode cX0_fewestLost 57 = .ok (.bipush (-4), 2) := by decide +kernel
theorem dX0_fewestLost_59 : decode cX0_fewestLost 59 = .ok (.if_icmp .eq 16, 3) := by decide +kernel
theorem dX0_fewestLost_62 : decode cX0_fewestLost 62 = .ok (.iload 5, 2) := by decide +kernel
theorem dX0_fewestLost_64 : decode cX0_fewestLost 64 = .ok (.invokestatic 22, 3) := by decide +kernel
theorem dX0_fewestLost_67 : decode cX0_fewestLost 67 = .ok (.iload 4, 2) := by decide +kernel
theorem dX0_fewestLost_69 : decode cX0_fewestLost 69 = .ok (.invokestatic 22, 3) := by decide +kernel
theorem dX0_fewestLost_72 : decode cX0_fewestLost 72 = .ok (.if_icmp .ge 7, 3) := by decide +kernel
theorem dX0_fewestLost_75 : decode cX0_fewestLost 75 = .ok (.iload 5, 2) := by decide +kernel
theorem dX0_fewestLost_77 : decode cX0_fewestLost 77 = .ok (.istore 4, 2) := by decide +kernel
theorem dX0_fewestLost_79 : decode cX0_fewestLost 79 = .ok (.iinc 5 1, 3) := by decide +kernel
theorem dX0_fewestLost_82 : decode cX0_fewestLost 82 = .ok (.goto (-68), 3) := by decide +kernel
theorem dX0_fewestLost_85 : decode cX0_fewestLost 85 = .ok (.iload 4, 2) := by decide +kernel
theorem dX0_fewestLost_87 : decode cX0_fewestLost 87 = .ok (.ireturn, 1) := by decide +kernel
theorem dX0_letterInOrder_0 : decode cX0_letterInOrder 0 = .ok (.aload_n 0, 1) := by decide +kernel
theorem dX0_letterInOrder_1 : decode cX0_letterInOrder 1 = .ok (.invokevirtual 27, 3) := by decide +kernel
theorem dX0_letterInOrder_4 : decode cX0_letterInOrder 4 = .ok (.ifCond .eq 6, 3) := by decide +kernel
theorem dX0_letterInOrder_7 : decode cX0_letterInOrder 7 = .ok (.bipush (-4), 2) := by decide +kernel
theorem dX0_letterInOrder_9 : decode cX0_letterInOrder 9 = .ok (.ireturn, 1) := by decide +kernel
theorem dX0_letterInOrder_10 : decode cX0_letterInOrder 10 = .ok (.iconst 0, 1) := by decide +kernel
theorem dX0_letterInOrder_11 : decode cX0_letterInOrder 11 = .ok (.istore_n 2, 1) := by decide +kernel
theorem dX0_letterInOrder_12 : decode cX0_letterInOrder 12 = .ok (.iconst 0, 1) := by decide +kernel
theorem dX0_letterInOrder_13 : decode cX0_letterInOrder 13 = .ok (.istore_n 3, 1) := by decide +kernel
theorem dX0_letterInOrder_14 : decode cX0_letterInOrder 14 = .ok (.iload_n 3, 1) := by decide +kernel
theorem dX0_letterInOrder_15 : decode cX0_letterInOrder 15 = .ok (.iload_n 1, 1) := by decide +kernel
theorem dX0_letterInOrder_16 : decode cX0_letterInOrder 16 = .ok (.if_icmp .ge 19, 3) := by decide +kernel
theorem dX0_letterInOrder_19 : decode cX0_letterInOrder 19 = .ok (.iload_n 2, 1) := by decide +kernel
theorem dX0_letterInOrder_20 : decode cX0_letterInOrder 20 = .ok (.iconst 1, 1) := by decide +kernel
theorem dX0_letterInOrder_21 : decode cX0_letterInOrder 21 = .ok (.aload_n 0, 1) := by decide +kernel
theorem dX0_letterInOrder_22 : decode cX0_letterInOrder 22 = .ok (.iload_n 2, 1) := by decide +kernel
theorem dX0_letterInOrder_23 : decode cX0_letterInOrder 23 = .ok (.invokevirtual 31, 3) := by decide +kernel
theorem dX0_letterInOrder_26 : decode cX0_letterInOrder 26 = .ok (.ishl, 1) := by decide +kernel
theorem dX0_letterInOrder_27 : decode cX0_letterInOrder 27 = .ok (.ior, 1) := by decide +kernel
theorem dX0_letterInOrder_28 : decode cX0_letterInOrder 28 = .ok (.istore_n 2, 1) := by decide +kernel
theorem dX0_letterInOrder_29 : decode cX0_letterInOrder 29 = .ok (.iinc 3 1, 3) := by decide +kernel
theorem dX0_letterInOrder_32 : decode cX0_letterInOrder 32 = .ok (.goto (-18), 3) := by decide +kernel
theorem dX0_letterInOrder_35 : decode cX0_letterInOrder 35 = .ok (.aload_n 0, 1) := by decide +kernel
theorem dX0_letterInOrder_36 : decode cX0_letterInOrder 36 = .ok (.iload_n 2, 1) := by decide +kernel
theorem dX0_letterInOrder_37 : decode cX0_letterInOrder 37 = .ok (.invokevirtual 31, 3) := by decide +kernel
theorem dX0_letterInOrder_40 : decode cX0_letterInOrder 40 = .ok (.ireturn, 1) := by decide +kernel
theorem dX0_hasTwins_0 : decode cX0_hasTwins 0 = .ok (.iconst 1, 1) := by decide +kernel
theorem dX0_hasTwins_1 : decode cX0_hasTwins 1 = .ok (.istore_n 1, 1) := by decide +kernel
theorem dX0_hasTwins_2 : decode cX0_hasTwins 2 = .ok (.iload_n 1, 1) := by decide +kernel
theorem dX0_hasTwins_3 : decode cX0_hasTwins 3 = .ok (.bipush 12, 2) := by decide +kernel
theorem dX0_hasTwins_5 : decode cX0_hasTwins 5 = .ok (.if_icmp .ge 39, 3) := by decide +kernel
theorem dX0_hasTwins_8 : decode cX0_hasTwins 8 = .ok (.iconst 0, 1) := by decide +kernel
theorem dX0_hasTwins_9 : decode cX0_hasTwins 9 = .ok (.istore_n 2, 1) := by decide +kernel
theorem dX0_hasTwins_10 : decode cX0_hasTwins 10 = .ok (.iload_n 2, 1) := by decide +kernel
theorem dX0_hasTwins_11 : decode cX0_hasTwins 11 = .ok (.iload_n 1, 1) := by decide +kernel
theorem dX0_hasTwins_12 : decode cX0_hasTwins 12 = .ok (.if_icmp .ge 26, 3) := by decide +kernel
theorem dX0_hasTwins_15 : decode cX0_hasTwins 15 = .ok (.aload_n 0, 1) := by decide +kernel
theorem dX0_hasTwins_16 : decode cX0_hasTwins 16 = .ok (.getfield 9, 3) := by decide +kernel
theorem dX0_hasTwins_19 : decode cX0_hasTwins 19 = .ok (.iload_n 1, 1) := by decide +kernel
theorem dX0_hasTwins_20 : decode cX0_hasTwins 20 = .ok (.iaload, 1) := by decide +kernel
theorem dX0_hasTwins_21 : decode cX0_hasTwins 21 = .ok (.aload_n 0, 1) := by decide +kernel
theorem dX0_hasTwins_22 : decode cX0_hasTwins 22 = .ok (.getfield 9, 3) := by decide +kernel
theorem dX0_hasTwins_25 : decode cX0_hasTwins 25 = .ok (.iload_n 2, 1) := by decide +kernel
theorem dX0_hasTwins_26 : decode cX0_hasTwins 26 = .ok (.iaload, 1) := by decide +kernel
theorem dX0_hasTwins_27 : decode cX0_hasTwins 27 = .ok (.if_icmp .ne 5, 3) := by decide +kernel
theorem dX0_hasTwins_30 : decode cX0_hasTwins 30 = .ok (.iconst 1, 1) := by decide +kernel
theorem dX0_hasTwins_31 : decode cX0_hasTwins 31 = .ok (.ireturn, 1) := by decide +kernel
theorem dX0_hasTwins_32 : decode cX0_hasTwins 32 = .ok (.iinc 2 1, 3) := by decide +kernel
theorem dX0_hasTwins_35 : decode cX0_hasTwins 35 = .ok (.goto (-25), 3) := by decide +kernel
theorem dX0_hasTwins_38 : decode cX0_hasTwins 38 = .ok (.iinc 1 1, 3) := by decide +kernel
theorem dX0_hasTwins_41 : decode cX0_hasTwins 41 = .ok (.goto (-39), 3) := by decide +kernel
theorem dX0_hasTwins_44 : decode cX0_hasTwins 44 = .ok (.iconst 0, 1) := by decide +kernel
theorem dX0_hasTwins_45 : decode cX0_hasTwins 45 = .ok (.ireturn, 1) := by decide +kernel
theorem dX0_leastReady_0 : decode cX0_leastReady 0 = .ok (.iconst 0, 1) := by decide +kernel
theorem dX0_leastReady_1 : decode cX0_leastReady 1 = .ok (.istore_n 2, 1) := by decide +kernel
theorem dX0_leastReady_2 : decode cX0_leastReady 2 = .ok (.iload_n 2, 1) := by decide +kernel
theorem dX0_leastReady_3 : decode cX0_leastReady 3 = .ok (.bipush 11, 2) := by decide +kernel
theorem dX0_leastReady_5 : decode cX0_leastReady 5 = .ok (.if_icmp .ge 28, 3) := by decide +kernel
theorem dX0_leastReady_8 : decode cX0_leastReady 8 = .ok (.iload_n 1, 1) := by decide +kernel
theorem dX0_leastReady_9 : decode cX0_leastReady 9 = .ok (.iconst 1, 1) := by decide +kernel
theorem dX0_leastReady_10 : decode cX0_leastReady 10 = .ok (.iload_n 2, 1) := by decide +kernel
theorem dX0_leastReady_11 : decode cX0_leastReady 11 = .ok (.ishl, 1) := by decide +kernel
theorem dX0_leastReady_12 : decode cX0_leastReady 12 = .ok (.iand, 1) := by decide +kernel
theorem dX0_leastReady_13 : decode cX0_leastReady 13 = .ok (.ifCond .ne 14, 3) := by decide +kernel
theorem dX0_leastReady_16 : decode cX0_leastReady 16 = .ok (.aload_n 0, 1) := by decide +kernel
theorem dX0_leastReady_17 : decode cX0_leastReady 17 = .ok (.iload_n 2, 1) := by decide +kernel
theorem dX0_leastReady_18 : decode cX0_leastReady 18 = .ok (.iload_n 1, 1) := by decide +kernel
theorem dX0_leastReady_19 : decode cX0_leastReady 19 = .ok (.invokevirtual 34, 3) := by decide +kernel
theorem dX0_leastReady_22 : decode cX0_leastReady 22 = .ok (.ifCond .eq 5, 3) := by decide +kernel
theorem dX0_leastReady_25 : decode cX0_leastReady 25 = .ok (.iload_n 2, 1) := by decide +kernel
theorem dX0_leastReady_26 : decode cX0_leastReady 26 = .ok (.ireturn, 1) := by decide +kernel
theorem dX0_leastReady_27 : decode cX0_leastReady 27 = .ok (.iinc 2 1, 3) := by decide +kernel
theorem dX0_leastReady_30 : decode cX0_leastReady 30 = .ok (.goto (-28), 3) := by decide +kernel
theorem dX0_leastReady_33 : decode cX0_leastReady 33 = .ok (.bipush 11, 2) := by decide +kernel
theorem dX0_leastReady_35 : decode cX0_leastReady 35 = .ok (.ireturn, 1) := by decide +kernel
theorem dX0_isReady_0 : decode cX0_isReady 0 = .ok (.iconst 0, 1) := by decide +kernel
theorem dX0_isReady_1 : decode cX0_isReady 1 = .ok (.istore_n 3, 1) := by decide +kernel
theorem dX0_isReady_2 : decode cX0_isReady 2 = .ok (.iload_n 3, 1) := by decide +kernel
theorem dX0_isReady_3 : decode cX0_isReady 3 = .ok (.bipush 12, 2) := by decide +kernel
theorem dX0_isReady_5 : decode cX0_isReady 5 = .ok (.if_icmp .ge 54, 3) := by decide +kernel
theorem dX0_isReady_8 : decode cX0_isReady 8 = .ok (.iload_n 3, 1) := by decide +kernel
theorem dX0_isReady_9 : decode cX0_isReady 9 = .ok (.iload_n 1, 1) := by decide +kernel
theorem dX0_isReady_10 : decode cX0_isReady 10 = .ok (.if_icmp .eq 15, 3) := by decide +kernel
theorem dX0_isReady_13 : decode cX0_isReady 13 = .ok (.iload_n 2, 1) := by decide +kernel
theorem dX0_isReady_14 : decode cX0_isReady 14 = .ok (.iconst 1, 1) := by decide +kernel
theorem dX0_isReady_15 : decode cX0_isReady 15 = .ok (.iload_n 3, 1) := by decide +kernel
theorem dX0_isReady_16 : decode cX0_isReady 16 = .ok (.ishl, 1) := by decide +kernel
theorem dX0_isReady_17 : decode cX0_isReady 17 = .ok (.iand, 1) := by decide +kernel
theorem dX0_isReady_18 : decode cX0_isReady 18 = .ok (.ifCond .ne 7, 3) := by decide +kernel
theorem dX0_isReady_21 : decode cX0_isReady 21 = .ok (.iconst 1, 1) := by decide +kernel
theorem dX0_isReady_22 : decode cX0_isReady 22 = .ok (.goto 4, 3) := by decide +kernel
theorem dX0_isReady_25 : decode cX0_isReady 25 = .ok (.iconst 0, 1) := by decide +kernel
theorem dX0_isReady_26 : decode cX0_isReady 26 = .ok (.istore 4, 2) := by decide +kernel
theorem dX0_isReady_28 : decode cX0_isReady 28 = .ok (.iload 4, 2) := by decide +kernel
theorem dX0_isReady_30 : decode cX0_isReady 30 = .ok (.ifCond .eq 23, 3) := by decide +kernel
theorem dX0_isReady_33 : decode cX0_isReady 33 = .ok (.aload_n 0, 1) := by decide +kernel
theorem dX0_isReady_34 : decode cX0_isReady 34 = .ok (.getfield 9, 3) := by decide +kernel
theorem dX0_isReady_37 : decode cX0_isReady 37 = .ok (.iload_n 3, 1) := by decide +kernel
theorem dX0_isReady_38 : decode cX0_isReady 38 = .ok (.iaload, 1) := by decide +kernel
theorem dX0_isReady_39 : decode cX0_isReady 39 = .ok (.aload_n 0, 1) := by decide +kernel
theorem dX0_isReady_40 : decode cX0_isReady 40 = .ok (.getfield 9, 3) := by decide +kernel
theorem dX0_isReady_43 : decode cX0_isReady 43 = .ok (.iload_n 1, 1) := by decide +kernel
theorem dX0_isReady_44 : decode cX0_isReady 44 = .ok (.iaload, 1) := by decide +kernel
theorem dX0_isReady_45 : decode cX0_isReady 45 = .ok (.iconst (-1), 1) := by decide +kernel
theorem dX0_isReady_46 : decode cX0_isReady 46 = .ok (.ixor, 1) := by decide +kernel
theorem dX0_isReady_47 : decode cX0_isReady 47 = .ok (.iand, 1) := by decide +kernel
theorem dX0_isReady_48 : decode cX0_isReady 48 = .ok (.ifCond .ne 5, 3) := by decide +kernel
theorem dX0_isReady_51 : decode cX0_isReady 51 = .ok (.iconst 0, 1) := by decide +kernel
theorem dX0_isReady_52 : decode cX0_isReady 52 = .ok (.ireturn, 1) := by decide +kernel
theorem dX0_isReady_53 : decode cX0_isReady 53 = .ok (.iinc 3 1, 3) := by decide +kernel
theorem dX0_isReady_56 : decode cX0_isReady 56 = .ok (.goto (-54), 3) := by decide +kernel
theorem dX0_isReady_59 : decode cX0_isReady 59 = .ok (.iconst 1, 1) := by decide +kernel
theorem dX0_isReady_60 : decode cX0_isReady 60 = .ok (.ireturn, 1) := by decide +kernel
theorem dX0_teethAtRisk_0 : decode cX0_teethAtRisk 0 = .ok (.iconst 0, 1) := by decide +kernel
theorem dX0_teethAtRisk_1 : decode cX0_teethAtRisk 1 = .ok (.istore_n 2, 1) := by decide +kernel
theorem dX0_teethAtRisk_2 : decode cX0_teethAtRisk 2 = .ok (.iconst 0, 1) := by decide +kernel
theorem dX0_teethAtRisk_3 : decode cX0_teethAtRisk 3 = .ok (.istore_n 3, 1) := by decide +kernel
theorem dX0_teethAtRisk_4 : decode cX0_teethAtRisk 4 = .ok (.iload_n 3, 1) := by decide +kernel
theorem dX0_teethAtRisk_5 : decode cX0_teethAtRisk 5 = .ok (.bipush 7, 2) := by decide +kernel
theorem dX0_teethAtRisk_7 : decode cX0_teethAtRisk 7 = .ok (.if_icmp .ge 64, 3) := by decide +kernel
theorem dX0_teethAtRisk_10 : decode cX0_teethAtRisk 10 = .ok (.iconst 1, 1) := by decide +kernel
theorem dX0_teethAtRisk_11 : decode cX0_teethAtRisk 11 = .ok (.iload_n 3, 1) := by decide +kernel
theorem dX0_teethAtRisk_12 : decode cX0_teethAtRisk 12 = .ok (.ishl, 1) := by decide +kernel
theorem dX0_teethAtRisk_13 : decode cX0_teethAtRisk 13 = .ok (.istore 4, 2) := by decide +kernel
theorem dX0_teethAtRisk_15 : decode cX0_teethAtRisk 15 = .ok (.aload_n 0, 1) := by decide +kernel
theorem dX0_teethAtRisk_16 : decode cX0_teethAtRisk 16 = .ok (.getfield 9, 3) := by decide +kernel
theorem dX0_teethAtRisk_19 : decode cX0_teethAtRisk 19 = .ok (.iload_n 1, 1) := by decide +kernel
theorem dX0_teethAtRisk_20 : decode cX0_teethAtRisk 20 = .ok (.iaload, 1) := by decide +kernel
theorem dX0_teethAtRisk_21 : decode cX0_teethAtRisk 21 = .ok (.iload 4, 2) := by decide +kernel
theorem dX0_teethAtRisk_23 : decode cX0_teethAtRisk 23 = .ok (.iand, 1) := by decide +kernel
theorem dX0_teethAtRisk_24 : decode cX0_teethAtRisk 24 = .ok (.ifCond .eq 41, 3) := by decide +kernel
theorem dX0_teethAtRisk_27 : decode cX0_teethAtRisk 27 = .ok (.aload_n 0, 1) := by decide +kernel
theorem dX0_teethAtRisk_28 : decode cX0_teethAtRisk 28 = .ok (.aload_n 0, 1) := by decide +kernel
theorem dX0_teethAtRisk_29 : decode cX0_teethAtRisk 29 = .ok (.getfield 9, 3) := by decide +kernel
theorem dX0_teethAtRisk_32 : decode cX0_teethAtRisk 32 = .ok (.iload_n 1, 1) := by decide +kernel
theorem dX0_teethAtRisk_33 : decode cX0_teethAtRisk 33 = .ok (.iaload, 1) := by decide +kernel
theorem dX0_teethAtRisk_34 : decode cX0_teethAtRisk 34 = .ok (.iload 4, 2) := by decide +kernel
theorem dX0_teethAtRisk_36 : decode cX0_teethAtRisk 36 = .ok (.iconst (-1), 1) := by decide +kernel
theorem dX0_teethAtRisk_37 : decode cX0_teethAtRisk 37 = .ok (.ixor, 1) := by decide +kernel
theorem dX0_teethAtRisk_38 : decode cX0_teethAtRisk 38 = .ok (.iand, 1) := by decide +kernel
theorem dX0_teethAtRisk_39 : decode cX0_teethAtRisk 39 = .ok (.invokevirtual 18, 3) := by decide +kernel
theorem dX0_teethAtRisk_42 : decode cX0_teethAtRisk 42 = .ok (.istore 5, 2) := by decide +kernel
theorem dX0_teethAtRisk_44 : decode cX0_teethAtRisk 44 = .ok (.iload_n 2, 1) := by decide +kernel
theorem dX0_teethAtRisk_45 : decode cX0_teethAtRisk 45 = .ok (.iload 5, 2) := by decide +kernel
theorem dX0_teethAtRisk_47 : decode cX0_teethAtRisk 47 = .ok (.bipush 12, 2) := by decide +kernel
theorem dX0_teethAtRisk_49 : decode cX0_teethAtRisk 49 = .ok (.if_icmp .eq 9, 3) := by decide +kernel
theorem dX0_teethAtRisk_52 : decode cX0_teethAtRisk 52 = .ok (.iload 5, 2) := by decide +kernel
theorem dX0_teethAtRisk_54 : decode cX0_teethAtRisk 54 = .ok (.iload_n 1, 1) := by decide +kernel
theorem dX0_teethAtRisk_55 : decode cX0_teethAtRisk 55 = .ok (.if_icmp .ne 7, 3) := by decide +kernel
theorem dX0_teethAtRisk_58 : decode cX0_teethAtRisk 58 = .ok (.iconst 0, 1) := by decide +kernel
theorem dX0_teethAtRisk_59 : decode cX0_teethAtRisk 59 = .ok (.goto 4, 3) := by decide +kernel
theorem dX0_teethAtRisk_62 : decode cX0_teethAtRisk 62 = .ok (.iconst 1, 1) := by decide +kernel
theorem dX0_teethAtRisk_63 : decode cX0_teethAtRisk 63 = .ok (.iadd, 1) := by decide +kernel
theorem dX0_teethAtRisk_64 : decode cX0_teethAtRisk 64 = .ok (.istore_n 2, 1) := by decide +kernel
theorem dX0_teethAtRisk_65 : decode cX0_teethAtRisk 65 = .ok (.iinc 3 1, 3) := by decide +kernel
theorem dX0_teethAtRisk_68 : decode cX0_teethAtRisk 68 = .ok (.goto (-64), 3) := by decide +kernel
theorem dX0_teethAtRisk_71 : decode cX0_teethAtRisk 71 = .ok (.iload_n 2, 1) := by decide +kernel
theorem dX0_teethAtRisk_72 : decode cX0_teethAtRisk 72 = .ok (.ireturn, 1) := by decide +kernel
theorem dX0_allAtRisk_0 : decode cX0_allAtRisk 0 = .ok (.iconst 0, 1) := by decide +kernel
theorem dX0_allAtRisk_1 : decode cX0_allAtRisk 1 = .ok (.istore_n 1, 1) := by decide +kernel
theorem dX0_allAtRisk_2 : decode cX0_allAtRisk 2 = .ok (.iconst 0, 1) := by decide +kernel
theorem dX0_allAtRisk_3 : decode cX0_allAtRisk 3 = .ok (.istore_n 2, 1) := by decide +kernel
theorem dX0_allAtRisk_4 : decode cX0_allAtRisk 4 = .ok (.iload_n 2, 1) := by decide +kernel
theorem dX0_allAtRisk_5 : decode cX0_allAtRisk 5 = .ok (.bipush 12, 2) := by decide +kernel
theorem dX0_allAtRisk_7 : decode cX0_allAtRisk 7 = .ok (.if_icmp .ge 17, 3) := by decide +kernel
theorem dX0_allAtRisk_10 : decode cX0_allAtRisk 10 = .ok (.iload_n 1, 1) := by decide +kernel
theorem dX0_allAtRisk_11 : decode cX0_allAtRisk 11 = .ok (.aload_n 0, 1) := by decide +kernel
theorem dX0_allAtRisk_12 : decode cX0_allAtRisk 12 = .ok (.iload_n 2, 1) := by decide +kernel
theorem dX0_allAtRisk_13 : decode cX0_allAtRisk 13 = .ok (.invokevirtual 38, 3) := by decide +kernel
theorem dX0_allAtRisk_16 : decode cX0_allAtRisk 16 = .ok (.iadd, 1) := by decide +kernel
theorem dX0_allAtRisk_17 : decode cX0_allAtRisk 17 = .ok (.istore_n 1, 1) := by decide +kernel
theorem dX0_allAtRisk_18 : decode cX0_allAtRisk 18 = .ok (.iinc 2 1, 3) := by decide +kernel
theorem dX0_allAtRisk_21 : decode cX0_allAtRisk 21 = .ok (.goto (-17), 3) := by decide +kernel
theorem dX0_allAtRisk_24 : decode cX0_allAtRisk 24 = .ok (.iload_n 1, 1) := by decide +kernel
theorem dX0_allAtRisk_25 : decode cX0_allAtRisk 25 = .ok (.ireturn, 1) := by decide +kernel
theorem dX0_betterTeeth_0 : decode cX0_betterTeeth 0 = .ok (.aload_n 0, 1) := by decide +kernel
theorem dX0_betterTeeth_1 : decode cX0_betterTeeth 1 = .ok (.getfield 9, 3) := by decide +kernel
theorem dX0_betterTeeth_4 : decode cX0_betterTeeth 4 = .ok (.iload_n 1, 1) := by decide +kernel
theorem dX0_betterTeeth_5 : decode cX0_betterTeeth 5 = .ok (.iaload, 1) := by decide +kernel
theorem dX0_betterTeeth_6 : decode cX0_betterTeeth 6 = .ok (.istore_n 2, 1) := by decide +kernel
theorem dX0_betterTeeth_7 : decode cX0_betterTeeth 7 = .ok (.aload_n 0, 1) := by decide +kernel
theorem dX0_betterTeeth_8 : decode cX0_betterTeeth 8 = .ok (.getfield 15, 3) := by decide +kernel
theorem dX0_betterTeeth_11 : decode cX0_betterTeeth 11 = .ok (.iload_n 1, 1) := by decide +kernel
theorem dX0_betterTeeth_12 : decode cX0_betterTeeth 12 = .ok (.iaload, 1) := by decide +kernel
theorem dX0_betterTeeth_13 : decode cX0_betterTeeth 13 = .ok (.istore_n 3, 1) := by decide +kernel
theorem dX0_betterTeeth_14 : decode cX0_betterTeeth 14 = .ok (.bipush (-4), 2) := by decide +kernel
theorem dX0_betterTeeth_16 : decode cX0_betterTeeth 16 = .ok (.istore 4, 2) := by decide +kernel
theorem dX0_betterTeeth_18 : decode cX0_betterTeeth 18 = .ok (.bipush 85, 2) := by decide +kernel
theorem dX0_betterTeeth_20 : decode cX0_betterTeeth 20 = .ok (.istore 5, 2) := by decide +kernel
theorem dX0_betterTeeth_22 : decode cX0_betterTeeth 22 = .ok (.iconst 1, 1) := by decide +kernel
theorem dX0_betterTeeth_23 : decode cX0_betterTeeth 23 = .ok (.istore 6, 2) := by decide +kernel
theorem dX0_betterTeeth_25 : decode cX0_betterTeeth 25 = .ok (.iload 6, 2) := by decide +kernel
theorem dX0_betterTeeth_27 : decode cX0_betterTeeth 27 = .ok (.bipush 127, 2) := by decide +kernel
theorem dX0_betterTeeth_29 : decode cX0_betterTeeth 29 = .ok (.if_icmp .gt 65, 3) := by decide +kernel
theorem dX0_betterTeeth_32 : decode cX0_betterTeeth 32 = .ok (.aload_n 0, 1) := by decide +kernel
theorem dX0_betterTeeth_33 : decode cX0_betterTeeth 33 = .ok (.getfield 9, 3) := by decide +kernel
theorem dX0_betterTeeth_36 : decode cX0_betterTeeth 36 = .ok (.iload_n 1, 1) := by decide +kernel
theorem dX0_betterTeeth_37 : decode cX0_betterTeeth 37 = .ok (.iload 6, 2) := by decide +kernel
theorem dX0_betterTeeth_39 : decode cX0_betterTeeth 39 = .ok (.iastore, 1) := by decide +kernel
theorem dX0_betterTeeth_40 : decode cX0_betterTeeth 40 = .ok (.aload_n 0, 1) := by decide +kernel
theorem dX0_betterTeeth_41 : decode cX0_betterTeeth 41 = .ok (.getfield 15, 3) := by decide +kernel
theorem dX0_betterTeeth_44 : decode cX0_betterTeeth 44 = .ok (.iload_n 1, 1) := by decide +kernel
theorem dX0_betterTeeth_45 : decode cX0_betterTeeth 45 = .ok (.bipush 127, 2) := by decide +kernel
theorem dX0_betterTeeth_47 : decode cX0_betterTeeth 47 = .ok (.iload 6, 2) := by decide +kernel
theorem dX0_betterTeeth_49 : decode cX0_betterTeeth 49 = .ok (.iconst (-1), 1) := by decide +kernel
theorem dX0_betterTeeth_50 : decode cX0_betterTeeth 50 = .ok (.ixor, 1) := by decide +kernel
theorem dX0_betterTeeth_51 : decode cX0_betterTeeth 51 = .ok (.iand, 1) := by decide +kernel
theorem dX0_betterTeeth_52 : decode cX0_betterTeeth 52 = .ok (.iastore, 1) := by decide +kernel
theorem dX0_betterTeeth_53 : decode cX0_betterTeeth 53 = .ok (.aload_n 0, 1) := by decide +kernel
theorem dX0_betterTeeth_54 : decode cX0_betterTeeth 54 = .ok (.invokevirtual 41, 3) := by decide +kernel
theorem dX0_betterTeeth_57 : decode cX0_betterTeeth 57 = .ok (.bipush (-4), 2) := by decide +kernel
theorem dX0_betterTeeth_59 : decode cX0_betterTeeth 59 = .ok (.if_icmp .ne 10, 3) := by decide +kernel
theorem dX0_betterTeeth_62 : decode cX0_betterTeeth 62 = .ok (.aload_n 0, 1) := by decide +kernel
theorem dX0_betterTeeth_63 : decode cX0_betterTeeth 63 = .ok (.invokevirtual 45, 3) := by decide +kernel
theorem dX0_betterTeeth_66 : decode cX0_betterTeeth 66 = .ok (.goto 5, 3) := by decide +kernel
theorem dX0_betterTeeth_69 : decode cX0_betterTeeth 69 = .ok (.bipush 85, 2) := by decide +kernel
theorem dX0_betterTeeth_71 : decode cX0_betterTeeth 71 = .ok (.istore 7, 2) := by decide +kernel
theorem dX0_betterTeeth_73 : decode cX0_betterTeeth 73 = .ok (.iload 7, 2) := by decide +kernel
theorem dX0_betterTeeth_75 : decode cX0_betterTeeth 75 = .ok (.iload 5, 2) := by decide +kernel
theorem dX0_betterTeeth_77 : decode cX0_betterTeeth 77 = .ok (.if_icmp .ge 11, 3) := by decide +kernel
theorem dX0_betterTeeth_80 : decode cX0_betterTeeth 80 = .ok (.iload 7, 2) := by decide +kernel
theorem dX0_betterTeeth_82 : decode cX0_betterTeeth 82 = .ok (.istore 5, 2) := by decide +kernel
theorem dX0_betterTeeth_84 : decode cX0_betterTeeth 84 = .ok (.iload 6, 2) := by decide +kernel
theorem dX0_betterTeeth_86 : decode cX0_betterTeeth 86 = .ok (.istore 4, 2) := by decide +kernel
theorem dX0_betterTeeth_88 : decode cX0_betterTeeth 88 = .ok (.iinc 6 1, 3) := by decide +kernel
theorem dX0_betterTeeth_91 : decode cX0_betterTeeth 91 = .ok (.goto (-66), 3) := by decide +kernel
theorem dX0_betterTeeth_94 : decode cX0_betterTeeth 94 = .ok (.aload_n 0, 1) := by decide +kernel
theorem dX0_betterTeeth_95 : decode cX0_betterTeeth 95 = .ok (.getfield 9, 3) := by decide +kernel
theorem dX0_betterTeeth_98 : decode cX0_betterTeeth 98 = .ok (.iload_n 1, 1) := by decide +kernel
theorem dX0_betterTeeth_99 : decode cX0_betterTeeth 99 = .ok (.iload_n 2, 1) := by decide +kernel
theorem dX0_betterTeeth_100 : decode cX0_betterTeeth 100 = .ok (.iastore, 1) := by decide +kernel
theorem dX0_betterTeeth_101 : decode cX0_betterTeeth 101 = .ok (.aload_n 0, 1) := by decide +kernel
theorem dX0_betterTeeth_102 : decode cX0_betterTeeth 102 = .ok (.getfield 15, 3) := by decide +kernel
theorem dX0_betterTeeth_105 : decode cX0_betterTeeth 105 = .ok (.iload_n 1, 1) := by decide +kernel
theorem dX0_betterTeeth_106 : decode cX0_betterTeeth 106 = .ok (.iload_n 3, 1) := by decide +kernel
theorem dX0_betterTeeth_107 : decode cX0_betterTeeth 107 = .ok (.iastore, 1) := by decide +kernel
theorem dX0_betterTeeth_108 : decode cX0_betterTeeth 108 = .ok (.iload 4, 2) := by decide +kernel
theorem dX0_betterTeeth_110 : decode cX0_betterTeeth 110 = .ok (.ireturn, 1) := by decide +kernel
theorem dX1_init_0 : decode cX1_init 0 = .ok (.aload_n 0, 1) := by decide +kernel
theorem dX1_init_1 : decode cX1_init 1 = .ok (.invokespecial 3, 3) := by decide +kernel
theorem dX1_init_4 : decode cX1_init 4 = .ok (.aload_n 0, 1) := by decide +kernel
theorem dX1_init_5 : decode cX1_init 5 = .ok (.bipush 60, 2) := by decide +kernel
theorem dX1_init_7 : decode cX1_init 7 = .ok (.newarray .int, 2) := by decide +kernel
theorem dX1_init_9 : decode cX1_init 9 = .ok (.putfield 9, 3) := by decide +kernel
theorem dX1_init_12 : decode cX1_init 12 = .ok (.aload_n 0, 1) := by decide +kernel
theorem dX1_init_13 : decode cX1_init 13 = .ok (.bipush 60, 2) := by decide +kernel
theorem dX1_init_15 : decode cX1_init 15 = .ok (.newarray .int, 2) := by decide +kernel
theorem dX1_init_17 : decode cX1_init 17 = .ok (.putfield 15, 3) := by decide +kernel
theorem dX1_init_20 : decode cX1_init 20 = .ok (.aload_n 0, 1) := by decide +kernel
theorem dX1_init_21 : decode cX1_init 21 = .ok (.bipush 60, 2) := by decide +kernel
theorem dX1_init_23 : decode cX1_init 23 = .ok (.newarray .int, 2) := by decide +kernel
theorem dX1_init_25 : decode cX1_init 25 = .ok (.putfield 18, 3) := by decide +kernel
theorem dX1_init_28 : decode cX1_init 28 = .ok (.aload_n 0, 1) := by decide +kernel
theorem dX1_init_29 : decode cX1_init 29 = .ok (.iconst 0, 1) := by decide +kernel
theorem dX1_init_30 : decode cX1_init 30 = .ok (.putfield 21, 3) := by decide +kernel
theorem dX1_init_33 : decode cX1_init 33 = .ok (.aload_n 0, 1) := by decide +kernel
theorem dX1_init_34 : decode cX1_init 34 = .ok (.iconst 0, 1) := by decide +kernel
theorem dX1_init_35 : decode cX1_init 35 = .ok (.putfield 25, 3) := by decide +kernel
theorem dX1_init_38 : decode cX1_init 38 = .ok (.return_, 1) := by decide +kernel
theorem dX1_hang_0 : decode cX1_hang 0 = .ok (.aload_n 0, 1) := by decide +kernel
theorem dX1_hang_1 : decode cX1_hang 1 = .ok (.getfield 21, 3) := by decide +kernel
theorem dX1_hang_4 : decode cX1_hang 4 = .ok (.bipush 60, 2) := by decide +kernel
theorem dX1_hang_6 : decode cX1_hang 6 = .ok (.if_icmp .lt 4, 3) := by decide +kernel
theorem dX1_hang_9 : decode cX1_hang 9 = .ok (.return_, 1) := by decide +kernel
theorem dX1_hang_10 : decode cX1_hang 10 = .ok (.aload_n 0, 1) := by decide +kernel
theorem dX1_hang_11 : decode cX1_hang 11 = .ok (.getfield 9, 3) := by decide +kernel
theorem dX1_hang_14 : decode cX1_hang 14 = .ok (.aload_n 0, 1) := by decide +kernel
theorem dX1_hang_15 : decode cX1_hang 15 = .ok (.getfield 21, 3) := by decide +kernel
theorem dX1_hang_18 : decode cX1_hang 18 = .ok (.iload_n 1, 1) := by decide +kernel
theorem dX1_hang_19 : decode cX1_hang 19 = .ok (.iastore, 1) := by decide +kernel
theorem dX1_hang_20 : decode cX1_hang 20 = .ok (.aload_n 0, 1) := by decide +kernel
theorem dX1_hang_21 : decode cX1_hang 21 = .ok (.getfield 15, 3) := by decide +kernel
theorem dX1_hang_24 : decode cX1_hang 24 = .ok (.aload_n 0, 1) := by decide +kernel
theorem dX1_hang_25 : decode cX1_hang 25 = .ok (.getfield 21, 3) := by decide +kernel
theorem dX1_hang_28 : decode cX1_hang 28 = .ok (.iload_n 2, 1) := by decide +kernel
theorem dX1_hang_29 : decode cX1_hang 29 = .ok (.iastore, 1) := by decide +kernel
theorem dX1_hang_30 : decode cX1_hang 30 = .ok (.aload_n 0, 1) := by decide +kernel
theorem dX1_hang_31 : decode cX1_hang 31 = .ok (.getfield 18, 3) := by decide +kernel
theorem dX1_hang_34 : decode cX1_hang 34 = .ok (.aload_n 0, 1) := by decide +kernel
theorem dX1_hang_35 : decode cX1_hang 35 = .ok (.getfield 21, 3) := by decide +kernel
theorem dX1_hang_38 : decode cX1_hang 38 = .ok (.iload_n 3, 1) := by decide +kernel
theorem dX1_hang_39 : decode cX1_hang 39 = .ok (.iastore, 1) := by decide +kernel
theorem dX1_hang_40 : decode cX1_hang 40 = .ok (.aload_n 0, 1) := by decide +kernel
theorem dX1_hang_41 : decode cX1_hang 41 = .ok (.dup, 1) := by decide +kernel
theorem dX1_hang_42 : decode cX1_hang 42 = .ok (.getfield 21, 3) := by decide +kernel
theorem dX1_hang_45 : decode cX1_hang 45 = .ok (.iconst 1, 1) := by decide +kernel
theorem dX1_hang_46 : decode cX1_hang 46 = .ok (.iadd, 1) := by decide +kernel
theorem dX1_hang_47 : decode cX1_hang 47 = .ok (.putfield 21, 3) := by decide +kernel
theorem dX1_hang_50 : decode cX1_hang 50 = .ok (.return_, 1) := by decide +kernel
theorem dX1_dropDue_0 : decode cX1_dropDue 0 = .ok (.iconst 0, 1) := by decide +kernel
theorem dX1_dropDue_1 : decode cX1_dropDue 1 = .ok (.istore_n 3, 1) := by decide +kernel
theorem dX1_dropDue_2 : decode cX1_dropDue 2 = .ok (.iconst 0, 1) := by decide +kernel
theorem dX1_dropDue_3 : decode cX1_dropDue 3 = .ok (.istore 4, 2) := by decide +kernel
theorem dX1_dropDue_5 : decode cX1_dropDue 5 = .ok (.iload 4, 2) := by decide +kernel
theorem dX1_dropDue_7 : decode cX1_dropDue 7 = .ok (.aload_n 0, 1) := by decide +kernel
theorem dX1_dropDue_8 : decode cX1_dropDue 8 = .ok (.getfield 21, 3) := by decide +kernel
theorem dX1_dropDue_11 : decode cX1_dropDue 11 = .ok (.if_icmp .ge 84, 3) := by decide +kernel
theorem dX1_dropDue_14 : decode cX1_dropDue 14 = .ok (.aload_n 0, 1) := by decide +kernel
theorem dX1_dropDue_15 : decode cX1_dropDue 15 = .ok (.getfield 18, 3) := by decide +kernel
theorem dX1_dropDue_18 : decode cX1_dropDue 18 = .ok (.iload 4, 2) := by decide +kernel
theorem dX1_dropDue_20 : decode cX1_dropDue 20 = .ok (.iaload, 1) := by decide +kernel
theorem dX1_dropDue_21 : decode cX1_dropDue 21 = .ok (.iload_n 1, 1) := by decide +kernel
theorem dX1_dropDue_22 : decode cX1_dropDue 22 = .ok (.if_icmp .ne 25, 3) := by decide +kernel
theorem dX1_dropDue_25 : decode cX1_dropDue 25 = .ok (.aload_n 0, 1) := by decide +kernel
theorem dX1_dropDue_26 : decode cX1_dropDue 26 = .ok (.aload_n 0, 1) := by decide +kernel
theorem dX1_dropDue_27 : decode cX1_dropDue 27 = .ok (.getfield 9, 3) := by decide +kernel
theorem dX1_dropDue_30 : decode cX1_dropDue 30 = .ok (.iload 4, 2) := by decide +kernel
theorem dX1_dropDue_32 : decode cX1_dropDue 32 = .ok (.iaload, 1) := by decide +kernel
theorem dX1_dropDue_33 : decode cX1_dropDue 33 = .ok (.aload_n 0, 1) := by decide +kernel
theorem dX1_dropDue_34 : decode cX1_dropDue 34 = .ok (.getfield 15, 3) := by decide +kernel
theorem dX1_dropDue_37 : decode cX1_dropDue 37 = .ok (.iload 4, 2) := by decide +kernel
theorem dX1_dropDue_39 : decode cX1_dropDue 39 = .ok (.iaload, 1) := by decide +kernel
theorem dX1_dropDue_40 : decode cX1_dropDue 40 = .ok (.aload_n 2, 1) := by decide +kernel
theorem dX1_dropDue_41 : decode cX1_dropDue 41 = .ok (.invokevirtual 28, 3) := by decide +kernel
theorem dX1_dropDue_44 : decode cX1_dropDue 44 = .ok (.goto 45, 3) := by decide +kernel
theorem dX1_dropDue_47 : decode cX1_dropDue 47 = .ok (.aload_n 0, 1) := by decide +kernel
theorem dX1_dropDue_48 : decode cX1_dropDue 48 = .ok (.getfield 9, 3) := by decide +kernel
theorem dX1_dropDue_51 : decode cX1_dropDue 51 = .ok (.iload_n 3, 1) := by decide +kernel
theorem dX1_dropDue_52 : decode cX1_dropDue 52 = .ok (.aload_n 0, 1) := by decide +kernel
theorem dX1_dropDue_53 : decode cX1_dropDue 53 = .ok (.getfield 9, 3) := by decide +kernel
theorem dX1_dropDue_56 : decode cX1_dropDue 56 = .ok (.iload 4, 2) := by decide +kernel
theorem dX1_dropDue_58 : decode cX1_dropDue 58 = .ok (.iaload, 1) := by decide +kernel
theorem dX1_dropDue_59 : decode cX1_dropDue 59 = .ok (.iastore, 1) := by decide +kernel
theorem dX1_dropDue_60 : decode cX1_dropDue 60 = .ok (.aload_n 0, 1) := by decide +kernel
theorem dX1_dropDue_61 : decode cX1_dropDue 61 = .ok (.getfield 15, 3) := by decide +kernel
theorem dX1_dropDue_64 : decode cX1_dropDue 64 = .ok (.iload_n 3, 1) := by decide +kernel
theorem dX1_dropDue_65 : decode cX1_dropDue 65 = .ok (.aload_n 0, 1) := by decide +kernel
theorem dX1_dropDue_66 : decode cX1_dropDue 66 = .ok (.getfield 15, 3) := by decide +kernel
theorem dX1_dropDue_69 : decode cX1_dropDue 69 = .ok (.iload 4, 2) := by decide +kernel
theorem dX1_dropDue_71 : decode cX1_dropDue 71 = .ok (.iaload, 1) := by decide +kernel
theorem dX1_dropDue_72 : decode cX1_dropDue 72 = .ok (.iastore, 1) := by decide +kernel
theorem dX1_dropDue_73 : decode cX1_dropDue 73 = .ok (.aload_n 0, 1) := by decide +kernel
theorem dX1_dropDue_74 : decode cX1_dropDue 74 = .ok (.getfield 18, 3) := by decide +kernel
theorem dX1_dropDue_77 : decode cX1_dropDue 77 = .ok (.iload_n 3, 1) := by decide +kernel
theorem dX1_dropDue_78 : decode cX1_dropDue 78 = .ok (.aload_n 0, 1) := by decide +kernel
theorem dX1_dropDue_79 : decode cX1_dropDue 79 = .ok (.getfield 18, 3) := by decide +kernel
theorem dX1_dropDue_82 : decode cX1_dropDue 82 = .ok (.iload 4, 2) := by decide +kernel
theorem dX1_dropDue_84 : decode cX1_dropDue 84 = .ok (.iaload, 1) := by decide +kernel
theorem dX1_dropDue_85 : decode cX1_dropDue 85 = .ok (.iastore, 1) := by decide +kernel
theorem dX1_dropDue_86 : decode cX1_dropDue 86 = .ok (.iinc 3 1, 3) := by decide +kernel
theorem dX1_dropDue_89 : decode cX1_dropDue 89 = .ok (.iinc 4 1, 3) := by decide +kernel
theorem dX1_dropDue_92 : decode cX1_dropDue 92 = .ok (.goto (-87), 3) := by decide +kernel
theorem dX1_dropDue_95 : decode cX1_dropDue 95 = .ok (.aload_n 0, 1) := by decide +kernel
theorem dX1_dropDue_96 : decode cX1_dropDue 96 = .ok (.iload_n 3, 1) := by decide +kernel
theorem dX1_dropDue_97 : decode cX1_dropDue 97 = .ok (.putfield 21, 3) := by decide +kernel
theorem dX1_dropDue_100 : decode cX1_dropDue 100 = .ok (.return_, 1) := by decide +kernel
theorem dX1_letFall_0 : decode cX1_letFall 0 = .ok (.aload_n 3, 1) := by decide +kernel
theorem dX1_letFall_1 : decode cX1_letFall 1 = .ok (.getfield 32, 3) := by decide +kernel
theorem dX1_letFall_4 : decode cX1_letFall 4 = .ok (.iload_n 1, 1) := by decide +kernel
theorem dX1_letFall_5 : decode cX1_letFall 5 = .ok (.bipush 12, 2) := by decide +kernel
theorem dX1_letFall_7 : decode cX1_letFall 7 = .ok (.iastore, 1) := by decide +kernel
theorem dX1_letFall_8 : decode cX1_letFall 8 = .ok (.iload_n 2, 1) := by decide +kernel
theorem dX1_letFall_9 : decode cX1_letFall 9 = .ok (.bipush 12, 2) := by decide +kernel
theorem dX1_letFall_11 : decode cX1_letFall 11 = .ok (.if_icmp .eq 22, 3) := by decide +kernel
theorem dX1_letFall_14 : decode cX1_letFall 14 = .ok (.aload_n 3, 1) := by decide +kernel
theorem dX1_letFall_15 : decode cX1_letFall 15 = .ok (.iload_n 1, 1) := by decide +kernel
theorem dX1_letFall_16 : decode cX1_letFall 16 = .ok (.iload_n 2, 1) := by decide +kernel
theorem dX1_letFall_17 : decode cX1_letFall 17 = .ok (.invokevirtual 37, 3) := by decide +kernel
theorem dX1_letFall_20 : decode cX1_letFall 20 = .ok (.ifCond .ne 13, 3) := by decide +kernel
theorem dX1_letFall_23 : decode cX1_letFall 23 = .ok (.aload_n 0, 1) := by decide +kernel
theorem dX1_letFall_24 : decode cX1_letFall 24 = .ok (.dup, 1) := by decide +kernel
theorem dX1_letFall_25 : decode cX1_letFall 25 = .ok (.getfield 25, 3) := by decide +kernel
theorem dX1_letFall_28 : decode cX1_letFall 28 = .ok (.iconst 1, 1) := by decide +kernel
theorem dX1_letFall_29 : decode cX1_letFall 29 = .ok (.iadd, 1) := by decide +kernel
theorem dX1_letFall_30 : decode cX1_letFall 30 = .ok (.putfield 25, 3) := by decide +kernel
theorem dX1_letFall_33 : decode cX1_letFall 33 = .ok (.return_, 1) := by decide +kernel
theorem dX2_init_0 : decode cX2_init 0 = .ok (.aload_n 0, 1) := by decide +kernel
theorem dX2_init_1 : decode cX2_init 1 = .ok (.invokespecial 3, 3) := by decide +kernel
theorem dX2_init_4 : decode cX2_init 4 = .ok (.aload_n 0, 1) := by decide +kernel
theorem dX2_init_5 : decode cX2_init 5 = .ok (.bipush 24, 2) := by decide +kernel
theorem dX2_init_7 : decode cX2_init 7 = .ok (.newarray .int, 2) := by decide +kernel
theorem dX2_init_9 : decode cX2_init 9 = .ok (.putfield 9, 3) := by decide +kernel
theorem dX2_init_12 : decode cX2_init 12 = .ok (.aload_n 0, 1) := by decide +kernel
theorem dX2_init_13 : decode cX2_init 13 = .ok (.bipush 24, 2) := by decide +kernel
theorem dX2_init_15 : decode cX2_init 15 = .ok (.newarray .int, 2) := by decide +kernel
theorem dX2_init_17 : decode cX2_init 17 = .ok (.putfield 15, 3) := by decide +kernel
theorem dX2_init_20 : decode cX2_init 20 = .ok (.aload_n 0, 1) := by decide +kernel
theorem dX2_init_21 : decode cX2_init 21 = .ok (.bipush 24, 2) := by decide +kernel
theorem dX2_init_23 : decode cX2_init 23 = .ok (.newarray .int, 2) := by decide +kernel
theorem dX2_init_25 : decode cX2_init 25 = .ok (.putfield 18, 3) := by decide +kernel
theorem dX2_init_28 : decode cX2_init 28 = .ok (.aload_n 0, 1) := by decide +kernel
theorem dX2_init_29 : decode cX2_init 29 = .ok (.iconst 0, 1) := by decide +kernel
theorem dX2_init_30 : decode cX2_init 30 = .ok (.putfield 21, 3) := by decide +kernel
theorem dX2_init_33 : decode cX2_init 33 = .ok (.aload_n 0, 1) := by decide +kernel
theorem dX2_init_34 : decode cX2_init 34 = .ok (.iconst 0, 1) := by decide +kernel
theorem dX2_init_35 : decode cX2_init 35 = .ok (.putfield 25, 3) := by decide +kernel
theorem dX2_init_38 : decode cX2_init 38 = .ok (.aload_n 0, 1) := by decide +kernel
theorem dX2_init_39 : decode cX2_init 39 = .ok (.iconst 0, 1) := by decide +kernel
theorem dX2_init_40 : decode cX2_init 40 = .ok (.putfield 28, 3) := by decide +kernel
theorem dX2_init_43 : decode cX2_init 43 = .ok (.return_, 1) := by decide +kernel
theorem dX2_isFull_0 : decode cX2_isFull 0 = .ok (.aload_n 0, 1) := by decide +kernel
theorem dX2_isFull_1 : decode cX2_isFull 1 = .ok (.getfield 21, 3) := by decide +kernel
theorem dX2_isFull_4 : decode cX2_isFull 4 = .ok (.aload_n 0, 1) := by decide +kernel
theorem dX2_isFull_5 : decode cX2_isFull 5 = .ok (.getfield 25, 3) := by decide +kernel
theorem dX2_isFull_8 : decode cX2_isFull 8 = .ok (.iadd, 1) := by decide +kernel
theorem dX2_isFull_9 : decode cX2_isFull 9 = .ok (.bipush 24, 2) := by decide +kernel
theorem dX2_isFull_11 : decode cX2_isFull 11 = .ok (.if_icmp .lt 7, 3) := by decide +kernel
theorem dX2_isFull_14 : decode cX2_isFull 14 = .ok (.iconst 1, 1) := by decide +kernel
theorem dX2_isFull_15 : decode cX2_isFull 15 = .ok (.goto 4, 3) := by decide +kernel
theorem dX2_isFull_18 : decode cX2_isFull 18 = .ok (.iconst 0, 1) := by decide +kernel
theorem dX2_isFull_19 : decode cX2_isFull 19 = .ok (.ireturn, 1) := by decide +kernel
theorem dX2_letGo_0 : decode cX2_letGo 0 = .ok (.aload_n 0, 1) := by decide +kernel
theorem dX2_letGo_1 : decode cX2_letGo 1 = .ok (.invokevirtual 31, 3) := by decide +kernel
theorem dX2_letGo_4 : decode cX2_letGo 4 = .ok (.ifCond .eq 4, 3) := by decide +kernel
theorem dX2_letGo_7 : decode cX2_letGo 7 = .ok (.return_, 1) := by decide +kernel
theorem dX2_letGo_8 : decode cX2_letGo 8 = .ok (.aload_n 0, 1) := by decide +kernel
theorem dX2_letGo_9 : decode cX2_letGo 9 = .ok (.getfield 15, 3) := by decide +kernel
theorem dX2_letGo_12 : decode cX2_letGo 12 = .ok (.aload_n 0, 1) := by decide +kernel
theorem dX2_letGo_13 : decode cX2_letGo 13 = .ok (.getfield 25, 3) := by decide +kernel
theorem dX2_letGo_16 : decode cX2_letGo 16 = .ok (.iload_n 1, 1) := by decide +kernel
theorem dX2_letGo_17 : decode cX2_letGo 17 = .ok (.iastore, 1) := by decide +kernel
theorem dX2_letGo_18 : decode cX2_letGo 18 = .ok (.aload_n 0, 1) := by decide +kernel
theorem dX2_letGo_19 : decode cX2_letGo 19 = .ok (.getfield 18, 3) := by decide +kernel
theorem dX2_letGo_22 : decode cX2_letGo 22 = .ok (.aload_n 0, 1) := by decide +kernel
theorem dX2_letGo_23 : decode cX2_letGo 23 = .ok (.getfield 25, 3) := by decide +kernel
theorem dX2_letGo_26 : decode cX2_letGo 26 = .ok (.iload_n 2, 1) := by decide +kernel
theorem dX2_letGo_27 : decode cX2_letGo 27 = .ok (.iastore, 1) := by decide +kernel
theorem dX2_letGo_28 : decode cX2_letGo 28 = .ok (.aload_n 0, 1) := by decide +kernel
theorem dX2_letGo_29 : decode cX2_letGo 29 = .ok (.dup, 1) := by decide +kernel
theorem dX2_letGo_30 : decode cX2_letGo 30 = .ok (.getfield 25, 3) := by decide +kernel
theorem dX2_letGo_33 : decode cX2_letGo 33 = .ok (.iconst 1, 1) := by decide +kernel
theorem dX2_letGo_34 : decode cX2_letGo 34 = .ok (.iadd, 1) := by decide +kernel
theorem dX2_letGo_35 : decode cX2_letGo 35 = .ok (.putfield 25, 3) := by decide +kernel
theorem dX2_letGo_38 : decode cX2_letGo 38 = .ok (.iload_n 1, 1) := by decide +kernel
theorem dX2_letGo_39 : decode cX2_letGo 39 = .ok (.bipush 100, 2) := by decide +kernel
theorem dX2_letGo_41 : decode cX2_letGo 41 = .ok (.if_icmp .ne 13, 3) := by decide +kernel
theorem dX2_letGo_44 : decode cX2_letGo 44 = .ok (.aload_n 0, 1) := by decide +kernel
theorem dX2_letGo_45 : decode cX2_letGo 45 = .ok (.dup, 1) := by decide +kernel
theorem dX2_letGo_46 : decode cX2_letGo 46 = .ok (.getfield 28, 3) := by decide +kernel
theorem dX2_letGo_49 : decode cX2_letGo 49 = .ok (.iconst 1, 1) := by decide +kernel
theorem dX2_letGo_50 : decode cX2_letGo 50 = .ok (.iadd, 1) := by decide +kernel
theorem dX2_letGo_51 : decode cX2_letGo 51 = .ok (.putfield 28, 3) := by decide +kernel
theorem dX2_letGo_54 : decode cX2_letGo 54 = .ok (.return_, 1) := by decide +kernel
theorem dX2_takeDue_0 : decode cX2_takeDue 0 = .ok (.iconst 0, 1) := by decide +kernel
theorem dX2_takeDue_1 : decode cX2_takeDue 1 = .ok (.istore_n 2, 1) := by decide +kernel
theorem dX2_takeDue_2 : decode cX2_takeDue 2 = .ok (.iconst 0, 1) := by decide +kernel
theorem dX2_takeDue_3 : decode cX2_takeDue 3 = .ok (.istore_n 3, 1) := by decide +kernel
theorem dX2_takeDue_4 : decode cX2_takeDue 4 = .ok (.iload_n 3, 1) := by decide +kernel
theorem dX2_takeDue_5 : decode cX2_takeDue 5 = .ok (.aload_n 0, 1) := by decide +kernel
theorem dX2_takeDue_6 : decode cX2_takeDue 6 = .ok (.getfield 25, 3) := by decide +kernel
theorem dX2_takeDue_9 : decode cX2_takeDue 9 = .ok (.if_icmp .ge 83, 3) := by decide +kernel
theorem dX2_takeDue_12 : decode cX2_takeDue 12 = .ok (.aload_n 0, 1) := by decide +kernel
theorem dX2_takeDue_13 : decode cX2_takeDue 13 = .ok (.getfield 18, 3) := by decide +kernel
theorem dX2_takeDue_16 : decode cX2_takeDue 16 = .ok (.iload_n 3, 1) := by decide +kernel
theorem dX2_takeDue_17 : decode cX2_takeDue 17 = .ok (.iaload, 1) := by decide +kernel
theorem dX2_takeDue_18 : decode cX2_takeDue 18 = .ok (.iload_n 1, 1) := by decide +kernel
theorem dX2_takeDue_19 : decode cX2_takeDue 19 = .ok (.if_icmp .ne 40, 3) := by decide +kernel
theorem dX2_takeDue_22 : decode cX2_takeDue 22 = .ok (.aload_n 0, 1) := by decide +kernel
theorem dX2_takeDue_23 : decode cX2_takeDue 23 = .ok (.getfield 21, 3) := by decide +kernel
theorem dX2_takeDue_26 : decode cX2_takeDue 26 = .ok (.bipush 24, 2) := by decide +kernel
theorem dX2_takeDue_28 : decode cX2_takeDue 28 = .ok (.if_icmp .ge 31, 3) := by decide +kernel
theorem dX2_takeDue_31 : decode cX2_takeDue 31 = .ok (.aload_n 0, 1) := by decide +kernel
theorem dX2_takeDue_32 : decode cX2_takeDue 32 = .ok (.getfield 9, 3) := by decide +kernel
theorem dX2_takeDue_35 : decode cX2_takeDue 35 = .ok (.aload_n 0, 1) := by decide +kernel
theorem dX2_takeDue_36 : decode cX2_takeDue 36 = .ok (.getfield 21, 3) := by decide +kernel
theorem dX2_takeDue_39 : decode cX2_takeDue 39 = .ok (.aload_n 0, 1) := by decide +kernel
theorem dX2_takeDue_40 : decode cX2_takeDue 40 = .ok (.getfield 15, 3) := by decide +kernel
theorem dX2_takeDue_43 : decode cX2_takeDue 43 = .ok (.iload_n 3, 1) := by decide +kernel
theorem dX2_takeDue_44 : decode cX2_takeDue 44 = .ok (.iaload, 1) := by decide +kernel
theorem dX2_takeDue_45 : decode cX2_takeDue 45 = .ok (.iastore, 1) := by decide +kernel
theorem dX2_takeDue_46 : decode cX2_takeDue 46 = .ok (.aload_n 0, 1) := by decide +kernel
theorem dX2_takeDue_47 : decode cX2_takeDue 47 = .ok (.dup, 1) := by decide +kernel
theorem dX2_takeDue_48 : decode cX2_takeDue 48 = .ok (.getfield 21, 3) := by decide +kernel
theorem dX2_takeDue_51 : decode cX2_takeDue 51 = .ok (.iconst 1, 1) := by decide +kernel
theorem dX2_takeDue_52 : decode cX2_takeDue 52 = .ok (.iadd, 1) := by decide +kernel
theorem dX2_takeDue_53 : decode cX2_takeDue 53 = .ok (.putfield 21, 3) := by decide +kernel
theorem dX2_takeDue_56 : decode cX2_takeDue 56 = .ok (.goto 30, 3) := by decide +kernel
theorem dX2_takeDue_59 : decode cX2_takeDue 59 = .ok (.aload_n 0, 1) := by decide +kernel
theorem dX2_takeDue_60 : decode cX2_takeDue 60 = .ok (.getfield 15, 3) := by decide +kernel
theorem dX2_takeDue_63 : decode cX2_takeDue 63 = .ok (.iload_n 2, 1) := by decide +kernel
theorem dX2_takeDue_64 : decode cX2_takeDue 64 = .ok (.aload_n 0, 1) := by decide +kernel
theorem dX2_takeDue_65 : decode cX2_takeDue 65 = .ok (.getfield 15, 3) := by decide +kernel
theorem dX2_takeDue_68 : decode cX2_takeDue 68 = .ok (.iload_n 3, 1) := by decide +kernel
theorem dX2_takeDue_69 : decode cX2_takeDue 69 = .ok (.iaload, 1) := by decide +kernel
theorem dX2_takeDue_70 : decode cX2_takeDue 70 = .ok (.iastore, 1) := by decide +kernel
theorem dX2_takeDue_71 : decode cX2_takeDue 71 = .ok (.aload_n 0, 1) := by decide +kernel
theorem dX2_takeDue_72 : decode cX2_takeDue 72 = .ok (.getfield 18, 3) := by decide +kernel
theorem dX2_takeDue_75 : decode cX2_takeDue 75 = .ok (.iload_n 2, 1) := by decide +kernel
theorem dX2_takeDue_76 : decode cX2_takeDue 76 = .ok (.aload_n 0, 1) := by decide +kernel
theorem dX2_takeDue_77 : decode cX2_takeDue 77 = .ok (.getfield 18, 3) := by decide +kernel
theorem dX2_takeDue_80 : decode cX2_takeDue 80 = .ok (.iload_n 3, 1) := by decide +kernel
theorem dX2_takeDue_81 : decode cX2_takeDue 81 = .ok (.iaload, 1) := by decide +kernel
theorem dX2_takeDue_82 : decode cX2_takeDue 82 = .ok (.iastore, 1) := by decide +kernel
theorem dX2_takeDue_83 : decode cX2_takeDue 83 = .ok (.iinc 2 1, 3) := by decide +kernel
theorem dX2_takeDue_86 : decode cX2_takeDue 86 = .ok (.iinc 3 1, 3) := by decide +kernel
theorem dX2_takeDue_89 : decode cX2_takeDue 89 = .ok (.goto (-85), 3) := by decide +kernel
theorem dX2_takeDue_92 : decode cX2_takeDue 92 = .ok (.aload_n 0, 1) := by decide +kernel
theorem dX2_takeDue_93 : decode cX2_takeDue 93 = .ok (.iload_n 2, 1) := by decide +kernel
theorem dX2_takeDue_94 : decode cX2_takeDue 94 = .ok (.putfield 25, 3) := by decide +kernel
theorem dX2_takeDue_97 : decode cX2_takeDue 97 = .ok (.return_, 1) := by decide +kernel
theorem dX2_bandsCome_0 : decode cX2_bandsCome 0 = .ok (.iconst 0, 1) := by decide +kernel
theorem dX2_bandsCome_1 : decode cX2_bandsCome 1 = .ok (.istore_n 1, 1) := by decide +kernel
theorem dX2_bandsCome_2 : decode cX2_bandsCome 2 = .ok (.iconst 0, 1) := by decide +kernel
theorem dX2_bandsCome_3 : decode cX2_bandsCome 3 = .ok (.istore_n 2, 1) := by decide +kernel
theorem dX2_bandsCome_4 : decode cX2_bandsCome 4 = .ok (.iload_n 2, 1) := by decide +kernel
theorem dX2_bandsCome_5 : decode cX2_bandsCome 5 = .ok (.aload_n 0, 1) := by decide +kernel
theorem dX2_bandsCome_6 : decode cX2_bandsCome 6 = .ok (.getfield 21, 3) := by decide +kernel
theorem dX2_bandsCome_9 : decode cX2_bandsCome 9 = .ok (.if_icmp .ge 23, 3) := by decide +kernel
theorem dX2_bandsCome_12 : decode cX2_bandsCome 12 = .ok (.aload_n 0, 1) := by decide +kernel
theorem dX2_bandsCome_13 : decode cX2_bandsCome 13 = .ok (.getfield 9, 3) := by decide +kernel
theorem dX2_bandsCome_16 : decode cX2_bandsCome 16 = .ok (.iload_n 2, 1) := by decide +kernel
theorem dX2_bandsCome_17 : decode cX2_bandsCome 17 = .ok (.iaload, 1) := by decide +kernel
theorem dX2_bandsCome_18 : decode cX2_bandsCome 18 = .ok (.bipush 100, 2) := by decide +kernel
theorem dX2_bandsCome_20 : decode cX2_bandsCome 20 = .ok (.if_icmp .ne 6, 3) := by decide +kernel
theorem dX2_bandsCome_23 : decode cX2_bandsCome 23 = .ok (.iinc 1 1, 3) := by decide +kernel
theorem dX2_bandsCome_26 : decode cX2_bandsCome 26 = .ok (.iinc 2 1, 3) := by decide +kernel
theorem dX2_bandsCome_29 : decode cX2_bandsCome 29 = .ok (.goto (-25), 3) := by decide +kernel
theorem dX2_bandsCome_32 : decode cX2_bandsCome 32 = .ok (.iload_n 1, 1) := by decide +kernel
theorem dX2_bandsCome_33 : decode cX2_bandsCome 33 = .ok (.ireturn, 1) := by decide +kernel
theorem dX2_empty_0 : decode cX2_empty 0 = .ok (.aload_n 0, 1) := by decide +kernel
theorem dX2_empty_1 : decode cX2_empty 1 = .ok (.iconst 0, 1) := by decide +kernel
theorem dX2_empty_2 : decode cX2_empty 2 = .ok (.putfield 21, 3) := by decide +kernel
theorem dX2_empty_5 : decode cX2_empty 5 = .ok (.aload_n 0, 1) := by decide +kernel
theorem dX2_empty_6 : decode cX2_empty 6 = .ok (.iconst 0, 1) := by decide +kernel
theorem dX2_empty_7 : decode cX2_empty 7 = .ok (.putfield 28, 3) := by decide +kernel
theorem dX2_empty_10 : decode cX2_empty 10 = .ok (.return_, 1) := by decide +kernel
theorem dX3_init_0 : decode cX3_init 0 = .ok (.aload_n 0, 1) := by decide +kernel
theorem dX3_init_1 : decode cX3_init 1 = .ok (.invokespecial 3, 3) := by decide +kernel
theorem dX3_init_4 : decode cX3_init 4 = .ok (.aload_n 0, 1) := by decide +kernel
theorem dX3_init_5 : decode cX3_init 5 = .ok (.bipush 40, 2) := by decide +kernel
theorem dX3_init_7 : decode cX3_init 7 = .ok (.newarray .int, 2) := by decide +kernel
theorem dX3_init_9 : decode cX3_init 9 = .ok (.putfield 9, 3) := by decide +kernel
theorem dX3_init_12 : decode cX3_init 12 = .ok (.aload_n 0, 1) := by decide +kernel
theorem dX3_init_13 : decode cX3_init 13 = .ok (.iconst 0, 1) := by decide +kernel
theorem dX3_init_14 : decode cX3_init 14 = .ok (.putfield 15, 3) := by decide +kernel
theorem dX3_init_17 : decode cX3_init 17 = .ok (.aload_n 0, 1) := by decide +kernel
theorem dX3_init_18 : decode cX3_init 18 = .ok (.iconst 0, 1) := by decide +kernel
theorem dX3_init_19 : decode cX3_init 19 = .ok (.putfield 19, 3) := by decide +kernel
theorem dX3_init_22 : decode cX3_init 22 = .ok (.aload_n 0, 1) := by decide +kernel
theorem dX3_init_23 : decode cX3_init 23 = .ok (.iconst 0, 1) := by decide +kernel
theorem dX3_init_24 : decode cX3_init 24 = .ok (.putfield 23, 3) := by decide +kernel
theorem dX3_init_27 : decode cX3_init 27 = .ok (.return_, 1) := by decide +kernel
theorem dX3_hold_0 : decode cX3_hold 0 = .ok (.aload_n 0, 1) := by decide +kernel
theorem dX3_hold_1 : decode cX3_hold 1 = .ok (.iconst 1, 1) := by decide +kernel
theorem dX3_hold_2 : decode cX3_hold 2 = .ok (.putfield 15, 3) := by decide +kernel
theorem dX3_hold_5 : decode cX3_hold 5 = .ok (.aload_n 0, 1) := by decide +kernel
theorem dX3_hold_6 : decode cX3_hold 6 = .ok (.iload_n 1, 1) := by decide +kernel
theorem dX3_hold_7 : decode cX3_hold 7 = .ok (.putfield 19, 3) := by decide +kernel
theorem dX3_hold_10 : decode cX3_hold 10 = .ok (.aload_n 0, 1) := by decide +kernel
theorem dX3_hold_11 : decode cX3_hold 11 = .ok (.iload_n 2, 1) := by decide +kernel
theorem dX3_hold_12 : decode cX3_hold 12 = .ok (.putfield 23, 3) := by decide +kernel
theorem dX3_hold_15 : decode cX3_hold 15 = .ok (.iconst 0, 1) := by decide +kernel
theorem dX3_hold_16 : decode cX3_hold 16 = .ok (.istore_n 3, 1) := by decide +kernel
theorem dX3_hold_17 : decode cX3_hold 17 = .ok (.iload_n 3, 1) := by decide +kernel
theorem dX3_hold_18 : decode cX3_hold 18 = .ok (.bipush 40, 2) := by decide +kernel
theorem dX3_hold_20 : decode cX3_hold 20 = .ok (.if_icmp .ge 16, 3) := by decide +kernel
theorem dX3_hold_23 : decode cX3_hold 23 = .ok (.aload_n 0, 1) := by decide +kernel
theorem dX3_hold_24 : decode cX3_hold 24 = .ok (.getfield 9, 3) := by decide +kernel
theorem dX3_hold_27 : decode cX3_hold 27 = .ok (.iload_n 3, 1) := by decide +kernel
theorem dX3_hold_28 : decode cX3_hold 28 = .ok (.iconst 0, 1) := by decide +kernel
theorem dX3_hold_29 : decode cX3_hold 29 = .ok (.iastore, 1) := by decide +kernel
theorem dX3_hold_30 : decode cX3_hold 30 = .ok (.iinc 3 1, 3) := by decide +kernel
theorem dX3_hold_33 : decode cX3_hold 33 = .ok (.goto (-16), 3) := by decide +kernel
theorem dX3_hold_36 : decode cX3_hold 36 = .ok (.return_, 1) := by decide +kernel
theorem dX3_spans_0 : decode cX3_spans 0 = .ok (.iload_n 1, 1) := by decide +kernel
theorem dX3_spans_1 : decode cX3_spans 1 = .ok (.ifCond .lt 29, 3) := by decide +kernel
theorem dX3_spans_4 : decode cX3_spans 4 = .ok (.iload_n 2, 1) := by decide +kernel
theorem dX3_spans_5 : decode cX3_spans 5 = .ok (.ifCond .lt 25, 3) := by decide +kernel
theorem dX3_spans_8 : decode cX3_spans 8 = .ok (.iload_n 2, 1) := by decide +kernel
theorem dX3_spans_9 : decode cX3_spans 9 = .ok (.aload_n 0, 1) := by decide +kernel
theorem dX3_spans_10 : decode cX3_spans 10 = .ok (.getfield 23, 3) := by decide +kernel
theorem dX3_spans_13 : decode cX3_spans 13 = .ok (.if_icmp .gt 17, 3) := by decide +kernel
theorem dX3_spans_16 : decode cX3_spans 16 = .ok (.iload_n 1, 1) := by decide +kernel
theorem dX3_spans_17 : decode cX3_spans 17 = .ok (.aload_n 0, 1) := by decide +kernel
theorem dX3_spans_18 : decode cX3_spans 18 = .ok (.getfield 23, 3) := by decide +kernel
theorem dX3_spans_21 : decode cX3_spans 21 = .ok (.iload_n 2, 1) := by decide +kernel
theorem dX3_spans_22 : decode cX3_spans 22 = .ok (.isub, 1) := by decide +kernel
theorem dX3_spans_23 : decode cX3_spans 23 = .ok (.if_icmp .gt 7, 3) := by decide +kernel
theorem dX3_spans_26 : decode cX3_spans 26 = .ok (.iconst 1, 1) := by decide +kernel
theorem dX3_spans_27 : decode cX3_spans 27 = .ok (.goto 4, 3) := by decide +kernel
theorem dX3_spans_30 : decode cX3_spans 30 = .ok (.iconst 0, 1) := by decide +kernel
theorem dX3_spans_31 : decode cX3_spans 31 = .ok (.ireturn, 1) := by decide +kernel
theorem dX4_init_0 : decode cX4_init 0 = .ok (.aload_n 0, 1) := by decide +kernel
theorem dX4_init_1 : decode cX4_init 1 = .ok (.invokespecial 3, 3) := by decide +kernel
theorem dX4_init_4 : decode cX4_init 4 = .ok (.aload_n 0, 1) := by decide +kernel
theorem dX4_init_5 : decode cX4_init 5 = .ok (.bipush 40, 2) := by decide +kernel
theorem dX4_init_7 : decode cX4_init 7 = .ok (.bipush 24, 2) := by decide +kernel
theorem dX4_init_9 : decode cX4_init 9 = .ok (.multianewarray 9 2, 4) := by decide +kernel
theorem dX4_init_13 : decode cX4_init 13 = .ok (.putfield 11, 3) := by decide +kernel
theorem dX4_init_16 : decode cX4_init 16 = .ok (.aload_n 0, 1) := by decide +kernel
theorem dX4_init_17 : decode cX4_init 17 = .ok (.bipush 40, 2) := by decide +kernel
theorem dX4_init_19 : decode cX4_init 19 = .ok (.newarray .int, 2) := by decide +kernel
theorem dX4_init_21 : decode cX4_init 21 = .ok (.putfield 16, 3) := by decide +kernel
theorem dX4_init_24 : decode cX4_init 24 = .ok (.aload_n 0, 1) := by decide +kernel
theorem dX4_init_25 : decode cX4_init 25 = .ok (.iconst 0, 1) := by decide +kernel
theorem dX4_init_26 : decode cX4_init 26 = .ok (.putfield 20, 3) := by decide +kernel
theorem dX4_init_29 : decode cX4_init 29 = .ok (.return_, 1) := by decide +kernel
theorem dX4_isFull_0 : decode cX4_isFull 0 = .ok (.aload_n 0, 1) := by decide +kernel
theorem dX4_isFull_1 : decode cX4_isFull 1 = .ok (.getfield 20, 3) := by decide +kernel
theorem dX4_isFull_4 : decode cX4_isFull 4 = .ok (.bipush 40, 2) := by decide +kernel
theorem dX4_isFull_6 : decode cX4_isFull 6 = .ok (.if_icmp .lt 7, 3) := by decide +kernel
theorem dX4_isFull_9 : decode cX4_isFull 9 = .ok (.iconst 1, 1) := by decide +kernel
theorem dX4_isFull_10 : decode cX4_isFull 10 = .ok (.goto 4, 3) := by decide +kernel
theorem dX4_isFull_13 : decode cX4_isFull 13 = .ok (.iconst 0, 1) := by decide +kernel
theorem dX4_isFull_14 : decode cX4_isFull 14 = .ok (.ireturn, 1) := by decide +kernel
theorem dX4_begin_0 : decode cX4_begin 0 = .ok (.aload_n 0, 1) := by decide +kernel
theorem dX4_begin_1 : decode cX4_begin 1 = .ok (.invokevirtual 24, 3) := by decide +kernel
theorem dX4_begin_4 : decode cX4_begin 4 = .ok (.ifCond .ne 13, 3) := by decide +kernel
theorem dX4_begin_7 : decode cX4_begin 7 = .ok (.aload_n 0, 1) := by decide +kernel
theorem dX4_begin_8 : decode cX4_begin 8 = .ok (.dup, 1) := by decide +kernel
theorem dX4_begin_9 : decode cX4_begin 9 = .ok (.getfield 20, 3) := by decide +kernel
theorem dX4_begin_12 : decode cX4_begin 12 = .ok (.iconst 1, 1) := by decide +kernel
theorem dX4_begin_13 : decode cX4_begin 13 = .ok (.iadd, 1) := by decide +kernel
theorem dX4_begin_14 : decode cX4_begin 14 = .ok (.putfield 20, 3) := by decide +kernel
theorem dX4_begin_17 : decode cX4_begin 17 = .ok (.return_, 1) := by decide +kernel
theorem dX4_append_0 : decode cX4_append 0 = .ok (.aload_n 0, 1) := by decide +kernel
theorem dX4_append_1 : decode cX4_append 1 = .ok (.getfield 20, 3) := by decide +kernel
theorem dX4_append_4 : decode cX4_append 4 = .ok (.iconst 1, 1) := by decide +kernel
theorem dX4_append_5 : decode cX4_append 5 = .ok (.isub, 1) := by decide +kernel
theorem dX4_append_6 : decode cX4_append 6 = .ok (.istore_n 2, 1) := by decide +kernel
theorem dX4_append_7 : decode cX4_append 7 = .ok (.iload_n 2, 1) := by decide +kernel
theorem dX4_append_8 : decode cX4_append 8 = .ok (.ifCond .lt 39, 3) := by decide +kernel
theorem dX4_append_11 : decode cX4_append 11 = .ok (.aload_n 0, 1) := by decide +kernel
theorem dX4_append_12 : decode cX4_append 12 = .ok (.getfield 16, 3) := by decide +kernel
theorem dX4_append_15 : decode cX4_append 15 = .ok (.iload_n 2, 1) := by decide +kernel
theorem dX4_append_16 : decode cX4_append 16 = .ok (.iaload, 1) := by decide +kernel
theorem dX4_append_17 : decode cX4_append 17 = .ok (.bipush 24, 2) := by decide +kernel
theorem dX4_append_19 : decode cX4_append 19 = .ok (.if_icmp .ge 28, 3) := by decide +kernel
theorem dX4_append_22 : decode cX4_append 22 = .ok (.aload_n 0, 1) := by decide +kernel
theorem dX4_append_23 : decode cX4_append 23 = .ok (.getfield 11, 3) := by decide +kernel
theorem dX4_append_26 : decode cX4_append 26 = .ok (.iload_n 2, 1) := by decide +kernel
theorem dX4_append_27 : decode cX4_append 27 = .ok (.aaload, 1) := by decide +kernel
theorem dX4_append_28 : decode cX4_append 28 = .ok (.aload_n 0, 1) := by decide +kernel
theorem dX4_append_29 : decode cX4_append 29 = .ok (.getfield 16, 3) := by decide +kernel
theorem dX4_append_32 : decode cX4_append 32 = .ok (.iload_n 2, 1) := by decide +kernel
theorem dX4_append_33 : decode cX4_append 33 = .ok (.iaload, 1) := by decide +kernel
theorem dX4_append_34 : decode cX4_append 34 = .ok (.iload_n 1, 1) := by decide +kernel
theorem dX4_append_35 : decode cX4_append 35 = .ok (.i2b, 1) := by decide +kernel
theorem dX4_append_36 : decode cX4_append 36 = .ok (.bastore, 1) := by decide +kernel
theorem dX4_append_37 : decode cX4_append 37 = .ok (.aload_n 0, 1) := by decide +kernel
theorem dX4_append_38 : decode cX4_append 38 = .ok (.getfield 16, 3) := by decide +kernel
theorem dX4_append_41 : decode cX4_append 41 = .ok (.iload_n 2, 1) := by decide +kernel
theorem dX4_append_42 : decode cX4_append 42 = .ok (.dup2, 1) := by decide +kernel
theorem dX4_append_43 : decode cX4_append 43 = .ok (.iaload, 1) := by decide +kernel
theorem dX4_append_44 : decode cX4_append 44 = .ok (.iconst 1, 1) := by decide +kernel
theorem dX4_append_45 : decode cX4_append 45 = .ok (.iadd, 1) := by decide +kernel
theorem dX4_append_46 : decode cX4_append 46 = .ok (.iastore, 1) := by decide +kernel
theorem dX4_append_47 : decode cX4_append 47 = .ok (.return_, 1) := by decide +kernel
theorem dX5_init_0 : decode cX5_init 0 = .ok (.aload_n 0, 1) := by decide +kernel
theorem dX5_init_1 : decode cX5_init 1 = .ok (.invokespecial 3, 3) := by decide +kernel
theorem dX5_init_4 : decode cX5_init 4 = .ok (.aload_n 0, 1) := by decide +kernel
theorem dX5_init_5 : decode cX5_init 5 = .ok (.bipush 60, 2) := by decide +kernel
theorem dX5_init_7 : decode cX5_init 7 = .ok (.newarray .int, 2) := by decide +kernel
theorem dX5_init_9 : decode cX5_init 9 = .ok (.putfield 9, 3) := by decide +kernel
theorem dX5_init_12 : decode cX5_init 12 = .ok (.aload_n 0, 1) := by decide +kernel
theorem dX5_init_13 : decode cX5_init 13 = .ok (.bipush 60, 2) := by decide +kernel
theorem dX5_init_15 : decode cX5_init 15 = .ok (.newarray .int, 2) := by decide +kernel
theorem dX5_init_17 : decode cX5_init 17 = .ok (.putfield 15, 3) := by decide +kernel
theorem dX5_init_20 : decode cX5_init 20 = .ok (.aload_n 0, 1) := by decide +kernel
theorem dX5_init_21 : decode cX5_init 21 = .ok (.bipush 60, 2) := by decide +kernel
theorem dX5_init_23 : decode cX5_init 23 = .ok (.newarray .int, 2) := by decide +kernel
theorem dX5_init_25 : decode cX5_init 25 = .ok (.putfield 18, 3) := by decide +kernel
theorem dX5_init_28 : decode cX5_init 28 = .ok (.aload_n 0, 1) := by decide +kernel
theorem dX5_init_29 : decode cX5_init 29 = .ok (.bipush 12, 2) := by decide +kernel
theorem dX5_init_31 : decode cX5_init 31 = .ok (.bipush 8, 2) := by decide +kernel
theorem dX5_init_33 : decode cX5_init 33 = .ok (.multianewarray 21 2, 4) := by decide +kernel
theorem dX5_init_37 : decode cX5_init 37 = .ok (.putfield 23, 3) := by decide +kernel
theorem dX5_init_40 : decode cX5_init 40 = .ok (.aload_n 0, 1) := by decide +kernel
theorem dX5_init_41 : decode cX5_init 41 = .ok (.bipush 12, 2) := by decide +kernel
theorem dX5_init_43 : decode cX5_init 43 = .ok (.newarray .int, 2) := by decide +kernel
theorem dX5_init_45 : decode cX5_init 45 = .ok (.putfield 26, 3) := by decide +kernel
theorem dX5_init_48 : decode cX5_init 48 = .ok (.aload_n 0, 1) := by decide +kernel
theorem dX5_init_49 : decode cX5_init 49 = .ok (.iconst 0, 1) := by decide +kernel
theorem dX5_init_50 : decode cX5_init 50 = .ok (.putfield 29, 3) := by decide +kernel
theorem dX5_init_53 : decode cX5_init 53 = .ok (.return_, 1) := by decide +kernel
theorem dX5_knows_0 : decode cX5_knows 0 = .ok (.iload_n 1, 1) := by decide +kernel
theorem dX5_knows_1 : decode cX5_knows 1 = .ok (.ifCond .lt 15, 3) := by decide +kernel
theorem dX5_knows_4 : decode cX5_knows 4 = .ok (.iload_n 1, 1) := by decide +kernel
theorem dX5_knows_5 : decode cX5_knows 5 = .ok (.aload_n 0, 1) := by decide +kernel
theorem dX5_knows_6 : decode cX5_knows 6 = .ok (.getfield 29, 3) := by decide +kernel
theorem dX5_knows_9 : decode cX5_knows 9 = .ok (.if_icmp .ge 7, 3) := by decide +kernel
theorem dX5_knows_12 : decode cX5_knows 12 = .ok (.iconst 1, 1) := by decide +kernel
theorem dX5_knows_13 : decode cX5_knows 13 = .ok (.goto 4, 3) := by decide +kernel
theorem dX5_knows_16 : decode cX5_knows 16 = .ok (.iconst 0, 1) := by decide +kernel
theorem dX5_knows_17 : decode cX5_knows 17 = .ok (.ireturn, 1) := by decide +kernel
theorem dX5_newMould_0 : decode cX5_newMould 0 = .ok (.aload_n 0, 1) := by decide +kernel
theorem dX5_newMould_1 : decode cX5_newMould 1 = .ok (.getfield 29, 3) := by decide +kernel
theorem dX5_newMould_4 : decode cX5_newMould 4 = .ok (.bipush 60, 2) := by decide +kernel
theorem dX5_newMould_6 : decode cX5_newMould 6 = .ok (.if_icmp .lt 6, 3) := by decide +kernel
theorem dX5_newMould_9 : decode cX5_newMould 9 = .ok (.bipush (-3), 2) := by decide +kernel
theorem dX5_newMould_11 : decode cX5_newMould 11 = .ok (.ireturn, 1) := by decide +kernel
theorem dX5_newMould_12 : decode cX5_newMould 12 = .ok (.aload_n 0, 1) := by decide +kernel
theorem dX5_newMould_13 : decode cX5_newMould 13 = .ok (.getfield 29, 3) := by decide +kernel
theorem dX5_newMould_16 : decode cX5_newMould 16 = .ok (.istore_n 3, 1) := by decide +kernel
theorem dX5_newMould_17 : decode cX5_newMould 17 = .ok (.aload_n 0, 1) := by decide +kernel
theorem dX5_newMould_18 : decode cX5_newMould 18 = .ok (.dup, 1) := by decide +kernel
theorem dX5_newMould_19 : decode cX5_newMould 19 = .ok (.getfield 29, 3) := by decide +kernel
theorem dX5_newMould_22 : decode cX5_newMould 22 = .ok (.iconst 1, 1) := by decide +kernel
theorem dX5_newMould_23 : decode cX5_newMould 23 = .ok (.iadd, 1) := by decide +kernel
theorem dX5_newMould_24 : decode cX5_newMould 24 = .ok (.putfield 29, 3) := by decide +kernel
theorem dX5_newMould_27 : decode cX5_newMould 27 = .ok (.aload_n 0, 1) := by decide +kernel
theorem dX5_newMould_28 : decode cX5_newMould 28 = .ok (.getfield 9, 3) := by decide +kernel
theorem dX5_newMould_31 : decode cX5_newMould 31 = .ok (.iload_n 3, 1) := by decide +kernel
theorem dX5_newMould_32 : decode cX5_newMould 32 = .ok (.iload_n 1, 1) := by decide +kernel
theorem dX5_newMould_33 : decode cX5_newMould 33 = .ok (.iastore, 1) := by decide +kernel
theorem dX5_newMould_34 : decode cX5_newMould 34 = .ok (.aload_n 0, 1) := by decide +kernel
theorem dX5_newMould_35 : decode cX5_newMould 35 = .ok (.getfield 15, 3) := by decide +kernel
theorem dX5_newMould_38 : decode cX5_newMould 38 = .ok (.iload_n 3, 1) := by decide +kernel
theorem dX5_newMould_39 : decode cX5_newMould 39 = .ok (.iload_n 2, 1) := by decide +kernel
theorem dX5_newMould_40 : decode cX5_newMould 40 = .ok (.iastore, 1) := by decide +kernel
theorem dX5_newMould_41 : decode cX5_newMould 41 = .ok (.aload_n 0, 1) := by decide +kernel
theorem dX5_newMould_42 : decode cX5_newMould 42 = .ok (.getfield 18, 3) := by decide +kernel
theorem dX5_newMould_45 : decode cX5_newMould 45 = .ok (.iload_n 3, 1) := by decide +kernel
theorem dX5_newMould_46 : decode cX5_newMould 46 = .ok (.bipush 12, 2) := by decide +kernel
theorem dX5_newMould_48 : decode cX5_newMould 48 = .ok (.iastore, 1) := by decide +kernel
theorem dX5_newMould_49 : decode cX5_newMould 49 = .ok (.aload_n 0, 1) := by decide +kernel
theorem dX5_newMould_50 : decode cX5_newMould 50 = .ok (.iload_n 3, 1) := by decide +kernel
theorem dX5_newMould_51 : decode cX5_newMould 51 = .ok (.iload_n 1, 1) := by decide +kernel
theorem dX5_newMould_52 : decode cX5_newMould 52 = .ok (.invokevirtual 33, 3) := by decide +kernel
theorem dX5_newMould_55 : decode cX5_newMould 55 = .ok (.pop, 1) := by decide +kernel
theorem dX5_newMould_56 : decode cX5_newMould 56 = .ok (.iload_n 3, 1) := by decide +kernel
theorem dX5_newMould_57 : decode cX5_newMould 57 = .ok (.ireturn, 1) := by decide +kernel
theorem dX5_lay_0 : decode cX5_lay 0 = .ok (.aload_n 0, 1) := by decide +kernel
theorem dX5_lay_1 : decode cX5_lay 1 = .ok (.getfield 26, 3) := by decide +kernel
theorem dX5_lay_4 : decode cX5_lay 4 = .ok (.iload_n 2, 1) := by decide +kernel
theorem dX5_lay_5 : decode cX5_lay 5 = .ok (.iaload, 1) := by decide +kernel
theorem dX5_lay_6 : decode cX5_lay 6 = .ok (.bipush 8, 2) := by decide +kernel
theorem dX5_lay_8 : decode cX5_lay 8 = .ok (.if_icmp .lt 5, 3) := by decide +kernel
theorem dX5_lay_11 : decode cX5_lay 11 = .ok (.iconst 0, 1) := by decide +kernel
theorem dX5_lay_12 : decode cX5_lay 12 = .ok (.ireturn, 1) := by decide +kernel
theorem dX5_lay_13 : decode cX5_lay 13 = .ok (.aload_n 0, 1) := by decide +kernel
theorem dX5_lay_14 : decode cX5_lay 14 = .ok (.getfield 23, 3) := by decide +kernel
theorem dX5_lay_17 : decode cX5_lay 17 = .ok (.iload_n 2, 1) := by decide +kernel
theorem dX5_lay_18 : decode cX5_lay 18 = .ok (.aaload, 1) := by decide +kernel
theorem dX5_lay_19 : decode cX5_lay 19 = .ok (.aload_n 0, 1) := by decide +kernel
theorem dX5_lay_20 : decode cX5_lay 20 = .ok (.getfield 26, 3) := by decide +kernel
theorem dX5_lay_23 : decode cX5_lay 23 = .ok (.iload_n 2, 1) := by decide +kernel
theorem dX5_lay_24 : decode cX5_lay 24 = .ok (.iaload, 1) := by decide +kernel
theorem dX5_lay_25 : decode cX5_lay 25 = .ok (.iload_n 1, 1) := by decide +kernel
theorem dX5_lay_26 : decode cX5_lay 26 = .ok (.iastore, 1) := by decide +kernel
theorem dX5_lay_27 : decode cX5_lay 27 = .ok (.aload_n 0, 1) := by decide +kernel
theorem dX5_lay_28 : decode cX5_lay 28 = .ok (.getfield 26, 3) := by decide +kernel
theorem dX5_lay_31 : decode cX5_lay 31 = .ok (.iload_n 2, 1) := by decide +kernel
theorem dX5_lay_32 : decode cX5_lay 32 = .ok (.dup2, 1) := by decide +kernel
theorem dX5_lay_33 : decode cX5_lay 33 = .ok (.iaload, 1) := by decide +kernel
theorem dX5_lay_34 : decode cX5_lay 34 = .ok (.iconst 1, 1) := by decide +kernel
theorem dX5_lay_35 : decode cX5_lay 35 = .ok (.iadd, 1) := by decide +kernel
theorem dX5_lay_36 : decode cX5_lay 36 = .ok (.iastore, 1) := by decide +kernel
theorem dX5_lay_37 : decode cX5_lay 37 = .ok (.aload_n 0, 1) := by decide +kernel
theorem dX5_lay_38 : decode cX5_lay 38 = .ok (.getfield 18, 3) := by decide +kernel
theorem dX5_lay_41 : decode cX5_lay 41 = .ok (.iload_n 1, 1) := by decide +kernel
theorem dX5_lay_42 : decode cX5_lay 42 = .ok (.iload_n 2, 1) := by decide +kernel
theorem dX5_lay_43 : decode cX5_lay 43 = .ok (.iastore, 1) := by decide +kernel
theorem dX5_lay_44 : decode cX5_lay 44 = .ok (.iconst 1, 1) := by decide +kernel
theorem dX5_lay_45 : decode cX5_lay 45 = .ok (.ireturn, 1) := by decide +kernel
theorem dX5_takeFirst_0 : decode cX5_takeFirst 0 = .ok (.aload_n 0, 1) := by decide +kernel
theorem dX5_takeFirst_1 : decode cX5_takeFirst 1 = .ok (.getfield 26, 3) := by decide +kernel
theorem dX5_takeFirst_4 : decode cX5_takeFirst 4 = .ok (.iload_n 1, 1) := by decide +kernel
theorem dX5_takeFirst_5 : decode cX5_takeFirst 5 = .ok (.iaload, 1) := by decide +kernel
theorem dX5_takeFirst_6 : decode cX5_takeFirst 6 = .ok (.ifCond .ne 6, 3) := by decide +kernel
theorem dX5_takeFirst_9 : decode cX5_takeFirst 9 = .ok (.bipush (-4), 2) := by decide +kernel
theorem dX5_takeFirst_11 : decode cX5_takeFirst 11 = .ok (.ireturn, 1) := by decide +kernel
theorem dX5_takeFirst_12 : decode cX5_takeFirst 12 = .ok (.aload_n 0, 1) := by decide +kernel
theorem dX5_takeFirst_13 : decode cX5_takeFirst 13 = .ok (.getfield 23, 3) := by decide +kernel
theorem dX5_takeFirst_16 : decode cX5_takeFirst 16 = .ok (.iload_n 1, 1) := by decide +kernel
theorem dX5_takeFirst_17 : decode cX5_takeFirst 17 = .ok (.aaload, 1) := by decide +kernel
theorem dX5_takeFirst_18 : decode cX5_takeFirst 18 = .ok (.astore_n 2, 1) := by decide +kernel
theorem dX5_takeFirst_19 : decode cX5_takeFirst 19 = .ok (.aload_n 2, 1) := by decide +kernel
theorem dX5_takeFirst_20 : decode cX5_takeFirst 20 = .ok (.iconst 0, 1) := by decide +kernel
theorem dX5_takeFirst_21 : decode cX5_takeFirst 21 = .ok (.iaload, 1) := by decide +kernel
theorem dX5_takeFirst_22 : decode cX5_takeFirst 22 = .ok (.istore_n 3, 1) := by decide +kernel
theorem dX5_takeFirst_23 : decode cX5_takeFirst 23 = .ok (.aload_n 0, 1) := by decide +kernel
theorem dX5_takeFirst_24 : decode cX5_takeFirst 24 = .ok (.getfield 26, 3) := by decide +kernel
theorem dX5_takeFirst_27 : decode cX5_takeFirst 27 = .ok (.iload_n 1, 1) := by decide +kernel
theorem dX5_takeFirst_28 : decode cX5_takeFirst 28 = .ok (.dup2, 1) := by decide +kernel
theorem dX5_takeFirst_29 : decode cX5_takeFirst 29 = .ok (.iaload, 1) := by decide +kernel
theorem dX5_takeFirst_30 : decode cX5_takeFirst 30 = .ok (.iconst 1, 1) := by decide +kernel
theorem dX5_takeFirst_31 : decode cX5_takeFirst 31 = .ok (.isub, 1) := by decide +kernel
theorem dX5_takeFirst_32 : decode cX5_takeFirst 32 = .ok (.iastore, 1) := by decide +kernel
theorem dX5_takeFirst_33 : decode cX5_takeFirst 33 = .ok (.aload_n 2, 1) := by decide +kernel
theorem dX5_takeFirst_34 : decode cX5_takeFirst 34 = .ok (.iconst 1, 1) := by decide +kernel
theorem dX5_takeFirst_35 : decode cX5_takeFirst 35 = .ok (.aload_n 2, 1) := by decide +kernel
theorem dX5_takeFirst_36 : decode cX5_takeFirst 36 = .ok (.iconst 0, 1) := by decide +kernel
theorem dX5_takeFirst_37 : decode cX5_takeFirst 37 = .ok (.aload_n 0, 1) := by decide +kernel
theorem dX5_takeFirst_38 : decode cX5_takeFirst 38 = .ok (.getfield 26, 3) := by decide +kernel
theorem dX5_takeFirst_41 : decode cX5_takeFirst 41 = .ok (.iload_n 1, 1) := by decide +kernel
theorem dX5_takeFirst_42 : decode cX5_takeFirst 42 = .ok (.iaload, 1) := by decide +kernel
theorem dX5_takeFirst_43 : decode cX5_takeFirst 43 = .ok (.invokestatic 37, 3) := by decide +kernel
theorem dX5_takeFirst_46 : decode cX5_takeFirst 46 = .ok (.aload_n 0, 1) := by decide +kernel
theorem dX5_takeFirst_47 : decode cX5_takeFirst 47 = .ok (.getfield 18, 3) := by decide +kernel
theorem dX5_takeFirst_50 : decode cX5_takeFirst 50 = .ok (.iload_n 3, 1) := by decide +kernel
theorem dX5_takeFirst_51 : decode cX5_takeFirst 51 = .ok (.bipush 13, 2) := by decide +kernel
theorem dX5_takeFirst_53 : decode cX5_takeFirst 53 = .ok (.iastore, 1) := by decide +kernel
theorem dX5_takeFirst_54 : decode cX5_takeFirst 54 = .ok (.iload_n 3, 1) := by decide +kernel
theorem dX5_takeFirst_55 : decode cX5_takeFirst 55 = .ok (.ireturn, 1) := by decide +kernel
theorem dX5_countBetween_0 : decode cX5_countBetween 0 = .ok (.iconst 0, 1) := by decide +kernel
theorem dX5_countBetween_1 : decode cX5_countBetween 1 = .ok (.istore_n 3, 1) := by decide +kernel
theorem dX5_countBetween_2 : decode cX5_countBetween 2 = .ok (.iconst 0, 1) := by decide +kernel
theorem dX5_countBetween_3 : decode cX5_countBetween 3 = .ok (.istore 4, 2) := by decide +kernel
theorem dX5_countBetween_5 : decode cX5_countBetween 5 = .ok (.iload 4, 2) := by decide +kernel
theorem dX5_countBetween_7 : decode cX5_countBetween 7 = .ok (.aload_n 0, 1) := by decide +kernel
theorem dX5_countBetween_8 : decode cX5_countBetween 8 = .ok (.getfield 29, 3) := by decide +kernel
theorem dX5_countBetween_11 : decode cX5_countBetween 11 = .ok (.if_icmp .ge 34, 3) := by decide +kernel
theorem dX5_countBetween_14 : decode cX5_countBetween 14 = .ok (.aload_n 0, 1) := by decide +kernel
theorem dX5_countBetween_15 : decode cX5_countBetween 15 = .ok (.getfield 18, 3) := by decide +kernel
theorem dX5_countBetween_18 : decode cX5_countBetween 18 = .ok (.iload 4, 2) := by decide +kernel
theorem dX5_countBetween_20 : decode cX5_countBetween 20 = .ok (.iaload, 1) := by decide +kernel
theorem dX5_countBetween_21 : decode cX5_countBetween 21 = .ok (.iload_n 1, 1) := by decide +kernel
theorem dX5_countBetween_22 : decode cX5_countBetween 22 = .ok (.if_icmp .lt 17, 3) := by decide +kernel
theorem dX5_countBetween_25 : decode cX5_countBetween 25 = .ok (.aload_n 0, 1) := by decide +kernel
theorem dX5_countBetween_26 : decode cX5_countBetween 26 = .ok (.getfield 18, 3) := by decide +kernel
theorem dX5_countBetween_29 : decode cX5_countBetween 29 = .ok (.iload 4, 2) := by decide +kernel
theorem dX5_countBetween_31 : decode cX5_countBetween 31 = .ok (.iaload, 1) := by decide +kernel
theorem dX5_countBetween_32 : decode cX5_countBetween 32 = .ok (.iload_n 2, 1) := by decide +kernel
theorem dX5_countBetween_33 : decode cX5_countBetween 33 = .ok (.if_icmp .gt 6, 3) := by decide +kernel
theorem dX5_countBetween_36 : decode cX5_countBetween 36 = .ok (.iinc 3 1, 3) := by decide +kernel
theorem dX5_countBetween_39 : decode cX5_countBetween 39 = .ok (.iinc 4 1, 3) := by decide +kernel
theorem dX5_countBetween_42 : decode cX5_countBetween 42 = .ok (.goto (-37), 3) := by decide +kernel
theorem dX5_countBetween_45 : decode cX5_countBetween 45 = .ok (.iload_n 3, 1) := by decide +kernel
theorem dX5_countBetween_46 : decode cX5_countBetween 46 = .ok (.ireturn, 1) := by decide +kernel
theorem dX6_init_0 : decode cX6_init 0 = .ok (.aload_n 0, 1) := by decide +kernel
theorem dX6_init_1 : decode cX6_init 1 = .ok (.invokespecial 3, 3) := by decide +kernel
theorem dX6_init_4 : decode cX6_init 4 = .ok (.aload_n 0, 1) := by decide +kernel
theorem dX6_init_5 : decode cX6_init 5 = .ok (.bipush 60, 2) := by decide +kernel
theorem dX6_init_7 : decode cX6_init 7 = .ok (.newarray .int, 2) := by decide +kernel
theorem dX6_init_9 : decode cX6_init 9 = .ok (.putfield 9, 3) := by decide +kernel
theorem dX6_init_12 : decode cX6_init 12 = .ok (.aload_n 0, 1) := by decide +kernel
theorem dX6_init_13 : decode cX6_init 13 = .ok (.iconst 0, 1) := by decide +kernel
theorem dX6_init_14 : decode cX6_init 14 = .ok (.putfield 15, 3) := by decide +kernel
theorem dX6_init_17 : decode cX6_init 17 = .ok (.return_, 1) := by decide +kernel
theorem dX6_append_0 : decode cX6_append 0 = .ok (.aload_n 0, 1) := by decide +kernel
theorem dX6_append_1 : decode cX6_append 1 = .ok (.getfield 15, 3) := by decide +kernel
theorem dX6_append_4 : decode cX6_append 4 = .ok (.bipush 60, 2) := by decide +kernel
theorem dX6_append_6 : decode cX6_append 6 = .ok (.if_icmp .ge 23, 3) := by decide +kernel
theorem dX6_append_9 : decode cX6_append 9 = .ok (.aload_n 0, 1) := by decide +kernel
theorem dX6_append_10 : decode cX6_append 10 = .ok (.getfield 9, 3) := by decide +kernel
theorem dX6_append_13 : decode cX6_append 13 = .ok (.aload_n 0, 1) := by decide +kernel
theorem dX6_append_14 : decode cX6_append 14 = .ok (.getfield 15, 3) := by decide +kernel
theorem dX6_append_17 : decode cX6_append 17 = .ok (.iload_n 1, 1) := by decide +kernel
theorem dX6_append_18 : decode cX6_append 18 = .ok (.iastore, 1) := by decide +kernel
theorem dX6_append_19 : decode cX6_append 19 = .ok (.aload_n 0, 1) := by decide +kernel
theorem dX6_append_20 : decode cX6_append 20 = .ok (.dup, 1) := by decide +kernel
theorem dX6_append_21 : decode cX6_append 21 = .ok (.getfield 15, 3) := by decide +kernel
theorem dX6_append_24 : decode cX6_append 24 = .ok (.iconst 1, 1) := by decide +kernel
theorem dX6_append_25 : decode cX6_append 25 = .ok (.iadd, 1) := by decide +kernel
theorem dX6_append_26 : decode cX6_append 26 = .ok (.putfield 15, 3) := by decide +kernel
theorem dX6_append_29 : decode cX6_append 29 = .ok (.return_, 1) := by decide +kernel
theorem dX6_firstUnplayable_0 : decode cX6_firstUnplayable 0 = .ok (.iconst 0, 1) := by decide +kernel
theorem dX6_firstUnplayable_1 : decode cX6_firstUnplayable 1 = .ok (.istore_n 1, 1) := by decide +kernel
theorem dX6_firstUnplayable_2 : decode cX6_firstUnplayable 2 = .ok (.iload_n 1, 1) := by decide +kernel
theorem dX6_firstUnplayable_3 : decode cX6_firstUnplayable 3 = .ok (.aload_n 0, 1) := by decide +kernel
theorem dX6_firstUnplayable_4 : decode cX6_firstUnplayable 4 = .ok (.getfield 15, 3) := by decide +kernel
theorem dX6_firstUnplayable_7 : decode cX6_firstUnplayable 7 = .ok (.if_icmp .ge 54, 3) := by decide +kernel
theorem dX6_firstUnplayable_10 : decode cX6_firstUnplayable 10 = .ok (.aload_n 0, 1) := by decide +kernel
theorem dX6_firstUnplayable_11 : decode cX6_firstUnplayable 11 = .ok (.getfield 9, 3) := by decide +kernel
theorem dX6_firstUnplayable_14 : decode cX6_firstUnplayable 14 = .ok (.iload_n 1, 1) := by decide +kernel
theorem dX6_firstUnplayable_15 : decode cX6_firstUnplayable 15 = .ok (.iaload, 1) := by decide +kernel
theorem dX6_firstUnplayable_16 : decode cX6_firstUnplayable 16 = .ok (.bipush 97, 2) := by decide +kernel
theorem dX6_firstUnplayable_18 : decode cX6_firstUnplayable 18 = .ok (.if_icmp .lt 18, 3) := by decide +kernel
theorem dX6_firstUnplayable_21 : decode cX6_firstUnplayable 21 = .ok (.aload_n 0, 1) := by decide +kernel
theorem dX6_firstUnplayable_22 : decode cX6_firstUnplayable 22 = .ok (.getfield 9, 3) := by decide +kernel
theorem dX6_firstUnplayable_25 : decode cX6_firstUnplayable 25 = .ok (.iload_n 1, 1) := by decide +kernel
theorem dX6_firstUnplayable_26 : decode cX6_firstUnplayable 26 = .ok (.iaload, 1) := by decide +kernel
theorem dX6_firstUnplayable_27 : decode cX6_firstUnplayable 27 = .ok (.bipush 109, 2) := by decide +kernel
theorem dX6_firstUnplayable_29 : decode cX6_firstUnplayable 29 = .ok (.if_icmp .ge 7, 3) := by decide +kernel
theorem dX6_firstUnplayable_32 : decode cX6_firstUnplayable 32 = .ok (.iconst 1, 1) := by decide +kernel
theorem dX6_firstUnplayable_33 : decode cX6_firstUnplayable 33 = .ok (.goto 4, 3) := by decide +kernel
theorem dX6_firstUnplayable_36 : decode cX6_firstUnplayable 36 = .ok (.iconst 0, 1) := by decide +kernel
theorem dX6_firstUnplayable_37 : decode cX6_firstUnplayable 37 = .ok (.istore_n 2, 1) := by decide +kernel
theorem dX6_firstUnplayable_38 : decode cX6_firstUnplayable 38 = .ok (.iload_n 2, 1) := by decide +kernel
theorem dX6_firstUnplayable_39 : decode cX6_firstUnplayable 39 = .ok (.ifCond .ne 16, 3) := by decide +kernel
theorem dX6_firstUnplayable_42 : decode cX6_firstUnplayable 42 = .ok (.aload_n 0, 1) := by decide +kernel
theorem dX6_firstUnplayable_43 : decode cX6_firstUnplayable 43 = .ok (.getfield 9, 3) := by decide +kernel
theorem dX6_firstUnplayable_46 : decode cX6_firstUnplayable 46 = .ok (.iload_n 1, 1) := by decide +kernel
theorem dX6_firstUnplayable_47 : decode cX6_firstUnplayable 47 = .ok (.iaload, 1) := by decide +kernel
theorem dX6_firstUnplayable_48 : decode cX6_firstUnplayable 48 = .ok (.bipush 32, 2) := by decide +kernel
theorem dX6_firstUnplayable_50 : decode cX6_firstUnplayable 50 = .ok (.if_icmp .eq 5, 3) := by decide +kernel
theorem dX6_firstUnplayable_53 : decode cX6_firstUnplayable 53 = .ok (.iload_n 1, 1) := by decide +kernel
theorem dX6_firstUnplayable_54 : decode cX6_firstUnplayable 54 = .ok (.ireturn, 1) := by decide +kernel
theorem dX6_firstUnplayable_55 : decode cX6_firstUnplayable 55 = .ok (.iinc 1 1, 3) := by decide +kernel
theorem dX6_firstUnplayable_58 : decode cX6_firstUnplayable 58 = .ok (.goto (-56), 3) := by decide +kernel
theorem dX6_firstUnplayable_61 : decode cX6_firstUnplayable 61 = .ok (.aload_n 0, 1) := by decide +kernel
theorem dX6_firstUnplayable_62 : decode cX6_firstUnplayable 62 = .ok (.getfield 15, 3) := by decide +kernel
theorem dX6_firstUnplayable_65 : decode cX6_firstUnplayable 65 = .ok (.ireturn, 1) := by decide +kernel
theorem dX7_init_0 : decode cX7_init 0 = .ok (.aload_n 0, 1) := by decide +kernel
theorem dX7_init_1 : decode cX7_init 1 = .ok (.invokespecial 3, 3) := by decide +kernel
theorem dX7_init_4 : decode cX7_init 4 = .ok (.aload_n 0, 1) := by decide +kernel
theorem dX7_init_5 : decode cX7_init 5 = .ok (.new 9, 3) := by decide +kernel
theorem dX7_init_8 : decode cX7_init 8 = .ok (.dup, 1) := by decide +kernel
theorem dX7_init_9 : decode cX7_init 9 = .ok (.invokespecial 11, 3) := by decide +kernel
theorem dX7_init_12 : decode cX7_init 12 = .ok (.putfield 12, 3) := by decide +kernel
theorem dX7_init_15 : decode cX7_init 15 = .ok (.aload_n 0, 1) := by decide +kernel
theorem dX7_init_16 : decode cX7_init 16 = .ok (.new 16, 3) := by decide +kernel
theorem dX7_init_19 : decode cX7_init 19 = .ok (.dup, 1) := by decide +kernel
theorem dX7_init_20 : decode cX7_init 20 = .ok (.invokespecial 18, 3) := by decide +kernel
theorem dX7_init_23 : decode cX7_init 23 = .ok (.putfield 19, 3) := by decide +kernel
theorem dX7_init_26 : decode cX7_init 26 = .ok (.aload_n 0, 1) := by decide +kernel
theorem dX7_init_27 : decode cX7_init 27 = .ok (.new 23, 3) := by decide +kernel
theorem dX7_init_30 : decode cX7_init 30 = .ok (.dup, 1) := by decide +kernel
theorem dX7_init_31 : decode cX7_init 31 = .ok (.invokespecial 25, 3) := by decide +kernel
theorem dX7_init_34 : decode cX7_init 34 = .ok (.putfield 26, 3) := by decide +kernel
theorem dX7_init_37 : decode cX7_init 37 = .ok (.aload_n 0, 1) := by decide +kernel
theorem dX7_init_38 : decode cX7_init 38 = .ok (.new 30, 3) := by decide +kernel
theorem dX7_init_41 : decode cX7_init 41 = .ok (.dup, 1) := by decide +kernel
theorem dX7_init_42 : decode cX7_init 42 = .ok (.invokespecial 32, 3) := by decide +kernel
theorem dX7_init_45 : decode cX7_init 45 = .ok (.putfield 33, 3) := by decide +kernel
theorem dX7_init_48 : decode cX7_init 48 = .ok (.aload_n 0, 1) := by decide +kernel
theorem dX7_init_49 : decode cX7_init 49 = .ok (.new 37, 3) := by decide +kernel
theorem dX7_init_52 : decode cX7_init 52 = .ok (.dup, 1) := by decide +kernel
theorem dX7_init_53 : decode cX7_init 53 = .ok (.invokespecial 39, 3) := by decide +kernel
theorem dX7_init_56 : decode cX7_init 56 = .ok (.putfield 40, 3) := by decide +kernel
theorem dX7_init_59 : decode cX7_init 59 = .ok (.aload_n 0, 1) := by decide +kernel
theorem dX7_init_60 : decode cX7_init 60 = .ok (.new 44, 3) := by decide +kernel
theorem dX7_init_63 : decode cX7_init 63 = .ok (.dup, 1) := by decide +kernel
theorem dX7_init_64 : decode cX7_init 64 = .ok (.invokespecial 46, 3) := by decide +kernel
theorem dX7_init_67 : decode cX7_init 67 = .ok (.putfield 47, 3) := by decide +kernel
theorem dX7_init_70 : decode cX7_init 70 = .ok (.aload_n 0, 1) := by decide +kernel
theorem dX7_init_71 : decode cX7_init 71 = .ok (.iconst 4, 1) := by decide +kernel
theorem dX7_init_72 : decode cX7_init 72 = .ok (.anewarray 51, 3) := by decide +kernel
theorem dX7_init_75 : decode cX7_init 75 = .ok (.putfield 53, 3) := by decide +kernel
theorem dX7_init_78 : decode cX7_init 78 = .ok (.aload_n 0, 1) := by decide +kernel
theorem dX7_init_79 : decode cX7_init 79 = .ok (.bipush 12, 2) := by decide +kernel
theorem dX7_init_81 : decode cX7_init 81 = .ok (.newarray .int, 2) := by decide +kernel
theorem dX7_init_83 : decode cX7_init 83 = .ok (.putfield 57, 3) := by decide +kernel
theorem dX7_init_86 : decode cX7_init 86 = .ok (.aload_n 0, 1) := by decide +kernel
theorem dX7_init_87 : decode cX7_init 87 = .ok (.bipush 12, 2) := by decide +kernel
theorem dX7_init_89 : decode cX7_init 89 = .ok (.newarray .int, 2) := by decide +kernel
theorem dX7_init_91 : decode cX7_init 91 = .ok (.putfield 61, 3) := by decide +kernel
theorem dX7_init_94 : decode cX7_init 94 = .ok (.aload_n 0, 1) := by decide +kernel
theorem dX7_init_95 : decode cX7_init 95 = .ok (.iconst 4, 1) := by decide +kernel
theorem dX7_init_96 : decode cX7_init 96 = .ok (.newarray .int, 2) := by decide +kernel
theorem dX7_init_98 : decode cX7_init 98 = .ok (.dup, 1) := by decide +kernel
theorem dX7_init_99 : decode cX7_init 99 = .ok (.iconst 0, 1) := by decide +kernel
theorem dX7_init_100 : decode cX7_init 100 = .ok (.iconst 4, 1) := by decide +kernel
theorem dX7_init_101 : decode cX7_init 101 = .ok (.iastore, 1) := by decide +kernel
theorem dX7_init_102 : decode cX7_init 102 = .ok (.dup, 1) := by decide +kernel
theorem dX7_init_103 : decode cX7_init 103 = .ok (.iconst 1, 1) := by decide +kernel
theorem dX7_init_104 : decode cX7_init 104 = .ok (.bipush 12, 2) := by decide +kernel
theorem dX7_init_106 : decode cX7_init 106 = .ok (.iastore, 1) := by decide +kernel
theorem dX7_init_107 : decode cX7_init 107 = .ok (.dup, 1) := by decide +kernel
theorem dX7_init_108 : decode cX7_init 108 = .ok (.iconst 2, 1) := by decide +kernel
theorem dX7_init_109 : decode cX7_init 109 = .ok (.bipush 100, 2) := by decide +kernel
theorem dX7_init_111 : decode cX7_init 111 = .ok (.iastore, 1) := by decide +kernel
theorem dX7_init_112 : decode cX7_init 112 = .ok (.dup, 1) := by decide +kernel
theorem dX7_init_113 : decode cX7_init 113 = .ok (.iconst 3, 1) := by decide +kernel
theorem dX7_init_114 : decode cX7_init 114 = .ok (.bipush 20, 2) := by decide +kernel
theorem dX7_init_116 : decode cX7_init 116 = .ok (.iastore, 1) := by decide +kernel
theorem dX7_init_117 : decode cX7_init 117 = .ok (.putfield 64, 3) := by decide +kernel
theorem dX7_init_120 : decode cX7_init 120 = .ok (.aload_n 0, 1) := by decide +kernel
theorem dX7_init_121 : decode cX7_init 121 = .ok (.bipush 24, 2) := by decide +kernel
theorem dX7_init_123 : decode cX7_init 123 = .ok (.newarray .int, 2) := by decide +kernel
theorem dX7_init_125 : decode cX7_init 125 = .ok (.putfield 67, 3) := by decide +kernel
theorem dX7_init_128 : decode cX7_init 128 = .ok (.aload_n 0, 1) := by decide +kernel
theorem dX7_init_129 : decode cX7_init 129 = .ok (.iconst 0, 1) := by decide +kernel
theorem dX7_init_130 : decode cX7_init 130 = .ok (.putfield 70, 3) := by decide +kernel
theorem dX7_init_133 : decode cX7_init 133 = .ok (.iconst 0, 1) := by decide +kernel
theorem dX7_init_134 : decode cX7_init 134 = .ok (.istore_n 1, 1) := by decide +kernel
theorem dX7_init_135 : decode cX7_init 135 = .ok (.iload_n 1, 1) := by decide +kernel
theorem dX7_init_136 : decode cX7_init 136 = .ok (.bipush 12, 2) := by decide +kernel
theorem dX7_init_138 : decode cX7_init 138 = .ok (.if_icmp .ge 17, 3) := by decide +kernel
theorem dX7_init_141 : decode cX7_init 141 = .ok (.aload_n 0, 1) := by decide +kernel
theorem dX7_init_142 : decode cX7_init 142 = .ok (.getfield 57, 3) := by decide +kernel
theorem dX7_init_145 : decode cX7_init 145 = .ok (.iload_n 1, 1) := by decide +kernel
theorem dX7_init_146 : decode cX7_init 146 = .ok (.bipush 10, 2) := by decide +kernel
theorem dX7_init_148 : decode cX7_init 148 = .ok (.iastore, 1) := by decide +kernel
theorem dX7_init_149 : decode cX7_init 149 = .ok (.iinc 1 1, 3) := by decide +kernel
theorem dX7_init_152 : decode cX7_init 152 = .ok (.goto (-17), 3) := by decide +kernel
theorem dX7_init_155 : decode cX7_init 155 = .ok (.iconst 0, 1) := by decide +kernel
theorem dX7_init_156 : decode cX7_init 156 = .ok (.istore_n 1, 1) := by decide +kernel
theorem dX7_init_157 : decode cX7_init 157 = .ok (.iload_n 1, 1) := by decide +kernel
theorem dX7_init_158 : decode cX7_init 158 = .ok (.bipush 12, 2) := by decide +kernel
theorem dX7_init_160 : decode cX7_init 160 = .ok (.if_icmp .ge 16, 3) := by decide +kernel
theorem dX7_init_163 : decode cX7_init 163 = .ok (.aload_n 0, 1) := by decide +kernel
theorem dX7_init_164 : decode cX7_init 164 = .ok (.getfield 61, 3) := by decide +kernel
theorem dX7_init_167 : decode cX7_init 167 = .ok (.iload_n 1, 1) := by decide +kernel
theorem dX7_init_168 : decode cX7_init 168 = .ok (.iload_n 1, 1) := by decide +kernel
theorem dX7_init_169 : decode cX7_init 169 = .ok (.iastore, 1) := by decide +kernel
theorem dX7_init_170 : decode cX7_init 170 = .ok (.iinc 1 1, 3) := by decide +kernel
theorem dX7_init_173 : decode cX7_init 173 = .ok (.goto (-16), 3) := by decide +kernel
theorem dX7_init_176 : decode cX7_init 176 = .ok (.iconst 0, 1) := by decide +kernel
theorem dX7_init_177 : decode cX7_init 177 = .ok (.istore_n 1, 1) := by decide +kernel
theorem dX7_init_178 : decode cX7_init 178 = .ok (.iload_n 1, 1) := by decide +kernel
theorem dX7_init_179 : decode cX7_init 179 = .ok (.iconst 4, 1) := by decide +kernel
theorem dX7_init_180 : decode cX7_init 180 = .ok (.if_icmp .ge 22, 3) := by decide +kernel
theorem dX7_init_183 : decode cX7_init 183 = .ok (.aload_n 0, 1) := by decide +kernel
theorem dX7_init_184 : decode cX7_init 184 = .ok (.getfield 53, 3) := by decide +kernel
theorem dX7_init_187 : decode cX7_init 187 = .ok (.iload_n 1, 1) := by decide +kernel
theorem dX7_init_188 : decode cX7_init 188 = .ok (.new 51, 3) := by decide +kernel
theorem dX7_init_191 : decode cX7_init 191 = .ok (.dup, 1) := by decide +kernel
theorem dX7_init_192 : decode cX7_init 192 = .ok (.invokespecial 74, 3) := by decide +kernel
theorem dX7_init_195 : decode cX7_init 195 = .ok (.aastore, 1) := by decide +kernel
theorem dX7_init_196 : decode cX7_init 196 = .ok (.iinc 1 1, 3) := by decide +kernel
theorem dX7_init_199 : decode cX7_init 199 = .ok (.goto (-21), 3) := by decide +kernel
theorem dX7_init_202 : decode cX7_init 202 = .ok (.return_, 1) := by decide +kernel
theorem dX7_letter_0 : decode cX7_letter 0 = .ok (.iload_n 1, 1) := by decide +kernel
theorem dX7_letter_1 : decode cX7_letter 1 = .ok (.invokestatic 75, 3) := by decide +kernel
theorem dX7_letter_4 : decode cX7_letter 4 = .ok (.ifCond .ne 5, 3) := by decide +kernel
theorem dX7_letter_7 : decode cX7_letter 7 = .ok (.iconst (-1), 1) := by decide +kernel
theorem dX7_letter_8 : decode cX7_letter 8 = .ok (.ireturn, 1) := by decide +kernel
theorem dX7_letter_9 : decode cX7_letter 9 = .ok (.iload_n 2, 1) := by decide +kernel
theorem dX7_letter_10 : decode cX7_letter 10 = .ok (.ifCond .ne 28, 3) := by decide +kernel
theorem dX7_letter_13 : decode cX7_letter 13 = .ok (.iload_n 3, 1) := by decide +kernel
theorem dX7_letter_14 : decode cX7_letter 14 = .ok (.iconst 1, 1) := by decide +kernel
theorem dX7_letter_15 : decode cX7_letter 15 = .ok (.if_icmp .lt 9, 3) := by decide +kernel
theorem dX7_letter_18 : decode cX7_letter 18 = .ok (.iload_n 3, 1) := by decide +kernel
theorem dX7_letter_19 : decode cX7_letter 19 = .ok (.bipush 40, 2) := by decide +kernel
theorem dX7_letter_21 : decode cX7_letter 21 = .ok (.if_icmp .le 7, 3) := by decide +kernel
theorem dX7_letter_24 : decode cX7_letter 24 = .ok (.iconst (-1), 1) := by decide +kernel
theorem dX7_letter_25 : decode cX7_letter 25 = .ok (.goto 12, 3) := by decide +kernel
theorem dX7_letter_28 : decode cX7_letter 28 = .ok (.aload_n 0, 1) := by decide +kernel
theorem dX7_letter_29 : decode cX7_letter 29 = .ok (.getfield 57, 3) := by decide +kernel
theorem dX7_letter_32 : decode cX7_letter 32 = .ok (.iload_n 1, 1) := by decide +kernel
theorem dX7_letter_33 : decode cX7_letter 33 = .ok (.iload_n 3, 1) := by decide +kernel
theorem dX7_letter_34 : decode cX7_letter 34 = .ok (.invokestatic 79, 3) := by decide +kernel
theorem dX7_letter_37 : decode cX7_letter 37 = .ok (.ireturn, 1) := by decide +kernel
theorem dX7_letter_38 : decode cX7_letter 38 = .ok (.iload_n 2, 1) := by decide +kernel
theorem dX7_letter_39 : decode cX7_letter 39 = .ok (.iconst 1, 1) := by decide +kernel
theorem dX7_letter_40 : decode cX7_letter 40 = .ok (.if_icmp .ne 31, 3) := by decide +kernel
theorem dX7_letter_43 : decode cX7_letter 43 = .ok (.iload_n 3, 1) := by decide +kernel
theorem dX7_letter_44 : decode cX7_letter 44 = .ok (.iconst 1, 1) := by decide +kernel
theorem dX7_letter_45 : decode cX7_letter 45 = .ok (.if_icmp .lt 9, 3) := by decide +kernel
theorem dX7_letter_48 : decode cX7_letter 48 = .ok (.iload_n 3, 1) := by decide +kernel
theorem dX7_letter_49 : decode cX7_letter 49 = .ok (.bipush 127, 2) := by decide +kernel
theorem dX7_letter_51 : decode cX7_letter 51 = .ok (.if_icmp .le 7, 3) := by decide +kernel
theorem dX7_letter_54 : decode cX7_letter 54 = .ok (.iconst (-1), 1) := by decide +kernel
theorem dX7_letter_55 : decode cX7_letter 55 = .ok (.goto 15, 3) := by decide +kernel
theorem dX7_letter_58 : decode cX7_letter 58 = .ok (.aload_n 0, 1) := by decide +kernel
theorem dX7_letter_59 : decode cX7_letter 59 = .ok (.getfield 12, 3) := by decide +kernel
theorem dX7_letter_62 : decode cX7_letter 62 = .ok (.getfield 83, 3) := by decide +kernel
theorem dX7_letter_65 : decode cX7_letter 65 = .ok (.iload_n 1, 1) := by decide +kernel
theorem dX7_letter_66 : decode cX7_letter 66 = .ok (.iload_n 3, 1) := by decide +kernel
theorem dX7_letter_67 : decode cX7_letter 67 = .ok (.invokestatic 79, 3) := by decide +kernel
theorem dX7_letter_70 : decode cX7_letter 70 = .ok (.ireturn, 1) := by decide +kernel
theorem dX7_letter_71 : decode cX7_letter 71 = .ok (.iconst (-1), 1) := by decide +kernel
theorem dX7_letter_72 : decode cX7_letter 72 = .ok (.ireturn, 1) := by decide +kernel
theorem dX7_place_0 : decode cX7_place 0 = .ok (.iload_n 1, 1) := by decide +kernel
theorem dX7_place_1 : decode cX7_place 1 = .ok (.invokestatic 86, 3) := by decide +kernel
theorem dX7_place_4 : decode cX7_place 4 = .ok (.ifCond .ne 5, 3) := by decide +kernel
theorem dX7_place_7 : decode cX7_place 7 = .ok (.iconst (-1), 1) := by decide +kernel
theorem dX7_place_8 : decode cX7_place 8 = .ok (.ireturn, 1) := by decide +kernel
theorem dX7_place_9 : decode cX7_place 9 = .ok (.iload_n 2, 1) := by decide +kernel
theorem dX7_place_10 : decode cX7_place 10 = .ok (.ifCond .ne 27, 3) := by decide +kernel
theorem dX7_place_13 : decode cX7_place 13 = .ok (.iload_n 3, 1) := by decide +kernel
theorem dX7_place_14 : decode cX7_place 14 = .ok (.invokestatic 89, 3) := by decide +kernel
theorem dX7_place_17 : decode cX7_place 17 = .ok (.ifCond .eq 18, 3) := by decide +kernel
theorem dX7_place_20 : decode cX7_place 20 = .ok (.aload_n 0, 1) := by decide +kernel
theorem dX7_place_21 : decode cX7_place 21 = .ok (.getfield 12, 3) := by decide +kernel
theorem dX7_place_24 : decode cX7_place 24 = .ok (.getfield 92, 3) := by decide +kernel
theorem dX7_place_27 : decode cX7_place 27 = .ok (.iload_n 1, 1) := by decide +kernel
theorem dX7_place_28 : decode cX7_place 28 = .ok (.iload_n 3, 1) := by decide +kernel
theorem dX7_place_29 : decode cX7_place 29 = .ok (.invokestatic 79, 3) := by decide +kernel
theorem dX7_place_32 : decode cX7_place 32 = .ok (.goto 4, 3) := by decide +kernel
theorem dX7_place_35 : decode cX7_place 35 = .ok (.iconst (-1), 1) := by decide +kernel
theorem dX7_place_36 : decode cX7_place 36 = .ok (.ireturn, 1) := by decide +kernel
theorem dX7_place_37 : decode cX7_place 37 = .ok (.iload_n 2, 1) := by decide +kernel
theorem dX7_place_38 : decode cX7_place 38 = .ok (.iconst 1, 1) := by decide +kernel
theorem dX7_place_39 : decode cX7_place 39 = .ok (.if_icmp .ne 27, 3) := by decide +kernel
theorem dX7_place_42 : decode cX7_place 42 = .ok (.iload_n 3, 1) := by decide +kernel
theorem dX7_place_43 : decode cX7_place 43 = .ok (.ifCond .lt 9, 3) := by decide +kernel
theorem dX7_place_46 : decode cX7_place 46 = .ok (.iload_n 3, 1) := by decide +kernel
theorem dX7_place_47 : decode cX7_place 47 = .ok (.bipush 20, 2) := by decide +kernel
theorem dX7_place_49 : decode cX7_place 49 = .ok (.if_icmp .le 7, 3) := by decide +kernel
theorem dX7_place_52 : decode cX7_place 52 = .ok (.iconst (-1), 1) := by decide +kernel
theorem dX7_place_53 : decode cX7_place 53 = .ok (.goto 12, 3) := by decide +kernel
theorem dX7_place_56 : decode cX7_place 56 = .ok (.aload_n 0, 1) := by decide +kernel
theorem dX7_place_57 : decode cX7_place 57 = .ok (.getfield 61, 3) := by decide +kernel
theorem dX7_place_60 : decode cX7_place 60 = .ok (.iload_n 1, 1) := by decide +kernel
theorem dX7_place_61 : decode cX7_place 61 = .ok (.iload_n 3, 1) := by decide +kernel
theorem dX7_place_62 : decode cX7_place 62 = .ok (.invokestatic 79, 3) := by decide +kernel
theorem dX7_place_65 : decode cX7_place 65 = .ok (.ireturn, 1) := by decide +kernel
theorem dX7_place_66 : decode cX7_place 66 = .ok (.iconst (-1), 1) := by decide +kernel
theorem dX7_place_67 : decode cX7_place 67 = .ok (.ireturn, 1) := by decide +kernel
theorem dX7_rails_0 : decode cX7_rails 0 = .ok (.aload_n 0, 1) := by decide +kernel
theorem dX7_rails_1 : decode cX7_rails 1 = .ok (.iload_n 1, 1) := by decide +kernel
theorem dX7_rails_2 : decode cX7_rails 2 = .ok (.iload_n 2, 1) := by decide +kernel
theorem dX7_rails_3 : decode cX7_rails 3 = .ok (.iload_n 3, 1) := by decide +kernel
theorem dX7_rails_4 : decode cX7_rails 4 = .ok (.bipush 12, 2) := by decide +kernel
theorem dX7_rails_6 : decode cX7_rails 6 = .ok (.invokevirtual 95, 3) := by decide +kernel
theorem dX7_rails_9 : decode cX7_rails 9 = .ok (.istore 4, 2) := by decide +kernel
theorem dX7_rails_11 : decode cX7_rails 11 = .ok (.iload 4, 2) := by decide +kernel
theorem dX7_rails_13 : decode cX7_rails 13 = .ok (.ifCond .eq 6, 3) := by decide +kernel
theorem dX7_rails_16 : decode cX7_rails 16 = .ok (.iload 4, 2) := by decide +kernel
theorem dX7_rails_18 : decode cX7_rails 18 = .ok (.ireturn, 1) := by decide +kernel
theorem dX7_rails_19 : decode cX7_rails 19 = .ok (.aload_n 0, 1) := by decide +kernel
theorem dX7_rails_20 : decode cX7_rails 20 = .ok (.getfield 53, 3) := by decide +kernel
theorem dX7_rails_23 : decode cX7_rails 23 = .ok (.iload_n 1, 1) := by decide +kernel
theorem dX7_rails_24 : decode cX7_rails 24 = .ok (.aaload, 1) := by decide +kernel
theorem dX7_rails_25 : decode cX7_rails 25 = .ok (.getfield 99, 3) := by decide +kernel
theorem dX7_rails_28 : decode cX7_rails 28 = .ok (.astore 5, 2) := by decide +kernel
theorem dX7_rails_30 : decode cX7_rails 30 = .ok (.iconst 0, 1) := by decide +kernel
theorem dX7_rails_31 : decode cX7_rails 31 = .ok (.istore 6, 2) := by decide +kernel
theorem dX7_rails_33 : decode cX7_rails 33 = .ok (.iload 6, 2) := by decide +kernel
theorem dX7_rails_35 : decode cX7_rails 35 = .ok (.bipush 12, 2) := by decide +kernel
theorem dX7_rails_37 : decode cX7_rails 37 = .ok (.if_icmp .ge 25, 3) := by decide +kernel
theorem dX7_rails_40 : decode cX7_rails 40 = .ok (.aload 5, 2) := by decide +kernel
theorem dX7_rails_42 : decode cX7_rails 42 = .ok (.iload_n 3, 1) := by decide +kernel
theorem dX7_rails_43 : decode cX7_rails 43 = .ok (.iload 6, 2) := by decide +kernel
theorem dX7_rails_45 : decode cX7_rails 45 = .ok (.iadd, 1) := by decide +kernel
theorem dX7_rails_46 : decode cX7_rails 46 = .ok (.iaload, 1) := by decide +kernel
theorem dX7_rails_47 : decode cX7_rails 47 = .ok (.invokestatic 89, 3) := by decide +kernel
theorem dX7_rails_50 : decode cX7_rails 50 = .ok (.ifCond .ne 6, 3) := by decide +kernel
theorem dX7_rails_53 : decode cX7_rails 53 = .ok (.bipush (-2), 2) := by decide +kernel
theorem dX7_rails_55 : decode cX7_rails 55 = .ok (.ireturn, 1) := by decide +kernel
theorem dX7_rails_56 : decode cX7_rails 56 = .ok (.iinc 6 1, 3) := by decide +kernel
theorem dX7_rails_59 : decode cX7_rails 59 = .ok (.goto (-26), 3) := by decide +kernel
theorem dX7_rails_62 : decode cX7_rails 62 = .ok (.iconst 0, 1) := by decide +kernel
theorem dX7_rails_63 : decode cX7_rails 63 = .ok (.istore 6, 2) := by decide +kernel
theorem dX7_rails_65 : decode cX7_rails 65 = .ok (.iload 6, 2) := by decide +kernel
theorem dX7_rails_67 : decode cX7_rails 67 = .ok (.bipush 12, 2) := by decide +kernel
theorem dX7_rails_69 : decode cX7_rails 69 = .ok (.if_icmp .ge 26, 3) := by decide +kernel
theorem dX7_rails_72 : decode cX7_rails 72 = .ok (.aload_n 0, 1) := by decide +kernel
theorem dX7_rails_73 : decode cX7_rails 73 = .ok (.getfield 12, 3) := by decide +kernel
theorem dX7_rails_76 : decode cX7_rails 76 = .ok (.getfield 92, 3) := by decide +kernel
theorem dX7_rails_79 : decode cX7_rails 79 = .ok (.iload 6, 2) := by decide +kernel
theorem dX7_rails_81 : decode cX7_rails 81 = .ok (.aload 5, 2) := by decide +kernel
theorem dX7_rails_83 : decode cX7_rails 83 = .ok (.iload_n 3, 1) := by decide +kernel
theorem dX7_rails_84 : decode cX7_rails 84 = .ok (.iload 6, 2) := by decide +kernel
theorem dX7_rails_86 : decode cX7_rails 86 = .ok (.iadd, 1) := by decide +kernel
theorem dX7_rails_87 : decode cX7_rails 87 = .ok (.iaload, 1) := by decide +kernel
theorem dX7_rails_88 : decode cX7_rails 88 = .ok (.iastore, 1) := by decide +kernel
theorem dX7_rails_89 : decode cX7_rails 89 = .ok (.iinc 6 1, 3) := by decide +kernel
theorem dX7_rails_92 : decode cX7_rails 92 = .ok (.goto (-27), 3) := by decide +kernel
theorem dX7_rails_95 : decode cX7_rails 95 = .ok (.bipush 12, 2) := by decide +kernel
theorem dX7_rails_97 : decode cX7_rails 97 = .ok (.ireturn, 1) := by decide +kernel
theorem dX7_set_0 : decode cX7_set 0 = .ok (.iload_n 1, 1) := by decide +kernel
theorem dX7_set_1 : decode cX7_set 1 = .ok (.ifCond .lt 17, 3) := by decide +kernel
theorem dX7_set_4 : decode cX7_set 4 = .ok (.iload_n 1, 1) := by decide +kernel
theorem dX7_set_5 : decode cX7_set 5 = .ok (.iconst 3, 1) := by decide +kernel
theorem dX7_set_6 : decode cX7_set 6 = .ok (.if_icmp .gt 12, 3) := by decide +kernel
theorem dX7_set_9 : decode cX7_set 9 = .ok (.aload_n 0, 1) := by decide +kernel
theorem dX7_set_10 : decode cX7_set 10 = .ok (.iload_n 1, 1) := by decide +kernel
theorem dX7_set_11 : decode cX7_set 11 = .ok (.iload_n 2, 1) := by decide +kernel
theorem dX7_set_12 : decode cX7_set 12 = .ok (.invokevirtual 102, 3) := by decide +kernel
theorem dX7_set_15 : decode cX7_set 15 = .ok (.ifCond .ne 5, 3) := by decide +kernel
theorem dX7_set_18 : decode cX7_set 18 = .ok (.iconst (-1), 1) := by decide +kernel
theorem dX7_set_19 : decode cX7_set 19 = .ok (.ireturn, 1) := by decide +kernel
theorem dX7_set_20 : decode cX7_set 20 = .ok (.aload_n 0, 1) := by decide +kernel
theorem dX7_set_21 : decode cX7_set 21 = .ok (.getfield 64, 3) := by decide +kernel
theorem dX7_set_24 : decode cX7_set 24 = .ok (.iload_n 1, 1) := by decide +kernel
theorem dX7_set_25 : decode cX7_set 25 = .ok (.iload_n 2, 1) := by decide +kernel
theorem dX7_set_26 : decode cX7_set 26 = .ok (.invokestatic 79, 3) := by decide +kernel
theorem dX7_set_29 : decode cX7_set 29 = .ok (.ireturn, 1) := by decide +kernel
theorem dX7_falls_0 : decode cX7_falls 0 = .ok (.iload_n 1, 1) := by decide +kernel
theorem dX7_falls_1 : decode cX7_falls 1 = .ok (.invokestatic 89, 3) := by decide +kernel
theorem dX7_falls_4 : decode cX7_falls 4 = .ok (.ifCond .eq 14, 3) := by decide +kernel
theorem dX7_falls_7 : decode cX7_falls 7 = .ok (.aload_n 0, 1) := by decide +kernel
theorem dX7_falls_8 : decode cX7_falls 8 = .ok (.getfield 12, 3) := by decide +kernel
theorem dX7_falls_11 : decode cX7_falls 11 = .ok (.iload_n 1, 1) := by decide +kernel
theorem dX7_falls_12 : decode cX7_falls 12 = .ok (.invokevirtual 106, 3) := by decide +kernel
theorem dX7_falls_15 : decode cX7_falls 15 = .ok (.goto 4, 3) := by decide +kernel
theorem dX7_falls_18 : decode cX7_falls 18 = .ok (.iconst (-1), 1) := by decide +kernel
theorem dX7_falls_19 : decode cX7_falls 19 = .ok (.ireturn, 1) := by decide +kernel
theorem dX7_astray_0 : decode cX7_astray 0 = .ok (.aload_n 0, 1) := by decide +kernel
theorem dX7_astray_1 : decode cX7_astray 1 = .ok (.getfield 12, 3) := by decide +kernel
theorem dX7_astray_4 : decode cX7_astray 4 = .ok (.invokevirtual 110, 3) := by decide +kernel
theorem dX7_astray_7 : decode cX7_astray 7 = .ok (.ireturn, 1) := by decide +kernel
theorem dX7_order_0 : decode cX7_order 0 = .ok (.iload_n 1, 1) := by decide +kernel
theorem dX7_order_1 : decode cX7_order 1 = .ok (.invokestatic 86, 3) := by decide +kernel
theorem dX7_order_4 : decode cX7_order 4 = .ok (.ifCond .eq 14, 3) := by decide +kernel
theorem dX7_order_7 : decode cX7_order 7 = .ok (.aload_n 0, 1) := by decide +kernel
theorem dX7_order_8 : decode cX7_order 8 = .ok (.getfield 12, 3) := by decide +kernel
theorem dX7_order_11 : decode cX7_order 11 = .ok (.iload_n 1, 1) := by decide +kernel
theorem dX7_order_12 : decode cX7_order 12 = .ok (.invokevirtual 114, 3) := by decide +kernel
theorem dX7_order_15 : decode cX7_order 15 = .ok (.goto 4, 3) := by decide +kernel
theorem dX7_order_18 : decode cX7_order 18 = .ok (.iconst (-1), 1) := by decide +kernel
theorem dX7_order_19 : decode cX7_order 19 = .ok (.ireturn, 1) := by decide +kernel
theorem dX7_lost_0 : decode cX7_lost 0 = .ok (.iload_n 1, 1) := by decide +kernel
theorem dX7_lost_1 : decode cX7_lost 1 = .ok (.invokestatic 75, 3) := by decide +kernel
theorem dX7_lost_4 : decode cX7_lost 4 = .ok (.ifCond .eq 16, 3) := by decide +kernel
theorem dX7_lost_7 : decode cX7_lost 7 = .ok (.iload_n 2, 1) := by decide +kernel
theorem dX7_lost_8 : decode cX7_lost 8 = .ok (.invokestatic 86, 3) := by decide +kernel
theorem dX7_lost_11 : decode cX7_lost 11 = .ok (.ifCond .ne 11, 3) := by decide +kernel
theorem dX7_lost_14 : decode cX7_lost 14 = .ok (.iload_n 2, 1) := by decide +kernel
theorem dX7_lost_15 : decode cX7_lost 15 = .ok (.bipush 12, 2) := by decide +kernel
theorem dX7_lost_17 : decode cX7_lost 17 = .ok (.if_icmp .eq 5, 3) := by decide +kernel
theorem dX7_lost_20 : decode cX7_lost 20 = .ok (.iconst (-1), 1) := by decide +kernel
theorem dX7_lost_21 : decode cX7_lost 21 = .ok (.ireturn, 1) := by decide +kernel
theorem dX7_lost_22 : decode cX7_lost 22 = .ok (.aload_n 0, 1) := by decide +kernel
theorem dX7_lost_23 : decode cX7_lost 23 = .ok (.getfield 12, 3) := by decide +kernel
theorem dX7_lost_26 : decode cX7_lost 26 = .ok (.iload_n 1, 1) := by decide +kernel
theorem dX7_lost_27 : decode cX7_lost 27 = .ok (.iload_n 2, 1) := by decide +kernel
theorem dX7_lost_28 : decode cX7_lost 28 = .ok (.invokevirtual 117, 3) := by decide +kernel
theorem dX7_lost_31 : decode cX7_lost 31 = .ok (.ireturn, 1) := by decide +kernel
theorem dX7_mould_0 : decode cX7_mould 0 = .ok (.iload_n 1, 1) := by decide +kernel
theorem dX7_mould_1 : decode cX7_mould 1 = .ok (.invokestatic 75, 3) := by decide +kernel
theorem dX7_mould_4 : decode cX7_mould 4 = .ok (.ifCond .ne 5, 3) := by decide +kernel
theorem dX7_mould_7 : decode cX7_mould 7 = .ok (.iconst (-1), 1) := by decide +kernel
theorem dX7_mould_8 : decode cX7_mould 8 = .ok (.ireturn, 1) := by decide +kernel
theorem dX7_mould_9 : decode cX7_mould 9 = .ok (.aload_n 0, 1) := by decide +kernel
theorem dX7_mould_10 : decode cX7_mould 10 = .ok (.getfield 12, 3) := by decide +kernel
theorem dX7_mould_13 : decode cX7_mould 13 = .ok (.getfield 83, 3) := by decide +kernel
theorem dX7_mould_16 : decode cX7_mould 16 = .ok (.iload_n 1, 1) := by decide +kernel
theorem dX7_mould_17 : decode cX7_mould 17 = .ok (.iaload, 1) := by decide +kernel
theorem dX7_mould_18 : decode cX7_mould 18 = .ok (.istore_n 3, 1) := by decide +kernel
theorem dX7_mould_19 : decode cX7_mould 19 = .ok (.iload_n 2, 1) := by decide +kernel
theorem dX7_mould_20 : decode cX7_mould 20 = .ok (.iload_n 3, 1) := by decide +kernel
theorem dX7_mould_21 : decode cX7_mould 21 = .ok (.iconst (-1), 1) := by decide +kernel
theorem dX7_mould_22 : decode cX7_mould 22 = .ok (.ixor, 1) := by decide +kernel
theorem dX7_mould_23 : decode cX7_mould 23 = .ok (.iand, 1) := by decide +kernel
theorem dX7_mould_24 : decode cX7_mould 24 = .ok (.ifCond .eq 5, 3) := by decide +kernel
theorem dX7_mould_27 : decode cX7_mould 27 = .ok (.iconst (-1), 1) := by decide +kernel
theorem dX7_mould_28 : decode cX7_mould 28 = .ok (.ireturn, 1) := by decide +kernel
theorem dX7_mould_29 : decode cX7_mould 29 = .ok (.aload_n 0, 1) := by decide +kernel
theorem dX7_mould_30 : decode cX7_mould 30 = .ok (.getfield 19, 3) := by decide +kernel
theorem dX7_mould_33 : decode cX7_mould 33 = .ok (.iload_n 1, 1) := by decide +kernel
theorem dX7_mould_34 : decode cX7_mould 34 = .ok (.iload_n 3, 1) := by decide +kernel
theorem dX7_mould_35 : decode cX7_mould 35 = .ok (.iload_n 2, 1) := by decide +kernel
theorem dX7_mould_36 : decode cX7_mould 36 = .ok (.iconst (-1), 1) := by decide +kernel
theorem dX7_mould_37 : decode cX7_mould 37 = .ok (.ixor, 1) := by decide +kernel
theorem dX7_mould_38 : decode cX7_mould 38 = .ok (.iand, 1) := by decide +kernel
theorem dX7_mould_39 : decode cX7_mould 39 = .ok (.invokevirtual 121, 3) := by decide +kernel
theorem dX7_mould_42 : decode cX7_mould 42 = .ok (.ireturn, 1) := by decide +kernel
theorem dX7_told_0 : decode cX7_told 0 = .ok (.aload_n 0, 1) := by decide +kernel
theorem dX7_told_1 : decode cX7_told 1 = .ok (.getfield 19, 3) := by decide +kernel
theorem dX7_told_4 : decode cX7_told 4 = .ok (.iload_n 1, 1) := by decide +kernel
theorem dX7_told_5 : decode cX7_told 5 = .ok (.invokevirtual 124, 3) := by decide +kernel
theorem dX7_told_8 : decode cX7_told 8 = .ok (.ifCond .ne 5, 3) := by decide +kernel
theorem dX7_told_11 : decode cX7_told 11 = .ok (.iconst (-1), 1) := by decide +kernel
theorem dX7_told_12 : decode cX7_told 12 = .ok (.ireturn, 1) := by decide +kernel
theorem dX7_told_13 : decode cX7_told 13 = .ok (.iload_n 2, 1) := by decide +kernel
theorem dX7_told_14 : decode cX7_told 14 = .ok (.tableswitch 56 0 2 #[26, 36, 46], 26) := by decide +kernel
theorem dX7_told_40 : decode cX7_told 40 = .ok (.aload_n 0, 1) := by decide +kernel
theorem dX7_told_41 : decode cX7_told 41 = .ok (.getfield 19, 3) := by decide +kernel
theorem dX7_told_44 : decode cX7_told 44 = .ok (.getfield 127, 3) := by decide +kernel
theorem dX7_told_47 : decode cX7_told 47 = .ok (.iload_n 1, 1) := by decide +kernel
theorem dX7_told_48 : decode cX7_told 48 = .ok (.iaload, 1) := by decide +kernel
theorem dX7_told_49 : decode cX7_told 49 = .ok (.ireturn, 1) := by decide +kernel
theorem dX7_told_50 : decode cX7_told 50 = .ok (.aload_n 0, 1) := by decide +kernel
theorem dX7_told_51 : decode cX7_told 51 = .ok (.getfield 19, 3) := by decide +kernel
theorem dX7_told_54 : decode cX7_told 54 = .ok (.getfield 130, 3) := by decide +kernel
theorem dX7_told_57 : decode cX7_told 57 = .ok (.iload_n 1, 1) := by decide +kernel
theorem dX7_told_58 : decode cX7_told 58 = .ok (.iaload, 1) := by decide +kernel
theorem dX7_told_59 : decode cX7_told 59 = .ok (.ireturn, 1) := by decide +kernel
theorem dX7_told_60 : decode cX7_told 60 = .ok (.aload_n 0, 1) := by decide +kernel
theorem dX7_told_61 : decode cX7_told 61 = .ok (.getfield 19, 3) := by decide +kernel
theorem dX7_told_64 : decode cX7_told 64 = .ok (.getfield 131, 3) := by decide +kernel
theorem dX7_told_67 : decode cX7_told 67 = .ok (.iload_n 1, 1) := by decide +kernel
theorem dX7_told_68 : decode cX7_told 68 = .ok (.iaload, 1) := by decide +kernel
theorem dX7_told_69 : decode cX7_told 69 = .ok (.ireturn, 1) := by decide +kernel
theorem dX7_told_70 : decode cX7_told 70 = .ok (.iconst (-1), 1) := by decide +kernel
theorem dX7_told_71 : decode cX7_told 71 = .ok (.ireturn, 1) := by decide +kernel
theorem dX7_wear_0 : decode cX7_wear 0 = .ok (.aload_n 0, 1) := by decide +kernel
theorem dX7_wear_1 : decode cX7_wear 1 = .ok (.getfield 19, 3) := by decide +kernel
theorem dX7_wear_4 : decode cX7_wear 4 = .ok (.iload_n 1, 1) := by decide +kernel
theorem dX7_wear_5 : decode cX7_wear 5 = .ok (.invokevirtual 124, 3) := by decide +kernel
theorem dX7_wear_8 : decode cX7_wear 8 = .ok (.ifCond .eq 19, 3) := by decide +kernel
theorem dX7_wear_11 : decode cX7_wear 11 = .ok (.iload_n 2, 1) := by decide +kernel
theorem dX7_wear_12 : decode cX7_wear 12 = .ok (.aload_n 0, 1) := by decide +kernel
theorem dX7_wear_13 : decode cX7_wear 13 = .ok (.getfield 19, 3) := by decide +kernel
theorem dX7_wear_16 : decode cX7_wear 16 = .ok (.getfield 130, 3) := by decide +kernel
theorem dX7_wear_19 : decode cX7_wear 19 = .ok (.iload_n 1, 1) := by decide +kernel
theorem dX7_wear_20 : decode cX7_wear 20 = .ok (.iaload, 1) := by decide +kernel
theorem dX7_wear_21 : decode cX7_wear 21 = .ok (.iconst (-1), 1) := by decide +kernel
theorem dX7_wear_22 : decode cX7_wear 22 = .ok (.ixor, 1) := by decide +kernel
theorem dX7_wear_23 : decode cX7_wear 23 = .ok (.iand, 1) := by decide +kernel
theorem dX7_wear_24 : decode cX7_wear 24 = .ok (.ifCond .eq 5, 3) := by decide +kernel
theorem dX7_wear_27 : decode cX7_wear 27 = .ok (.iconst (-1), 1) := by decide +kernel
theorem dX7_wear_28 : decode cX7_wear 28 = .ok (.ireturn, 1) := by decide +kernel
theorem dX7_wear_29 : decode cX7_wear 29 = .ok (.aload_n 0, 1) := by decide +kernel
theorem dX7_wear_30 : decode cX7_wear 30 = .ok (.getfield 19, 3) := by decide +kernel
theorem dX7_wear_33 : decode cX7_wear 33 = .ok (.getfield 130, 3) := by decide +kernel
theorem dX7_wear_36 : decode cX7_wear 36 = .ok (.iload_n 1, 1) := by decide +kernel
theorem dX7_wear_37 : decode cX7_wear 37 = .ok (.dup2, 1) := by decide +kernel
theorem dX7_wear_38 : decode cX7_wear 38 = .ok (.iaload, 1) := by decide +kernel
theorem dX7_wear_39 : decode cX7_wear 39 = .ok (.iload_n 2, 1) := by decide +kernel
theorem dX7_wear_40 : decode cX7_wear 40 = .ok (.iconst (-1), 1) := by decide +kernel
theorem dX7_wear_41 : decode cX7_wear 41 = .ok (.ixor, 1) := by decide +kernel
theorem dX7_wear_42 : decode cX7_wear 42 = .ok (.iand, 1) := by decide +kernel
theorem dX7_wear_43 : decode cX7_wear 43 = .ok (.iastore, 1) := by decide +kernel
theorem dX7_wear_44 : decode cX7_wear 44 = .ok (.aload_n 0, 1) := by decide +kernel
theorem dX7_wear_45 : decode cX7_wear 45 = .ok (.getfield 19, 3) := by decide +kernel
theorem dX7_wear_48 : decode cX7_wear 48 = .ok (.getfield 130, 3) := by decide +kernel
theorem dX7_wear_51 : decode cX7_wear 51 = .ok (.iload_n 1, 1) := by decide +kernel
theorem dX7_wear_52 : decode cX7_wear 52 = .ok (.iaload, 1) := by decide +kernel
theorem dX7_wear_53 : decode cX7_wear 53 = .ok (.ireturn, 1) := by decide +kernel
theorem dX7_home_0 : decode cX7_home 0 = .ok (.aload_n 0, 1) := by decide +kernel
theorem dX7_home_1 : decode cX7_home 1 = .ok (.getfield 19, 3) := by decide +kernel
theorem dX7_home_4 : decode cX7_home 4 = .ok (.iload_n 1, 1) := by decide +kernel
theorem dX7_home_5 : decode cX7_home 5 = .ok (.invokevirtual 124, 3) := by decide +kernel
theorem dX7_home_8 : decode cX7_home 8 = .ok (.ifCond .ne 5, 3) := by decide +kernel
theorem dX7_home_11 : decode cX7_home 11 = .ok (.iconst (-1), 1) := by decide +kernel
theorem dX7_home_12 : decode cX7_home 12 = .ok (.ireturn, 1) := by decide +kernel
theorem dX7_home_13 : decode cX7_home 13 = .ok (.aload_n 0, 1) := by decide +kernel
theorem dX7_home_14 : decode cX7_home 14 = .ok (.getfield 19, 3) := by decide +kernel
theorem dX7_home_17 : decode cX7_home 17 = .ok (.getfield 131, 3) := by decide +kernel
theorem dX7_home_20 : decode cX7_home 20 = .ok (.iload_n 1, 1) := by decide +kernel
theorem dX7_home_21 : decode cX7_home 21 = .ok (.iaload, 1) := by decide +kernel
theorem dX7_home_22 : decode cX7_home 22 = .ok (.bipush 12, 2) := by decide +kernel
theorem dX7_home_24 : decode cX7_home 24 = .ok (.if_icmp .eq 6, 3) := by decide +kernel
theorem dX7_home_27 : decode cX7_home 27 = .ok (.bipush (-2), 2) := by decide +kernel
theorem dX7_home_29 : decode cX7_home 29 = .ok (.ireturn, 1) := by decide +kernel
theorem dX7_home_30 : decode cX7_home 30 = .ok (.aload_n 0, 1) := by decide +kernel
theorem dX7_home_31 : decode cX7_home 31 = .ok (.getfield 19, 3) := by decide +kernel
theorem dX7_home_34 : decode cX7_home 34 = .ok (.getfield 127, 3) := by decide +kernel
theorem dX7_home_37 : decode cX7_home 37 = .ok (.iload_n 1, 1) := by decide +kernel
theorem dX7_home_38 : decode cX7_home 38 = .ok (.iaload, 1) := by decide +kernel
theorem dX7_home_39 : decode cX7_home 39 = .ok (.istore_n 2, 1) := by decide +kernel
theorem dX7_home_40 : decode cX7_home 40 = .ok (.aload_n 0, 1) := by decide +kernel
theorem dX7_home_41 : decode cX7_home 41 = .ok (.getfield 19, 3) := by decide +kernel
theorem dX7_home_44 : decode cX7_home 44 = .ok (.iload_n 1, 1) := by decide +kernel
theorem dX7_home_45 : decode cX7_home 45 = .ok (.iload_n 2, 1) := by decide +kernel
theorem dX7_home_46 : decode cX7_home 46 = .ok (.invokevirtual 134, 3) := by decide +kernel
theorem dX7_home_49 : decode cX7_home 49 = .ok (.ifCond .eq 15, 3) := by decide +kernel
theorem dX7_home_52 : decode cX7_home 52 = .ok (.aload_n 0, 1) := by decide +kernel
theorem dX7_home_53 : decode cX7_home 53 = .ok (.getfield 19, 3) := by decide +kernel
theorem dX7_home_56 : decode cX7_home 56 = .ok (.getfield 137, 3) := by decide +kernel
theorem dX7_home_59 : decode cX7_home 59 = .ok (.iload_n 2, 1) := by decide +kernel
theorem dX7_home_60 : decode cX7_home 60 = .ok (.iaload, 1) := by decide +kernel
theorem dX7_home_61 : decode cX7_home 61 = .ok (.goto 5, 3) := by decide +kernel
theorem dX7_home_64 : decode cX7_home 64 = .ok (.bipush (-3), 2) := by decide +kernel
theorem dX7_home_66 : decode cX7_home 66 = .ok (.ireturn, 1) := by decide +kernel
theorem dX7_channel_0 : decode cX7_channel 0 = .ok (.iload_n 1, 1) := by decide +kernel
theorem dX7_channel_1 : decode cX7_channel 1 = .ok (.invokestatic 86, 3) := by decide +kernel
theorem dX7_channel_4 : decode cX7_channel 4 = .ok (.ifCond .eq 8, 3) := by decide +kernel
theorem dX7_channel_7 : decode cX7_channel 7 = .ok (.iload_n 2, 1) := by decide +kernel
theorem dX7_channel_8 : decode cX7_channel 8 = .ok (.iconst (-1), 1) := by decide +kernel
theorem dX7_channel_9 : decode cX7_channel 9 = .ok (.if_icmp .ge 5, 3) := by decide +kernel
theorem dX7_channel_12 : decode cX7_channel 12 = .ok (.iconst (-1), 1) := by decide +kernel
theorem dX7_channel_13 : decode cX7_channel 13 = .ok (.ireturn, 1) := by decide +kernel
theorem dX7_channel_14 : decode cX7_channel 14 = .ok (.iload_n 2, 1) := by decide +kernel
theorem dX7_channel_15 : decode cX7_channel 15 = .ok (.iconst (-1), 1) := by decide +kernel
theorem dX7_channel_16 : decode cX7_channel 16 = .ok (.if_icmp .ne 13, 3) := by decide +kernel
theorem dX7_channel_19 : decode cX7_channel 19 = .ok (.aload_n 0, 1) := by decide +kernel
theorem dX7_channel_20 : decode cX7_channel 20 = .ok (.getfield 19, 3) := by decide +kernel
theorem dX7_channel_23 : decode cX7_channel 23 = .ok (.getfield 137, 3) := by decide +kernel
theorem dX7_channel_26 : decode cX7_channel 26 = .ok (.iload_n 1, 1) := by decide +kernel
theorem dX7_channel_27 : decode cX7_channel 27 = .ok (.iaload, 1) := by decide +kernel
theorem dX7_channel_28 : decode cX7_channel 28 = .ok (.ireturn, 1) := by decide +kernel
theorem dX7_channel_29 : decode cX7_channel 29 = .ok (.iload_n 2, 1) := by decide +kernel
theorem dX7_channel_30 : decode cX7_channel 30 = .ok (.aload_n 0, 1) := by decide +kernel
theorem dX7_channel_31 : decode cX7_channel 31 = .ok (.getfield 19, 3) := by decide +kernel
theorem dX7_channel_34 : decode cX7_channel 34 = .ok (.getfield 137, 3) := by decide +kernel
theorem dX7_channel_37 : decode cX7_channel 37 = .ok (.iload_n 1, 1) := by decide +kernel
theorem dX7_channel_38 : decode cX7_channel 38 = .ok (.iaload, 1) := by decide +kernel
theorem dX7_channel_39 : decode cX7_channel 39 = .ok (.if_icmp .ge 17, 3) := by decide +kernel
theorem dX7_channel_42 : decode cX7_channel 42 = .ok (.aload_n 0, 1) := by decide +kernel
theorem dX7_channel_43 : decode cX7_channel 43 = .ok (.getfield 19, 3) := by decide +kernel
theorem dX7_channel_46 : decode cX7_channel 46 = .ok (.getfield 140, 3) := by decide +kernel
theorem dX7_channel_49 : decode cX7_channel 49 = .ok (.iload_n 1, 1) := by decide +kernel
theorem dX7_channel_50 : decode cX7_channel 50 = .ok (.aaload, 1) := by decide +kernel
theorem dX7_channel_51 : decode cX7_channel 51 = .ok (.iload_n 2, 1) := by decide +kernel
theorem dX7_channel_52 : decode cX7_channel 52 = .ok (.iaload, 1) := by decide +kernel
theorem dX7_channel_53 : decode cX7_channel 53 = .ok (.goto 5, 3) := by decide +kernel
theorem dX7_channel_56 : decode cX7_channel 56 = .ok (.bipush (-4), 2) := by decide +kernel
theorem dX7_channel_58 : decode cX7_channel 58 = .ok (.ireturn, 1) := by decide +kernel
theorem dX7_key_0 : decode cX7_key 0 = .ok (.iload_n 1, 1) := by decide +kernel
theorem dX7_key_1 : decode cX7_key 1 = .ok (.invokestatic 86, 3) := by decide +kernel
theorem dX7_key_4 : decode cX7_key 4 = .ok (.ifCond .ne 5, 3) := by decide +kernel
theorem dX7_key_7 : decode cX7_key 7 = .ok (.iconst (-1), 1) := by decide +kernel
theorem dX7_key_8 : decode cX7_key 8 = .ok (.ireturn, 1) := by decide +kernel
theorem dX7_key_9 : decode cX7_key 9 = .ok (.aload_n 0, 1) := by decide +kernel
theorem dX7_key_10 : decode cX7_key 10 = .ok (.getfield 19, 3) := by decide +kernel
theorem dX7_key_13 : decode cX7_key 13 = .ok (.getfield 137, 3) := by decide +kernel
theorem dX7_key_16 : decode cX7_key 16 = .ok (.iload_n 1, 1) := by decide +kernel
theorem dX7_key_17 : decode cX7_key 17 = .ok (.iaload, 1) := by decide +kernel
theorem dX7_key_18 : decode cX7_key 18 = .ok (.ifCond .ne 6, 3) := by decide +kernel
theorem dX7_key_21 : decode cX7_key 21 = .ok (.bipush (-4), 2) := by decide +kernel
theorem dX7_key_23 : decode cX7_key 23 = .ok (.ireturn, 1) := by decide +kernel
theorem dX7_key_24 : decode cX7_key 24 = .ok (.aload_n 0, 1) := by decide +kernel
theorem dX7_key_25 : decode cX7_key 25 = .ok (.getfield 26, 3) := by decide +kernel
theorem dX7_key_28 : decode cX7_key 28 = .ok (.invokevirtual 144, 3) := by decide +kernel
theorem dX7_key_31 : decode cX7_key 31 = .ok (.ifCond .eq 6, 3) := by decide +kernel
theorem dX7_key_34 : decode cX7_key 34 = .ok (.bipush (-3), 2) := by decide +kernel
theorem dX7_key_36 : decode cX7_key 36 = .ok (.ireturn, 1) := by decide +kernel
theorem dX7_key_37 : decode cX7_key 37 = .ok (.aload_n 0, 1) := by decide +kernel
theorem dX7_key_38 : decode cX7_key 38 = .ok (.getfield 70, 3) := by decide +kernel
theorem dX7_key_41 : decode cX7_key 41 = .ok (.iconst 2, 1) := by decide +kernel
theorem dX7_key_42 : decode cX7_key 42 = .ok (.iadd, 1) := by decide +kernel
theorem dX7_key_43 : decode cX7_key 43 = .ok (.aload_n 0, 1) := by decide +kernel
theorem dX7_key_44 : decode cX7_key 44 = .ok (.getfield 61, 3) := by decide +kernel
theorem dX7_key_47 : decode cX7_key 47 = .ok (.iload_n 1, 1) := by decide +kernel
theorem dX7_key_48 : decode cX7_key 48 = .ok (.iaload, 1) := by decide +kernel
theorem dX7_key_49 : decode cX7_key 49 = .ok (.iadd, 1) := by decide +kernel
theorem dX7_key_50 : decode cX7_key 50 = .ok (.istore_n 2, 1) := by decide +kernel
theorem dX7_key_51 : decode cX7_key 51 = .ok (.aload_n 0, 1) := by decide +kernel
theorem dX7_key_52 : decode cX7_key 52 = .ok (.getfield 26, 3) := by decide +kernel
theorem dX7_key_55 : decode cX7_key 55 = .ok (.aload_n 0, 1) := by decide +kernel
theorem dX7_key_56 : decode cX7_key 56 = .ok (.getfield 19, 3) := by decide +kernel
theorem dX7_key_59 : decode cX7_key 59 = .ok (.iload_n 1, 1) := by decide +kernel
theorem dX7_key_60 : decode cX7_key 60 = .ok (.invokevirtual 148, 3) := by decide +kernel
theorem dX7_key_63 : decode cX7_key 63 = .ok (.iload_n 2, 1) := by decide +kernel
theorem dX7_key_64 : decode cX7_key 64 = .ok (.invokevirtual 151, 3) := by decide +kernel
theorem dX7_key_67 : decode cX7_key 67 = .ok (.iload_n 2, 1) := by decide +kernel
theorem dX7_key_68 : decode cX7_key 68 = .ok (.ireturn, 1) := by decide +kernel
theorem dX7_band_0 : decode cX7_band 0 = .ok (.aload_n 0, 1) := by decide +kernel
theorem dX7_band_1 : decode cX7_band 1 = .ok (.getfield 26, 3) := by decide +kernel
theorem dX7_band_4 : decode cX7_band 4 = .ok (.getfield 155, 3) := by decide +kernel
theorem dX7_band_7 : decode cX7_band 7 = .ok (.bipush 12, 2) := by decide +kernel
theorem dX7_band_9 : decode cX7_band 9 = .ok (.if_icmp .lt 6, 3) := by decide +kernel
theorem dX7_band_12 : decode cX7_band 12 = .ok (.bipush (-4), 2) := by decide +kernel
theorem dX7_band_14 : decode cX7_band 14 = .ok (.ireturn, 1) := by decide +kernel
theorem dX7_band_15 : decode cX7_band 15 = .ok (.aload_n 0, 1) := by decide +kernel
theorem dX7_band_16 : decode cX7_band 16 = .ok (.getfield 26, 3) := by decide +kernel
theorem dX7_band_19 : decode cX7_band 19 = .ok (.invokevirtual 144, 3) := by decide +kernel
theorem dX7_band_22 : decode cX7_band 22 = .ok (.ifCond .eq 6, 3) := by decide +kernel
theorem dX7_band_25 : decode cX7_band 25 = .ok (.bipush (-3), 2) := by decide +kernel
theorem dX7_band_27 : decode cX7_band 27 = .ok (.ireturn, 1) := by decide +kernel
theorem dX7_band_28 : decode cX7_band 28 = .ok (.aload_n 0, 1) := by decide +kernel
theorem dX7_band_29 : decode cX7_band 29 = .ok (.getfield 70, 3) := by decide +kernel
theorem dX7_band_32 : decode cX7_band 32 = .ok (.iconst 2, 1) := by decide +kernel
theorem dX7_band_33 : decode cX7_band 33 = .ok (.iadd, 1) := by decide +kernel
theorem dX7_band_34 : decode cX7_band 34 = .ok (.istore_n 1, 1) := by decide +kernel
theorem dX7_band_35 : decode cX7_band 35 = .ok (.aload_n 0, 1) := by decide +kernel
theorem dX7_band_36 : decode cX7_band 36 = .ok (.getfield 26, 3) := by decide +kernel
theorem dX7_band_39 : decode cX7_band 39 = .ok (.bipush 100, 2) := by decide +kernel
theorem dX7_band_41 : decode cX7_band 41 = .ok (.iload_n 1, 1) := by decide +kernel
theorem dX7_band_42 : decode cX7_band 42 = .ok (.invokevirtual 151, 3) := by decide +kernel
theorem dX7_band_45 : decode cX7_band 45 = .ok (.iload_n 1, 1) := by decide +kernel
theorem dX7_band_46 : decode cX7_band 46 = .ok (.ireturn, 1) := by decide +kernel
theorem dX7_ticks_0 : decode cX7_ticks 0 = .ok (.iload_n 1, 1) := by decide +kernel
theorem dX7_ticks_1 : decode cX7_ticks 1 = .ok (.iconst 1, 1) := by decide +kernel
theorem dX7_ticks_2 : decode cX7_ticks 2 = .ok (.if_icmp .lt 10, 3) := by decide +kernel
theorem dX7_ticks_5 : decode cX7_ticks 5 = .ok (.iload_n 1, 1) := by decide +kernel
theorem dX7_ticks_6 : decode cX7_ticks 6 = .ok (.sipush 300, 3) := by decide +kernel
theorem dX7_ticks_9 : decode cX7_ticks 9 = .ok (.if_icmp .le 5, 3) := by decide +kernel
theorem dX7_ticks_12 : decode cX7_ticks 12 = .ok (.iconst (-1), 1) := by decide +kernel
theorem dX7_ticks_13 : decode cX7_ticks 13 = .ok (.ireturn, 1) := by decide +kernel
theorem dX7_ticks_14 : decode cX7_ticks 14 = .ok (.aload_n 0, 1) := by decide +kernel
theorem dX7_ticks_15 : decode cX7_ticks 15 = .ok (.getfield 70, 3) := by decide +kernel
theorem dX7_ticks_18 : decode cX7_ticks 18 = .ok (.iload_n 1, 1) := by decide +kernel
theorem dX7_ticks_19 : decode cX7_ticks 19 = .ok (.iadd, 1) := by decide +kernel
theorem dX7_ticks_20 : decode cX7_ticks 20 = .ok (.ldc 158, 2) := by decide +kernel
theorem dX7_ticks_22 : decode cX7_ticks 22 = .ok (.if_icmp .le 6, 3) := by decide +kernel
theorem dX7_ticks_25 : decode cX7_ticks 25 = .ok (.bipush (-3), 2) := by decide +kernel
theorem dX7_ticks_27 : decode cX7_ticks 27 = .ok (.ireturn, 1) := by decide +kernel
theorem dX7_ticks_28 : decode cX7_ticks 28 = .ok (.aload_n 0, 1) := by decide +kernel
theorem dX7_ticks_29 : decode cX7_ticks 29 = .ok (.iload_n 1, 1) := by decide +kernel
theorem dX7_ticks_30 : decode cX7_ticks 30 = .ok (.invokevirtual 159, 3) := by decide +kernel
theorem dX7_ticks_33 : decode cX7_ticks 33 = .ok (.aload_n 0, 1) := by decide +kernel
theorem dX7_ticks_34 : decode cX7_ticks 34 = .ok (.getfield 70, 3) := by decide +kernel
theorem dX7_ticks_37 : decode cX7_ticks 37 = .ok (.ireturn, 1) := by decide +kernel
theorem dX7_line_0 : decode cX7_line 0 = .ok (.iload_n 1, 1) := by decide +kernel
theorem dX7_line_1 : decode cX7_line 1 = .ok (.iconst (-1), 1) := by decide +kernel
theorem dX7_line_2 : decode cX7_line 2 = .ok (.if_icmp .ge 5, 3) := by decide +kernel
theorem dX7_line_5 : decode cX7_line 5 = .ok (.iconst (-1), 1) := by decide +kernel
theorem dX7_line_6 : decode cX7_line 6 = .ok (.ireturn, 1) := by decide +kernel
theorem dX7_line_7 : decode cX7_line 7 = .ok (.iload_n 1, 1) := by decide +kernel
theorem dX7_line_8 : decode cX7_line 8 = .ok (.iconst (-1), 1) := by decide +kernel
theorem dX7_line_9 : decode cX7_line 9 = .ok (.if_icmp .ne 11, 3) := by decide +kernel
theorem dX7_line_12 : decode cX7_line 12 = .ok (.aload_n 0, 1) := by decide +kernel
theorem dX7_line_13 : decode cX7_line 13 = .ok (.getfield 26, 3) := by decide +kernel
theorem dX7_line_16 : decode cX7_line 16 = .ok (.getfield 163, 3) := by decide +kernel
theorem dX7_line_19 : decode cX7_line 19 = .ok (.ireturn, 1) := by decide +kernel
theorem dX7_line_20 : decode cX7_line 20 = .ok (.iload_n 1, 1) := by decide +kernel
theorem dX7_line_21 : decode cX7_line 21 = .ok (.aload_n 0, 1) := by decide +kernel
theorem dX7_line_22 : decode cX7_line 22 = .ok (.getfield 26, 3) := by decide +kernel
theorem dX7_line_25 : decode cX7_line 25 = .ok (.getfield 163, 3) := by decide +kernel
theorem dX7_line_28 : decode cX7_line 28 = .ok (.if_icmp .ge 15, 3) := by decide +kernel
theorem dX7_line_31 : decode cX7_line 31 = .ok (.aload_n 0, 1) := by decide +kernel
theorem dX7_line_32 : decode cX7_line 32 = .ok (.getfield 26, 3) := by decide +kernel
theorem dX7_line_35 : decode cX7_line 35 = .ok (.getfield 166, 3) := by decide +kernel
theorem dX7_line_38 : decode cX7_line 38 = .ok (.iload_n 1, 1) := by decide +kernel
theorem dX7_line_39 : decode cX7_line 39 = .ok (.iaload, 1) := by decide +kernel
theorem dX7_line_40 : decode cX7_line 40 = .ok (.goto 5, 3) := by decide +kernel
theorem dX7_line_43 : decode cX7_line 43 = .ok (.bipush (-4), 2) := by decide +kernel
theorem dX7_line_45 : decode cX7_line 45 = .ok (.ireturn, 1) := by decide +kernel
theorem dX7_state_0 : decode cX7_state 0 = .ok (.aload_n 0, 1) := by decide +kernel
theorem dX7_state_1 : decode cX7_state 1 = .ok (.invokevirtual 169, 3) := by decide +kernel
theorem dX7_state_4 : decode cX7_state 4 = .ok (.ireturn, 1) := by decide +kernel
theorem dX7_thick_0 : decode cX7_thick 0 = .ok (.aload_n 0, 1) := by decide +kernel
theorem dX7_thick_1 : decode cX7_thick 1 = .ok (.getfield 26, 3) := by decide +kernel
theorem dX7_thick_4 : decode cX7_thick 4 = .ok (.invokevirtual 172, 3) := by decide +kernel
theorem dX7_thick_7 : decode cX7_thick 7 = .ok (.istore_n 2, 1) := by decide +kernel
theorem dX7_thick_8 : decode cX7_thick 8 = .ok (.iload_n 1, 1) := by decide +kernel
theorem dX7_thick_9 : decode cX7_thick 9 = .ok (.ifCond .lt 8, 3) := by decide +kernel
theorem dX7_thick_12 : decode cX7_thick 12 = .ok (.iload_n 1, 1) := by decide +kernel
theorem dX7_thick_13 : decode cX7_thick 13 = .ok (.iload_n 2, 1) := by decide +kernel
theorem dX7_thick_14 : decode cX7_thick 14 = .ok (.if_icmp .lt 5, 3) := by decide +kernel
theorem dX7_thick_17 : decode cX7_thick 17 = .ok (.iconst (-1), 1) := by decide +kernel
theorem dX7_thick_18 : decode cX7_thick 18 = .ok (.ireturn, 1) := by decide +kernel
theorem dX7_thick_19 : decode cX7_thick 19 = .ok (.aload_n 0, 1) := by decide +kernel
theorem dX7_thick_20 : decode cX7_thick 20 = .ok (.invokevirtual 169, 3) := by decide +kernel
theorem dX7_thick_23 : decode cX7_thick 23 = .ok (.ifCond .eq 6, 3) := by decide +kernel
theorem dX7_thick_26 : decode cX7_thick 26 = .ok (.bipush (-2), 2) := by decide +kernel
theorem dX7_thick_28 : decode cX7_thick 28 = .ok (.ireturn, 1) := by decide +kernel
theorem dX7_thick_29 : decode cX7_thick 29 = .ok (.aload_n 0, 1) := by decide +kernel
theorem dX7_thick_30 : decode cX7_thick 30 = .ok (.getfield 64, 3) := by decide +kernel
theorem dX7_thick_33 : decode cX7_thick 33 = .ok (.iconst 2, 1) := by decide +kernel
theorem dX7_thick_34 : decode cX7_thick 34 = .ok (.iaload, 1) := by decide +kernel
theorem dX7_thick_35 : decode cX7_thick 35 = .ok (.aload_n 0, 1) := by decide +kernel
theorem dX7_thick_36 : decode cX7_thick 36 = .ok (.invokevirtual 175, 3) := by decide +kernel
theorem dX7_thick_39 : decode cX7_thick 39 = .ok (.isub, 1) := by decide +kernel
theorem dX7_thick_40 : decode cX7_thick 40 = .ok (.istore_n 3, 1) := by decide +kernel
theorem dX7_thick_41 : decode cX7_thick 41 = .ok (.iload_n 1, 1) := by decide +kernel
theorem dX7_thick_42 : decode cX7_thick 42 = .ok (.iload_n 3, 1) := by decide +kernel
theorem dX7_thick_43 : decode cX7_thick 43 = .ok (.iload_n 2, 1) := by decide +kernel
theorem dX7_thick_44 : decode cX7_thick 44 = .ok (.irem, 1) := by decide +kernel
theorem dX7_thick_45 : decode cX7_thick 45 = .ok (.if_icmp .ge 7, 3) := by decide +kernel
theorem dX7_thick_48 : decode cX7_thick 48 = .ok (.iconst 1, 1) := by decide +kernel
theorem dX7_thick_49 : decode cX7_thick 49 = .ok (.goto 4, 3) := by decide +kernel
theorem dX7_thick_52 : decode cX7_thick 52 = .ok (.iconst 0, 1) := by decide +kernel
theorem dX7_thick_53 : decode cX7_thick 53 = .ok (.istore 4, 2) := by decide +kernel
theorem dX7_thick_55 : decode cX7_thick 55 = .ok (.iload_n 3, 1) := by decide +kernel
theorem dX7_thick_56 : decode cX7_thick 56 = .ok (.iload_n 2, 1) := by decide +kernel
theorem dX7_thick_57 : decode cX7_thick 57 = .ok (.idiv, 1) := by decide +kernel
theorem dX7_thick_58 : decode cX7_thick 58 = .ok (.iload 4, 2) := by decide +kernel
theorem dX7_thick_60 : decode cX7_thick 60 = .ok (.iadd, 1) := by decide +kernel
theorem dX7_thick_61 : decode cX7_thick 61 = .ok (.ireturn, 1) := by decide +kernel
theorem dX7_cast_0 : decode cX7_cast 0 = .ok (.aload_n 0, 1) := by decide +kernel
theorem dX7_cast_1 : decode cX7_cast 1 = .ok (.invokevirtual 169, 3) := by decide +kernel
theorem dX7_cast_4 : decode cX7_cast 4 = .ok (.istore_n 1, 1) := by decide +kernel
theorem dX7_cast_5 : decode cX7_cast 5 = .ok (.iload_n 1, 1) := by decide +kernel
theorem dX7_cast_6 : decode cX7_cast 6 = .ok (.ifCond .ge 5, 3) := by decide +kernel
theorem dX7_cast_9 : decode cX7_cast 9 = .ok (.iload_n 1, 1) := by decide +kernel
theorem dX7_cast_10 : decode cX7_cast 10 = .ok (.ireturn, 1) := by decide +kernel
theorem dX7_cast_11 : decode cX7_cast 11 = .ok (.iload_n 1, 1) := by decide +kernel
theorem dX7_cast_12 : decode cX7_cast 12 = .ok (.ifCond .eq 6, 3) := by decide +kernel
theorem dX7_cast_15 : decode cX7_cast 15 = .ok (.bipush (-2), 2) := by decide +kernel
theorem dX7_cast_17 : decode cX7_cast 17 = .ok (.ireturn, 1) := by decide +kernel
theorem dX7_cast_18 : decode cX7_cast 18 = .ok (.aload_n 0, 1) := by decide +kernel
theorem dX7_cast_19 : decode cX7_cast 19 = .ok (.getfield 40, 3) := by decide +kernel
theorem dX7_cast_22 : decode cX7_cast 22 = .ok (.invokevirtual 178, 3) := by decide +kernel
theorem dX7_cast_25 : decode cX7_cast 25 = .ok (.ifCond .eq 6, 3) := by decide +kernel
theorem dX7_cast_28 : decode cX7_cast 28 = .ok (.bipush (-3), 2) := by decide +kernel
theorem dX7_cast_30 : decode cX7_cast 30 = .ok (.ireturn, 1) := by decide +kernel
theorem dX7_cast_31 : decode cX7_cast 31 = .ok (.aload_n 0, 1) := by decide +kernel
theorem dX7_cast_32 : decode cX7_cast 32 = .ok (.invokevirtual 179, 3) := by decide +kernel
theorem dX7_cast_35 : decode cX7_cast 35 = .ok (.aload_n 0, 1) := by decide +kernel
theorem dX7_cast_36 : decode cX7_cast 36 = .ok (.getfield 26, 3) := by decide +kernel
theorem dX7_cast_39 : decode cX7_cast 39 = .ok (.invokevirtual 182, 3) := by decide +kernel
theorem dX7_cast_42 : decode cX7_cast 42 = .ok (.aload_n 0, 1) := by decide +kernel
theorem dX7_cast_43 : decode cX7_cast 43 = .ok (.getfield 40, 3) := by decide +kernel
theorem dX7_cast_46 : decode cX7_cast 46 = .ok (.getfield 185, 3) := by decide +kernel
theorem dX7_cast_49 : decode cX7_cast 49 = .ok (.iconst 1, 1) := by decide +kernel
theorem dX7_cast_50 : decode cX7_cast 50 = .ok (.isub, 1) := by decide +kernel
theorem dX7_cast_51 : decode cX7_cast 51 = .ok (.ireturn, 1) := by decide +kernel
theorem dX7_clear_0 : decode cX7_clear 0 = .ok (.aload_n 0, 1) := by decide +kernel
theorem dX7_clear_1 : decode cX7_clear 1 = .ok (.getfield 26, 3) := by decide +kernel
theorem dX7_clear_4 : decode cX7_clear 4 = .ok (.getfield 188, 3) := by decide +kernel
theorem dX7_clear_7 : decode cX7_clear 7 = .ok (.ifCond .le 6, 3) := by decide +kernel
theorem dX7_clear_10 : decode cX7_clear 10 = .ok (.bipush (-2), 2) := by decide +kernel
theorem dX7_clear_12 : decode cX7_clear 12 = .ok (.ireturn, 1) := by decide +kernel
theorem dX7_clear_13 : decode cX7_clear 13 = .ok (.iconst 0, 1) := by decide +kernel
theorem dX7_clear_14 : decode cX7_clear 14 = .ok (.istore_n 1, 1) := by decide +kernel
theorem dX7_clear_15 : decode cX7_clear 15 = .ok (.iconst 0, 1) := by decide +kernel
theorem dX7_clear_16 : decode cX7_clear 16 = .ok (.istore_n 2, 1) := by decide +kernel
theorem dX7_clear_17 : decode cX7_clear 17 = .ok (.iload_n 2, 1) := by decide +kernel
theorem dX7_clear_18 : decode cX7_clear 18 = .ok (.aload_n 0, 1) := by decide +kernel
theorem dX7_clear_19 : decode cX7_clear 19 = .ok (.getfield 26, 3) := by decide +kernel
theorem dX7_clear_22 : decode cX7_clear 22 = .ok (.getfield 163, 3) := by decide +kernel
theorem dX7_clear_25 : decode cX7_clear 25 = .ok (.if_icmp .ge 45, 3) := by decide +kernel
theorem dX7_clear_28 : decode cX7_clear 28 = .ok (.aload_n 0, 1) := by decide +kernel
theorem dX7_clear_29 : decode cX7_clear 29 = .ok (.getfield 26, 3) := by decide +kernel
theorem dX7_clear_32 : decode cX7_clear 32 = .ok (.getfield 166, 3) := by decide +kernel
theorem dX7_clear_35 : decode cX7_clear 35 = .ok (.iload_n 2, 1) := by decide +kernel
theorem dX7_clear_36 : decode cX7_clear 36 = .ok (.iaload, 1) := by decide +kernel
theorem dX7_clear_37 : decode cX7_clear 37 = .ok (.bipush 100, 2) := by decide +kernel
theorem dX7_clear_39 : decode cX7_clear 39 = .ok (.if_icmp .eq 25, 3) := by decide +kernel
theorem dX7_clear_42 : decode cX7_clear 42 = .ok (.aload_n 0, 1) := by decide +kernel
theorem dX7_clear_43 : decode cX7_clear 43 = .ok (.getfield 19, 3) := by decide +kernel
theorem dX7_clear_46 : decode cX7_clear 46 = .ok (.getfield 131, 3) := by decide +kernel
theorem dX7_clear_49 : decode cX7_clear 49 = .ok (.aload_n 0, 1) := by decide +kernel
theorem dX7_clear_50 : decode cX7_clear 50 = .ok (.getfield 26, 3) := by decide +kernel
theorem dX7_clear_53 : decode cX7_clear 53 = .ok (.getfield 166, 3) := by decide +kernel
theorem dX7_clear_56 : decode cX7_clear 56 = .ok (.iload_n 2, 1) := by decide +kernel
theorem dX7_clear_57 : decode cX7_clear 57 = .ok (.iaload, 1) := by decide +kernel
theorem dX7_clear_58 : decode cX7_clear 58 = .ok (.bipush 12, 2) := by decide +kernel
theorem dX7_clear_60 : decode cX7_clear 60 = .ok (.iastore, 1) := by decide +kernel
theorem dX7_clear_61 : decode cX7_clear 61 = .ok (.iinc 1 1, 3) := by decide +kernel
theorem dX7_clear_64 : decode cX7_clear 64 = .ok (.iinc 2 1, 3) := by decide +kernel
theorem dX7_clear_67 : decode cX7_clear 67 = .ok (.goto (-50), 3) := by decide +kernel
theorem dX7_clear_70 : decode cX7_clear 70 = .ok (.aload_n 0, 1) := by decide +kernel
theorem dX7_clear_71 : decode cX7_clear 71 = .ok (.getfield 26, 3) := by decide +kernel
theorem dX7_clear_74 : decode cX7_clear 74 = .ok (.invokevirtual 182, 3) := by decide +kernel
theorem dX7_clear_77 : decode cX7_clear 77 = .ok (.iload_n 1, 1) := by decide +kernel
theorem dX7_clear_78 : decode cX7_clear 78 = .ok (.ireturn, 1) := by decide +kernel
theorem dX7_slug_0 : decode cX7_slug 0 = .ok (.iload_n 1, 1) := by decide +kernel
theorem dX7_slug_1 : decode cX7_slug 1 = .ok (.ifCond .lt 32, 3) := by decide +kernel
theorem dX7_slug_4 : decode cX7_slug 4 = .ok (.iload_n 1, 1) := by decide +kernel
theorem dX7_slug_5 : decode cX7_slug 5 = .ok (.aload_n 0, 1) := by decide +kernel
theorem dX7_slug_6 : decode cX7_slug 6 = .ok (.getfield 40, 3) := by decide +kernel
theorem dX7_slug_9 : decode cX7_slug 9 = .ok (.getfield 185, 3) := by decide +kernel
theorem dX7_slug_12 : decode cX7_slug 12 = .ok (.if_icmp .ge 21, 3) := by decide +kernel
theorem dX7_slug_15 : decode cX7_slug 15 = .ok (.iload_n 2, 1) := by decide +kernel
theorem dX7_slug_16 : decode cX7_slug 16 = .ok (.iconst (-1), 1) := by decide +kernel
theorem dX7_slug_17 : decode cX7_slug 17 = .ok (.if_icmp .lt 16, 3) := by decide +kernel
theorem dX7_slug_20 : decode cX7_slug 20 = .ok (.iload_n 2, 1) := by decide +kernel
theorem dX7_slug_21 : decode cX7_slug 21 = .ok (.aload_n 0, 1) := by decide +kernel
theorem dX7_slug_22 : decode cX7_slug 22 = .ok (.getfield 40, 3) := by decide +kernel
theorem dX7_slug_25 : decode cX7_slug 25 = .ok (.getfield 191, 3) := by decide +kernel
theorem dX7_slug_28 : decode cX7_slug 28 = .ok (.iload_n 1, 1) := by decide +kernel
theorem dX7_slug_29 : decode cX7_slug 29 = .ok (.iaload, 1) := by decide +kernel
theorem dX7_slug_30 : decode cX7_slug 30 = .ok (.if_icmp .lt 5, 3) := by decide +kernel
theorem dX7_slug_33 : decode cX7_slug 33 = .ok (.iconst (-1), 1) := by decide +kernel
theorem dX7_slug_34 : decode cX7_slug 34 = .ok (.ireturn, 1) := by decide +kernel
theorem dX7_slug_35 : decode cX7_slug 35 = .ok (.iload_n 2, 1) := by decide +kernel
theorem dX7_slug_36 : decode cX7_slug 36 = .ok (.iconst (-1), 1) := by decide +kernel
theorem dX7_slug_37 : decode cX7_slug 37 = .ok (.if_icmp .ne 15, 3) := by decide +kernel
theorem dX7_slug_40 : decode cX7_slug 40 = .ok (.aload_n 0, 1) := by decide +kernel
theorem dX7_slug_41 : decode cX7_slug 41 = .ok (.getfield 40, 3) := by decide +kernel
theorem dX7_slug_44 : decode cX7_slug 44 = .ok (.getfield 191, 3) := by decide +kernel
theorem dX7_slug_47 : decode cX7_slug 47 = .ok (.iload_n 1, 1) := by decide +kernel
theorem dX7_slug_48 : decode cX7_slug 48 = .ok (.iaload, 1) := by decide +kernel
theorem dX7_slug_49 : decode cX7_slug 49 = .ok (.goto 14, 3) := by decide +kernel
theorem dX7_slug_52 : decode cX7_slug 52 = .ok (.aload_n 0, 1) := by decide +kernel
theorem dX7_slug_53 : decode cX7_slug 53 = .ok (.getfield 40, 3) := by decide +kernel
theorem dX7_slug_56 : decode cX7_slug 56 = .ok (.getfield 194, 3) := by decide +kernel
theorem dX7_slug_59 : decode cX7_slug 59 = .ok (.iload_n 1, 1) := by decide +kernel
theorem dX7_slug_60 : decode cX7_slug 60 = .ok (.aaload, 1) := by decide +kernel
theorem dX7_slug_61 : decode cX7_slug 61 = .ok (.iload_n 2, 1) := by decide +kernel
theorem dX7_slug_62 : decode cX7_slug 62 = .ok (.baload, 1) := by decide +kernel
theorem dX7_slug_63 : decode cX7_slug 63 = .ok (.ireturn, 1) := by decide +kernel
theorem dX7_count_0 : decode cX7_count 0 = .ok (.iload_n 1, 1) := by decide +kernel
theorem dX7_count_1 : decode cX7_count 1 = .ok (.tableswitch 138 0 8 #[51, 59, 70, 82, 94, 106, 114, 125, 133], 51) := by decide +kernel
theorem dX7_count_52 : decode cX7_count 52 = .ok (.aload_n 0, 1) := by decide +kernel
theorem dX7_count_53 : decode cX7_count 53 = .ok (.getfield 19, 3) := by decide +kernel
theorem dX7_count_56 : decode cX7_count 56 = .ok (.getfield 198, 3) := by decide +kernel
theorem dX7_count_59 : decode cX7_count 59 = .ok (.ireturn, 1) := by decide +kernel
theorem dX7_count_60 : decode cX7_count 60 = .ok (.aload_n 0, 1) := by decide +kernel
theorem dX7_count_61 : decode cX7_count 61 = .ok (.getfield 19, 3) := by decide +kernel
theorem dX7_count_64 : decode cX7_count 64 = .ok (.iconst 0, 1) := by decide +kernel
theorem dX7_count_65 : decode cX7_count 65 = .ok (.bipush 11, 2) := by decide +kernel
theorem dX7_count_67 : decode cX7_count 67 = .ok (.invokevirtual 201, 3) := by decide +kernel
theorem dX7_count_70 : decode cX7_count 70 = .ok (.ireturn, 1) := by decide +kernel
theorem dX7_count_71 : decode cX7_count 71 = .ok (.aload_n 0, 1) := by decide +kernel
theorem dX7_count_72 : decode cX7_count 72 = .ok (.getfield 19, 3) := by decide +kernel
theorem dX7_count_75 : decode cX7_count 75 = .ok (.bipush 12, 2) := by decide +kernel
theorem dX7_count_77 : decode cX7_count 77 = .ok (.bipush 12, 2) := by decide +kernel
theorem dX7_count_79 : decode cX7_count 79 = .ok (.invokevirtual 201, 3) := by decide +kernel
theorem dX7_count_82 : decode cX7_count 82 = .ok (.ireturn, 1) := by decide +kernel
theorem dX7_count_83 : decode cX7_count 83 = .ok (.aload_n 0, 1) := by decide +kernel
theorem dX7_count_84 : decode cX7_count 84 = .ok (.getfield 19, 3) := by decide +kernel
theorem dX7_count_87 : decode cX7_count 87 = .ok (.bipush 13, 2) := by decide +kernel
theorem dX7_count_89 : decode cX7_count 89 = .ok (.bipush 13, 2) := by decide +kernel
theorem dX7_count_91 : decode cX7_count 91 = .ok (.invokevirtual 201, 3) := by decide +kernel
theorem dX7_count_94 : decode cX7_count 94 = .ok (.ireturn, 1) := by decide +kernel
theorem dX7_count_95 : decode cX7_count 95 = .ok (.aload_n 0, 1) := by decide +kernel
theorem dX7_count_96 : decode cX7_count 96 = .ok (.getfield 19, 3) := by decide +kernel
theorem dX7_count_99 : decode cX7_count 99 = .ok (.bipush 14, 2) := by decide +kernel
theorem dX7_count_101 : decode cX7_count 101 = .ok (.bipush 14, 2) := by decide +kernel
theorem dX7_count_103 : decode cX7_count 103 = .ok (.invokevirtual 201, 3) := by decide +kernel
theorem dX7_count_106 : decode cX7_count 106 = .ok (.ireturn, 1) := by decide +kernel
theorem dX7_count_107 : decode cX7_count 107 = .ok (.aload_n 0, 1) := by decide +kernel
theorem dX7_count_108 : decode cX7_count 108 = .ok (.getfield 40, 3) := by decide +kernel
theorem dX7_count_111 : decode cX7_count 111 = .ok (.getfield 185, 3) := by decide +kernel
theorem dX7_count_114 : decode cX7_count 114 = .ok (.ireturn, 1) := by decide +kernel
theorem dX7_count_115 : decode cX7_count 115 = .ok (.bipush 12, 2) := by decide +kernel
theorem dX7_count_117 : decode cX7_count 117 = .ok (.aload_n 0, 1) := by decide +kernel
theorem dX7_count_118 : decode cX7_count 118 = .ok (.getfield 26, 3) := by decide +kernel
theorem dX7_count_121 : decode cX7_count 121 = .ok (.getfield 155, 3) := by decide +kernel
theorem dX7_count_124 : decode cX7_count 124 = .ok (.isub, 1) := by decide +kernel
theorem dX7_count_125 : decode cX7_count 125 = .ok (.ireturn, 1) := by decide +kernel
theorem dX7_count_126 : decode cX7_count 126 = .ok (.aload_n 0, 1) := by decide +kernel
theorem dX7_count_127 : decode cX7_count 127 = .ok (.getfield 33, 3) := by decide +kernel
theorem dX7_count_130 : decode cX7_count 130 = .ok (.getfield 204, 3) := by decide +kernel
theorem dX7_count_133 : decode cX7_count 133 = .ok (.ireturn, 1) := by decide +kernel
theorem dX7_count_134 : decode cX7_count 134 = .ok (.aload_n 0, 1) := by decide +kernel
theorem dX7_count_135 : decode cX7_count 135 = .ok (.getfield 70, 3) := by decide +kernel
theorem dX7_count_138 : decode cX7_count 138 = .ok (.ireturn, 1) := by decide +kernel
theorem dX7_count_139 : decode cX7_count 139 = .ok (.iconst (-1), 1) := by decide +kernel
theorem dX7_count_140 : decode cX7_count 140 = .ok (.ireturn, 1) := by decide +kernel
theorem dX7_comes_0 : decode cX7_comes 0 = .ok (.iload 5, 2) := by decide +kernel
theorem dX7_comes_2 : decode cX7_comes 2 = .ok (.invokestatic 207, 3) := by decide +kernel
theorem dX7_comes_5 : decode cX7_comes 5 = .ok (.ifCond .eq 15, 3) := by decide +kernel
theorem dX7_comes_8 : decode cX7_comes 8 = .ok (.iload 6, 2) := by decide +kernel
theorem dX7_comes_10 : decode cX7_comes 10 = .ok (.ifCond .lt 10, 3) := by decide +kernel
theorem dX7_comes_13 : decode cX7_comes 13 = .ok (.iload 6, 2) := by decide +kernel
theorem dX7_comes_15 : decode cX7_comes 15 = .ok (.iload 4, 2) := by decide +kernel
theorem dX7_comes_17 : decode cX7_comes 17 = .ok (.if_icmp .lt 5, 3) := by decide +kernel
theorem dX7_comes_20 : decode cX7_comes 20 = .ok (.iconst (-1), 1) := by decide +kernel
theorem dX7_comes_21 : decode cX7_comes 21 = .ok (.ireturn, 1) := by decide +kernel
theorem dX7_comes_22 : decode cX7_comes 22 = .ok (.aload_n 0, 1) := by decide +kernel
theorem dX7_comes_23 : decode cX7_comes 23 = .ok (.iload_n 1, 1) := by decide +kernel
theorem dX7_comes_24 : decode cX7_comes 24 = .ok (.iload_n 2, 1) := by decide +kernel
theorem dX7_comes_25 : decode cX7_comes 25 = .ok (.iload_n 3, 1) := by decide +kernel
theorem dX7_comes_26 : decode cX7_comes 26 = .ok (.iload 4, 2) := by decide +kernel
theorem dX7_comes_28 : decode cX7_comes 28 = .ok (.invokevirtual 210, 3) := by decide +kernel
theorem dX7_comes_31 : decode cX7_comes 31 = .ok (.istore 7, 2) := by decide +kernel
theorem dX7_comes_33 : decode cX7_comes 33 = .ok (.iload 7, 2) := by decide +kernel
theorem dX7_comes_35 : decode cX7_comes 35 = .ok (.ifCond .eq 8, 3) := by decide +kernel
theorem dX7_comes_38 : decode cX7_comes 38 = .ok (.iload 7, 2) := by decide +kernel
theorem dX7_comes_40 : decode cX7_comes 40 = .ok (.goto 13, 3) := by decide +kernel
theorem dX7_comes_43 : decode cX7_comes 43 = .ok (.aload_n 0, 1) := by decide +kernel
theorem dX7_comes_44 : decode cX7_comes 44 = .ok (.iload 4, 2) := by decide +kernel
theorem dX7_comes_46 : decode cX7_comes 46 = .ok (.iload 5, 2) := by decide +kernel
theorem dX7_comes_48 : decode cX7_comes 48 = .ok (.iload 6, 2) := by decide +kernel
theorem dX7_comes_50 : decode cX7_comes 50 = .ok (.invokevirtual 213, 3) := by decide +kernel
theorem dX7_comes_53 : decode cX7_comes 53 = .ok (.ireturn, 1) := by decide +kernel
theorem dX7_turned_0 : decode cX7_turned 0 = .ok (.iload 5, 2) := by decide +kernel
theorem dX7_turned_2 : decode cX7_turned 2 = .ok (.invokestatic 207, 3) := by decide +kernel
theorem dX7_turned_5 : decode cX7_turned 5 = .ok (.ifCond .ne 5, 3) := by decide +kernel
theorem dX7_turned_8 : decode cX7_turned 8 = .ok (.iconst (-1), 1) := by decide +kernel
theorem dX7_turned_9 : decode cX7_turned 9 = .ok (.ireturn, 1) := by decide +kernel
theorem dX7_turned_10 : decode cX7_turned 10 = .ok (.aload_n 0, 1) := by decide +kernel
theorem dX7_turned_11 : decode cX7_turned 11 = .ok (.iload_n 1, 1) := by decide +kernel
theorem dX7_turned_12 : decode cX7_turned 12 = .ok (.iload_n 2, 1) := by decide +kernel
theorem dX7_turned_13 : decode cX7_turned 13 = .ok (.iload_n 3, 1) := by decide +kernel
theorem dX7_turned_14 : decode cX7_turned 14 = .ok (.iload 4, 2) := by decide +kernel
theorem dX7_turned_16 : decode cX7_turned 16 = .ok (.invokevirtual 210, 3) := by decide +kernel
theorem dX7_turned_19 : decode cX7_turned 19 = .ok (.istore 6, 2) := by decide +kernel
theorem dX7_turned_21 : decode cX7_turned 21 = .ok (.iload 6, 2) := by decide +kernel
theorem dX7_turned_23 : decode cX7_turned 23 = .ok (.ifCond .eq 8, 3) := by decide +kernel
theorem dX7_turned_26 : decode cX7_turned 26 = .ok (.iload 6, 2) := by decide +kernel
theorem dX7_turned_28 : decode cX7_turned 28 = .ok (.goto 11, 3) := by decide +kernel
theorem dX7_turned_31 : decode cX7_turned 31 = .ok (.aload_n 0, 1) := by decide +kernel
theorem dX7_turned_32 : decode cX7_turned 32 = .ok (.iload 4, 2) := by decide +kernel
theorem dX7_turned_34 : decode cX7_turned 34 = .ok (.iload 5, 2) := by decide +kernel
theorem dX7_turned_36 : decode cX7_turned 36 = .ok (.invokevirtual 217, 3) := by decide +kernel
theorem dX7_turned_39 : decode cX7_turned 39 = .ok (.ireturn, 1) := by decide +kernel
theorem dX7_waits_0 : decode cX7_waits 0 = .ok (.aload_n 0, 1) := by decide +kernel
theorem dX7_waits_1 : decode cX7_waits 1 = .ok (.iload_n 1, 1) := by decide +kernel
theorem dX7_waits_2 : decode cX7_waits 2 = .ok (.iload_n 2, 1) := by decide +kernel
theorem dX7_waits_3 : decode cX7_waits 3 = .ok (.iload_n 3, 1) := by decide +kernel
theorem dX7_waits_4 : decode cX7_waits 4 = .ok (.iload 4, 2) := by decide +kernel
theorem dX7_waits_6 : decode cX7_waits 6 = .ok (.invokevirtual 210, 3) := by decide +kernel
theorem dX7_waits_9 : decode cX7_waits 9 = .ok (.istore 5, 2) := by decide +kernel
theorem dX7_waits_11 : decode cX7_waits 11 = .ok (.iload 5, 2) := by decide +kernel
theorem dX7_waits_13 : decode cX7_waits 13 = .ok (.ifCond .eq 6, 3) := by decide +kernel
theorem dX7_waits_16 : decode cX7_waits 16 = .ok (.iload 5, 2) := by decide +kernel
theorem dX7_waits_18 : decode cX7_waits 18 = .ok (.ireturn, 1) := by decide +kernel
theorem dX7_waits_19 : decode cX7_waits 19 = .ok (.iconst 0, 1) := by decide +kernel
theorem dX7_waits_20 : decode cX7_waits 20 = .ok (.istore 6, 2) := by decide +kernel
theorem dX7_waits_22 : decode cX7_waits 22 = .ok (.iconst 1, 1) := by decide +kernel
theorem dX7_waits_23 : decode cX7_waits 23 = .ok (.istore 7, 2) := by decide +kernel
theorem dX7_waits_25 : decode cX7_waits 25 = .ok (.iload 7, 2) := by decide +kernel
theorem dX7_waits_27 : decode cX7_waits 27 = .ok (.iload 4, 2) := by decide +kernel
theorem dX7_waits_29 : decode cX7_waits 29 = .ok (.if_icmp .ge 35, 3) := by decide +kernel
theorem dX7_waits_32 : decode cX7_waits 32 = .ok (.iload 6, 2) := by decide +kernel
theorem dX7_waits_34 : decode cX7_waits 34 = .ok (.iconst 1, 1) := by decide +kernel
theorem dX7_waits_35 : decode cX7_waits 35 = .ok (.aload_n 0, 1) := by decide +kernel
theorem dX7_waits_36 : decode cX7_waits 36 = .ok (.getfield 67, 3) := by decide +kernel
theorem dX7_waits_39 : decode cX7_waits 39 = .ok (.iload 7, 2) := by decide +kernel
theorem dX7_waits_41 : decode cX7_waits 41 = .ok (.iconst 1, 1) := by decide +kernel
theorem dX7_waits_42 : decode cX7_waits 42 = .ok (.isub, 1) := by decide +kernel
theorem dX7_waits_43 : decode cX7_waits 43 = .ok (.iaload, 1) := by decide +kernel
theorem dX7_waits_44 : decode cX7_waits 44 = .ok (.aload_n 0, 1) := by decide +kernel
theorem dX7_waits_45 : decode cX7_waits 45 = .ok (.getfield 67, 3) := by decide +kernel
theorem dX7_waits_48 : decode cX7_waits 48 = .ok (.iload 7, 2) := by decide +kernel
theorem dX7_waits_50 : decode cX7_waits 50 = .ok (.iaload, 1) := by decide +kernel
theorem dX7_waits_51 : decode cX7_waits 51 = .ok (.isub, 1) := by decide +kernel
theorem dX7_waits_52 : decode cX7_waits 52 = .ok (.invokestatic 220, 3) := by decide +kernel
theorem dX7_waits_55 : decode cX7_waits 55 = .ok (.iadd, 1) := by decide +kernel
theorem dX7_waits_56 : decode cX7_waits 56 = .ok (.istore 6, 2) := by decide +kernel
theorem dX7_waits_58 : decode cX7_waits 58 = .ok (.iinc 7 1, 3) := by decide +kernel
theorem dX7_waits_61 : decode cX7_waits 61 = .ok (.goto (-36), 3) := by decide +kernel
theorem dX7_waits_64 : decode cX7_waits 64 = .ok (.iload 6, 2) := by decide +kernel
theorem dX7_waits_66 : decode cX7_waits 66 = .ok (.ireturn, 1) := by decide +kernel
theorem dX7_gap_0 : decode cX7_gap 0 = .ok (.aload_n 0, 1) := by decide +kernel
theorem dX7_gap_1 : decode cX7_gap 1 = .ok (.iload_n 1, 1) := by decide +kernel
theorem dX7_gap_2 : decode cX7_gap 2 = .ok (.iload_n 2, 1) := by decide +kernel
theorem dX7_gap_3 : decode cX7_gap 3 = .ok (.iload_n 3, 1) := by decide +kernel
theorem dX7_gap_4 : decode cX7_gap 4 = .ok (.iload 4, 2) := by decide +kernel
theorem dX7_gap_6 : decode cX7_gap 6 = .ok (.invokevirtual 210, 3) := by decide +kernel
theorem dX7_gap_9 : decode cX7_gap 9 = .ok (.istore 5, 2) := by decide +kernel
theorem dX7_gap_11 : decode cX7_gap 11 = .ok (.iload 5, 2) := by decide +kernel
theorem dX7_gap_13 : decode cX7_gap 13 = .ok (.ifCond .eq 6, 3) := by decide +kernel
theorem dX7_gap_16 : decode cX7_gap 16 = .ok (.iload 5, 2) := by decide +kernel
theorem dX7_gap_18 : decode cX7_gap 18 = .ok (.ireturn, 1) := by decide +kernel
theorem dX7_gap_19 : decode cX7_gap 19 = .ok (.iconst 1, 1) := by decide +kernel
theorem dX7_gap_20 : decode cX7_gap 20 = .ok (.istore 6, 2) := by decide +kernel
theorem dX7_gap_22 : decode cX7_gap 22 = .ok (.iload 6, 2) := by decide +kernel
theorem dX7_gap_24 : decode cX7_gap 24 = .ok (.bipush 30, 2) := by decide +kernel
theorem dX7_gap_26 : decode cX7_gap 26 = .ok (.if_icmp .gt 23, 3) := by decide +kernel
theorem dX7_gap_29 : decode cX7_gap 29 = .ok (.aload_n 0, 1) := by decide +kernel
theorem dX7_gap_30 : decode cX7_gap 30 = .ok (.iload 4, 2) := by decide +kernel
theorem dX7_gap_32 : decode cX7_gap 32 = .ok (.iload 6, 2) := by decide +kernel
theorem dX7_gap_34 : decode cX7_gap 34 = .ok (.invokevirtual 217, 3) := by decide +kernel
theorem dX7_gap_37 : decode cX7_gap 37 = .ok (.ifCond .ne 6, 3) := by decide +kernel
theorem dX7_gap_40 : decode cX7_gap 40 = .ok (.iload 6, 2) := by decide +kernel
theorem dX7_gap_42 : decode cX7_gap 42 = .ok (.ireturn, 1) := by decide +kernel
theorem dX7_gap_43 : decode cX7_gap 43 = .ok (.iinc 6 1, 3) := by decide +kernel
theorem dX7_gap_46 : decode cX7_gap 46 = .ok (.goto (-24), 3) := by decide +kernel
theorem dX7_gap_49 : decode cX7_gap 49 = .ok (.bipush (-4), 2) := by decide +kernel
theorem dX7_gap_51 : decode cX7_gap 51 = .ok (.ireturn, 1) := by decide +kernel
theorem dX7_type_0 : decode cX7_type 0 = .ok (.iload_n 3, 1) := by decide +kernel
theorem dX7_type_1 : decode cX7_type 1 = .ok (.iconst 1, 1) := by decide +kernel
theorem dX7_type_2 : decode cX7_type 2 = .ok (.if_icmp .lt 9, 3) := by decide +kernel
theorem dX7_type_5 : decode cX7_type 5 = .ok (.iload_n 3, 1) := by decide +kernel
theorem dX7_type_6 : decode cX7_type 6 = .ok (.bipush 8, 2) := by decide +kernel
theorem dX7_type_8 : decode cX7_type 8 = .ok (.if_icmp .le 5, 3) := by decide +kernel
theorem dX7_type_11 : decode cX7_type 11 = .ok (.iconst (-1), 1) := by decide +kernel
theorem dX7_type_12 : decode cX7_type 12 = .ok (.ireturn, 1) := by decide +kernel
theorem dX7_type_13 : decode cX7_type 13 = .ok (.iconst 0, 1) := by decide +kernel
theorem dX7_type_14 : decode cX7_type 14 = .ok (.istore 4, 2) := by decide +kernel
theorem dX7_type_16 : decode cX7_type 16 = .ok (.iload 4, 2) := by decide +kernel
theorem dX7_type_18 : decode cX7_type 18 = .ok (.iload_n 3, 1) := by decide +kernel
theorem dX7_type_19 : decode cX7_type 19 = .ok (.if_icmp .ge 33, 3) := by decide +kernel
theorem dX7_type_22 : decode cX7_type 22 = .ok (.lload_n 1, 1) := by decide +kernel
theorem dX7_type_23 : decode cX7_type 23 = .ok (.iload 4, 2) := by decide +kernel
theorem dX7_type_25 : decode cX7_type 25 = .ok (.invokestatic 225, 3) := by decide +kernel
theorem dX7_type_28 : decode cX7_type 28 = .ok (.istore 5, 2) := by decide +kernel
theorem dX7_type_30 : decode cX7_type 30 = .ok (.iload 5, 2) := by decide +kernel
theorem dX7_type_32 : decode cX7_type 32 = .ok (.bipush 32, 2) := by decide +kernel
theorem dX7_type_34 : decode cX7_type 34 = .ok (.if_icmp .lt 10, 3) := by decide +kernel
theorem dX7_type_37 : decode cX7_type 37 = .ok (.iload 5, 2) := by decide +kernel
theorem dX7_type_39 : decode cX7_type 39 = .ok (.bipush 126, 2) := by decide +kernel
theorem dX7_type_41 : decode cX7_type 41 = .ok (.if_icmp .le 5, 3) := by decide +kernel
theorem dX7_type_44 : decode cX7_type 44 = .ok (.iconst (-1), 1) := by decide +kernel
theorem dX7_type_45 : decode cX7_type 45 = .ok (.ireturn, 1) := by decide +kernel
theorem dX7_type_46 : decode cX7_type 46 = .ok (.iinc 4 1, 3) := by decide +kernel
theorem dX7_type_49 : decode cX7_type 49 = .ok (.goto (-33), 3) := by decide +kernel
theorem dX7_type_52 : decode cX7_type 52 = .ok (.aload_n 0, 1) := by decide +kernel
theorem dX7_type_53 : decode cX7_type 53 = .ok (.getfield 47, 3) := by decide +kernel
theorem dX7_type_56 : decode cX7_type 56 = .ok (.getfield 229, 3) := by decide +kernel
theorem dX7_type_59 : decode cX7_type 59 = .ok (.iload_n 3, 1) := by decide +kernel
theorem dX7_type_60 : decode cX7_type 60 = .ok (.iadd, 1) := by decide +kernel
theorem dX7_type_61 : decode cX7_type 61 = .ok (.bipush 60, 2) := by decide +kernel
theorem dX7_type_63 : decode cX7_type 63 = .ok (.if_icmp .le 6, 3) := by decide +kernel
theorem dX7_type_66 : decode cX7_type 66 = .ok (.bipush (-3), 2) := by decide +kernel
theorem dX7_type_68 : decode cX7_type 68 = .ok (.ireturn, 1) := by decide +kernel
theorem dX7_type_69 : decode cX7_type 69 = .ok (.iload_n 3, 1) := by decide +kernel
theorem dX7_type_70 : decode cX7_type 70 = .ok (.iconst 1, 1) := by decide +kernel
theorem dX7_type_71 : decode cX7_type 71 = .ok (.isub, 1) := by decide +kernel
theorem dX7_type_72 : decode cX7_type 72 = .ok (.istore 4, 2) := by decide +kernel
theorem dX7_type_74 : decode cX7_type 74 = .ok (.iload 4, 2) := by decide +kernel
theorem dX7_type_76 : decode cX7_type 76 = .ok (.ifCond .lt 22, 3) := by decide +kernel
theorem dX7_type_79 : decode cX7_type 79 = .ok (.aload_n 0, 1) := by decide +kernel
theorem dX7_type_80 : decode cX7_type 80 = .ok (.getfield 47, 3) := by decide +kernel
theorem dX7_type_83 : decode cX7_type 83 = .ok (.lload_n 1, 1) := by decide +kernel
theorem dX7_type_84 : decode cX7_type 84 = .ok (.iload 4, 2) := by decide +kernel
theorem dX7_type_86 : decode cX7_type 86 = .ok (.invokestatic 225, 3) := by decide +kernel
theorem dX7_type_89 : decode cX7_type 89 = .ok (.invokevirtual 232, 3) := by decide +kernel
theorem dX7_type_92 : decode cX7_type 92 = .ok (.iinc 4 (-1), 3) := by decide +kernel
theorem dX7_type_95 : decode cX7_type 95 = .ok (.goto (-21), 3) := by decide +kernel
theorem dX7_type_98 : decode cX7_type 98 = .ok (.aload_n 0, 1) := by decide +kernel
theorem dX7_type_99 : decode cX7_type 99 = .ok (.getfield 47, 3) := by decide +kernel
theorem dX7_type_102 : decode cX7_type 102 = .ok (.getfield 229, 3) := by decide +kernel
theorem dX7_type_105 : decode cX7_type 105 = .ok (.ireturn, 1) := by decide +kernel
theorem dX7_plays_0 : decode cX7_plays 0 = .ok (.iload_n 1, 1) := by decide +kernel
theorem dX7_plays_1 : decode cX7_plays 1 = .ok (.invokestatic 207, 3) := by decide +kernel
theorem dX7_plays_4 : decode cX7_plays 4 = .ok (.ifCond .ne 5, 3) := by decide +kernel
theorem dX7_plays_7 : decode cX7_plays 7 = .ok (.iconst (-1), 1) := by decide +kernel
theorem dX7_plays_8 : decode cX7_plays 8 = .ok (.ireturn, 1) := by decide +kernel
theorem dX7_plays_9 : decode cX7_plays 9 = .ok (.aload_n 0, 1) := by decide +kernel
theorem dX7_plays_10 : decode cX7_plays 10 = .ok (.getfield 47, 3) := by decide +kernel
theorem dX7_plays_13 : decode cX7_plays 13 = .ok (.getfield 229, 3) := by decide +kernel
theorem dX7_plays_16 : decode cX7_plays 16 = .ok (.istore_n 2, 1) := by decide +kernel
theorem dX7_plays_17 : decode cX7_plays 17 = .ok (.aload_n 0, 1) := by decide +kernel
theorem dX7_plays_18 : decode cX7_plays 18 = .ok (.getfield 47, 3) := by decide +kernel
theorem dX7_plays_21 : decode cX7_plays 21 = .ok (.invokevirtual 235, 3) := by decide +kernel
theorem dX7_plays_24 : decode cX7_plays 24 = .ok (.istore_n 3, 1) := by decide +kernel
theorem dX7_plays_25 : decode cX7_plays 25 = .ok (.aload_n 0, 1) := by decide +kernel
theorem dX7_plays_26 : decode cX7_plays 26 = .ok (.getfield 47, 3) := by decide +kernel
theorem dX7_plays_29 : decode cX7_plays 29 = .ok (.iconst 0, 1) := by decide +kernel
theorem dX7_plays_30 : decode cX7_plays 30 = .ok (.putfield 229, 3) := by decide +kernel
theorem dX7_plays_33 : decode cX7_plays 33 = .ok (.iload_n 2, 1) := by decide +kernel
theorem dX7_plays_34 : decode cX7_plays 34 = .ok (.ifCond .eq 8, 3) := by decide +kernel
theorem dX7_plays_37 : decode cX7_plays 37 = .ok (.iload_n 3, 1) := by decide +kernel
theorem dX7_plays_38 : decode cX7_plays 38 = .ok (.iload_n 2, 1) := by decide +kernel
theorem dX7_plays_39 : decode cX7_plays 39 = .ok (.if_icmp .ge 8, 3) := by decide +kernel
theorem dX7_plays_42 : decode cX7_plays 42 = .ok (.bipush (-20), 2) := by decide +kernel
theorem dX7_plays_44 : decode cX7_plays 44 = .ok (.iload_n 3, 1) := by decide +kernel
theorem dX7_plays_45 : decode cX7_plays 45 = .ok (.isub, 1) := by decide +kernel
theorem dX7_plays_46 : decode cX7_plays 46 = .ok (.ireturn, 1) := by decide +kernel
theorem dX7_plays_47 : decode cX7_plays 47 = .ok (.aload_n 0, 1) := by decide +kernel
theorem dX7_plays_48 : decode cX7_plays 48 = .ok (.getfield 70, 3) := by decide +kernel
theorem dX7_plays_51 : decode cX7_plays 51 = .ok (.iload_n 2, 1) := by decide +kernel
theorem dX7_plays_52 : decode cX7_plays 52 = .ok (.iconst 1, 1) := by decide +kernel
theorem dX7_plays_53 : decode cX7_plays 53 = .ok (.isub, 1) := by decide +kernel
theorem dX7_plays_54 : decode cX7_plays 54 = .ok (.iload_n 1, 1) := by decide +kernel
theorem dX7_plays_55 : decode cX7_plays 55 = .ok (.imul, 1) := by decide +kernel
theorem dX7_plays_56 : decode cX7_plays 56 = .ok (.iadd, 1) := by decide +kernel
theorem dX7_plays_57 : decode cX7_plays 57 = .ok (.ldc 158, 2) := by decide +kernel
theorem dX7_plays_59 : decode cX7_plays 59 = .ok (.if_icmp .le 6, 3) := by decide +kernel
theorem dX7_plays_62 : decode cX7_plays 62 = .ok (.bipush (-3), 2) := by decide +kernel
theorem dX7_plays_64 : decode cX7_plays 64 = .ok (.ireturn, 1) := by decide +kernel
theorem dX7_plays_65 : decode cX7_plays 65 = .ok (.aload_n 0, 1) := by decide +kernel
theorem dX7_plays_66 : decode cX7_plays 66 = .ok (.iload_n 2, 1) := by decide +kernel
theorem dX7_plays_67 : decode cX7_plays 67 = .ok (.iload_n 1, 1) := by decide +kernel
theorem dX7_plays_68 : decode cX7_plays 68 = .ok (.invokevirtual 238, 3) := by decide +kernel
theorem dX7_plays_71 : decode cX7_plays 71 = .ok (.ireturn, 1) := by decide +kernel
theorem dX7_risk_0 : decode cX7_risk 0 = .ok (.iload_n 1, 1) := by decide +kernel
theorem dX7_risk_1 : decode cX7_risk 1 = .ok (.invokestatic 75, 3) := by decide +kernel
theorem dX7_risk_4 : decode cX7_risk 4 = .ok (.ifCond .eq 14, 3) := by decide +kernel
theorem dX7_risk_7 : decode cX7_risk 7 = .ok (.aload_n 0, 1) := by decide +kernel
theorem dX7_risk_8 : decode cX7_risk 8 = .ok (.getfield 12, 3) := by decide +kernel
theorem dX7_risk_11 : decode cX7_risk 11 = .ok (.iload_n 1, 1) := by decide +kernel
theorem dX7_risk_12 : decode cX7_risk 12 = .ok (.invokevirtual 241, 3) := by decide +kernel
theorem dX7_risk_15 : decode cX7_risk 15 = .ok (.goto 4, 3) := by decide +kernel
theorem dX7_risk_18 : decode cX7_risk 18 = .ok (.iconst (-1), 1) := by decide +kernel
theorem dX7_risk_19 : decode cX7_risk 19 = .ok (.ireturn, 1) := by decide +kernel
theorem dX7_better_0 : decode cX7_better 0 = .ok (.iload_n 1, 1) := by decide +kernel
theorem dX7_better_1 : decode cX7_better 1 = .ok (.invokestatic 75, 3) := by decide +kernel
theorem dX7_better_4 : decode cX7_better 4 = .ok (.ifCond .eq 14, 3) := by decide +kernel
theorem dX7_better_7 : decode cX7_better 7 = .ok (.aload_n 0, 1) := by decide +kernel
theorem dX7_better_8 : decode cX7_better 8 = .ok (.getfield 12, 3) := by decide +kernel
theorem dX7_better_11 : decode cX7_better 11 = .ok (.iload_n 1, 1) := by decide +kernel
theorem dX7_better_12 : decode cX7_better 12 = .ok (.invokevirtual 244, 3) := by decide +kernel
theorem dX7_better_15 : decode cX7_better 15 = .ok (.goto 4, 3) := by decide +kernel
theorem dX7_better_18 : decode cX7_better 18 = .ok (.iconst (-1), 1) := by decide +kernel
theorem dX7_better_19 : decode cX7_better 19 = .ok (.ireturn, 1) := by decide +kernel
theorem dX7_sheet_0 : decode cX7_sheet 0 = .ok (.iload_n 1, 1) := by decide +kernel
theorem dX7_sheet_1 : decode cX7_sheet 1 = .ok (.invokestatic 247, 3) := by decide +kernel
theorem dX7_sheet_4 : decode cX7_sheet 4 = .ok (.ifCond .eq 16, 3) := by decide +kernel
theorem dX7_sheet_7 : decode cX7_sheet 7 = .ok (.iload_n 2, 1) := by decide +kernel
theorem dX7_sheet_8 : decode cX7_sheet 8 = .ok (.invokestatic 250, 3) := by decide +kernel
theorem dX7_sheet_11 : decode cX7_sheet 11 = .ok (.ifCond .eq 9, 3) := by decide +kernel
theorem dX7_sheet_14 : decode cX7_sheet 14 = .ok (.iload_n 3, 1) := by decide +kernel
theorem dX7_sheet_15 : decode cX7_sheet 15 = .ok (.bipush 40, 2) := by decide +kernel
theorem dX7_sheet_17 : decode cX7_sheet 17 = .ok (.if_icmp .le 5, 3) := by decide +kernel
theorem dX7_sheet_20 : decode cX7_sheet 20 = .ok (.iconst (-1), 1) := by decide +kernel
theorem dX7_sheet_21 : decode cX7_sheet 21 = .ok (.ireturn, 1) := by decide +kernel
theorem dX7_sheet_22 : decode cX7_sheet 22 = .ok (.iload_n 3, 1) := by decide +kernel
theorem dX7_sheet_23 : decode cX7_sheet 23 = .ok (.ifCond .ge 6, 3) := by decide +kernel
theorem dX7_sheet_26 : decode cX7_sheet 26 = .ok (.bipush (-14), 2) := by decide +kernel
theorem dX7_sheet_28 : decode cX7_sheet 28 = .ok (.ireturn, 1) := by decide +kernel
theorem dX7_sheet_29 : decode cX7_sheet 29 = .ok (.aload_n 0, 1) := by decide +kernel
theorem dX7_sheet_30 : decode cX7_sheet 30 = .ok (.getfield 53, 3) := by decide +kernel
theorem dX7_sheet_33 : decode cX7_sheet 33 = .ok (.iload_n 1, 1) := by decide +kernel
theorem dX7_sheet_34 : decode cX7_sheet 34 = .ok (.aaload, 1) := by decide +kernel
theorem dX7_sheet_35 : decode cX7_sheet 35 = .ok (.iload_n 2, 1) := by decide +kernel
theorem dX7_sheet_36 : decode cX7_sheet 36 = .ok (.iload_n 3, 1) := by decide +kernel
theorem dX7_sheet_37 : decode cX7_sheet 37 = .ok (.invokevirtual 253, 3) := by decide +kernel
theorem dX7_sheet_40 : decode cX7_sheet 40 = .ok (.iload_n 3, 1) := by decide +kernel
theorem dX7_sheet_41 : decode cX7_sheet 41 = .ok (.ireturn, 1) := by decide +kernel
theorem dX7_drop_0 : decode cX7_drop 0 = .ok (.iload_n 1, 1) := by decide +kernel
theorem dX7_drop_1 : decode cX7_drop 1 = .ok (.invokestatic 247, 3) := by decide +kernel
theorem dX7_drop_4 : decode cX7_drop 4 = .ok (.ifCond .ne 5, 3) := by decide +kernel
theorem dX7_drop_7 : decode cX7_drop 7 = .ok (.iconst (-1), 1) := by decide +kernel
theorem dX7_drop_8 : decode cX7_drop 8 = .ok (.ireturn, 1) := by decide +kernel
theorem dX7_drop_9 : decode cX7_drop 9 = .ok (.aload_n 0, 1) := by decide +kernel
theorem dX7_drop_10 : decode cX7_drop 10 = .ok (.getfield 53, 3) := by decide +kernel
theorem dX7_drop_13 : decode cX7_drop 13 = .ok (.iload_n 1, 1) := by decide +kernel
theorem dX7_drop_14 : decode cX7_drop 14 = .ok (.aaload, 1) := by decide +kernel
theorem dX7_drop_15 : decode cX7_drop 15 = .ok (.getfield 256, 3) := by decide +kernel
theorem dX7_drop_18 : decode cX7_drop 18 = .ok (.ifCond .ne 6, 3) := by decide +kernel
theorem dX7_drop_21 : decode cX7_drop 21 = .ok (.bipush (-11), 2) := by decide +kernel
theorem dX7_drop_23 : decode cX7_drop 23 = .ok (.ireturn, 1) := by decide +kernel
theorem dX7_drop_24 : decode cX7_drop 24 = .ok (.aload_n 0, 1) := by decide +kernel
theorem dX7_drop_25 : decode cX7_drop 25 = .ok (.getfield 53, 3) := by decide +kernel
theorem dX7_drop_28 : decode cX7_drop 28 = .ok (.iload_n 1, 1) := by decide +kernel
theorem dX7_drop_29 : decode cX7_drop 29 = .ok (.aaload, 1) := by decide +kernel
theorem dX7_drop_30 : decode cX7_drop 30 = .ok (.iconst 0, 1) := by decide +kernel
theorem dX7_drop_31 : decode cX7_drop 31 = .ok (.putfield 256, 3) := by decide +kernel
theorem dX7_drop_34 : decode cX7_drop 34 = .ok (.aload_n 0, 1) := by decide +kernel
theorem dX7_drop_35 : decode cX7_drop 35 = .ok (.getfield 53, 3) := by decide +kernel
theorem dX7_drop_38 : decode cX7_drop 38 = .ok (.iload_n 1, 1) := by decide +kernel
theorem dX7_drop_39 : decode cX7_drop 39 = .ok (.aaload, 1) := by decide +kernel
theorem dX7_drop_40 : decode cX7_drop 40 = .ok (.getfield 260, 3) := by decide +kernel
theorem dX7_drop_43 : decode cX7_drop 43 = .ok (.ireturn, 1) := by decide +kernel
theorem dX7_item_0 : decode cX7_item 0 = .ok (.aload_n 0, 1) := by decide +kernel
theorem dX7_item_1 : decode cX7_item 1 = .ok (.iload_n 1, 1) := by decide +kernel
theorem dX7_item_2 : decode cX7_item 2 = .ok (.iload_n 2, 1) := by decide +kernel
theorem dX7_item_3 : decode cX7_item 3 = .ok (.iload_n 3, 1) := by decide +kernel
theorem dX7_item_4 : decode cX7_item 4 = .ok (.iconst 1, 1) := by decide +kernel
theorem dX7_item_5 : decode cX7_item 5 = .ok (.invokevirtual 95, 3) := by decide +kernel
theorem dX7_item_8 : decode cX7_item 8 = .ok (.istore 5, 2) := by decide +kernel
theorem dX7_item_10 : decode cX7_item 10 = .ok (.iload 5, 2) := by decide +kernel
theorem dX7_item_12 : decode cX7_item 12 = .ok (.ifCond .eq 6, 3) := by decide +kernel
theorem dX7_item_15 : decode cX7_item 15 = .ok (.iload 5, 2) := by decide +kernel
theorem dX7_item_17 : decode cX7_item 17 = .ok (.ireturn, 1) := by decide +kernel
theorem dX7_item_18 : decode cX7_item 18 = .ok (.aload_n 0, 1) := by decide +kernel
theorem dX7_item_19 : decode cX7_item 19 = .ok (.getfield 53, 3) := by decide +kernel
theorem dX7_item_22 : decode cX7_item 22 = .ok (.iload_n 1, 1) := by decide +kernel
theorem dX7_item_23 : decode cX7_item 23 = .ok (.aaload, 1) := by decide +kernel
theorem dX7_item_24 : decode cX7_item 24 = .ok (.getfield 99, 3) := by decide +kernel
theorem dX7_item_27 : decode cX7_item 27 = .ok (.iload_n 3, 1) := by decide +kernel
theorem dX7_item_28 : decode cX7_item 28 = .ok (.iload_n 2, 1) := by decide +kernel
theorem dX7_item_29 : decode cX7_item 29 = .ok (.iload 4, 2) := by decide +kernel
theorem dX7_item_31 : decode cX7_item 31 = .ok (.invokestatic 261, 3) := by decide +kernel
theorem dX7_item_34 : decode cX7_item 34 = .ok (.iastore, 1) := by decide +kernel
theorem dX7_item_35 : decode cX7_item 35 = .ok (.iconst 1, 1) := by decide +kernel
theorem dX7_item_36 : decode cX7_item 36 = .ok (.ireturn, 1) := by decide +kernel
theorem dX7_copy_0 : decode cX7_copy 0 = .ok (.iload_n 1, 1) := by decide +kernel
theorem dX7_copy_1 : decode cX7_copy 1 = .ok (.invokestatic 247, 3) := by decide +kernel
theorem dX7_copy_4 : decode cX7_copy 4 = .ok (.ifCond .eq 10, 3) := by decide +kernel
theorem dX7_copy_7 : decode cX7_copy 7 = .ok (.iload_n 3, 1) := by decide +kernel
theorem dX7_copy_8 : decode cX7_copy 8 = .ok (.invokestatic 247, 3) := by decide +kernel
theorem dX7_copy_11 : decode cX7_copy 11 = .ok (.ifCond .ne 5, 3) := by decide +kernel
theorem dX7_copy_14 : decode cX7_copy 14 = .ok (.iconst (-1), 1) := by decide +kernel
theorem dX7_copy_15 : decode cX7_copy 15 = .ok (.ireturn, 1) := by decide +kernel
theorem dX7_copy_16 : decode cX7_copy 16 = .ok (.aload_n 0, 1) := by decide +kernel
theorem dX7_copy_17 : decode cX7_copy 17 = .ok (.getfield 53, 3) := by decide +kernel
theorem dX7_copy_20 : decode cX7_copy 20 = .ok (.iload_n 1, 1) := by decide +kernel
theorem dX7_copy_21 : decode cX7_copy 21 = .ok (.aaload, 1) := by decide +kernel
theorem dX7_copy_22 : decode cX7_copy 22 = .ok (.astore 6, 2) := by decide +kernel
theorem dX7_copy_24 : decode cX7_copy 24 = .ok (.aload_n 0, 1) := by decide +kernel
theorem dX7_copy_25 : decode cX7_copy 25 = .ok (.getfield 53, 3) := by decide +kernel
theorem dX7_copy_28 : decode cX7_copy 28 = .ok (.iload_n 3, 1) := by decide +kernel
theorem dX7_copy_29 : decode cX7_copy 29 = .ok (.aaload, 1) := by decide +kernel
theorem dX7_copy_30 : decode cX7_copy 30 = .ok (.astore 7, 2) := by decide +kernel
theorem dX7_copy_32 : decode cX7_copy 32 = .ok (.aload 6, 2) := by decide +kernel
theorem dX7_copy_34 : decode cX7_copy 34 = .ok (.getfield 256, 3) := by decide +kernel
theorem dX7_copy_37 : decode cX7_copy 37 = .ok (.ifCond .eq 11, 3) := by decide +kernel
theorem dX7_copy_40 : decode cX7_copy 40 = .ok (.aload 7, 2) := by decide +kernel
theorem dX7_copy_42 : decode cX7_copy 42 = .ok (.getfield 256, 3) := by decide +kernel
theorem dX7_copy_45 : decode cX7_copy 45 = .ok (.ifCond .ne 6, 3) := by decide +kernel
theorem dX7_copy_48 : decode cX7_copy 48 = .ok (.bipush (-11), 2) := by decide +kernel
theorem dX7_copy_50 : decode cX7_copy 50 = .ok (.ireturn, 1) := by decide +kernel
theorem dX7_copy_51 : decode cX7_copy 51 = .ok (.aload 6, 2) := by decide +kernel
theorem dX7_copy_53 : decode cX7_copy 53 = .ok (.getfield 264, 3) := by decide +kernel
theorem dX7_copy_56 : decode cX7_copy 56 = .ok (.aload 7, 2) := by decide +kernel
theorem dX7_copy_58 : decode cX7_copy 58 = .ok (.getfield 264, 3) := by decide +kernel
theorem dX7_copy_61 : decode cX7_copy 61 = .ok (.if_icmp .eq 6, 3) := by decide +kernel
theorem dX7_copy_64 : decode cX7_copy 64 = .ok (.bipush (-12), 2) := by decide +kernel
theorem dX7_copy_66 : decode cX7_copy 66 = .ok (.ireturn, 1) := by decide +kernel
theorem dX7_copy_67 : decode cX7_copy 67 = .ok (.aload 6, 2) := by decide +kernel
theorem dX7_copy_69 : decode cX7_copy 69 = .ok (.iload_n 2, 1) := by decide +kernel
theorem dX7_copy_70 : decode cX7_copy 70 = .ok (.iload 5, 2) := by decide +kernel
theorem dX7_copy_72 : decode cX7_copy 72 = .ok (.invokevirtual 267, 3) := by decide +kernel
theorem dX7_copy_75 : decode cX7_copy 75 = .ok (.ifCond .eq 15, 3) := by decide +kernel
theorem dX7_copy_78 : decode cX7_copy 78 = .ok (.aload 7, 2) := by decide +kernel
theorem dX7_copy_80 : decode cX7_copy 80 = .ok (.iload 4, 2) := by decide +kernel
theorem dX7_copy_82 : decode cX7_copy 82 = .ok (.iload 5, 2) := by decide +kernel
theorem dX7_copy_84 : decode cX7_copy 84 = .ok (.invokevirtual 267, 3) := by decide +kernel
theorem dX7_copy_87 : decode cX7_copy 87 = .ok (.ifCond .ne 6, 3) := by decide +kernel
theorem dX7_copy_90 : decode cX7_copy 90 = .ok (.bipush (-13), 2) := by decide +kernel
theorem dX7_copy_92 : decode cX7_copy 92 = .ok (.ireturn, 1) := by decide +kernel
theorem dX7_copy_93 : decode cX7_copy 93 = .ok (.aload 6, 2) := by decide +kernel
theorem dX7_copy_95 : decode cX7_copy 95 = .ok (.getfield 99, 3) := by decide +kernel
theorem dX7_copy_98 : decode cX7_copy 98 = .ok (.iload_n 2, 1) := by decide +kernel
theorem dX7_copy_99 : decode cX7_copy 99 = .ok (.aload 7, 2) := by decide +kernel
theorem dX7_copy_101 : decode cX7_copy 101 = .ok (.getfield 99, 3) := by decide +kernel
theorem dX7_copy_104 : decode cX7_copy 104 = .ok (.iload 4, 2) := by decide +kernel
theorem dX7_copy_106 : decode cX7_copy 106 = .ok (.iload 5, 2) := by decide +kernel
theorem dX7_copy_108 : decode cX7_copy 108 = .ok (.invokestatic 270, 3) := by decide +kernel
theorem dX7_copy_111 : decode cX7_copy 111 = .ok (.iload 5, 2) := by decide +kernel
theorem dX7_copy_113 : decode cX7_copy 113 = .ok (.ireturn, 1) := by decide +kernel
theorem dX7_isLetter_0 : decode cX7_isLetter 0 = .ok (.iload_n 0, 1) := by decide +kernel
theorem dX7_isLetter_1 : decode cX7_isLetter 1 = .ok (.ifCond .lt 13, 3) := by decide +kernel
theorem dX7_isLetter_4 : decode cX7_isLetter 4 = .ok (.iload_n 0, 1) := by decide +kernel
theorem dX7_isLetter_5 : decode cX7_isLetter 5 = .ok (.bipush 12, 2) := by decide +kernel
theorem dX7_isLetter_7 : decode cX7_isLetter 7 = .ok (.if_icmp .ge 7, 3) := by decide +kernel
theorem dX7_isLetter_10 : decode cX7_isLetter 10 = .ok (.iconst 1, 1) := by decide +kernel
theorem dX7_isLetter_11 : decode cX7_isLetter 11 = .ok (.goto 4, 3) := by decide +kernel
theorem dX7_isLetter_14 : decode cX7_isLetter 14 = .ok (.iconst 0, 1) := by decide +kernel
theorem dX7_isLetter_15 : decode cX7_isLetter 15 = .ok (.ireturn, 1) := by decide +kernel
theorem dX7_isPlace_0 : decode cX7_isPlace 0 = .ok (.iload_n 0, 1) := by decide +kernel
theorem dX7_isPlace_1 : decode cX7_isPlace 1 = .ok (.ifCond .lt 13, 3) := by decide +kernel
theorem dX7_isPlace_4 : decode cX7_isPlace 4 = .ok (.iload_n 0, 1) := by decide +kernel
theorem dX7_isPlace_5 : decode cX7_isPlace 5 = .ok (.bipush 12, 2) := by decide +kernel
theorem dX7_isPlace_7 : decode cX7_isPlace 7 = .ok (.if_icmp .ge 7, 3) := by decide +kernel
theorem dX7_isPlace_10 : decode cX7_isPlace 10 = .ok (.iconst 1, 1) := by decide +kernel
theorem dX7_isPlace_11 : decode cX7_isPlace 11 = .ok (.goto 4, 3) := by decide +kernel
theorem dX7_isPlace_14 : decode cX7_isPlace 14 = .ok (.iconst 0, 1) := by decide +kernel
theorem dX7_isPlace_15 : decode cX7_isPlace 15 = .ok (.ireturn, 1) := by decide +kernel
theorem dX7_isTeeth_0 : decode cX7_isTeeth 0 = .ok (.iload_n 0, 1) := by decide +kernel
theorem dX7_isTeeth_1 : decode cX7_isTeeth 1 = .ok (.ifCond .lt 13, 3) := by decide +kernel
theorem dX7_isTeeth_4 : decode cX7_isTeeth 4 = .ok (.iload_n 0, 1) := by decide +kernel
theorem dX7_isTeeth_5 : decode cX7_isTeeth 5 = .ok (.bipush 127, 2) := by decide +kernel
theorem dX7_isTeeth_7 : decode cX7_isTeeth 7 = .ok (.if_icmp .gt 7, 3) := by decide +kernel
theorem dX7_isTeeth_10 : decode cX7_isTeeth 10 = .ok (.iconst 1, 1) := by decide +kernel
theorem dX7_isTeeth_11 : decode cX7_isTeeth 11 = .ok (.goto 4, 3) := by decide +kernel
theorem dX7_isTeeth_14 : decode cX7_isTeeth 14 = .ok (.iconst 0, 1) := by decide +kernel
theorem dX7_isTeeth_15 : decode cX7_isTeeth 15 = .ok (.ireturn, 1) := by decide +kernel
theorem dX7_isGap_0 : decode cX7_isGap 0 = .ok (.iload_n 0, 1) := by decide +kernel
theorem dX7_isGap_1 : decode cX7_isGap 1 = .ok (.iconst 1, 1) := by decide +kernel
theorem dX7_isGap_2 : decode cX7_isGap 2 = .ok (.if_icmp .lt 13, 3) := by decide +kernel
theorem dX7_isGap_5 : decode cX7_isGap 5 = .ok (.iload_n 0, 1) := by decide +kernel
theorem dX7_isGap_6 : decode cX7_isGap 6 = .ok (.bipush 30, 2) := by decide +kernel
theorem dX7_isGap_8 : decode cX7_isGap 8 = .ok (.if_icmp .gt 7, 3) := by decide +kernel
theorem dX7_isGap_11 : decode cX7_isGap 11 = .ok (.iconst 1, 1) := by decide +kernel
theorem dX7_isGap_12 : decode cX7_isGap 12 = .ok (.goto 4, 3) := by decide +kernel
theorem dX7_isGap_15 : decode cX7_isGap 15 = .ok (.iconst 0, 1) := by decide +kernel
theorem dX7_isGap_16 : decode cX7_isGap 16 = .ok (.ireturn, 1) := by decide +kernel
theorem dX7_isSheet_0 : decode cX7_isSheet 0 = .ok (.iload_n 0, 1) := by decide +kernel
theorem dX7_isSheet_1 : decode cX7_isSheet 1 = .ok (.ifCond .lt 12, 3) := by decide +kernel
theorem dX7_isSheet_4 : decode cX7_isSheet 4 = .ok (.iload_n 0, 1) := by decide +kernel
theorem dX7_isSheet_5 : decode cX7_isSheet 5 = .ok (.iconst 4, 1) := by decide +kernel
theorem dX7_isSheet_6 : decode cX7_isSheet 6 = .ok (.if_icmp .ge 7, 3) := by decide +kernel
theorem dX7_isSheet_9 : decode cX7_isSheet 9 = .ok (.iconst 1, 1) := by decide +kernel
theorem dX7_isSheet_10 : decode cX7_isSheet 10 = .ok (.goto 4, 3) := by decide +kernel
theorem dX7_isSheet_13 : decode cX7_isSheet 13 = .ok (.iconst 0, 1) := by decide +kernel
theorem dX7_isSheet_14 : decode cX7_isSheet 14 = .ok (.ireturn, 1) := by decide +kernel
theorem dX7_isLane_0 : decode cX7_isLane 0 = .ok (.iload_n 0, 1) := by decide +kernel
theorem dX7_isLane_1 : decode cX7_isLane 1 = .ok (.ifCond .lt 12, 3) := by decide +kernel
theorem dX7_isLane_4 : decode cX7_isLane 4 = .ok (.iload_n 0, 1) := by decide +kernel
theorem dX7_isLane_5 : decode cX7_isLane 5 = .ok (.iconst 3, 1) := by decide +kernel
theorem dX7_isLane_6 : decode cX7_isLane 6 = .ok (.if_icmp .ge 7, 3) := by decide +kernel
theorem dX7_isLane_9 : decode cX7_isLane 9 = .ok (.iconst 1, 1) := by decide +kernel
theorem dX7_isLane_10 : decode cX7_isLane 10 = .ok (.goto 4, 3) := by decide +kernel
theorem dX7_isLane_13 : decode cX7_isLane 13 = .ok (.iconst 0, 1) := by decide +kernel
theorem dX7_isLane_14 : decode cX7_isLane 14 = .ok (.ireturn, 1) := by decide +kernel
theorem dX7_settingFits_0 : decode cX7_settingFits 0 = .ok (.iload_n 1, 1) := by decide +kernel
theorem dX7_settingFits_1 : decode cX7_settingFits 1 = .ok (.tableswitch 89 0 2 #[27, 48, 70], 27) := by decide +kernel
theorem dX7_settingFits_28 : decode cX7_settingFits 28 = .ok (.iload_n 2, 1) := by decide +kernel
theorem dX7_settingFits_29 : decode cX7_settingFits 29 = .ok (.iconst 1, 1) := by decide +kernel
theorem dX7_settingFits_30 : decode cX7_settingFits 30 = .ok (.if_icmp .lt 17, 3) := by decide +kernel
theorem dX7_settingFits_33 : decode cX7_settingFits 33 = .ok (.iload_n 2, 1) := by decide +kernel
theorem dX7_settingFits_34 : decode cX7_settingFits 34 = .ok (.aload_n 0, 1) := by decide +kernel
theorem dX7_settingFits_35 : decode cX7_settingFits 35 = .ok (.getfield 64, 3) := by decide +kernel
theorem dX7_settingFits_38 : decode cX7_settingFits 38 = .ok (.iconst 1, 1) := by decide +kernel
theorem dX7_settingFits_39 : decode cX7_settingFits 39 = .ok (.iaload, 1) := by decide +kernel
theorem dX7_settingFits_40 : decode cX7_settingFits 40 = .ok (.if_icmp .gt 7, 3) := by decide +kernel
theorem dX7_settingFits_43 : decode cX7_settingFits 43 = .ok (.iconst 1, 1) := by decide +kernel
theorem dX7_settingFits_44 : decode cX7_settingFits 44 = .ok (.goto 4, 3) := by decide +kernel
theorem dX7_settingFits_47 : decode cX7_settingFits 47 = .ok (.iconst 0, 1) := by decide +kernel
theorem dX7_settingFits_48 : decode cX7_settingFits 48 = .ok (.ireturn, 1) := by decide +kernel
theorem dX7_settingFits_49 : decode cX7_settingFits 49 = .ok (.iload_n 2, 1) := by decide +kernel
theorem dX7_settingFits_50 : decode cX7_settingFits 50 = .ok (.aload_n 0, 1) := by decide +kernel
theorem dX7_settingFits_51 : decode cX7_settingFits 51 = .ok (.getfield 64, 3) := by decide +kernel
theorem dX7_settingFits_54 : decode cX7_settingFits 54 = .ok (.iconst 0, 1) := by decide +kernel
theorem dX7_settingFits_55 : decode cX7_settingFits 55 = .ok (.iaload, 1) := by decide +kernel
theorem dX7_settingFits_56 : decode cX7_settingFits 56 = .ok (.if_icmp .lt 13, 3) := by decide +kernel
theorem dX7_settingFits_59 : decode cX7_settingFits 59 = .ok (.iload_n 2, 1) := by decide +kernel
theorem dX7_settingFits_60 : decode cX7_settingFits 60 = .ok (.bipush 40, 2) := by decide +kernel
theorem dX7_settingFits_62 : decode cX7_settingFits 62 = .ok (.if_icmp .gt 7, 3) := by decide +kernel
theorem dX7_settingFits_65 : decode cX7_settingFits 65 = .ok (.iconst 1, 1) := by decide +kernel
theorem dX7_settingFits_66 : decode cX7_settingFits 66 = .ok (.goto 4, 3) := by decide +kernel
theorem dX7_settingFits_69 : decode cX7_settingFits 69 = .ok (.iconst 0, 1) := by decide +kernel
theorem dX7_settingFits_70 : decode cX7_settingFits 70 = .ok (.ireturn, 1) := by decide +kernel
theorem dX7_settingFits_71 : decode cX7_settingFits 71 = .ok (.iload_n 2, 1) := by decide +kernel
theorem dX7_settingFits_72 : decode cX7_settingFits 72 = .ok (.bipush 10, 2) := by decide +kernel
theorem dX7_settingFits_74 : decode cX7_settingFits 74 = .ok (.if_icmp .lt 14, 3) := by decide +kernel
theorem dX7_settingFits_77 : decode cX7_settingFits 77 = .ok (.iload_n 2, 1) := by decide +kernel
theorem dX7_settingFits_78 : decode cX7_settingFits 78 = .ok (.sipush 400, 3) := by decide +kernel
theorem dX7_settingFits_81 : decode cX7_settingFits 81 = .ok (.if_icmp .gt 7, 3) := by decide +kernel
theorem dX7_settingFits_84 : decode cX7_settingFits 84 = .ok (.iconst 1, 1) := by decide +kernel
theorem dX7_settingFits_85 : decode cX7_settingFits 85 = .ok (.goto 4, 3) := by decide +kernel
theorem dX7_settingFits_88 : decode cX7_settingFits 88 = .ok (.iconst 0, 1) := by decide +kernel
theorem dX7_settingFits_89 : decode cX7_settingFits 89 = .ok (.ireturn, 1) := by decide +kernel
theorem dX7_settingFits_90 : decode cX7_settingFits 90 = .ok (.iload_n 2, 1) := by decide +kernel
theorem dX7_settingFits_91 : decode cX7_settingFits 91 = .ok (.iconst 1, 1) := by decide +kernel
theorem dX7_settingFits_92 : decode cX7_settingFits 92 = .ok (.if_icmp .lt 14, 3) := by decide +kernel
theorem dX7_settingFits_95 : decode cX7_settingFits 95 = .ok (.iload_n 2, 1) := by decide +kernel
theorem dX7_settingFits_96 : decode cX7_settingFits 96 = .ok (.sipush 200, 3) := by decide +kernel
theorem dX7_settingFits_99 : decode cX7_settingFits 99 = .ok (.if_icmp .gt 7, 3) := by decide +kernel
theorem dX7_settingFits_102 : decode cX7_settingFits 102 = .ok (.iconst 1, 1) := by decide +kernel
theorem dX7_settingFits_103 : decode cX7_settingFits 103 = .ok (.goto 4, 3) := by decide +kernel
theorem dX7_settingFits_106 : decode cX7_settingFits 106 = .ok (.iconst 0, 1) := by decide +kernel
theorem dX7_settingFits_107 : decode cX7_settingFits 107 = .ok (.ireturn, 1) := by decide +kernel
theorem dX7_exchange_0 : decode cX7_exchange 0 = .ok (.aload_n 0, 1) := by decide +kernel
theorem dX7_exchange_1 : decode cX7_exchange 1 = .ok (.iload_n 1, 1) := by decide +kernel
theorem dX7_exchange_2 : decode cX7_exchange 2 = .ok (.iaload, 1) := by decide +kernel
theorem dX7_exchange_3 : decode cX7_exchange 3 = .ok (.istore_n 3, 1) := by decide +kernel
theorem dX7_exchange_4 : decode cX7_exchange 4 = .ok (.aload_n 0, 1) := by decide +kernel
theorem dX7_exchange_5 : decode cX7_exchange 5 = .ok (.iload_n 1, 1) := by decide +kernel
theorem dX7_exchange_6 : decode cX7_exchange 6 = .ok (.iload_n 2, 1) := by decide +kernel
theorem dX7_exchange_7 : decode cX7_exchange 7 = .ok (.iastore, 1) := by decide +kernel
theorem dX7_exchange_8 : decode cX7_exchange 8 = .ok (.iload_n 3, 1) := by decide +kernel
theorem dX7_exchange_9 : decode cX7_exchange 9 = .ok (.ireturn, 1) := by decide +kernel
theorem dX7_goOn_0 : decode cX7_goOn 0 = .ok (.iconst 0, 1) := by decide +kernel
theorem dX7_goOn_1 : decode cX7_goOn 1 = .ok (.istore_n 2, 1) := by decide +kernel
theorem dX7_goOn_2 : decode cX7_goOn 2 = .ok (.iload_n 2, 1) := by decide +kernel
theorem dX7_goOn_3 : decode cX7_goOn 3 = .ok (.iload_n 1, 1) := by decide +kernel
theorem dX7_goOn_4 : decode cX7_goOn 4 = .ok (.if_icmp .ge 45, 3) := by decide +kernel
theorem dX7_goOn_7 : decode cX7_goOn 7 = .ok (.aload_n 0, 1) := by decide +kernel
theorem dX7_goOn_8 : decode cX7_goOn 8 = .ok (.dup, 1) := by decide +kernel
theorem dX7_goOn_9 : decode cX7_goOn 9 = .ok (.getfield 70, 3) := by decide +kernel
theorem dX7_goOn_12 : decode cX7_goOn 12 = .ok (.iconst 1, 1) := by decide +kernel
theorem dX7_goOn_13 : decode cX7_goOn 13 = .ok (.iadd, 1) := by decide +kernel
theorem dX7_goOn_14 : decode cX7_goOn 14 = .ok (.putfield 70, 3) := by decide +kernel
theorem dX7_goOn_17 : decode cX7_goOn 17 = .ok (.aload_n 0, 1) := by decide +kernel
theorem dX7_goOn_18 : decode cX7_goOn 18 = .ok (.getfield 26, 3) := by decide +kernel
theorem dX7_goOn_21 : decode cX7_goOn 21 = .ok (.aload_n 0, 1) := by decide +kernel
theorem dX7_goOn_22 : decode cX7_goOn 22 = .ok (.getfield 70, 3) := by decide +kernel
theorem dX7_goOn_25 : decode cX7_goOn 25 = .ok (.invokevirtual 276, 3) := by decide +kernel
theorem dX7_goOn_28 : decode cX7_goOn 28 = .ok (.aload_n 0, 1) := by decide +kernel
theorem dX7_goOn_29 : decode cX7_goOn 29 = .ok (.getfield 33, 3) := by decide +kernel
theorem dX7_goOn_32 : decode cX7_goOn 32 = .ok (.aload_n 0, 1) := by decide +kernel
theorem dX7_goOn_33 : decode cX7_goOn 33 = .ok (.getfield 70, 3) := by decide +kernel
theorem dX7_goOn_36 : decode cX7_goOn 36 = .ok (.aload_n 0, 1) := by decide +kernel
theorem dX7_goOn_37 : decode cX7_goOn 37 = .ok (.getfield 19, 3) := by decide +kernel
theorem dX7_goOn_40 : decode cX7_goOn 40 = .ok (.invokevirtual 279, 3) := by decide +kernel
theorem dX7_goOn_43 : decode cX7_goOn 43 = .ok (.iinc 2 1, 3) := by decide +kernel
theorem dX7_goOn_46 : decode cX7_goOn 46 = .ok (.goto (-44), 3) := by decide +kernel
theorem dX7_goOn_49 : decode cX7_goOn 49 = .ok (.return_, 1) := by decide +kernel
theorem dX7_composedWidth_0 : decode cX7_composedWidth 0 = .ok (.iconst 0, 1) := by decide +kernel
theorem dX7_composedWidth_1 : decode cX7_composedWidth 1 = .ok (.istore_n 1, 1) := by decide +kernel
theorem dX7_composedWidth_2 : decode cX7_composedWidth 2 = .ok (.iconst 0, 1) := by decide +kernel
theorem dX7_composedWidth_3 : decode cX7_composedWidth 3 = .ok (.istore_n 2, 1) := by decide +kernel
theorem dX7_composedWidth_4 : decode cX7_composedWidth 4 = .ok (.iload_n 2, 1) := by decide +kernel
theorem dX7_composedWidth_5 : decode cX7_composedWidth 5 = .ok (.aload_n 0, 1) := by decide +kernel
theorem dX7_composedWidth_6 : decode cX7_composedWidth 6 = .ok (.getfield 26, 3) := by decide +kernel
theorem dX7_composedWidth_9 : decode cX7_composedWidth 9 = .ok (.getfield 163, 3) := by decide +kernel
theorem dX7_composedWidth_12 : decode cX7_composedWidth 12 = .ok (.if_icmp .ge 48, 3) := by decide +kernel
theorem dX7_composedWidth_15 : decode cX7_composedWidth 15 = .ok (.aload_n 0, 1) := by decide +kernel
theorem dX7_composedWidth_16 : decode cX7_composedWidth 16 = .ok (.getfield 26, 3) := by decide +kernel
theorem dX7_composedWidth_19 : decode cX7_composedWidth 19 = .ok (.getfield 166, 3) := by decide +kernel
theorem dX7_composedWidth_22 : decode cX7_composedWidth 22 = .ok (.iload_n 2, 1) := by decide +kernel
theorem dX7_composedWidth_23 : decode cX7_composedWidth 23 = .ok (.iaload, 1) := by decide +kernel
theorem dX7_composedWidth_24 : decode cX7_composedWidth 24 = .ok (.bipush 100, 2) := by decide +kernel
theorem dX7_composedWidth_26 : decode cX7_composedWidth 26 = .ok (.if_icmp .eq 28, 3) := by decide +kernel
theorem dX7_composedWidth_29 : decode cX7_composedWidth 29 = .ok (.iload_n 1, 1) := by decide +kernel
theorem dX7_composedWidth_30 : decode cX7_composedWidth 30 = .ok (.aload_n 0, 1) := by decide +kernel
theorem dX7_composedWidth_31 : decode cX7_composedWidth 31 = .ok (.getfield 57, 3) := by decide +kernel
theorem dX7_composedWidth_34 : decode cX7_composedWidth 34 = .ok (.aload_n 0, 1) := by decide +kernel
theorem dX7_composedWidth_35 : decode cX7_composedWidth 35 = .ok (.getfield 19, 3) := by decide +kernel
theorem dX7_composedWidth_38 : decode cX7_composedWidth 38 = .ok (.getfield 127, 3) := by decide +kernel
theorem dX7_composedWidth_41 : decode cX7_composedWidth 41 = .ok (.aload_n 0, 1) := by decide +kernel
theorem dX7_composedWidth_42 : decode cX7_composedWidth 42 = .ok (.getfield 26, 3) := by decide +kernel
theorem dX7_composedWidth_45 : decode cX7_composedWidth 45 = .ok (.getfield 166, 3) := by decide +kernel
theorem dX7_composedWidth_48 : decode cX7_composedWidth 48 = .ok (.iload_n 2, 1) := by decide +kernel
theorem dX7_composedWidth_49 : decode cX7_composedWidth 49 = .ok (.iaload, 1) := by decide +kernel
theorem dX7_composedWidth_50 : decode cX7_composedWidth 50 = .ok (.iaload, 1) := by decide +kernel
theorem dX7_composedWidth_51 : decode cX7_composedWidth 51 = .ok (.iaload, 1) := by decide +kernel
theorem dX7_composedWidth_52 : decode cX7_composedWidth 52 = .ok (.iadd, 1) := by decide +kernel
theorem dX7_composedWidth_53 : decode cX7_composedWidth 53 = .ok (.istore_n 1, 1) := by decide +kernel
theorem dX7_composedWidth_54 : decode cX7_composedWidth 54 = .ok (.iinc 2 1, 3) := by decide +kernel
theorem dX7_composedWidth_57 : decode cX7_composedWidth 57 = .ok (.goto (-53), 3) := by decide +kernel
theorem dX7_composedWidth_60 : decode cX7_composedWidth 60 = .ok (.iload_n 1, 1) := by decide +kernel
theorem dX7_composedWidth_61 : decode cX7_composedWidth 61 = .ok (.ireturn, 1) := by decide +kernel
theorem dX7_tightness_0 : decode cX7_tightness 0 = .ok (.aload_n 0, 1) := by decide +kernel
theorem dX7_tightness_1 : decode cX7_tightness 1 = .ok (.getfield 26, 3) := by decide +kernel
theorem dX7_tightness_4 : decode cX7_tightness 4 = .ok (.getfield 188, 3) := by decide +kernel
theorem dX7_tightness_7 : decode cX7_tightness 7 = .ok (.ifCond .le 6, 3) := by decide +kernel
theorem dX7_tightness_10 : decode cX7_tightness 10 = .ok (.bipush (-2), 2) := by decide +kernel
theorem dX7_tightness_12 : decode cX7_tightness 12 = .ok (.ireturn, 1) := by decide +kernel
theorem dX7_tightness_13 : decode cX7_tightness 13 = .ok (.aload_n 0, 1) := by decide +kernel
theorem dX7_tightness_14 : decode cX7_tightness 14 = .ok (.getfield 26, 3) := by decide +kernel
theorem dX7_tightness_17 : decode cX7_tightness 17 = .ok (.getfield 163, 3) := by decide +kernel
theorem dX7_tightness_20 : decode cX7_tightness 20 = .ok (.ifCond .ne 6, 3) := by decide +kernel
theorem dX7_tightness_23 : decode cX7_tightness 23 = .ok (.bipush (-4), 2) := by decide +kernel
theorem dX7_tightness_25 : decode cX7_tightness 25 = .ok (.ireturn, 1) := by decide +kernel
theorem dX7_tightness_26 : decode cX7_tightness 26 = .ok (.aload_n 0, 1) := by decide +kernel
theorem dX7_tightness_27 : decode cX7_tightness 27 = .ok (.invokevirtual 175, 3) := by decide +kernel
theorem dX7_tightness_30 : decode cX7_tightness 30 = .ok (.istore_n 1, 1) := by decide +kernel
theorem dX7_tightness_31 : decode cX7_tightness 31 = .ok (.aload_n 0, 1) := by decide +kernel
theorem dX7_tightness_32 : decode cX7_tightness 32 = .ok (.getfield 26, 3) := by decide +kernel
theorem dX7_tightness_35 : decode cX7_tightness 35 = .ok (.invokevirtual 172, 3) := by decide +kernel
theorem dX7_tightness_38 : decode cX7_tightness 38 = .ok (.istore_n 2, 1) := by decide +kernel
theorem dX7_tightness_39 : decode cX7_tightness 39 = .ok (.iload_n 1, 1) := by decide +kernel
theorem dX7_tightness_40 : decode cX7_tightness 40 = .ok (.iload_n 2, 1) := by decide +kernel
theorem dX7_tightness_41 : decode cX7_tightness 41 = .ok (.aload_n 0, 1) := by decide +kernel
theorem dX7_tightness_42 : decode cX7_tightness 42 = .ok (.getfield 64, 3) := by decide +kernel
theorem dX7_tightness_45 : decode cX7_tightness 45 = .ok (.iconst 1, 1) := by decide +kernel
theorem dX7_tightness_46 : decode cX7_tightness 46 = .ok (.iaload, 1) := by decide +kernel
theorem dX7_tightness_47 : decode cX7_tightness 47 = .ok (.imul, 1) := by decide +kernel
theorem dX7_tightness_48 : decode cX7_tightness 48 = .ok (.iadd, 1) := by decide +kernel
theorem dX7_tightness_49 : decode cX7_tightness 49 = .ok (.aload_n 0, 1) := by decide +kernel
theorem dX7_tightness_50 : decode cX7_tightness 50 = .ok (.getfield 64, 3) := by decide +kernel
theorem dX7_tightness_53 : decode cX7_tightness 53 = .ok (.iconst 2, 1) := by decide +kernel
theorem dX7_tightness_54 : decode cX7_tightness 54 = .ok (.iaload, 1) := by decide +kernel
theorem dX7_tightness_55 : decode cX7_tightness 55 = .ok (.if_icmp .ge 5, 3) := by decide +kernel
theorem dX7_tightness_58 : decode cX7_tightness 58 = .ok (.iconst 1, 1) := by decide +kernel
theorem dX7_tightness_59 : decode cX7_tightness 59 = .ok (.ireturn, 1) := by decide +kernel
theorem dX7_tightness_60 : decode cX7_tightness 60 = .ok (.iload_n 1, 1) := by decide +kernel
theorem dX7_tightness_61 : decode cX7_tightness 61 = .ok (.iload_n 2, 1) := by decide +kernel
theorem dX7_tightness_62 : decode cX7_tightness 62 = .ok (.aload_n 0, 1) := by decide +kernel
theorem dX7_tightness_63 : decode cX7_tightness 63 = .ok (.getfield 64, 3) := by decide +kernel
theorem dX7_tightness_66 : decode cX7_tightness 66 = .ok (.iconst 0, 1) := by decide +kernel
theorem dX7_tightness_67 : decode cX7_tightness 67 = .ok (.iaload, 1) := by decide +kernel
theorem dX7_tightness_68 : decode cX7_tightness 68 = .ok (.imul, 1) := by decide +kernel
theorem dX7_tightness_69 : decode cX7_tightness 69 = .ok (.iadd, 1) := by decide +kernel
theorem dX7_tightness_70 : decode cX7_tightness 70 = .ok (.aload_n 0, 1) := by decide +kernel
theorem dX7_tightness_71 : decode cX7_tightness 71 = .ok (.getfield 64, 3) := by decide +kernel
theorem dX7_tightness_74 : decode cX7_tightness 74 = .ok (.iconst 2, 1) := by decide +kernel
theorem dX7_tightness_75 : decode cX7_tightness 75 = .ok (.iaload, 1) := by decide +kernel
theorem dX7_tightness_76 : decode cX7_tightness 76 = .ok (.if_icmp .le 5, 3) := by decide +kernel
theorem dX7_tightness_79 : decode cX7_tightness 79 = .ok (.iconst 2, 1) := by decide +kernel
theorem dX7_tightness_80 : decode cX7_tightness 80 = .ok (.ireturn, 1) := by decide +kernel
theorem dX7_tightness_81 : decode cX7_tightness 81 = .ok (.iconst 0, 1) := by decide +kernel
theorem dX7_tightness_82 : decode cX7_tightness 82 = .ok (.ireturn, 1) := by decide +kernel
theorem dX7_castSlug_0 : decode cX7_castSlug 0 = .ok (.aload_n 0, 1) := by decide +kernel
theorem dX7_castSlug_1 : decode cX7_castSlug 1 = .ok (.getfield 40, 3) := by decide +kernel
theorem dX7_castSlug_4 : decode cX7_castSlug 4 = .ok (.invokevirtual 283, 3) := by decide +kernel
theorem dX7_castSlug_7 : decode cX7_castSlug 7 = .ok (.iconst 0, 1) := by decide +kernel
theorem dX7_castSlug_8 : decode cX7_castSlug 8 = .ok (.istore_n 1, 1) := by decide +kernel
theorem dX7_castSlug_9 : decode cX7_castSlug 9 = .ok (.iconst 0, 1) := by decide +kernel
theorem dX7_castSlug_10 : decode cX7_castSlug 10 = .ok (.istore_n 2, 1) := by decide +kernel
theorem dX7_castSlug_11 : decode cX7_castSlug 11 = .ok (.iload_n 2, 1) := by decide +kernel
theorem dX7_castSlug_12 : decode cX7_castSlug 12 = .ok (.aload_n 0, 1) := by decide +kernel
theorem dX7_castSlug_13 : decode cX7_castSlug 13 = .ok (.getfield 26, 3) := by decide +kernel
theorem dX7_castSlug_16 : decode cX7_castSlug 16 = .ok (.getfield 163, 3) := by decide +kernel
theorem dX7_castSlug_19 : decode cX7_castSlug 19 = .ok (.if_icmp .ge 65, 3) := by decide +kernel
theorem dX7_castSlug_22 : decode cX7_castSlug 22 = .ok (.aload_n 0, 1) := by decide +kernel
theorem dX7_castSlug_23 : decode cX7_castSlug 23 = .ok (.getfield 26, 3) := by decide +kernel
theorem dX7_castSlug_26 : decode cX7_castSlug 26 = .ok (.getfield 166, 3) := by decide +kernel
theorem dX7_castSlug_29 : decode cX7_castSlug 29 = .ok (.iload_n 2, 1) := by decide +kernel
theorem dX7_castSlug_30 : decode cX7_castSlug 30 = .ok (.iaload, 1) := by decide +kernel
theorem dX7_castSlug_31 : decode cX7_castSlug 31 = .ok (.istore_n 3, 1) := by decide +kernel
theorem dX7_castSlug_32 : decode cX7_castSlug 32 = .ok (.iload_n 3, 1) := by decide +kernel
theorem dX7_castSlug_33 : decode cX7_castSlug 33 = .ok (.bipush 100, 2) := by decide +kernel
theorem dX7_castSlug_35 : decode cX7_castSlug 35 = .ok (.if_icmp .ne 15, 3) := by decide +kernel
theorem dX7_castSlug_38 : decode cX7_castSlug 38 = .ok (.aload_n 0, 1) := by decide +kernel
theorem dX7_castSlug_39 : decode cX7_castSlug 39 = .ok (.getfield 40, 3) := by decide +kernel
theorem dX7_castSlug_42 : decode cX7_castSlug 42 = .ok (.bipush 32, 2) := by decide +kernel
theorem dX7_castSlug_44 : decode cX7_castSlug 44 = .ok (.invokevirtual 286, 3) := by decide +kernel
theorem dX7_castSlug_47 : decode cX7_castSlug 47 = .ok (.goto 31, 3) := by decide +kernel
theorem dX7_castSlug_50 : decode cX7_castSlug 50 = .ok (.aload_n 0, 1) := by decide +kernel
theorem dX7_castSlug_51 : decode cX7_castSlug 51 = .ok (.getfield 40, 3) := by decide +kernel
theorem dX7_castSlug_54 : decode cX7_castSlug 54 = .ok (.bipush 97, 2) := by decide +kernel
theorem dX7_castSlug_56 : decode cX7_castSlug 56 = .ok (.aload_n 0, 1) := by decide +kernel
theorem dX7_castSlug_57 : decode cX7_castSlug 57 = .ok (.getfield 19, 3) := by decide +kernel
theorem dX7_castSlug_60 : decode cX7_castSlug 60 = .ok (.getfield 127, 3) := by decide +kernel
theorem dX7_castSlug_63 : decode cX7_castSlug 63 = .ok (.iload_n 3, 1) := by decide +kernel
theorem dX7_castSlug_64 : decode cX7_castSlug 64 = .ok (.iaload, 1) := by decide +kernel
theorem dX7_castSlug_65 : decode cX7_castSlug 65 = .ok (.iadd, 1) := by decide +kernel
theorem dX7_castSlug_66 : decode cX7_castSlug 66 = .ok (.invokevirtual 286, 3) := by decide +kernel
theorem dX7_castSlug_69 : decode cX7_castSlug 69 = .ok (.aload_n 0, 1) := by decide +kernel
theorem dX7_castSlug_70 : decode cX7_castSlug 70 = .ok (.iload_n 3, 1) := by decide +kernel
theorem dX7_castSlug_71 : decode cX7_castSlug 71 = .ok (.iload_n 1, 1) := by decide +kernel
theorem dX7_castSlug_72 : decode cX7_castSlug 72 = .ok (.invokevirtual 287, 3) := by decide +kernel
theorem dX7_castSlug_75 : decode cX7_castSlug 75 = .ok (.iinc 1 1, 3) := by decide +kernel
theorem dX7_castSlug_78 : decode cX7_castSlug 78 = .ok (.iinc 2 1, 3) := by decide +kernel
theorem dX7_castSlug_81 : decode cX7_castSlug 81 = .ok (.goto (-70), 3) := by decide +kernel
theorem dX7_castSlug_84 : decode cX7_castSlug 84 = .ok (.return_, 1) := by decide +kernel
theorem dX7_hangOnBar_0 : decode cX7_hangOnBar 0 = .ok (.aload_n 0, 1) := by decide +kernel
theorem dX7_hangOnBar_1 : decode cX7_hangOnBar 1 = .ok (.getfield 12, 3) := by decide +kernel
theorem dX7_hangOnBar_4 : decode cX7_hangOnBar 4 = .ok (.aload_n 0, 1) := by decide +kernel
theorem dX7_hangOnBar_5 : decode cX7_hangOnBar 5 = .ok (.getfield 19, 3) := by decide +kernel
theorem dX7_hangOnBar_8 : decode cX7_hangOnBar 8 = .ok (.getfield 130, 3) := by decide +kernel
theorem dX7_hangOnBar_11 : decode cX7_hangOnBar 11 = .ok (.iload_n 1, 1) := by decide +kernel
theorem dX7_hangOnBar_12 : decode cX7_hangOnBar 12 = .ok (.iaload, 1) := by decide +kernel
theorem dX7_hangOnBar_13 : decode cX7_hangOnBar 13 = .ok (.invokevirtual 106, 3) := by decide +kernel
theorem dX7_hangOnBar_16 : decode cX7_hangOnBar 16 = .ok (.istore_n 3, 1) := by decide +kernel
theorem dX7_hangOnBar_17 : decode cX7_hangOnBar 17 = .ok (.aload_n 0, 1) := by decide +kernel
theorem dX7_hangOnBar_18 : decode cX7_hangOnBar 18 = .ok (.getfield 19, 3) := by decide +kernel
theorem dX7_hangOnBar_21 : decode cX7_hangOnBar 21 = .ok (.getfield 131, 3) := by decide +kernel
theorem dX7_hangOnBar_24 : decode cX7_hangOnBar 24 = .ok (.iload_n 1, 1) := by decide +kernel
theorem dX7_hangOnBar_25 : decode cX7_hangOnBar 25 = .ok (.bipush 14, 2) := by decide +kernel
theorem dX7_hangOnBar_27 : decode cX7_hangOnBar 27 = .ok (.iastore, 1) := by decide +kernel
theorem dX7_hangOnBar_28 : decode cX7_hangOnBar 28 = .ok (.aload_n 0, 1) := by decide +kernel
theorem dX7_hangOnBar_29 : decode cX7_hangOnBar 29 = .ok (.getfield 33, 3) := by decide +kernel
theorem dX7_hangOnBar_32 : decode cX7_hangOnBar 32 = .ok (.iload_n 1, 1) := by decide +kernel
theorem dX7_hangOnBar_33 : decode cX7_hangOnBar 33 = .ok (.iload_n 3, 1) := by decide +kernel
theorem dX7_hangOnBar_34 : decode cX7_hangOnBar 34 = .ok (.aload_n 0, 1) := by decide +kernel
theorem dX7_hangOnBar_35 : decode cX7_hangOnBar 35 = .ok (.getfield 70, 3) := by decide +kernel
theorem dX7_hangOnBar_38 : decode cX7_hangOnBar 38 = .ok (.aload_n 0, 1) := by decide +kernel
theorem dX7_hangOnBar_39 : decode cX7_hangOnBar 39 = .ok (.getfield 64, 3) := by decide +kernel
theorem dX7_hangOnBar_42 : decode cX7_hangOnBar 42 = .ok (.iconst 3, 1) := by decide +kernel
theorem dX7_hangOnBar_43 : decode cX7_hangOnBar 43 = .ok (.iaload, 1) := by decide +kernel
theorem dX7_hangOnBar_44 : decode cX7_hangOnBar 44 = .ok (.iadd, 1) := by decide +kernel
theorem dX7_hangOnBar_45 : decode cX7_hangOnBar 45 = .ok (.iload_n 2, 1) := by decide +kernel
theorem dX7_hangOnBar_46 : decode cX7_hangOnBar 46 = .ok (.iadd, 1) := by decide +kernel
theorem dX7_hangOnBar_47 : decode cX7_hangOnBar 47 = .ok (.iload_n 3, 1) := by decide +kernel
theorem dX7_hangOnBar_48 : decode cX7_hangOnBar 48 = .ok (.iadd, 1) := by decide +kernel
theorem dX7_hangOnBar_49 : decode cX7_hangOnBar 49 = .ok (.invokevirtual 290, 3) := by decide +kernel
theorem dX7_hangOnBar_52 : decode cX7_hangOnBar 52 = .ok (.return_, 1) := by decide +kernel
theorem dX7_readRow_0 : decode cX7_readRow 0 = .ok (.iload 4, 2) := by decide +kernel
theorem dX7_readRow_2 : decode cX7_readRow 2 = .ok (.iconst 1, 1) := by decide +kernel
theorem dX7_readRow_3 : decode cX7_readRow 3 = .ok (.if_icmp .lt 10, 3) := by decide +kernel
theorem dX7_readRow_6 : decode cX7_readRow 6 = .ok (.iload 4, 2) := by decide +kernel
theorem dX7_readRow_8 : decode cX7_readRow 8 = .ok (.bipush 24, 2) := by decide +kernel
theorem dX7_readRow_10 : decode cX7_readRow 10 = .ok (.if_icmp .le 5, 3) := by decide +kernel
theorem dX7_readRow_13 : decode cX7_readRow 13 = .ok (.iconst (-1), 1) := by decide +kernel
theorem dX7_readRow_14 : decode cX7_readRow 14 = .ok (.ireturn, 1) := by decide +kernel
theorem dX7_readRow_15 : decode cX7_readRow 15 = .ok (.aload_n 0, 1) := by decide +kernel
theorem dX7_readRow_16 : decode cX7_readRow 16 = .ok (.iload_n 1, 1) := by decide +kernel
theorem dX7_readRow_17 : decode cX7_readRow 17 = .ok (.iload_n 2, 1) := by decide +kernel
theorem dX7_readRow_18 : decode cX7_readRow 18 = .ok (.iload_n 3, 1) := by decide +kernel
theorem dX7_readRow_19 : decode cX7_readRow 19 = .ok (.iload 4, 2) := by decide +kernel
theorem dX7_readRow_21 : decode cX7_readRow 21 = .ok (.invokevirtual 95, 3) := by decide +kernel
theorem dX7_readRow_24 : decode cX7_readRow 24 = .ok (.istore 5, 2) := by decide +kernel
theorem dX7_readRow_26 : decode cX7_readRow 26 = .ok (.iload 5, 2) := by decide +kernel
theorem dX7_readRow_28 : decode cX7_readRow 28 = .ok (.ifCond .eq 6, 3) := by decide +kernel
theorem dX7_readRow_31 : decode cX7_readRow 31 = .ok (.iload 5, 2) := by decide +kernel
theorem dX7_readRow_33 : decode cX7_readRow 33 = .ok (.ireturn, 1) := by decide +kernel
theorem dX7_readRow_34 : decode cX7_readRow 34 = .ok (.aload_n 0, 1) := by decide +kernel
theorem dX7_readRow_35 : decode cX7_readRow 35 = .ok (.getfield 53, 3) := by decide +kernel
theorem dX7_readRow_38 : decode cX7_readRow 38 = .ok (.iload_n 1, 1) := by decide +kernel
theorem dX7_readRow_39 : decode cX7_readRow 39 = .ok (.aaload, 1) := by decide +kernel
theorem dX7_readRow_40 : decode cX7_readRow 40 = .ok (.getfield 99, 3) := by decide +kernel
theorem dX7_readRow_43 : decode cX7_readRow 43 = .ok (.astore 6, 2) := by decide +kernel
theorem dX7_readRow_45 : decode cX7_readRow 45 = .ok (.iconst 0, 1) := by decide +kernel
theorem dX7_readRow_46 : decode cX7_readRow 46 = .ok (.istore 7, 2) := by decide +kernel
theorem dX7_readRow_48 : decode cX7_readRow 48 = .ok (.iload 7, 2) := by decide +kernel
theorem dX7_readRow_50 : decode cX7_readRow 50 = .ok (.iload 4, 2) := by decide +kernel
theorem dX7_readRow_52 : decode cX7_readRow 52 = .ok (.if_icmp .ge 61, 3) := by decide +kernel
theorem dX7_readRow_55 : decode cX7_readRow 55 = .ok (.aload 6, 2) := by decide +kernel
theorem dX7_readRow_57 : decode cX7_readRow 57 = .ok (.iload_n 3, 1) := by decide +kernel
theorem dX7_readRow_58 : decode cX7_readRow 58 = .ok (.iload 7, 2) := by decide +kernel
theorem dX7_readRow_60 : decode cX7_readRow 60 = .ok (.iadd, 1) := by decide +kernel
theorem dX7_readRow_61 : decode cX7_readRow 61 = .ok (.iaload, 1) := by decide +kernel
theorem dX7_readRow_62 : decode cX7_readRow 62 = .ok (.istore 8, 2) := by decide +kernel
theorem dX7_readRow_64 : decode cX7_readRow 64 = .ok (.iload 8, 2) := by decide +kernel
theorem dX7_readRow_66 : decode cX7_readRow 66 = .ok (.invokestatic 86, 3) := by decide +kernel
theorem dX7_readRow_69 : decode cX7_readRow 69 = .ok (.ifCond .ne 13, 3) := by decide +kernel
theorem dX7_readRow_72 : decode cX7_readRow 72 = .ok (.iload 8, 2) := by decide +kernel
theorem dX7_readRow_74 : decode cX7_readRow 74 = .ok (.bipush 12, 2) := by decide +kernel
theorem dX7_readRow_76 : decode cX7_readRow 76 = .ok (.if_icmp .eq 6, 3) := by decide +kernel
theorem dX7_readRow_79 : decode cX7_readRow 79 = .ok (.bipush (-2), 2) := by decide +kernel
theorem dX7_readRow_81 : decode cX7_readRow 81 = .ok (.ireturn, 1) := by decide +kernel
theorem dX7_readRow_82 : decode cX7_readRow 82 = .ok (.aload_n 0, 1) := by decide +kernel
theorem dX7_readRow_83 : decode cX7_readRow 83 = .ok (.getfield 67, 3) := by decide +kernel
theorem dX7_readRow_86 : decode cX7_readRow 86 = .ok (.iload 7, 2) := by decide +kernel
theorem dX7_readRow_88 : decode cX7_readRow 88 = .ok (.iload 8, 2) := by decide +kernel
theorem dX7_readRow_90 : decode cX7_readRow 90 = .ok (.bipush 12, 2) := by decide +kernel
theorem dX7_readRow_92 : decode cX7_readRow 92 = .ok (.if_icmp .ne 7, 3) := by decide +kernel
theorem dX7_readRow_95 : decode cX7_readRow 95 = .ok (.iconst 0, 1) := by decide +kernel
theorem dX7_readRow_96 : decode cX7_readRow 96 = .ok (.goto 10, 3) := by decide +kernel
theorem dX7_readRow_99 : decode cX7_readRow 99 = .ok (.aload_n 0, 1) := by decide +kernel
theorem dX7_readRow_100 : decode cX7_readRow 100 = .ok (.getfield 61, 3) := by decide +kernel
theorem dX7_readRow_103 : decode cX7_readRow 103 = .ok (.iload 8, 2) := by decide +kernel
theorem dX7_readRow_105 : decode cX7_readRow 105 = .ok (.iaload, 1) := by decide +kernel
theorem dX7_readRow_106 : decode cX7_readRow 106 = .ok (.iastore, 1) := by decide +kernel
theorem dX7_readRow_107 : decode cX7_readRow 107 = .ok (.iinc 7 1, 3) := by decide +kernel
theorem dX7_readRow_110 : decode cX7_readRow 110 = .ok (.goto (-62), 3) := by decide +kernel
theorem dX7_readRow_113 : decode cX7_readRow 113 = .ok (.iconst 0, 1) := by decide +kernel
theorem dX7_readRow_114 : decode cX7_readRow 114 = .ok (.ireturn, 1) := by decide +kernel
theorem dX7_comesAhead_0 : decode cX7_comesAhead 0 = .ok (.iload_n 1, 1) := by decide +kernel
theorem dX7_comesAhead_1 : decode cX7_comesAhead 1 = .ok (.iload_n 3, 1) := by decide +kernel
theorem dX7_comesAhead_2 : decode cX7_comesAhead 2 = .ok (.imul, 1) := by decide +kernel
theorem dX7_comesAhead_3 : decode cX7_comesAhead 3 = .ok (.aload_n 0, 1) := by decide +kernel
theorem dX7_comesAhead_4 : decode cX7_comesAhead 4 = .ok (.getfield 67, 3) := by decide +kernel
theorem dX7_comesAhead_7 : decode cX7_comesAhead 7 = .ok (.iload_n 1, 1) := by decide +kernel
theorem dX7_comesAhead_8 : decode cX7_comesAhead 8 = .ok (.iaload, 1) := by decide +kernel
theorem dX7_comesAhead_9 : decode cX7_comesAhead 9 = .ok (.iadd, 1) := by decide +kernel
theorem dX7_comesAhead_10 : decode cX7_comesAhead 10 = .ok (.iload_n 2, 1) := by decide +kernel
theorem dX7_comesAhead_11 : decode cX7_comesAhead 11 = .ok (.iload_n 3, 1) := by decide +kernel
theorem dX7_comesAhead_12 : decode cX7_comesAhead 12 = .ok (.imul, 1) := by decide +kernel
theorem dX7_comesAhead_13 : decode cX7_comesAhead 13 = .ok (.aload_n 0, 1) := by decide +kernel
theorem dX7_comesAhead_14 : decode cX7_comesAhead 14 = .ok (.getfield 67, 3) := by decide +kernel
theorem dX7_comesAhead_17 : decode cX7_comesAhead 17 = .ok (.iload_n 2, 1) := by decide +kernel
theorem dX7_comesAhead_18 : decode cX7_comesAhead 18 = .ok (.iaload, 1) := by decide +kernel
theorem dX7_comesAhead_19 : decode cX7_comesAhead 19 = .ok (.iadd, 1) := by decide +kernel
theorem dX7_comesAhead_20 : decode cX7_comesAhead 20 = .ok (.if_icmp .ge 7, 3) := by decide +kernel
theorem dX7_comesAhead_23 : decode cX7_comesAhead 23 = .ok (.iconst 1, 1) := by decide +kernel
theorem dX7_comesAhead_24 : decode cX7_comesAhead 24 = .ok (.goto 4, 3) := by decide +kernel
theorem dX7_comesAhead_27 : decode cX7_comesAhead 27 = .ok (.iconst 0, 1) := by decide +kernel
theorem dX7_comesAhead_28 : decode cX7_comesAhead 28 = .ok (.ireturn, 1) := by decide +kernel
theorem dX7_turnedPairs_0 : decode cX7_turnedPairs 0 = .ok (.iconst 0, 1) := by decide +kernel
theorem dX7_turnedPairs_1 : decode cX7_turnedPairs 1 = .ok (.istore_n 3, 1) := by decide +kernel
theorem dX7_turnedPairs_2 : decode cX7_turnedPairs 2 = .ok (.iconst 1, 1) := by decide +kernel
theorem dX7_turnedPairs_3 : decode cX7_turnedPairs 3 = .ok (.istore 4, 2) := by decide +kernel
theorem dX7_turnedPairs_5 : decode cX7_turnedPairs 5 = .ok (.iload 4, 2) := by decide +kernel
theorem dX7_turnedPairs_7 : decode cX7_turnedPairs 7 = .ok (.iload_n 1, 1) := by decide +kernel
theorem dX7_turnedPairs_8 : decode cX7_turnedPairs 8 = .ok (.if_icmp .ge 40, 3) := by decide +kernel
theorem dX7_turnedPairs_11 : decode cX7_turnedPairs 11 = .ok (.iconst 0, 1) := by decide +kernel
theorem dX7_turnedPairs_12 : decode cX7_turnedPairs 12 = .ok (.istore 5, 2) := by decide +kernel
theorem dX7_turnedPairs_14 : decode cX7_turnedPairs 14 = .ok (.iload 5, 2) := by decide +kernel
theorem dX7_turnedPairs_16 : decode cX7_turnedPairs 16 = .ok (.iload 4, 2) := by decide +kernel
theorem dX7_turnedPairs_18 : decode cX7_turnedPairs 18 = .ok (.if_icmp .ge 24, 3) := by decide +kernel
theorem dX7_turnedPairs_21 : decode cX7_turnedPairs 21 = .ok (.aload_n 0, 1) := by decide +kernel
theorem dX7_turnedPairs_22 : decode cX7_turnedPairs 22 = .ok (.iload 4, 2) := by decide +kernel
theorem dX7_turnedPairs_24 : decode cX7_turnedPairs 24 = .ok (.iload 5, 2) := by decide +kernel
theorem dX7_turnedPairs_26 : decode cX7_turnedPairs 26 = .ok (.iload_n 2, 1) := by decide +kernel
theorem dX7_turnedPairs_27 : decode cX7_turnedPairs 27 = .ok (.invokevirtual 294, 3) := by decide +kernel
theorem dX7_turnedPairs_30 : decode cX7_turnedPairs 30 = .ok (.ifCond .eq 6, 3) := by decide +kernel
theorem dX7_turnedPairs_33 : decode cX7_turnedPairs 33 = .ok (.iinc 3 1, 3) := by decide +kernel
theorem dX7_turnedPairs_36 : decode cX7_turnedPairs 36 = .ok (.iinc 5 1, 3) := by decide +kernel
theorem dX7_turnedPairs_39 : decode cX7_turnedPairs 39 = .ok (.goto (-25), 3) := by decide +kernel
theorem dX7_turnedPairs_42 : decode cX7_turnedPairs 42 = .ok (.iinc 4 1, 3) := by decide +kernel
theorem dX7_turnedPairs_45 : decode cX7_turnedPairs 45 = .ok (.goto (-40), 3) := by decide +kernel
theorem dX7_turnedPairs_48 : decode cX7_turnedPairs 48 = .ok (.iload_n 3, 1) := by decide +kernel
theorem dX7_turnedPairs_49 : decode cX7_turnedPairs 49 = .ok (.ireturn, 1) := by decide +kernel
theorem dX7_keyThatComes_0 : decode cX7_keyThatComes 0 = .ok (.iconst 0, 1) := by decide +kernel
theorem dX7_keyThatComes_1 : decode cX7_keyThatComes 1 = .ok (.istore 4, 2) := by decide +kernel
theorem dX7_keyThatComes_3 : decode cX7_keyThatComes 3 = .ok (.iload 4, 2) := by decide +kernel
theorem dX7_keyThatComes_5 : decode cX7_keyThatComes 5 = .ok (.iload_n 1, 1) := by decide +kernel
theorem dX7_keyThatComes_6 : decode cX7_keyThatComes 6 = .ok (.if_icmp .ge 24, 3) := by decide +kernel
theorem dX7_keyThatComes_9 : decode cX7_keyThatComes 9 = .ok (.aload_n 0, 1) := by decide +kernel
theorem dX7_keyThatComes_10 : decode cX7_keyThatComes 10 = .ok (.iload 4, 2) := by decide +kernel
theorem dX7_keyThatComes_12 : decode cX7_keyThatComes 12 = .ok (.iload_n 1, 1) := by decide +kernel
theorem dX7_keyThatComes_13 : decode cX7_keyThatComes 13 = .ok (.iload_n 2, 1) := by decide +kernel
theorem dX7_keyThatComes_14 : decode cX7_keyThatComes 14 = .ok (.invokevirtual 298, 3) := by decide +kernel
theorem dX7_keyThatComes_17 : decode cX7_keyThatComes 17 = .ok (.iload_n 3, 1) := by decide +kernel
theorem dX7_keyThatComes_18 : decode cX7_keyThatComes 18 = .ok (.if_icmp .ne 6, 3) := by decide +kernel
theorem dX7_keyThatComes_21 : decode cX7_keyThatComes 21 = .ok (.iload 4, 2) := by decide +kernel
theorem dX7_keyThatComes_23 : decode cX7_keyThatComes 23 = .ok (.ireturn, 1) := by decide +kernel
theorem dX7_keyThatComes_24 : decode cX7_keyThatComes 24 = .ok (.iinc 4 1, 3) := by decide +kernel
theorem dX7_keyThatComes_27 : decode cX7_keyThatComes 27 = .ok (.goto (-24), 3) := by decide +kernel
theorem dX7_keyThatComes_30 : decode cX7_keyThatComes 30 = .ok (.bipush (-4), 2) := by decide +kernel
theorem dX7_keyThatComes_32 : decode cX7_keyThatComes 32 = .ok (.ireturn, 1) := by decide +kernel
theorem dX7_comersAheadOf_0 : decode cX7_comersAheadOf 0 = .ok (.iconst 0, 1) := by decide +kernel
theorem dX7_comersAheadOf_1 : decode cX7_comersAheadOf 1 = .ok (.istore 4, 2) := by decide +kernel
theorem dX7_comersAheadOf_3 : decode cX7_comersAheadOf 3 = .ok (.iconst 0, 1) := by decide +kernel
theorem dX7_comersAheadOf_4 : decode cX7_comersAheadOf 4 = .ok (.istore 5, 2) := by decide +kernel
theorem dX7_comersAheadOf_6 : decode cX7_comersAheadOf 6 = .ok (.iload 5, 2) := by decide +kernel
theorem dX7_comersAheadOf_8 : decode cX7_comersAheadOf 8 = .ok (.iload_n 2, 1) := by decide +kernel
theorem dX7_comersAheadOf_9 : decode cX7_comersAheadOf 9 = .ok (.if_icmp .ge 66, 3) := by decide +kernel
theorem dX7_comersAheadOf_12 : decode cX7_comersAheadOf 12 = .ok (.iload 5, 2) := by decide +kernel
theorem dX7_comersAheadOf_14 : decode cX7_comersAheadOf 14 = .ok (.iload_n 1, 1) := by decide +kernel
theorem dX7_comersAheadOf_15 : decode cX7_comersAheadOf 15 = .ok (.if_icmp .ge 22, 3) := by decide +kernel
theorem dX7_comersAheadOf_18 : decode cX7_comersAheadOf 18 = .ok (.aload_n 0, 1) := by decide +kernel
theorem dX7_comersAheadOf_19 : decode cX7_comersAheadOf 19 = .ok (.iload_n 1, 1) := by decide +kernel
theorem dX7_comersAheadOf_20 : decode cX7_comersAheadOf 20 = .ok (.iload 5, 2) := by decide +kernel
theorem dX7_comersAheadOf_22 : decode cX7_comersAheadOf 22 = .ok (.iload_n 3, 1) := by decide +kernel
theorem dX7_comersAheadOf_23 : decode cX7_comersAheadOf 23 = .ok (.invokevirtual 294, 3) := by decide +kernel
theorem dX7_comersAheadOf_26 : decode cX7_comersAheadOf 26 = .ok (.ifCond .ne 7, 3) := by decide +kernel
theorem dX7_comersAheadOf_29 : decode cX7_comersAheadOf 29 = .ok (.iconst 1, 1) := by decide +kernel
theorem dX7_comersAheadOf_30 : decode cX7_comersAheadOf 30 = .ok (.goto 29, 3) := by decide +kernel
theorem dX7_comersAheadOf_33 : decode cX7_comersAheadOf 33 = .ok (.iconst 0, 1) := by decide +kernel
theorem dX7_comersAheadOf_34 : decode cX7_comersAheadOf 34 = .ok (.goto 25, 3) := by decide +kernel
theorem dX7_comersAheadOf_37 : decode cX7_comersAheadOf 37 = .ok (.iload 5, 2) := by decide +kernel
theorem dX7_comersAheadOf_39 : decode cX7_comersAheadOf 39 = .ok (.iload_n 1, 1) := by decide +kernel
theorem dX7_comersAheadOf_40 : decode cX7_comersAheadOf 40 = .ok (.if_icmp .le 18, 3) := by decide +kernel
theorem dX7_comersAheadOf_43 : decode cX7_comersAheadOf 43 = .ok (.aload_n 0, 1) := by decide +kernel
theorem dX7_comersAheadOf_44 : decode cX7_comersAheadOf 44 = .ok (.iload 5, 2) := by decide +kernel
theorem dX7_comersAheadOf_46 : decode cX7_comersAheadOf 46 = .ok (.iload_n 1, 1) := by decide +kernel
theorem dX7_comersAheadOf_47 : decode cX7_comersAheadOf 47 = .ok (.iload_n 3, 1) := by decide +kernel
theorem dX7_comersAheadOf_48 : decode cX7_comersAheadOf 48 = .ok (.invokevirtual 294, 3) := by decide +kernel
theorem dX7_comersAheadOf_51 : decode cX7_comersAheadOf 51 = .ok (.ifCond .eq 7, 3) := by decide +kernel
theorem dX7_comersAheadOf_54 : decode cX7_comersAheadOf 54 = .ok (.iconst 1, 1) := by decide +kernel
theorem dX7_comersAheadOf_55 : decode cX7_comersAheadOf 55 = .ok (.goto 4, 3) := by decide +kernel
theorem dX7_comersAheadOf_58 : decode cX7_comersAheadOf 58 = .ok (.iconst 0, 1) := by decide +kernel
theorem dX7_comersAheadOf_59 : decode cX7_comersAheadOf 59 = .ok (.istore 6, 2) := by decide +kernel
theorem dX7_comersAheadOf_61 : decode cX7_comersAheadOf 61 = .ok (.iload 6, 2) := by decide +kernel
theorem dX7_comersAheadOf_63 : decode cX7_comersAheadOf 63 = .ok (.ifCond .eq 6, 3) := by decide +kernel
theorem dX7_comersAheadOf_66 : decode cX7_comersAheadOf 66 = .ok (.iinc 4 1, 3) := by decide +kernel
theorem dX7_comersAheadOf_69 : decode cX7_comersAheadOf 69 = .ok (.iinc 5 1, 3) := by decide +kernel
theorem dX7_comersAheadOf_72 : decode cX7_comersAheadOf 72 = .ok (.goto (-66), 3) := by decide +kernel
theorem dX7_comersAheadOf_75 : decode cX7_comersAheadOf 75 = .ok (.iload 4, 2) := by decide +kernel
theorem dX7_comersAheadOf_77 : decode cX7_comersAheadOf 77 = .ok (.ireturn, 1) := by decide +kernel
theorem dX7_byteOf_0 : decode cX7_byteOf 0 = .ok (.lload_n 0, 1) := by decide +kernel
theorem dX7_byteOf_1 : decode cX7_byteOf 1 = .ok (.bipush 8, 2) := by decide +kernel
theorem dX7_byteOf_3 : decode cX7_byteOf 3 = .ok (.iload_n 2, 1) := by decide +kernel
theorem dX7_byteOf_4 : decode cX7_byteOf 4 = .ok (.imul, 1) := by decide +kernel
theorem dX7_byteOf_5 : decode cX7_byteOf 5 = .ok (.lushr, 1) := by decide +kernel
theorem dX7_byteOf_6 : decode cX7_byteOf 6 = .ok (.l2i, 1) := by decide +kernel
theorem dX7_byteOf_7 : decode cX7_byteOf 7 = .ok (.sipush 255, 3) := by decide +kernel
theorem dX7_byteOf_10 : decode cX7_byteOf 10 = .ok (.iand, 1) := by decide +kernel
theorem dX7_byteOf_11 : decode cX7_byteOf 11 = .ok (.ireturn, 1) := by decide +kernel
theorem dX7_playTape_0 : decode cX7_playTape 0 = .ok (.iconst 0, 1) := by decide +kernel
theorem dX7_playTape_1 : decode cX7_playTape 1 = .ok (.istore_n 3, 1) := by decide +kernel
theorem dX7_playTape_2 : decode cX7_playTape 2 = .ok (.iload_n 3, 1) := by decide +kernel
theorem dX7_playTape_3 : decode cX7_playTape 3 = .ok (.iload_n 1, 1) := by decide +kernel
theorem dX7_playTape_4 : decode cX7_playTape 4 = .ok (.if_icmp .ge 61, 3) := by decide +kernel
theorem dX7_playTape_7 : decode cX7_playTape 7 = .ok (.iload_n 3, 1) := by decide +kernel
theorem dX7_playTape_8 : decode cX7_playTape 8 = .ok (.ifCond .le 8, 3) := by decide +kernel
theorem dX7_playTape_11 : decode cX7_playTape 11 = .ok (.aload_n 0, 1) := by decide +kernel
theorem dX7_playTape_12 : decode cX7_playTape 12 = .ok (.iload_n 2, 1) := by decide +kernel
theorem dX7_playTape_13 : decode cX7_playTape 13 = .ok (.invokevirtual 159, 3) := by decide +kernel
theorem dX7_playTape_16 : decode cX7_playTape 16 = .ok (.aload_n 0, 1) := by decide +kernel
theorem dX7_playTape_17 : decode cX7_playTape 17 = .ok (.getfield 47, 3) := by decide +kernel
theorem dX7_playTape_20 : decode cX7_playTape 20 = .ok (.getfield 301, 3) := by decide +kernel
theorem dX7_playTape_23 : decode cX7_playTape 23 = .ok (.iload_n 3, 1) := by decide +kernel
theorem dX7_playTape_24 : decode cX7_playTape 24 = .ok (.iaload, 1) := by decide +kernel
theorem dX7_playTape_25 : decode cX7_playTape 25 = .ok (.istore 4, 2) := by decide +kernel
theorem dX7_playTape_27 : decode cX7_playTape 27 = .ok (.iload 4, 2) := by decide +kernel
theorem dX7_playTape_29 : decode cX7_playTape 29 = .ok (.bipush 32, 2) := by decide +kernel
theorem dX7_playTape_31 : decode cX7_playTape 31 = .ok (.if_icmp .ne 10, 3) := by decide +kernel
theorem dX7_playTape_34 : decode cX7_playTape 34 = .ok (.aload_n 0, 1) := by decide +kernel
theorem dX7_playTape_35 : decode cX7_playTape 35 = .ok (.invokevirtual 303, 3) := by decide +kernel
theorem dX7_playTape_38 : decode cX7_playTape 38 = .ok (.goto 12, 3) := by decide +kernel
theorem dX7_playTape_41 : decode cX7_playTape 41 = .ok (.aload_n 0, 1) := by decide +kernel
theorem dX7_playTape_42 : decode cX7_playTape 42 = .ok (.iload 4, 2) := by decide +kernel
theorem dX7_playTape_44 : decode cX7_playTape 44 = .ok (.bipush 97, 2) := by decide +kernel
theorem dX7_playTape_46 : decode cX7_playTape 46 = .ok (.isub, 1) := by decide +kernel
theorem dX7_playTape_47 : decode cX7_playTape 47 = .ok (.invokevirtual 306, 3) := by decide +kernel
theorem dX7_playTape_50 : decode cX7_playTape 50 = .ok (.istore 5, 2) := by decide +kernel
theorem dX7_playTape_52 : decode cX7_playTape 52 = .ok (.iload 5, 2) := by decide +kernel
theorem dX7_playTape_54 : decode cX7_playTape 54 = .ok (.ifCond .ge 5, 3) := by decide +kernel
theorem dX7_playTape_57 : decode cX7_playTape 57 = .ok (.iload_n 3, 1) := by decide +kernel
theorem dX7_playTape_58 : decode cX7_playTape 58 = .ok (.ireturn, 1) := by decide +kernel
theorem dX7_playTape_59 : decode cX7_playTape 59 = .ok (.iinc 3 1, 3) := by decide +kernel
theorem dX7_playTape_62 : decode cX7_playTape 62 = .ok (.goto (-60), 3) := by decide +kernel
theorem dX7_playTape_65 : decode cX7_playTape 65 = .ok (.iload_n 1, 1) := by decide +kernel
theorem dX7_playTape_66 : decode cX7_playTape 66 = .ok (.ireturn, 1) := by decide +kernel
theorem dX7_sheetFault_0 : decode cX7_sheetFault 0 = .ok (.iload_n 1, 1) := by decide +kernel
theorem dX7_sheetFault_1 : decode cX7_sheetFault 1 = .ok (.invokestatic 247, 3) := by decide +kernel
theorem dX7_sheetFault_4 : decode cX7_sheetFault 4 = .ok (.ifCond .eq 10, 3) := by decide +kernel
theorem dX7_sheetFault_7 : decode cX7_sheetFault 7 = .ok (.iload_n 2, 1) := by decide +kernel
theorem dX7_sheetFault_8 : decode cX7_sheetFault 8 = .ok (.invokestatic 250, 3) := by decide +kernel
theorem dX7_sheetFault_11 : decode cX7_sheetFault 11 = .ok (.ifCond .ne 5, 3) := by decide +kernel
theorem dX7_sheetFault_14 : decode cX7_sheetFault 14 = .ok (.iconst (-1), 1) := by decide +kernel
theorem dX7_sheetFault_15 : decode cX7_sheetFault 15 = .ok (.ireturn, 1) := by decide +kernel
theorem dX7_sheetFault_16 : decode cX7_sheetFault 16 = .ok (.aload_n 0, 1) := by decide +kernel
theorem dX7_sheetFault_17 : decode cX7_sheetFault 17 = .ok (.getfield 53, 3) := by decide +kernel
theorem dX7_sheetFault_20 : decode cX7_sheetFault 20 = .ok (.iload_n 1, 1) := by decide +kernel
theorem dX7_sheetFault_21 : decode cX7_sheetFault 21 = .ok (.aaload, 1) := by decide +kernel
theorem dX7_sheetFault_22 : decode cX7_sheetFault 22 = .ok (.astore 5, 2) := by decide +kernel
theorem dX7_sheetFault_24 : decode cX7_sheetFault 24 = .ok (.aload 5, 2) := by decide +kernel
theorem dX7_sheetFault_26 : decode cX7_sheetFault 26 = .ok (.getfield 256, 3) := by decide +kernel
theorem dX7_sheetFault_29 : decode cX7_sheetFault 29 = .ok (.ifCond .ne 6, 3) := by decide +kernel
theorem dX7_sheetFault_32 : decode cX7_sheetFault 32 = .ok (.bipush (-11), 2) := by decide +kernel
theorem dX7_sheetFault_34 : decode cX7_sheetFault 34 = .ok (.ireturn, 1) := by decide +kernel
theorem dX7_sheetFault_35 : decode cX7_sheetFault 35 = .ok (.aload 5, 2) := by decide +kernel
theorem dX7_sheetFault_37 : decode cX7_sheetFault 37 = .ok (.getfield 264, 3) := by decide +kernel
theorem dX7_sheetFault_40 : decode cX7_sheetFault 40 = .ok (.iload_n 2, 1) := by decide +kernel
theorem dX7_sheetFault_41 : decode cX7_sheetFault 41 = .ok (.if_icmp .eq 6, 3) := by decide +kernel
theorem dX7_sheetFault_44 : decode cX7_sheetFault 44 = .ok (.bipush (-12), 2) := by decide +kernel
theorem dX7_sheetFault_46 : decode cX7_sheetFault 46 = .ok (.ireturn, 1) := by decide +kernel
theorem dX7_sheetFault_47 : decode cX7_sheetFault 47 = .ok (.aload 5, 2) := by decide +kernel
theorem dX7_sheetFault_49 : decode cX7_sheetFault 49 = .ok (.iload_n 3, 1) := by decide +kernel
theorem dX7_sheetFault_50 : decode cX7_sheetFault 50 = .ok (.iload 4, 2) := by decide +kernel
theorem dX7_sheetFault_52 : decode cX7_sheetFault 52 = .ok (.invokevirtual 267, 3) := by decide +kernel
theorem dX7_sheetFault_55 : decode cX7_sheetFault 55 = .ok (.ifCond .eq 7, 3) := by decide +kernel
theorem dX7_sheetFault_58 : decode cX7_sheetFault 58 = .ok (.iconst 0, 1) := by decide +kernel
theorem dX7_sheetFault_59 : decode cX7_sheetFault 59 = .ok (.goto 5, 3) := by decide +kernel
theorem dX7_sheetFault_62 : decode cX7_sheetFault 62 = .ok (.bipush (-13), 2) := by decide +kernel
theorem dX7_sheetFault_64 : decode cX7_sheetFault 64 = .ok (.ireturn, 1) := by decide +kernel
theorem dX7_lowestBits_0 : decode cX7_lowestBits 0 = .ok (.iload_n 0, 1) := by decide +kernel
theorem dX7_lowestBits_1 : decode cX7_lowestBits 1 = .ok (.ifCond .ne 6, 3) := by decide +kernel
theorem dX7_lowestBits_4 : decode cX7_lowestBits 4 = .ok (.iload_n 1, 1) := by decide +kernel
theorem dX7_lowestBits_5 : decode cX7_lowestBits 5 = .ok (.i2b, 1) := by decide +kernel
theorem dX7_lowestBits_6 : decode cX7_lowestBits 6 = .ok (.ireturn, 1) := by decide +kernel
theorem dX7_lowestBits_7 : decode cX7_lowestBits 7 = .ok (.iload_n 0, 1) := by decide +kernel
theorem dX7_lowestBits_8 : decode cX7_lowestBits 8 = .ok (.iconst 1, 1) := by decide +kernel
theorem dX7_lowestBits_9 : decode cX7_lowestBits 9 = .ok (.if_icmp .ne 8, 3) := by decide +kernel
theorem dX7_lowestBits_12 : decode cX7_lowestBits 12 = .ok (.iload_n 1, 1) := by decide +kernel
theorem dX7_lowestBits_13 : decode cX7_lowestBits 13 = .ok (.i2s, 1) := by decide +kernel
theorem dX7_lowestBits_14 : decode cX7_lowestBits 14 = .ok (.goto 4, 3) := by decide +kernel
theorem dX7_lowestBits_17 : decode cX7_lowestBits 17 = .ok (.iload_n 1, 1) := by decide +kernel
theorem dX7_lowestBits_18 : decode cX7_lowestBits 18 = .ok (.ireturn, 1) := by decide +kernel
theorem dX8_in_0 : decode cX8_in 0 = .ok (.lload_n 0, 1) := by decide +kernel
theorem dX8_in_1 : decode cX8_in 1 = .ok (.lload_n 2, 1) := by decide +kernel
theorem dX8_in_2 : decode cX8_in 2 = .ok (.lcmp, 1) := by decide +kernel
theorem dX8_in_3 : decode cX8_in 3 = .ok (.ifCond .lt 14, 3) := by decide +kernel
theorem dX8_in_6 : decode cX8_in 6 = .ok (.lload_n 0, 1) := by decide +kernel
theorem dX8_in_7 : decode cX8_in 7 = .ok (.lload 4, 2) := by decide +kernel
theorem dX8_in_9 : decode cX8_in 9 = .ok (.lcmp, 1) := by decide +kernel
theorem dX8_in_10 : decode cX8_in 10 = .ok (.ifCond .gt 7, 3) := by decide +kernel
theorem dX8_in_13 : decode cX8_in 13 = .ok (.iconst 1, 1) := by decide +kernel
theorem dX8_in_14 : decode cX8_in 14 = .ok (.goto 4, 3) := by decide +kernel
theorem dX8_in_17 : decode cX8_in 17 = .ok (.iconst 0, 1) := by decide +kernel
theorem dX8_in_18 : decode cX8_in 18 = .ok (.ireturn, 1) := by decide +kernel
theorem dX8_init_0 : decode cX8_init 0 = .ok (.aload_n 0, 1) := by decide +kernel
theorem dX8_init_1 : decode cX8_init 1 = .ok (.invokespecial 1, 3) := by decide +kernel
theorem dX8_init_4 : decode cX8_init 4 = .ok (.aload_n 0, 1) := by decide +kernel
theorem dX8_init_5 : decode cX8_init 5 = .ok (.bipush 12, 2) := by decide +kernel
theorem dX8_init_7 : decode cX8_init 7 = .ok (.newarray .int, 2) := by decide +kernel
theorem dX8_init_9 : decode cX8_init 9 = .ok (.putfield 7, 3) := by decide +kernel
theorem dX8_init_12 : decode cX8_init 12 = .ok (.aload_n 0, 1) := by decide +kernel
theorem dX8_init_13 : decode cX8_init 13 = .ok (.bipush 12, 2) := by decide +kernel
theorem dX8_init_15 : decode cX8_init 15 = .ok (.newarray .int, 2) := by decide +kernel
theorem dX8_init_17 : decode cX8_init 17 = .ok (.putfield 13, 3) := by decide +kernel
theorem dX8_init_20 : decode cX8_init 20 = .ok (.aload_n 0, 1) := by decide +kernel
theorem dX8_init_21 : decode cX8_init 21 = .ok (.bipush 12, 2) := by decide +kernel
theorem dX8_init_23 : decode cX8_init 23 = .ok (.newarray .int, 2) := by decide +kernel
theorem dX8_init_25 : decode cX8_init 25 = .ok (.putfield 16, 3) := by decide +kernel
theorem dX8_init_28 : decode cX8_init 28 = .ok (.aload_n 0, 1) := by decide +kernel
theorem dX8_init_29 : decode cX8_init 29 = .ok (.bipush 12, 2) := by decide +kernel
theorem dX8_init_31 : decode cX8_init 31 = .ok (.newarray .int, 2) := by decide +kernel
theorem dX8_init_33 : decode cX8_init 33 = .ok (.putfield 19, 3) := by decide +kernel
theorem dX8_init_36 : decode cX8_init 36 = .ok (.aload_n 0, 1) := by decide +kernel
theorem dX8_init_37 : decode cX8_init 37 = .ok (.iconst 4, 1) := by decide +kernel
theorem dX8_init_38 : decode cX8_init 38 = .ok (.newarray .int, 2) := by decide +kernel
theorem dX8_init_40 : decode cX8_init 40 = .ok (.putfield 22, 3) := by decide +kernel
theorem dX8_init_43 : decode cX8_init 43 = .ok (.aload_n 0, 1) := by decide +kernel
theorem dX8_init_44 : decode cX8_init 44 = .ok (.bipush 60, 2) := by decide +kernel
theorem dX8_init_46 : decode cX8_init 46 = .ok (.newarray .int, 2) := by decide +kernel
theorem dX8_init_48 : decode cX8_init 48 = .ok (.putfield 25, 3) := by decide +kernel
theorem dX8_init_51 : decode cX8_init 51 = .ok (.aload_n 0, 1) := by decide +kernel
theorem dX8_init_52 : decode cX8_init 52 = .ok (.bipush 60, 2) := by decide +kernel
theorem dX8_init_54 : decode cX8_init 54 = .ok (.newarray .int, 2) := by decide +kernel
theorem dX8_init_56 : decode cX8_init 56 = .ok (.putfield 28, 3) := by decide +kernel
theorem dX8_init_59 : decode cX8_init 59 = .ok (.aload_n 0, 1) := by decide +kernel
theorem dX8_init_60 : decode cX8_init 60 = .ok (.bipush 60, 2) := by decide +kernel
theorem dX8_init_62 : decode cX8_init 62 = .ok (.newarray .int, 2) := by decide +kernel
theorem dX8_init_64 : decode cX8_init 64 = .ok (.putfield 31, 3) := by decide +kernel
theorem dX8_init_67 : decode cX8_init 67 = .ok (.aload_n 0, 1) := by decide +kernel
theorem dX8_init_68 : decode cX8_init 68 = .ok (.bipush 12, 2) := by decide +kernel
theorem dX8_init_70 : decode cX8_init 70 = .ok (.newarray .int, 2) := by decide +kernel
theorem dX8_init_72 : decode cX8_init 72 = .ok (.putfield 34, 3) := by decide +kernel
theorem dX8_init_75 : decode cX8_init 75 = .ok (.aload_n 0, 1) := by decide +kernel
theorem dX8_init_76 : decode cX8_init 76 = .ok (.bipush 96, 2) := by decide +kernel
theorem dX8_init_78 : decode cX8_init 78 = .ok (.newarray .int, 2) := by decide +kernel
theorem dX8_init_80 : decode cX8_init 80 = .ok (.putfield 37, 3) := by decide +kernel
theorem dX8_init_83 : decode cX8_init 83 = .ok (.aload_n 0, 1) := by decide +kernel
theorem dX8_init_84 : decode cX8_init 84 = .ok (.bipush 24, 2) := by decide +kernel
theorem dX8_init_86 : decode cX8_init 86 = .ok (.newarray .int, 2) := by decide +kernel
theorem dX8_init_88 : decode cX8_init 88 = .ok (.putfield 40, 3) := by decide +kernel
theorem dX8_init_91 : decode cX8_init 91 = .ok (.aload_n 0, 1) := by decide +kernel
theorem dX8_init_92 : decode cX8_init 92 = .ok (.bipush 24, 2) := by decide +kernel
theorem dX8_init_94 : decode cX8_init 94 = .ok (.newarray .int, 2) := by decide +kernel
theorem dX8_init_96 : decode cX8_init 96 = .ok (.putfield 43, 3) := by decide +kernel
theorem dX8_init_99 : decode cX8_init 99 = .ok (.aload_n 0, 1) := by decide +kernel
theorem dX8_init_100 : decode cX8_init 100 = .ok (.bipush 24, 2) := by decide +kernel
theorem dX8_init_102 : decode cX8_init 102 = .ok (.newarray .int, 2) := by decide +kernel
theorem dX8_init_104 : decode cX8_init 104 = .ok (.putfield 46, 3) := by decide +kernel
theorem dX8_init_107 : decode cX8_init 107 = .ok (.aload_n 0, 1) := by decide +kernel
theorem dX8_init_108 : decode cX8_init 108 = .ok (.bipush 60, 2) := by decide +kernel
theorem dX8_init_110 : decode cX8_init 110 = .ok (.newarray .int, 2) := by decide +kernel
theorem dX8_init_112 : decode cX8_init 112 = .ok (.putfield 49, 3) := by decide +kernel
theorem dX8_init_115 : decode cX8_init 115 = .ok (.aload_n 0, 1) := by decide +kernel
theorem dX8_init_116 : decode cX8_init 116 = .ok (.bipush 60, 2) := by decide +kernel
theorem dX8_init_118 : decode cX8_init 118 = .ok (.newarray .int, 2) := by decide +kernel
theorem dX8_init_120 : decode cX8_init 120 = .ok (.putfield 52, 3) := by decide +kernel
theorem dX8_init_123 : decode cX8_init 123 = .ok (.aload_n 0, 1) := by decide +kernel
theorem dX8_init_124 : decode cX8_init 124 = .ok (.bipush 60, 2) := by decide +kernel
theorem dX8_init_126 : decode cX8_init 126 = .ok (.newarray .int, 2) := by decide +kernel
theorem dX8_init_128 : decode cX8_init 128 = .ok (.putfield 55, 3) := by decide +kernel
theorem dX8_init_131 : decode cX8_init 131 = .ok (.aload_n 0, 1) := by decide +kernel
theorem dX8_init_132 : decode cX8_init 132 = .ok (.bipush 40, 2) := by decide +kernel
theorem dX8_init_134 : decode cX8_init 134 = .ok (.newarray .int, 2) := by decide +kernel
theorem dX8_init_136 : decode cX8_init 136 = .ok (.putfield 58, 3) := by decide +kernel
theorem dX8_init_139 : decode cX8_init 139 = .ok (.aload_n 0, 1) := by decide +kernel
theorem dX8_init_140 : decode cX8_init 140 = .ok (.sipush 960, 3) := by decide +kernel
theorem dX8_init_143 : decode cX8_init 143 = .ok (.newarray .int, 2) := by decide +kernel
theorem dX8_init_145 : decode cX8_init 145 = .ok (.putfield 61, 3) := by decide +kernel
theorem dX8_init_148 : decode cX8_init 148 = .ok (.aload_n 0, 1) := by decide +kernel
theorem dX8_init_149 : decode cX8_init 149 = .ok (.bipush 24, 2) := by decide +kernel
theorem dX8_init_151 : decode cX8_init 151 = .ok (.newarray .int, 2) := by decide +kernel
theorem dX8_init_153 : decode cX8_init 153 = .ok (.putfield 64, 3) := by decide +kernel
theorem dX8_init_156 : decode cX8_init 156 = .ok (.aload_n 0, 1) := by decide +kernel
theorem dX8_init_157 : decode cX8_init 157 = .ok (.bipush 24, 2) := by decide +kernel
theorem dX8_init_159 : decode cX8_init 159 = .ok (.newarray .int, 2) := by decide +kernel
theorem dX8_init_161 : decode cX8_init 161 = .ok (.putfield 67, 3) := by decide +kernel
theorem dX8_init_164 : decode cX8_init 164 = .ok (.aload_n 0, 1) := by decide +kernel
theorem dX8_init_165 : decode cX8_init 165 = .ok (.bipush 60, 2) := by decide +kernel
theorem dX8_init_167 : decode cX8_init 167 = .ok (.newarray .int, 2) := by decide +kernel
theorem dX8_init_169 : decode cX8_init 169 = .ok (.putfield 70, 3) := by decide +kernel
theorem dX8_init_172 : decode cX8_init 172 = .ok (.aload_n 0, 1) := by decide +kernel
theorem dX8_init_173 : decode cX8_init 173 = .ok (.iconst 4, 1) := by decide +kernel
theorem dX8_init_174 : decode cX8_init 174 = .ok (.newarray .int, 2) := by decide +kernel
theorem dX8_init_176 : decode cX8_init 176 = .ok (.putfield 73, 3) := by decide +kernel
theorem dX8_init_179 : decode cX8_init 179 = .ok (.aload_n 0, 1) := by decide +kernel
theorem dX8_init_180 : decode cX8_init 180 = .ok (.iconst 4, 1) := by decide +kernel
theorem dX8_init_181 : decode cX8_init 181 = .ok (.newarray .int, 2) := by decide +kernel
theorem dX8_init_183 : decode cX8_init 183 = .ok (.putfield 76, 3) := by decide +kernel
theorem dX8_init_186 : decode cX8_init 186 = .ok (.aload_n 0, 1) := by decide +kernel
theorem dX8_init_187 : decode cX8_init 187 = .ok (.sipush 160, 3) := by decide +kernel
theorem dX8_init_190 : decode cX8_init 190 = .ok (.newarray .int, 2) := by decide +kernel
theorem dX8_init_192 : decode cX8_init 192 = .ok (.putfield 79, 3) := by decide +kernel
theorem dX8_init_195 : decode cX8_init 195 = .ok (.aload_n 0, 1) := by decide +kernel
theorem dX8_init_196 : decode cX8_init 196 = .ok (.bipush 40, 2) := by decide +kernel
theorem dX8_init_198 : decode cX8_init 198 = .ok (.newarray .int, 2) := by decide +kernel
theorem dX8_init_200 : decode cX8_init 200 = .ok (.putfield 82, 3) := by decide +kernel
theorem dX8_init_203 : decode cX8_init 203 = .ok (.iconst 0, 1) := by decide +kernel
theorem dX8_init_204 : decode cX8_init 204 = .ok (.istore_n 1, 1) := by decide +kernel
theorem dX8_init_205 : decode cX8_init 205 = .ok (.iload_n 1, 1) := by decide +kernel
theorem dX8_init_206 : decode cX8_init 206 = .ok (.iconst 4, 1) := by decide +kernel
theorem dX8_init_207 : decode cX8_init 207 = .ok (.if_icmp .ge 16, 3) := by decide +kernel
theorem dX8_init_210 : decode cX8_init 210 = .ok (.aload_n 0, 1) := by decide +kernel
theorem dX8_init_211 : decode cX8_init 211 = .ok (.getfield 73, 3) := by decide +kernel
theorem dX8_init_214 : decode cX8_init 214 = .ok (.iload_n 1, 1) := by decide +kernel
theorem dX8_init_215 : decode cX8_init 215 = .ok (.iconst (-1), 1) := by decide +kernel
theorem dX8_init_216 : decode cX8_init 216 = .ok (.iastore, 1) := by decide +kernel
theorem dX8_init_217 : decode cX8_init 217 = .ok (.iinc 1 1, 3) := by decide +kernel
theorem dX8_init_220 : decode cX8_init 220 = .ok (.goto (-15), 3) := by decide +kernel
theorem dX8_init_223 : decode cX8_init 223 = .ok (.iconst 0, 1) := by decide +kernel
theorem dX8_init_224 : decode cX8_init 224 = .ok (.istore_n 1, 1) := by decide +kernel
theorem dX8_init_225 : decode cX8_init 225 = .ok (.iload_n 1, 1) := by decide +kernel
theorem dX8_init_226 : decode cX8_init 226 = .ok (.bipush 12, 2) := by decide +kernel
theorem dX8_init_228 : decode cX8_init 228 = .ok (.if_icmp .ge 47, 3) := by decide +kernel
theorem dX8_init_231 : decode cX8_init 231 = .ok (.aload_n 0, 1) := by decide +kernel
theorem dX8_init_232 : decode cX8_init 232 = .ok (.getfield 7, 3) := by decide +kernel
theorem dX8_init_235 : decode cX8_init 235 = .ok (.iload_n 1, 1) := by decide +kernel
theorem dX8_init_236 : decode cX8_init 236 = .ok (.bipush 10, 2) := by decide +kernel
theorem dX8_init_238 : decode cX8_init 238 = .ok (.iastore, 1) := by decide +kernel
theorem dX8_init_239 : decode cX8_init 239 = .ok (.aload_n 0, 1) := by decide +kernel
theorem dX8_init_240 : decode cX8_init 240 = .ok (.getfield 13, 3) := by decide +kernel
theorem dX8_init_243 : decode cX8_init 243 = .ok (.iload_n 1, 1) := by decide +kernel
theorem dX8_init_244 : decode cX8_init 244 = .ok (.iload_n 1, 1) := by decide +kernel
theorem dX8_init_245 : decode cX8_init 245 = .ok (.iconst 1, 1) := by decide +kernel
theorem dX8_init_246 : decode cX8_init 246 = .ok (.iadd, 1) := by decide +kernel
theorem dX8_init_247 : decode cX8_init 247 = .ok (.iastore, 1) := by decide +kernel
theorem dX8_init_248 : decode cX8_init 248 = .ok (.aload_n 0, 1) := by decide +kernel
theorem dX8_init_249 : decode cX8_init 249 = .ok (.getfield 16, 3) := by decide +kernel
theorem dX8_init_252 : decode cX8_init 252 = .ok (.iload_n 1, 1) := by decide +kernel
theorem dX8_init_253 : decode cX8_init 253 = .ok (.bipush 127, 2) := by decide +kernel
theorem dX8_init_255 : decode cX8_init 255 = .ok (.iload_n 1, 1) := by decide +kernel
theorem dX8_init_256 : decode cX8_init 256 = .ok (.iconst 1, 1) := by decide +kernel
theorem dX8_init_257 : decode cX8_init 257 = .ok (.iadd, 1) := by decide +kernel
theorem dX8_init_258 : decode cX8_init 258 = .ok (.iconst (-1), 1) := by decide +kernel
theorem dX8_init_259 : decode cX8_init 259 = .ok (.ixor, 1) := by decide +kernel
theorem dX8_init_260 : decode cX8_init 260 = .ok (.iand, 1) := by decide +kernel
theorem dX8_init_261 : decode cX8_init 261 = .ok (.iastore, 1) := by decide +kernel
theorem dX8_init_262 : decode cX8_init 262 = .ok (.aload_n 0, 1) := by decide +kernel
theorem dX8_init_263 : decode cX8_init 263 = .ok (.getfield 19, 3) := by decide +kernel
theorem dX8_init_266 : decode cX8_init 266 = .ok (.iload_n 1, 1) := by decide +kernel
theorem dX8_init_267 : decode cX8_init 267 = .ok (.iload_n 1, 1) := by decide +kernel
theorem dX8_init_268 : decode cX8_init 268 = .ok (.iastore, 1) := by decide +kernel
theorem dX8_init_269 : decode cX8_init 269 = .ok (.iinc 1 1, 3) := by decide +kernel
theorem dX8_init_272 : decode cX8_init 272 = .ok (.goto (-47), 3) := by decide +kernel
theorem dX8_init_275 : decode cX8_init 275 = .ok (.aload_n 0, 1) := by decide +kernel
theorem dX8_init_276 : decode cX8_init 276 = .ok (.getfield 22, 3) := by decide +kernel
theorem dX8_init_279 : decode cX8_init 279 = .ok (.iconst 0, 1) := by decide +kernel
theorem dX8_init_280 : decode cX8_init 280 = .ok (.iconst 4, 1) := by decide +kernel
theorem dX8_init_281 : decode cX8_init 281 = .ok (.iastore, 1) := by decide +kernel
theorem dX8_init_282 : decode cX8_init 282 = .ok (.aload_n 0, 1) := by decide +kernel
theorem dX8_init_283 : decode cX8_init 283 = .ok (.getfield 22, 3) := by decide +kernel
theorem dX8_init_286 : decode cX8_init 286 = .ok (.iconst 1, 1) := by decide +kernel
theorem dX8_init_287 : decode cX8_init 287 = .ok (.bipush 12, 2) := by decide +kernel
theorem dX8_init_289 : decode cX8_init 289 = .ok (.iastore, 1) := by decide +kernel
theorem dX8_init_290 : decode cX8_init 290 = .ok (.aload_n 0, 1) := by decide +kernel
theorem dX8_init_291 : decode cX8_init 291 = .ok (.getfield 22, 3) := by decide +kernel
theorem dX8_init_294 : decode cX8_init 294 = .ok (.iconst 2, 1) := by decide +kernel
theorem dX8_init_295 : decode cX8_init 295 = .ok (.bipush 100, 2) := by decide +kernel
theorem dX8_init_297 : decode cX8_init 297 = .ok (.iastore, 1) := by decide +kernel
theorem dX8_init_298 : decode cX8_init 298 = .ok (.aload_n 0, 1) := by decide +kernel
theorem dX8_init_299 : decode cX8_init 299 = .ok (.getfield 22, 3) := by decide +kernel
theorem dX8_init_302 : decode cX8_init 302 = .ok (.iconst 3, 1) := by decide +kernel
theorem dX8_init_303 : decode cX8_init 303 = .ok (.bipush 20, 2) := by decide +kernel
theorem dX8_init_305 : decode cX8_init 305 = .ok (.iastore, 1) := by decide +kernel
theorem dX8_init_306 : decode cX8_init 306 = .ok (.return_, 1) := by decide +kernel
theorem dX8_isTwelve_0 : decode cX8_isTwelve 0 = .ok (.iload_n 0, 1) := by decide +kernel
theorem dX8_isTwelve_1 : decode cX8_isTwelve 1 = .ok (.i2l, 1) := by decide +kernel
theorem dX8_isTwelve_2 : decode cX8_isTwelve 2 = .ok (.lconst 0, 1) := by decide +kernel
theorem dX8_isTwelve_3 : decode cX8_isTwelve 3 = .ok (.ldc2_w 85, 3) := by decide +kernel
theorem dX8_isTwelve_6 : decode cX8_isTwelve 6 = .ok (.invokestatic 87, 3) := by decide +kernel
theorem dX8_isTwelve_9 : decode cX8_isTwelve 9 = .ok (.ireturn, 1) := by decide +kernel
theorem dX8_letter_0 : decode cX8_letter 0 = .ok (.iload_n 1, 1) := by decide +kernel
theorem dX8_letter_1 : decode cX8_letter 1 = .ok (.invokestatic 91, 3) := by decide +kernel
theorem dX8_letter_4 : decode cX8_letter 4 = .ok (.ifCond .eq 35, 3) := by decide +kernel
theorem dX8_letter_7 : decode cX8_letter 7 = .ok (.iload_n 2, 1) := by decide +kernel
theorem dX8_letter_8 : decode cX8_letter 8 = .ok (.i2l, 1) := by decide +kernel
theorem dX8_letter_9 : decode cX8_letter 9 = .ok (.lconst 0, 1) := by decide +kernel
theorem dX8_letter_10 : decode cX8_letter 10 = .ok (.lconst 1, 1) := by decide +kernel
theorem dX8_letter_11 : decode cX8_letter 11 = .ok (.invokestatic 87, 3) := by decide +kernel
theorem dX8_letter_14 : decode cX8_letter 14 = .ok (.ifCond .eq 25, 3) := by decide +kernel
theorem dX8_letter_17 : decode cX8_letter 17 = .ok (.iload_n 3, 1) := by decide +kernel
theorem dX8_letter_18 : decode cX8_letter 18 = .ok (.i2l, 1) := by decide +kernel
theorem dX8_letter_19 : decode cX8_letter 19 = .ok (.lconst 1, 1) := by decide +kernel
theorem dX8_letter_20 : decode cX8_letter 20 = .ok (.iload_n 2, 1) := by decide +kernel
theorem dX8_letter_21 : decode cX8_letter 21 = .ok (.ifCond .ne 9, 3) := by decide +kernel
theorem dX8_letter_24 : decode cX8_letter 24 = .ok (.ldc2_w 95, 3) := by decide +kernel
theorem dX8_letter_27 : decode cX8_letter 27 = .ok (.goto 6, 3) := by decide +kernel
theorem dX8_letter_30 : decode cX8_letter 30 = .ok (.ldc2_w 97, 3) := by decide +kernel
theorem dX8_letter_33 : decode cX8_letter 33 = .ok (.invokestatic 87, 3) := by decide +kernel
theorem dX8_letter_36 : decode cX8_letter 36 = .ok (.ifCond .ne 5, 3) := by decide +kernel
theorem dX8_letter_39 : decode cX8_letter 39 = .ok (.iconst (-1), 1) := by decide +kernel
theorem dX8_letter_40 : decode cX8_letter 40 = .ok (.ireturn, 1) := by decide +kernel
theorem dX8_letter_41 : decode cX8_letter 41 = .ok (.iload_n 2, 1) := by decide +kernel
theorem dX8_letter_42 : decode cX8_letter 42 = .ok (.ifCond .ne 12, 3) := by decide +kernel
theorem dX8_letter_45 : decode cX8_letter 45 = .ok (.aload_n 0, 1) := by decide +kernel
theorem dX8_letter_46 : decode cX8_letter 46 = .ok (.getfield 7, 3) := by decide +kernel
theorem dX8_letter_49 : decode cX8_letter 49 = .ok (.iload_n 1, 1) := by decide +kernel
theorem dX8_letter_50 : decode cX8_letter 50 = .ok (.iaload, 1) := by decide +kernel
theorem dX8_letter_51 : decode cX8_letter 51 = .ok (.goto 9, 3) := by decide +kernel
theorem dX8_letter_54 : decode cX8_letter 54 = .ok (.aload_n 0, 1) := by decide +kernel
theorem dX8_letter_55 : decode cX8_letter 55 = .ok (.getfield 13, 3) := by decide +kernel
theorem dX8_letter_58 : decode cX8_letter 58 = .ok (.iload_n 1, 1) := by decide +kernel
theorem dX8_letter_59 : decode cX8_letter 59 = .ok (.iaload, 1) := by decide +kernel
theorem dX8_letter_60 : decode cX8_letter 60 = .ok (.istore 4, 2) := by decide +kernel
theorem dX8_letter_62 : decode cX8_letter 62 = .ok (.iload_n 2, 1) := by decide +kernel
theorem dX8_letter_63 : decode cX8_letter 63 = .ok (.ifCond .ne 13, 3) := by decide +kernel
theorem dX8_letter_66 : decode cX8_letter 66 = .ok (.aload_n 0, 1) := by decide +kernel
theorem dX8_letter_67 : decode cX8_letter 67 = .ok (.getfield 7, 3) := by decide +kernel
theorem dX8_letter_70 : decode cX8_letter 70 = .ok (.iload_n 1, 1) := by decide +kernel
theorem dX8_letter_71 : decode cX8_letter 71 = .ok (.iload_n 3, 1) := by decide +kernel
theorem dX8_letter_72 : decode cX8_letter 72 = .ok (.iastore, 1) := by decide +kernel
theorem dX8_letter_73 : decode cX8_letter 73 = .ok (.goto 10, 3) := by decide +kernel
theorem dX8_letter_76 : decode cX8_letter 76 = .ok (.aload_n 0, 1) := by decide +kernel
theorem dX8_letter_77 : decode cX8_letter 77 = .ok (.getfield 13, 3) := by decide +kernel
theorem dX8_letter_80 : decode cX8_letter 80 = .ok (.iload_n 1, 1) := by decide +kernel
theorem dX8_letter_81 : decode cX8_letter 81 = .ok (.iload_n 3, 1) := by decide +kernel
theorem dX8_letter_82 : decode cX8_letter 82 = .ok (.iastore, 1) := by decide +kernel
theorem dX8_letter_83 : decode cX8_letter 83 = .ok (.iload 4, 2) := by decide +kernel
theorem dX8_letter_85 : decode cX8_letter 85 = .ok (.ireturn, 1) := by decide +kernel
theorem dX8_place_0 : decode cX8_place 0 = .ok (.iload_n 1, 1) := by decide +kernel
theorem dX8_place_1 : decode cX8_place 1 = .ok (.invokestatic 91, 3) := by decide +kernel
theorem dX8_place_4 : decode cX8_place 4 = .ok (.ifCond .eq 35, 3) := by decide +kernel
theorem dX8_place_7 : decode cX8_place 7 = .ok (.iload_n 2, 1) := by decide +kernel
theorem dX8_place_8 : decode cX8_place 8 = .ok (.i2l, 1) := by decide +kernel
theorem dX8_place_9 : decode cX8_place 9 = .ok (.lconst 0, 1) := by decide +kernel
theorem dX8_place_10 : decode cX8_place 10 = .ok (.lconst 1, 1) := by decide +kernel
theorem dX8_place_11 : decode cX8_place 11 = .ok (.invokestatic 87, 3) := by decide +kernel
theorem dX8_place_14 : decode cX8_place 14 = .ok (.ifCond .eq 25, 3) := by decide +kernel
theorem dX8_place_17 : decode cX8_place 17 = .ok (.iload_n 3, 1) := by decide +kernel
theorem dX8_place_18 : decode cX8_place 18 = .ok (.i2l, 1) := by decide +kernel
theorem dX8_place_19 : decode cX8_place 19 = .ok (.lconst 0, 1) := by decide +kernel
theorem dX8_place_20 : decode cX8_place 20 = .ok (.iload_n 2, 1) := by decide +kernel
theorem dX8_place_21 : decode cX8_place 21 = .ok (.ifCond .ne 9, 3) := by decide +kernel
theorem dX8_place_24 : decode cX8_place 24 = .ok (.ldc2_w 97, 3) := by decide +kernel
theorem dX8_place_27 : decode cX8_place 27 = .ok (.goto 6, 3) := by decide +kernel
theorem dX8_place_30 : decode cX8_place 30 = .ok (.ldc2_w 99, 3) := by decide +kernel
theorem dX8_place_33 : decode cX8_place 33 = .ok (.invokestatic 87, 3) := by decide +kernel
theorem dX8_place_36 : decode cX8_place 36 = .ok (.ifCond .ne 5, 3) := by decide +kernel
theorem dX8_place_39 : decode cX8_place 39 = .ok (.iconst (-1), 1) := by decide +kernel
theorem dX8_place_40 : decode cX8_place 40 = .ok (.ireturn, 1) := by decide +kernel
theorem dX8_place_41 : decode cX8_place 41 = .ok (.iload_n 2, 1) := by decide +kernel
theorem dX8_place_42 : decode cX8_place 42 = .ok (.ifCond .ne 12, 3) := by decide +kernel
theorem dX8_place_45 : decode cX8_place 45 = .ok (.aload_n 0, 1) := by decide +kernel
theorem dX8_place_46 : decode cX8_place 46 = .ok (.getfield 16, 3) := by decide +kernel
theorem dX8_place_49 : decode cX8_place 49 = .ok (.iload_n 1, 1) := by decide +kernel
theorem dX8_place_50 : decode cX8_place 50 = .ok (.iaload, 1) := by decide +kernel
theorem dX8_place_51 : decode cX8_place 51 = .ok (.goto 9, 3) := by decide +kernel
theorem dX8_place_54 : decode cX8_place 54 = .ok (.aload_n 0, 1) := by decide +kernel
theorem dX8_place_55 : decode cX8_place 55 = .ok (.getfield 19, 3) := by decide +kernel
theorem dX8_place_58 : decode cX8_place 58 = .ok (.iload_n 1, 1) := by decide +kernel
theorem dX8_place_59 : decode cX8_place 59 = .ok (.iaload, 1) := by decide +kernel
theorem dX8_place_60 : decode cX8_place 60 = .ok (.istore 4, 2) := by decide +kernel
theorem dX8_place_62 : decode cX8_place 62 = .ok (.iload_n 2, 1) := by decide +kernel
theorem dX8_place_63 : decode cX8_place 63 = .ok (.ifCond .ne 13, 3) := by decide +kernel
theorem dX8_place_66 : decode cX8_place 66 = .ok (.aload_n 0, 1) := by decide +kernel
theorem dX8_place_67 : decode cX8_place 67 = .ok (.getfield 16, 3) := by decide +kernel
theorem dX8_place_70 : decode cX8_place 70 = .ok (.iload_n 1, 1) := by decide +kernel
theorem dX8_place_71 : decode cX8_place 71 = .ok (.iload_n 3, 1) := by decide +kernel
theorem dX8_place_72 : decode cX8_place 72 = .ok (.iastore, 1) := by decide +kernel
theorem dX8_place_73 : decode cX8_place 73 = .ok (.goto 10, 3) := by decide +kernel
theorem dX8_place_76 : decode cX8_place 76 = .ok (.aload_n 0, 1) := by decide +kernel
theorem dX8_place_77 : decode cX8_place 77 = .ok (.getfield 19, 3) := by decide +kernel
theorem dX8_place_80 : decode cX8_place 80 = .ok (.iload_n 1, 1) := by decide +kernel
theorem dX8_place_81 : decode cX8_place 81 = .ok (.iload_n 3, 1) := by decide +kernel
theorem dX8_place_82 : decode cX8_place 82 = .ok (.iastore, 1) := by decide +kernel
theorem dX8_place_83 : decode cX8_place 83 = .ok (.iload 4, 2) := by decide +kernel
theorem dX8_place_85 : decode cX8_place 85 = .ok (.ireturn, 1) := by decide +kernel
theorem dX8_rails_0 : decode cX8_rails 0 = .ok (.iload_n 1, 1) := by decide +kernel
theorem dX8_rails_1 : decode cX8_rails 1 = .ok (.invokestatic 101, 3) := by decide +kernel
theorem dX8_rails_4 : decode cX8_rails 4 = .ok (.ifCond .eq 10, 3) := by decide +kernel
theorem dX8_rails_7 : decode cX8_rails 7 = .ok (.iload_n 2, 1) := by decide +kernel
theorem dX8_rails_8 : decode cX8_rails 8 = .ok (.invokestatic 104, 3) := by decide +kernel
theorem dX8_rails_11 : decode cX8_rails 11 = .ok (.ifCond .ne 5, 3) := by decide +kernel
theorem dX8_rails_14 : decode cX8_rails 14 = .ok (.iconst (-1), 1) := by decide +kernel
theorem dX8_rails_15 : decode cX8_rails 15 = .ok (.ireturn, 1) := by decide +kernel
theorem dX8_rails_16 : decode cX8_rails 16 = .ok (.aload_n 0, 1) := by decide +kernel
theorem dX8_rails_17 : decode cX8_rails 17 = .ok (.iload_n 1, 1) := by decide +kernel
theorem dX8_rails_18 : decode cX8_rails 18 = .ok (.iload_n 2, 1) := by decide +kernel
theorem dX8_rails_19 : decode cX8_rails 19 = .ok (.iload_n 3, 1) := by decide +kernel
theorem dX8_rails_20 : decode cX8_rails 20 = .ok (.bipush 12, 2) := by decide +kernel
theorem dX8_rails_22 : decode cX8_rails 22 = .ok (.invokevirtual 107, 3) := by decide +kernel
theorem dX8_rails_25 : decode cX8_rails 25 = .ok (.istore 4, 2) := by decide +kernel
theorem dX8_rails_27 : decode cX8_rails 27 = .ok (.iload 4, 2) := by decide +kernel
theorem dX8_rails_29 : decode cX8_rails 29 = .ok (.ifCond .ge 6, 3) := by decide +kernel
theorem dX8_rails_32 : decode cX8_rails 32 = .ok (.iload 4, 2) := by decide +kernel
theorem dX8_rails_34 : decode cX8_rails 34 = .ok (.ireturn, 1) := by decide +kernel
theorem dX8_rails_35 : decode cX8_rails 35 = .ok (.iconst 0, 1) := by decide +kernel
theorem dX8_rails_36 : decode cX8_rails 36 = .ok (.istore 5, 2) := by decide +kernel
theorem dX8_rails_38 : decode cX8_rails 38 = .ok (.iload 5, 2) := by decide +kernel
theorem dX8_rails_40 : decode cX8_rails 40 = .ok (.bipush 12, 2) := by decide +kernel
theorem dX8_rails_42 : decode cX8_rails 42 = .ok (.if_icmp .ge 37, 3) := by decide +kernel
theorem dX8_rails_45 : decode cX8_rails 45 = .ok (.aload_n 0, 1) := by decide +kernel
theorem dX8_rails_46 : decode cX8_rails 46 = .ok (.getfield 79, 3) := by decide +kernel
theorem dX8_rails_49 : decode cX8_rails 49 = .ok (.bipush 40, 2) := by decide +kernel
theorem dX8_rails_51 : decode cX8_rails 51 = .ok (.iload_n 1, 1) := by decide +kernel
theorem dX8_rails_52 : decode cX8_rails 52 = .ok (.imul, 1) := by decide +kernel
theorem dX8_rails_53 : decode cX8_rails 53 = .ok (.iload_n 3, 1) := by decide +kernel
theorem dX8_rails_54 : decode cX8_rails 54 = .ok (.iadd, 1) := by decide +kernel
theorem dX8_rails_55 : decode cX8_rails 55 = .ok (.iload 5, 2) := by decide +kernel
theorem dX8_rails_57 : decode cX8_rails 57 = .ok (.iadd, 1) := by decide +kernel
theorem dX8_rails_58 : decode cX8_rails 58 = .ok (.iaload, 1) := by decide +kernel
theorem dX8_rails_59 : decode cX8_rails 59 = .ok (.i2l, 1) := by decide +kernel
theorem dX8_rails_60 : decode cX8_rails 60 = .ok (.lconst 0, 1) := by decide +kernel
theorem dX8_rails_61 : decode cX8_rails 61 = .ok (.ldc2_w 97, 3) := by decide +kernel
theorem dX8_rails_64 : decode cX8_rails 64 = .ok (.invokestatic 87, 3) := by decide +kernel
theorem dX8_rails_67 : decode cX8_rails 67 = .ok (.ifCond .ne 6, 3) := by decide +kernel
theorem dX8_rails_70 : decode cX8_rails 70 = .ok (.bipush (-2), 2) := by decide +kernel
theorem dX8_rails_72 : decode cX8_rails 72 = .ok (.ireturn, 1) := by decide +kernel
theorem dX8_rails_73 : decode cX8_rails 73 = .ok (.iinc 5 1, 3) := by decide +kernel
theorem dX8_rails_76 : decode cX8_rails 76 = .ok (.goto (-38), 3) := by decide +kernel
theorem dX8_rails_79 : decode cX8_rails 79 = .ok (.iconst 0, 1) := by decide +kernel
theorem dX8_rails_80 : decode cX8_rails 80 = .ok (.istore 5, 2) := by decide +kernel
theorem dX8_rails_82 : decode cX8_rails 82 = .ok (.iload 5, 2) := by decide +kernel
theorem dX8_rails_84 : decode cX8_rails 84 = .ok (.bipush 12, 2) := by decide +kernel
theorem dX8_rails_86 : decode cX8_rails 86 = .ok (.if_icmp .ge 30, 3) := by decide +kernel
theorem dX8_rails_89 : decode cX8_rails 89 = .ok (.aload_n 0, 1) := by decide +kernel
theorem dX8_rails_90 : decode cX8_rails 90 = .ok (.getfield 16, 3) := by decide +kernel
theorem dX8_rails_93 : decode cX8_rails 93 = .ok (.iload 5, 2) := by decide +kernel
theorem dX8_rails_95 : decode cX8_rails 95 = .ok (.aload_n 0, 1) := by decide +kernel
theorem dX8_rails_96 : decode cX8_rails 96 = .ok (.getfield 79, 3) := by decide +kernel
theorem dX8_rails_99 : decode cX8_rails 99 = .ok (.bipush 40, 2) := by decide +kernel
theorem dX8_rails_101 : decode cX8_rails 101 = .ok (.iload_n 1, 1) := by decide +kernel
theorem dX8_rails_102 : decode cX8_rails 102 = .ok (.imul, 1) := by decide +kernel
theorem dX8_rails_103 : decode cX8_rails 103 = .ok (.iload_n 3, 1) := by decide +kernel
theorem dX8_rails_104 : decode cX8_rails 104 = .ok (.iadd, 1) := by decide +kernel
theorem dX8_rails_105 : decode cX8_rails 105 = .ok (.iload 5, 2) := by decide +kernel
theorem dX8_rails_107 : decode cX8_rails 107 = .ok (.iadd, 1) := by decide +kernel
theorem dX8_rails_108 : decode cX8_rails 108 = .ok (.iaload, 1) := by decide +kernel
theorem dX8_rails_109 : decode cX8_rails 109 = .ok (.iastore, 1) := by decide +kernel
theorem dX8_rails_110 : decode cX8_rails 110 = .ok (.iinc 5 1, 3) := by decide +kernel
theorem dX8_rails_113 : decode cX8_rails 113 = .ok (.goto (-31), 3) := by decide +kernel
theorem dX8_rails_116 : decode cX8_rails 116 = .ok (.bipush 12, 2) := by decide +kernel
theorem dX8_rails_118 : decode cX8_rails 118 = .ok (.ireturn, 1) := by decide +kernel
theorem dX8_set_0 : decode cX8_set 0 = .ok (.iload_n 1, 1) := by decide +kernel
theorem dX8_set_1 : decode cX8_set 1 = .ok (.i2l, 1) := by decide +kernel
theorem dX8_set_2 : decode cX8_set 2 = .ok (.lconst 0, 1) := by decide +kernel
theorem dX8_set_3 : decode cX8_set 3 = .ok (.ldc2_w 111, 3) := by decide +kernel
theorem dX8_set_6 : decode cX8_set 6 = .ok (.invokestatic 87, 3) := by decide +kernel
theorem dX8_set_9 : decode cX8_set 9 = .ok (.ifCond .ne 5, 3) := by decide +kernel
theorem dX8_set_12 : decode cX8_set 12 = .ok (.iconst (-1), 1) := by decide +kernel
theorem dX8_set_13 : decode cX8_set 13 = .ok (.ireturn, 1) := by decide +kernel
theorem dX8_set_14 : decode cX8_set 14 = .ok (.iload_n 1, 1) := by decide +kernel
theorem dX8_set_15 : decode cX8_set 15 = .ok (.iconst 1, 1) := by decide +kernel
theorem dX8_set_16 : decode cX8_set 16 = .ok (.if_icmp .ne 12, 3) := by decide +kernel
theorem dX8_set_19 : decode cX8_set 19 = .ok (.aload_n 0, 1) := by decide +kernel
theorem dX8_set_20 : decode cX8_set 20 = .ok (.getfield 22, 3) := by decide +kernel
theorem dX8_set_23 : decode cX8_set 23 = .ok (.iconst 0, 1) := by decide +kernel
theorem dX8_set_24 : decode cX8_set 24 = .ok (.iaload, 1) := by decide +kernel
theorem dX8_set_25 : decode cX8_set 25 = .ok (.goto 14, 3) := by decide +kernel
theorem dX8_set_28 : decode cX8_set 28 = .ok (.iload_n 1, 1) := by decide +kernel
theorem dX8_set_29 : decode cX8_set 29 = .ok (.iconst 2, 1) := by decide +kernel
theorem dX8_set_30 : decode cX8_set 30 = .ok (.if_icmp .ne 8, 3) := by decide +kernel
theorem dX8_set_33 : decode cX8_set 33 = .ok (.bipush 10, 2) := by decide +kernel
theorem dX8_set_35 : decode cX8_set 35 = .ok (.goto 4, 3) := by decide +kernel
theorem dX8_set_38 : decode cX8_set 38 = .ok (.iconst 1, 1) := by decide +kernel
theorem dX8_set_39 : decode cX8_set 39 = .ok (.istore_n 3, 1) := by decide +kernel
theorem dX8_set_40 : decode cX8_set 40 = .ok (.iload_n 1, 1) := by decide +kernel
theorem dX8_set_41 : decode cX8_set 41 = .ok (.ifCond .ne 12, 3) := by decide +kernel
theorem dX8_set_44 : decode cX8_set 44 = .ok (.aload_n 0, 1) := by decide +kernel
theorem dX8_set_45 : decode cX8_set 45 = .ok (.getfield 22, 3) := by decide +kernel
theorem dX8_set_48 : decode cX8_set 48 = .ok (.iconst 1, 1) := by decide +kernel
theorem dX8_set_49 : decode cX8_set 49 = .ok (.iaload, 1) := by decide +kernel
theorem dX8_set_50 : decode cX8_set 50 = .ok (.goto 27, 3) := by decide +kernel
theorem dX8_set_53 : decode cX8_set 53 = .ok (.iload_n 1, 1) := by decide +kernel
theorem dX8_set_54 : decode cX8_set 54 = .ok (.iconst 1, 1) := by decide +kernel
theorem dX8_set_55 : decode cX8_set 55 = .ok (.if_icmp .ne 8, 3) := by decide +kernel
theorem dX8_set_58 : decode cX8_set 58 = .ok (.bipush 40, 2) := by decide +kernel
theorem dX8_set_60 : decode cX8_set 60 = .ok (.goto 17, 3) := by decide +kernel
theorem dX8_set_63 : decode cX8_set 63 = .ok (.iload_n 1, 1) := by decide +kernel
theorem dX8_set_64 : decode cX8_set 64 = .ok (.iconst 2, 1) := by decide +kernel
theorem dX8_set_65 : decode cX8_set 65 = .ok (.if_icmp .ne 9, 3) := by decide +kernel
theorem dX8_set_68 : decode cX8_set 68 = .ok (.sipush 400, 3) := by decide +kernel
theorem dX8_set_71 : decode cX8_set 71 = .ok (.goto 6, 3) := by decide +kernel
theorem dX8_set_74 : decode cX8_set 74 = .ok (.sipush 200, 3) := by decide +kernel
theorem dX8_set_77 : decode cX8_set 77 = .ok (.istore 4, 2) := by decide +kernel
theorem dX8_set_79 : decode cX8_set 79 = .ok (.iload_n 2, 1) := by decide +kernel
theorem dX8_set_80 : decode cX8_set 80 = .ok (.i2l, 1) := by decide +kernel
theorem dX8_set_81 : decode cX8_set 81 = .ok (.iload_n 3, 1) := by decide +kernel
theorem dX8_set_82 : decode cX8_set 82 = .ok (.i2l, 1) := by decide +kernel
theorem dX8_set_83 : decode cX8_set 83 = .ok (.iload 4, 2) := by decide +kernel
theorem dX8_set_85 : decode cX8_set 85 = .ok (.i2l, 1) := by decide +kernel
theorem dX8_set_86 : decode cX8_set 86 = .ok (.invokestatic 87, 3) := by decide +kernel
theorem dX8_set_89 : decode cX8_set 89 = .ok (.ifCond .ne 5, 3) := by decide +kernel
theorem dX8_set_92 : decode cX8_set 92 = .ok (.iconst (-1), 1) := by decide +kernel
theorem dX8_set_93 : decode cX8_set 93 = .ok (.ireturn, 1) := by decide +kernel
theorem dX8_set_94 : decode cX8_set 94 = .ok (.aload_n 0, 1) := by decide +kernel
theorem dX8_set_95 : decode cX8_set 95 = .ok (.getfield 22, 3) := by decide +kernel
theorem dX8_set_98 : decode cX8_set 98 = .ok (.iload_n 1, 1) := by decide +kernel
theorem dX8_set_99 : decode cX8_set 99 = .ok (.iaload, 1) := by decide +kernel
theorem dX8_set_100 : decode cX8_set 100 = .ok (.istore 5, 2) := by decide +kernel
theorem dX8_set_102 : decode cX8_set 102 = .ok (.aload_n 0, 1) := by decide +kernel
theorem dX8_set_103 : decode cX8_set 103 = .ok (.getfield 22, 3) := by decide +kernel
theorem dX8_set_106 : decode cX8_set 106 = .ok (.iload_n 1, 1) := by decide +kernel
theorem dX8_set_107 : decode cX8_set 107 = .ok (.iload_n 2, 1) := by decide +kernel
theorem dX8_set_108 : decode cX8_set 108 = .ok (.iastore, 1) := by decide +kernel
theorem dX8_set_109 : decode cX8_set 109 = .ok (.iload 5, 2) := by decide +kernel
theorem dX8_set_111 : decode cX8_set 111 = .ok (.ireturn, 1) := by decide +kernel
theorem dX8_fallsAt_0 : decode cX8_fallsAt 0 = .ok (.iconst 0, 1) := by decide +kernel
theorem dX8_fallsAt_1 : decode cX8_fallsAt 1 = .ok (.istore_n 2, 1) := by decide +kernel
theorem dX8_fallsAt_2 : decode cX8_fallsAt 2 = .ok (.iload_n 2, 1) := by decide +kernel
theorem dX8_fallsAt_3 : decode cX8_fallsAt 3 = .ok (.bipush 12, 2) := by decide +kernel
theorem dX8_fallsAt_5 : decode cX8_fallsAt 5 = .ok (.if_icmp .ge 22, 3) := by decide +kernel
theorem dX8_fallsAt_8 : decode cX8_fallsAt 8 = .ok (.aload_n 0, 1) := by decide +kernel
theorem dX8_fallsAt_9 : decode cX8_fallsAt 9 = .ok (.getfield 16, 3) := by decide +kernel
theorem dX8_fallsAt_12 : decode cX8_fallsAt 12 = .ok (.iload_n 2, 1) := by decide +kernel
theorem dX8_fallsAt_13 : decode cX8_fallsAt 13 = .ok (.iaload, 1) := by decide +kernel
theorem dX8_fallsAt_14 : decode cX8_fallsAt 14 = .ok (.iload_n 1, 1) := by decide +kernel
theorem dX8_fallsAt_15 : decode cX8_fallsAt 15 = .ok (.iand, 1) := by decide +kernel
theorem dX8_fallsAt_16 : decode cX8_fallsAt 16 = .ok (.ifCond .ne 5, 3) := by decide +kernel
theorem dX8_fallsAt_19 : decode cX8_fallsAt 19 = .ok (.iload_n 2, 1) := by decide +kernel
theorem dX8_fallsAt_20 : decode cX8_fallsAt 20 = .ok (.ireturn, 1) := by decide +kernel
theorem dX8_fallsAt_21 : decode cX8_fallsAt 21 = .ok (.iinc 2 1, 3) := by decide +kernel
theorem dX8_fallsAt_24 : decode cX8_fallsAt 24 = .ok (.goto (-22), 3) := by decide +kernel
theorem dX8_fallsAt_27 : decode cX8_fallsAt 27 = .ok (.bipush 12, 2) := by decide +kernel
theorem dX8_fallsAt_29 : decode cX8_fallsAt 29 = .ok (.ireturn, 1) := by decide +kernel
theorem dX8_falls_0 : decode cX8_falls 0 = .ok (.iload_n 1, 1) := by decide +kernel
theorem dX8_falls_1 : decode cX8_falls 1 = .ok (.i2l, 1) := by decide +kernel
theorem dX8_falls_2 : decode cX8_falls 2 = .ok (.lconst 0, 1) := by decide +kernel
theorem dX8_falls_3 : decode cX8_falls 3 = .ok (.ldc2_w 97, 3) := by decide +kernel
theorem dX8_falls_6 : decode cX8_falls 6 = .ok (.invokestatic 87, 3) := by decide +kernel
theorem dX8_falls_9 : decode cX8_falls 9 = .ok (.ifCond .eq 11, 3) := by decide +kernel
theorem dX8_falls_12 : decode cX8_falls 12 = .ok (.aload_n 0, 1) := by decide +kernel
theorem dX8_falls_13 : decode cX8_falls 13 = .ok (.iload_n 1, 1) := by decide +kernel
theorem dX8_falls_14 : decode cX8_falls 14 = .ok (.invokevirtual 113, 3) := by decide +kernel
theorem dX8_falls_17 : decode cX8_falls 17 = .ok (.goto 4, 3) := by decide +kernel
theorem dX8_falls_20 : decode cX8_falls 20 = .ok (.iconst (-1), 1) := by decide +kernel
theorem dX8_falls_21 : decode cX8_falls 21 = .ok (.ireturn, 1) := by decide +kernel
theorem dX8_astray_0 : decode cX8_astray 0 = .ok (.iconst 0, 1) := by decide +kernel
theorem dX8_astray_1 : decode cX8_astray 1 = .ok (.istore_n 1, 1) := by decide +kernel
theorem dX8_astray_2 : decode cX8_astray 2 = .ok (.iload_n 1, 1) := by decide +kernel
theorem dX8_astray_3 : decode cX8_astray 3 = .ok (.bipush 12, 2) := by decide +kernel
theorem dX8_astray_5 : decode cX8_astray 5 = .ok (.if_icmp .ge 25, 3) := by decide +kernel
theorem dX8_astray_8 : decode cX8_astray 8 = .ok (.aload_n 0, 1) := by decide +kernel
theorem dX8_astray_9 : decode cX8_astray 9 = .ok (.aload_n 0, 1) := by decide +kernel
theorem dX8_astray_10 : decode cX8_astray 10 = .ok (.getfield 13, 3) := by decide +kernel
theorem dX8_astray_13 : decode cX8_astray 13 = .ok (.iload_n 1, 1) := by decide +kernel
theorem dX8_astray_14 : decode cX8_astray 14 = .ok (.iaload, 1) := by decide +kernel
theorem dX8_astray_15 : decode cX8_astray 15 = .ok (.invokevirtual 113, 3) := by decide +kernel
theorem dX8_astray_18 : decode cX8_astray 18 = .ok (.iload_n 1, 1) := by decide +kernel
theorem dX8_astray_19 : decode cX8_astray 19 = .ok (.if_icmp .eq 5, 3) := by decide +kernel
theorem dX8_astray_22 : decode cX8_astray 22 = .ok (.iload_n 1, 1) := by decide +kernel
theorem dX8_astray_23 : decode cX8_astray 23 = .ok (.ireturn, 1) := by decide +kernel
theorem dX8_astray_24 : decode cX8_astray 24 = .ok (.iinc 1 1, 3) := by decide +kernel
theorem dX8_astray_27 : decode cX8_astray 27 = .ok (.goto (-25), 3) := by decide +kernel
theorem dX8_astray_30 : decode cX8_astray 30 = .ok (.bipush (-4), 2) := by decide +kernel
theorem dX8_astray_32 : decode cX8_astray 32 = .ok (.ireturn, 1) := by decide +kernel
theorem dX8_order_0 : decode cX8_order 0 = .ok (.iload_n 1, 1) := by decide +kernel
theorem dX8_order_1 : decode cX8_order 1 = .ok (.invokestatic 91, 3) := by decide +kernel
theorem dX8_order_4 : decode cX8_order 4 = .ok (.ifCond .ne 5, 3) := by decide +kernel
theorem dX8_order_7 : decode cX8_order 7 = .ok (.iconst (-1), 1) := by decide +kernel
theorem dX8_order_8 : decode cX8_order 8 = .ok (.ireturn, 1) := by decide +kernel
theorem dX8_order_9 : decode cX8_order 9 = .ok (.iconst 0, 1) := by decide +kernel
theorem dX8_order_10 : decode cX8_order 10 = .ok (.istore_n 2, 1) := by decide +kernel
theorem dX8_order_11 : decode cX8_order 11 = .ok (.bipush (-4), 2) := by decide +kernel
theorem dX8_order_13 : decode cX8_order 13 = .ok (.istore_n 3, 1) := by decide +kernel
theorem dX8_order_14 : decode cX8_order 14 = .ok (.iconst 0, 1) := by decide +kernel
theorem dX8_order_15 : decode cX8_order 15 = .ok (.istore 4, 2) := by decide +kernel
theorem dX8_order_17 : decode cX8_order 17 = .ok (.iload 4, 2) := by decide +kernel
theorem dX8_order_19 : decode cX8_order 19 = .ok (.iload_n 1, 1) := by decide +kernel
theorem dX8_order_20 : decode cX8_order 20 = .ok (.if_icmp .gt 134, 3) := by decide +kernel
theorem dX8_order_23 : decode cX8_order 23 = .ok (.bipush (-4), 2) := by decide +kernel
theorem dX8_order_25 : decode cX8_order 25 = .ok (.istore_n 3, 1) := by decide +kernel
theorem dX8_order_26 : decode cX8_order 26 = .ok (.bipush 11, 2) := by decide +kernel
theorem dX8_order_28 : decode cX8_order 28 = .ok (.istore 5, 2) := by decide +kernel
theorem dX8_order_30 : decode cX8_order 30 = .ok (.iload 5, 2) := by decide +kernel
theorem dX8_order_32 : decode cX8_order 32 = .ok (.ifCond .lt 102, 3) := by decide +kernel
theorem dX8_order_35 : decode cX8_order 35 = .ok (.iload_n 2, 1) := by decide +kernel
theorem dX8_order_36 : decode cX8_order 36 = .ok (.iload 5, 2) := by decide +kernel
theorem dX8_order_38 : decode cX8_order 38 = .ok (.ishr, 1) := by decide +kernel
theorem dX8_order_39 : decode cX8_order 39 = .ok (.iconst 1, 1) := by decide +kernel
theorem dX8_order_40 : decode cX8_order 40 = .ok (.iand, 1) := by decide +kernel
theorem dX8_order_41 : decode cX8_order 41 = .ok (.ifCond .ne 7, 3) := by decide +kernel
theorem dX8_order_44 : decode cX8_order 44 = .ok (.iconst 1, 1) := by decide +kernel
theorem dX8_order_45 : decode cX8_order 45 = .ok (.goto 4, 3) := by decide +kernel
theorem dX8_order_48 : decode cX8_order 48 = .ok (.iconst 0, 1) := by decide +kernel
theorem dX8_order_49 : decode cX8_order 49 = .ok (.istore 6, 2) := by decide +kernel
theorem dX8_order_51 : decode cX8_order 51 = .ok (.iconst 0, 1) := by decide +kernel
theorem dX8_order_52 : decode cX8_order 52 = .ok (.istore 7, 2) := by decide +kernel
theorem dX8_order_54 : decode cX8_order 54 = .ok (.iload 7, 2) := by decide +kernel
theorem dX8_order_56 : decode cX8_order 56 = .ok (.bipush 12, 2) := by decide +kernel
theorem dX8_order_58 : decode cX8_order 58 = .ok (.if_icmp .ge 58, 3) := by decide +kernel
theorem dX8_order_61 : decode cX8_order 61 = .ok (.iload 6, 2) := by decide +kernel
theorem dX8_order_63 : decode cX8_order 63 = .ok (.ifCond .eq 44, 3) := by decide +kernel
theorem dX8_order_66 : decode cX8_order 66 = .ok (.iload 7, 2) := by decide +kernel
theorem dX8_order_68 : decode cX8_order 68 = .ok (.iload 5, 2) := by decide +kernel
theorem dX8_order_70 : decode cX8_order 70 = .ok (.if_icmp .eq 33, 3) := by decide +kernel
theorem dX8_order_73 : decode cX8_order 73 = .ok (.iload_n 2, 1) := by decide +kernel
theorem dX8_order_74 : decode cX8_order 74 = .ok (.iload 7, 2) := by decide +kernel
theorem dX8_order_76 : decode cX8_order 76 = .ok (.ishr, 1) := by decide +kernel
theorem dX8_order_77 : decode cX8_order 77 = .ok (.iconst 1, 1) := by decide +kernel
theorem dX8_order_78 : decode cX8_order 78 = .ok (.iand, 1) := by decide +kernel
theorem dX8_order_79 : decode cX8_order 79 = .ok (.iconst 1, 1) := by decide +kernel
theorem dX8_order_80 : decode cX8_order 80 = .ok (.if_icmp .eq 23, 3) := by decide +kernel
theorem dX8_order_83 : decode cX8_order 83 = .ok (.aload_n 0, 1) := by decide +kernel
theorem dX8_order_84 : decode cX8_order 84 = .ok (.getfield 13, 3) := by decide +kernel
theorem dX8_order_87 : decode cX8_order 87 = .ok (.iload 7, 2) := by decide +kernel
theorem dX8_order_89 : decode cX8_order 89 = .ok (.iaload, 1) := by decide +kernel
theorem dX8_order_90 : decode cX8_order 90 = .ok (.aload_n 0, 1) := by decide +kernel
theorem dX8_order_91 : decode cX8_order 91 = .ok (.getfield 13, 3) := by decide +kernel
theorem dX8_order_94 : decode cX8_order 94 = .ok (.iload 5, 2) := by decide +kernel
theorem dX8_order_96 : decode cX8_order 96 = .ok (.iaload, 1) := by decide +kernel
theorem dX8_order_97 : decode cX8_order 97 = .ok (.iconst (-1), 1) := by decide +kernel
theorem dX8_order_98 : decode cX8_order 98 = .ok (.ixor, 1) := by decide +kernel
theorem dX8_order_99 : decode cX8_order 99 = .ok (.iand, 1) := by decide +kernel
theorem dX8_order_100 : decode cX8_order 100 = .ok (.ifCond .eq 7, 3) := by decide +kernel
theorem dX8_order_103 : decode cX8_order 103 = .ok (.iconst 1, 1) := by decide +kernel
theorem dX8_order_104 : decode cX8_order 104 = .ok (.goto 4, 3) := by decide +kernel
theorem dX8_order_107 : decode cX8_order 107 = .ok (.iconst 0, 1) := by decide +kernel
theorem dX8_order_108 : decode cX8_order 108 = .ok (.istore 6, 2) := by decide +kernel
theorem dX8_order_110 : decode cX8_order 110 = .ok (.iinc 7 1, 3) := by decide +kernel
theorem dX8_order_113 : decode cX8_order 113 = .ok (.goto (-59), 3) := by decide +kernel
theorem dX8_order_116 : decode cX8_order 116 = .ok (.iload 6, 2) := by decide +kernel
theorem dX8_order_118 : decode cX8_order 118 = .ok (.ifCond .eq 8, 3) := by decide +kernel
theorem dX8_order_121 : decode cX8_order 121 = .ok (.iload 5, 2) := by decide +kernel
theorem dX8_order_123 : decode cX8_order 123 = .ok (.goto 4, 3) := by decide +kernel
theorem dX8_order_126 : decode cX8_order 126 = .ok (.iload_n 3, 1) := by decide +kernel
theorem dX8_order_127 : decode cX8_order 127 = .ok (.istore_n 3, 1) := by decide +kernel
theorem dX8_order_128 : decode cX8_order 128 = .ok (.iinc 5 (-1), 3) := by decide +kernel
theorem dX8_order_131 : decode cX8_order 131 = .ok (.goto (-101), 3) := by decide +kernel
theorem dX8_order_134 : decode cX8_order 134 = .ok (.iload_n 2, 1) := by decide +kernel
theorem dX8_order_135 : decode cX8_order 135 = .ok (.iload_n 3, 1) := by decide +kernel
theorem dX8_order_136 : decode cX8_order 136 = .ok (.ifCond .ge 7, 3) := by decide +kernel
theorem dX8_order_139 : decode cX8_order 139 = .ok (.iconst 0, 1) := by decide +kernel
theorem dX8_order_140 : decode cX8_order 140 = .ok (.goto 6, 3) := by decide +kernel
theorem dX8_order_143 : decode cX8_order 143 = .ok (.iconst 1, 1) := by decide +kernel
theorem dX8_order_144 : decode cX8_order 144 = .ok (.iload_n 3, 1) := by decide +kernel
theorem dX8_order_145 : decode cX8_order 145 = .ok (.ishl, 1) := by decide +kernel
theorem dX8_order_146 : decode cX8_order 146 = .ok (.ior, 1) := by decide +kernel
theorem dX8_order_147 : decode cX8_order 147 = .ok (.istore_n 2, 1) := by decide +kernel
theorem dX8_order_148 : decode cX8_order 148 = .ok (.iinc 4 1, 3) := by decide +kernel
theorem dX8_order_151 : decode cX8_order 151 = .ok (.goto (-134), 3) := by decide +kernel
theorem dX8_order_154 : decode cX8_order 154 = .ok (.iconst 0, 1) := by decide +kernel
theorem dX8_order_155 : decode cX8_order 155 = .ok (.istore 4, 2) := by decide +kernel
theorem dX8_order_157 : decode cX8_order 157 = .ok (.iload 4, 2) := by decide +kernel
theorem dX8_order_159 : decode cX8_order 159 = .ok (.bipush 12, 2) := by decide +kernel
theorem dX8_order_161 : decode cX8_order 161 = .ok (.if_icmp .ge 49, 3) := by decide +kernel
theorem dX8_order_164 : decode cX8_order 164 = .ok (.iconst 0, 1) := by decide +kernel
theorem dX8_order_165 : decode cX8_order 165 = .ok (.istore 5, 2) := by decide +kernel
theorem dX8_order_167 : decode cX8_order 167 = .ok (.iload 5, 2) := by decide +kernel
theorem dX8_order_169 : decode cX8_order 169 = .ok (.iload 4, 2) := by decide +kernel
theorem dX8_order_171 : decode cX8_order 171 = .ok (.if_icmp .ge 33, 3) := by decide +kernel
theorem dX8_order_174 : decode cX8_order 174 = .ok (.aload_n 0, 1) := by decide +kernel
theorem dX8_order_175 : decode cX8_order 175 = .ok (.getfield 13, 3) := by decide +kernel
theorem dX8_order_178 : decode cX8_order 178 = .ok (.iload 4, 2) := by decide +kernel
theorem dX8_order_180 : decode cX8_order 180 = .ok (.iaload, 1) := by decide +kernel
theorem dX8_order_181 : decode cX8_order 181 = .ok (.aload_n 0, 1) := by decide +kernel
theorem dX8_order_182 : decode cX8_order 182 = .ok (.getfield 13, 3) := by decide +kernel
theorem dX8_order_185 : decode cX8_order 185 = .ok (.iload 5, 2) := by decide +kernel
theorem dX8_order_187 : decode cX8_order 187 = .ok (.iaload, 1) := by decide +kernel
theorem dX8_order_188 : decode cX8_order 188 = .ok (.if_icmp .ne 8, 3) := by decide +kernel
theorem dX8_order_191 : decode cX8_order 191 = .ok (.bipush (-4), 2) := by decide +kernel
theorem dX8_order_193 : decode cX8_order 193 = .ok (.goto 4, 3) := by decide +kernel
theorem dX8_order_196 : decode cX8_order 196 = .ok (.iload_n 3, 1) := by decide +kernel
theorem dX8_order_197 : decode cX8_order 197 = .ok (.istore_n 3, 1) := by decide +kernel
theorem dX8_order_198 : decode cX8_order 198 = .ok (.iinc 5 1, 3) := by decide +kernel
theorem dX8_order_201 : decode cX8_order 201 = .ok (.goto (-34), 3) := by decide +kernel
theorem dX8_order_204 : decode cX8_order 204 = .ok (.iinc 4 1, 3) := by decide +kernel
theorem dX8_order_207 : decode cX8_order 207 = .ok (.goto (-50), 3) := by decide +kernel
theorem dX8_order_210 : decode cX8_order 210 = .ok (.iload_n 3, 1) := by decide +kernel
theorem dX8_order_211 : decode cX8_order 211 = .ok (.ireturn, 1) := by decide +kernel
theorem dX8_size_0 : decode cX8_size 0 = .ok (.iconst 0, 1) := by decide +kernel
theorem dX8_size_1 : decode cX8_size 1 = .ok (.istore_n 1, 1) := by decide +kernel
theorem dX8_size_2 : decode cX8_size 2 = .ok (.iconst 0, 1) := by decide +kernel
theorem dX8_size_3 : decode cX8_size 3 = .ok (.istore_n 2, 1) := by decide +kernel
theorem dX8_size_4 : decode cX8_size 4 = .ok (.iload_n 2, 1) := by decide +kernel
theorem dX8_size_5 : decode cX8_size 5 = .ok (.bipush 7, 2) := by decide +kernel
theorem dX8_size_7 : decode cX8_size 7 = .ok (.if_icmp .ge 17, 3) := by decide +kernel
theorem dX8_size_10 : decode cX8_size 10 = .ok (.iload_n 1, 1) := by decide +kernel
theorem dX8_size_11 : decode cX8_size 11 = .ok (.iload_n 0, 1) := by decide +kernel
theorem dX8_size_12 : decode cX8_size 12 = .ok (.iload_n 2, 1) := by decide +kernel
theorem dX8_size_13 : decode cX8_size 13 = .ok (.ishr, 1) := by decide +kernel
theorem dX8_size_14 : decode cX8_size 14 = .ok (.iconst 1, 1) := by decide +kernel
theorem dX8_size_15 : decode cX8_size 15 = .ok (.iand, 1) := by decide +kernel
theorem dX8_size_16 : decode cX8_size 16 = .ok (.iadd, 1) := by decide +kernel
theorem dX8_size_17 : decode cX8_size 17 = .ok (.istore_n 1, 1) := by decide +kernel
theorem dX8_size_18 : decode cX8_size 18 = .ok (.iinc 2 1, 3) := by decide +kernel
theorem dX8_size_21 : decode cX8_size 21 = .ok (.goto (-17), 3) := by decide +kernel
theorem dX8_size_24 : decode cX8_size 24 = .ok (.iload_n 1, 1) := by decide +kernel
theorem dX8_size_25 : decode cX8_size 25 = .ok (.ireturn, 1) := by decide +kernel
theorem dX8_lost_0 : decode cX8_lost 0 = .ok (.iload_n 1, 1) := by decide +kernel
theorem dX8_lost_1 : decode cX8_lost 1 = .ok (.invokestatic 91, 3) := by decide +kernel
theorem dX8_lost_4 : decode cX8_lost 4 = .ok (.ifCond .eq 15, 3) := by decide +kernel
theorem dX8_lost_7 : decode cX8_lost 7 = .ok (.iload_n 2, 1) := by decide +kernel
theorem dX8_lost_8 : decode cX8_lost 8 = .ok (.i2l, 1) := by decide +kernel
theorem dX8_lost_9 : decode cX8_lost 9 = .ok (.lconst 0, 1) := by decide +kernel
theorem dX8_lost_10 : decode cX8_lost 10 = .ok (.ldc2_w 117, 3) := by decide +kernel
theorem dX8_lost_13 : decode cX8_lost 13 = .ok (.invokestatic 87, 3) := by decide +kernel
theorem dX8_lost_16 : decode cX8_lost 16 = .ok (.ifCond .ne 5, 3) := by decide +kernel
theorem dX8_lost_19 : decode cX8_lost 19 = .ok (.iconst (-1), 1) := by decide +kernel
theorem dX8_lost_20 : decode cX8_lost 20 = .ok (.ireturn, 1) := by decide +kernel
theorem dX8_lost_21 : decode cX8_lost 21 = .ok (.bipush (-4), 2) := by decide +kernel
theorem dX8_lost_23 : decode cX8_lost 23 = .ok (.istore_n 3, 1) := by decide +kernel
theorem dX8_lost_24 : decode cX8_lost 24 = .ok (.iconst 0, 1) := by decide +kernel
theorem dX8_lost_25 : decode cX8_lost 25 = .ok (.istore 4, 2) := by decide +kernel
theorem dX8_lost_27 : decode cX8_lost 27 = .ok (.iload 4, 2) := by decide +kernel
theorem dX8_lost_29 : decode cX8_lost 29 = .ok (.sipush 128, 3) := by decide +kernel
theorem dX8_lost_32 : decode cX8_lost 32 = .ok (.if_icmp .ge 77, 3) := by decide +kernel
theorem dX8_lost_35 : decode cX8_lost 35 = .ok (.iload 4, 2) := by decide +kernel
theorem dX8_lost_37 : decode cX8_lost 37 = .ok (.aload_n 0, 1) := by decide +kernel
theorem dX8_lost_38 : decode cX8_lost 38 = .ok (.getfield 13, 3) := by decide +kernel
theorem dX8_lost_41 : decode cX8_lost 41 = .ok (.iload_n 1, 1) := by decide +kernel
theorem dX8_lost_42 : decode cX8_lost 42 = .ok (.iaload, 1) := by decide +kernel
theorem dX8_lost_43 : decode cX8_lost 43 = .ok (.iconst (-1), 1) := by decide +kernel
theorem dX8_lost_44 : decode cX8_lost 44 = .ok (.ixor, 1) := by decide +kernel
theorem dX8_lost_45 : decode cX8_lost 45 = .ok (.iand, 1) := by decide +kernel
theorem dX8_lost_46 : decode cX8_lost 46 = .ok (.ifCond .ne 26, 3) := by decide +kernel
theorem dX8_lost_49 : decode cX8_lost 49 = .ok (.aload_n 0, 1) := by decide +kernel
theorem dX8_lost_50 : decode cX8_lost 50 = .ok (.aload_n 0, 1) := by decide +kernel
theorem dX8_lost_51 : decode cX8_lost 51 = .ok (.getfield 13, 3) := by decide +kernel
theorem dX8_lost_54 : decode cX8_lost 54 = .ok (.iload_n 1, 1) := by decide +kernel
theorem dX8_lost_55 : decode cX8_lost 55 = .ok (.iaload, 1) := by decide +kernel
theorem dX8_lost_56 : decode cX8_lost 56 = .ok (.iload 4, 2) := by decide +kernel
theorem dX8_lost_58 : decode cX8_lost 58 = .ok (.iconst (-1), 1) := by decide +kernel
theorem dX8_lost_59 : decode cX8_lost 59 = .ok (.ixor, 1) := by decide +kernel
theorem dX8_lost_60 : decode cX8_lost 60 = .ok (.iand, 1) := by decide +kernel
theorem dX8_lost_61 : decode cX8_lost 61 = .ok (.invokevirtual 113, 3) := by decide +kernel
theorem dX8_lost_64 : decode cX8_lost 64 = .ok (.iload_n 2, 1) := by decide +kernel
theorem dX8_lost_65 : decode cX8_lost 65 = .ok (.if_icmp .ne 7, 3) := by decide +kernel
theorem dX8_lost_68 : decode cX8_lost 68 = .ok (.iconst 1, 1) := by decide +kernel
theorem dX8_lost_69 : decode cX8_lost 69 = .ok (.goto 4, 3) := by decide +kernel
theorem dX8_lost_72 : decode cX8_lost 72 = .ok (.iconst 0, 1) := by decide +kernel
theorem dX8_lost_73 : decode cX8_lost 73 = .ok (.istore 5, 2) := by decide +kernel
theorem dX8_lost_75 : decode cX8_lost 75 = .ok (.iload 5, 2) := by decide +kernel
theorem dX8_lost_77 : decode cX8_lost 77 = .ok (.ifCond .eq 24, 3) := by decide +kernel
theorem dX8_lost_80 : decode cX8_lost 80 = .ok (.iload_n 3, 1) := by decide +kernel
theorem dX8_lost_81 : decode cX8_lost 81 = .ok (.ifCond .lt 15, 3) := by decide +kernel
theorem dX8_lost_84 : decode cX8_lost 84 = .ok (.iload 4, 2) := by decide +kernel
theorem dX8_lost_86 : decode cX8_lost 86 = .ok (.invokestatic 119, 3) := by decide +kernel
theorem dX8_lost_89 : decode cX8_lost 89 = .ok (.iload_n 3, 1) := by decide +kernel
theorem dX8_lost_90 : decode cX8_lost 90 = .ok (.invokestatic 119, 3) := by decide +kernel
theorem dX8_lost_93 : decode cX8_lost 93 = .ok (.if_icmp .ge 8, 3) := by decide +kernel
theorem dX8_lost_96 : decode cX8_lost 96 = .ok (.iload 4, 2) := by decide +kernel
theorem dX8_lost_98 : decode cX8_lost 98 = .ok (.goto 4, 3) := by decide +kernel
theorem dX8_lost_101 : decode cX8_lost 101 = .ok (.iload_n 3, 1) := by decide +kernel
theorem dX8_lost_102 : decode cX8_lost 102 = .ok (.istore_n 3, 1) := by decide +kernel
theorem dX8_lost_103 : decode cX8_lost 103 = .ok (.iinc 4 1, 3) := by decide +kernel
theorem dX8_lost_106 : decode cX8_lost 106 = .ok (.goto (-79), 3) := by decide +kernel
theorem dX8_lost_109 : decode cX8_lost 109 = .ok (.iload_n 3, 1) := by decide +kernel
theorem dX8_lost_110 : decode cX8_lost 110 = .ok (.ireturn, 1) := by decide +kernel
theorem dX8_isMould_0 : decode cX8_isMould 0 = .ok (.iload_n 1, 1) := by decide +kernel
theorem dX8_isMould_1 : decode cX8_isMould 1 = .ok (.i2l, 1) := by decide +kernel
theorem dX8_isMould_2 : decode cX8_isMould 2 = .ok (.lconst 0, 1) := by decide +kernel
theorem dX8_isMould_3 : decode cX8_isMould 3 = .ok (.aload_n 0, 1) := by decide +kernel
theorem dX8_isMould_4 : decode cX8_isMould 4 = .ok (.getfield 122, 3) := by decide +kernel
theorem dX8_isMould_7 : decode cX8_isMould 7 = .ok (.iconst 1, 1) := by decide +kernel
theorem dX8_isMould_8 : decode cX8_isMould 8 = .ok (.isub, 1) := by decide +kernel
theorem dX8_isMould_9 : decode cX8_isMould 9 = .ok (.i2l, 1) := by decide +kernel
theorem dX8_isMould_10 : decode cX8_isMould 10 = .ok (.invokestatic 87, 3) := by decide +kernel
theorem dX8_isMould_13 : decode cX8_isMould 13 = .ok (.ireturn, 1) := by decide +kernel
theorem dX8_lies_0 : decode cX8_lies 0 = .ok (.iload_n 2, 1) := by decide +kernel
theorem dX8_lies_1 : decode cX8_lies 1 = .ok (.bipush 12, 2) := by decide +kernel
theorem dX8_lies_3 : decode cX8_lies 3 = .ok (.if_icmp .ge 18, 3) := by decide +kernel
theorem dX8_lies_6 : decode cX8_lies 6 = .ok (.aload_n 0, 1) := by decide +kernel
theorem dX8_lies_7 : decode cX8_lies 7 = .ok (.getfield 34, 3) := by decide +kernel
theorem dX8_lies_10 : decode cX8_lies 10 = .ok (.iload_n 2, 1) := by decide +kernel
theorem dX8_lies_11 : decode cX8_lies 11 = .ok (.iaload, 1) := by decide +kernel
theorem dX8_lies_12 : decode cX8_lies 12 = .ok (.bipush 8, 2) := by decide +kernel
theorem dX8_lies_14 : decode cX8_lies 14 = .ok (.if_icmp .ge 7, 3) := by decide +kernel
theorem dX8_lies_17 : decode cX8_lies 17 = .ok (.iconst 1, 1) := by decide +kernel
theorem dX8_lies_18 : decode cX8_lies 18 = .ok (.goto 4, 3) := by decide +kernel
theorem dX8_lies_21 : decode cX8_lies 21 = .ok (.iconst 0, 1) := by decide +kernel
theorem dX8_lies_22 : decode cX8_lies 22 = .ok (.istore_n 3, 1) := by decide +kernel
theorem dX8_lies_23 : decode cX8_lies 23 = .ok (.aload_n 0, 1) := by decide +kernel
theorem dX8_lies_24 : decode cX8_lies 24 = .ok (.getfield 31, 3) := by decide +kernel
theorem dX8_lies_27 : decode cX8_lies 27 = .ok (.iload_n 1, 1) := by decide +kernel
theorem dX8_lies_28 : decode cX8_lies 28 = .ok (.iload_n 3, 1) := by decide +kernel
theorem dX8_lies_29 : decode cX8_lies 29 = .ok (.ifCond .eq 7, 3) := by decide +kernel
theorem dX8_lies_32 : decode cX8_lies 32 = .ok (.iload_n 2, 1) := by decide +kernel
theorem dX8_lies_33 : decode cX8_lies 33 = .ok (.goto 5, 3) := by decide +kernel
theorem dX8_lies_36 : decode cX8_lies 36 = .ok (.bipush 12, 2) := by decide +kernel
theorem dX8_lies_38 : decode cX8_lies 38 = .ok (.iastore, 1) := by decide +kernel
theorem dX8_lies_39 : decode cX8_lies 39 = .ok (.iload_n 3, 1) := by decide +kernel
theorem dX8_lies_40 : decode cX8_lies 40 = .ok (.ifCond .eq 30, 3) := by decide +kernel
theorem dX8_lies_43 : decode cX8_lies 43 = .ok (.aload_n 0, 1) := by decide +kernel
theorem dX8_lies_44 : decode cX8_lies 44 = .ok (.getfield 37, 3) := by decide +kernel
theorem dX8_lies_47 : decode cX8_lies 47 = .ok (.bipush 8, 2) := by decide +kernel
theorem dX8_lies_49 : decode cX8_lies 49 = .ok (.iload_n 2, 1) := by decide +kernel
theorem dX8_lies_50 : decode cX8_lies 50 = .ok (.imul, 1) := by decide +kernel
theorem dX8_lies_51 : decode cX8_lies 51 = .ok (.aload_n 0, 1) := by decide +kernel
theorem dX8_lies_52 : decode cX8_lies 52 = .ok (.getfield 34, 3) := by decide +kernel
theorem dX8_lies_55 : decode cX8_lies 55 = .ok (.iload_n 2, 1) := by decide +kernel
theorem dX8_lies_56 : decode cX8_lies 56 = .ok (.iaload, 1) := by decide +kernel
theorem dX8_lies_57 : decode cX8_lies 57 = .ok (.iadd, 1) := by decide +kernel
theorem dX8_lies_58 : decode cX8_lies 58 = .ok (.iload_n 1, 1) := by decide +kernel
theorem dX8_lies_59 : decode cX8_lies 59 = .ok (.iastore, 1) := by decide +kernel
theorem dX8_lies_60 : decode cX8_lies 60 = .ok (.aload_n 0, 1) := by decide +kernel
theorem dX8_lies_61 : decode cX8_lies 61 = .ok (.getfield 34, 3) := by decide +kernel
theorem dX8_lies_64 : decode cX8_lies 64 = .ok (.iload_n 2, 1) := by decide +kernel
theorem dX8_lies_65 : decode cX8_lies 65 = .ok (.dup2, 1) := by decide +kernel
theorem dX8_lies_66 : decode cX8_lies 66 = .ok (.iaload, 1) := by decide +kernel
theorem dX8_lies_67 : decode cX8_lies 67 = .ok (.iconst 1, 1) := by decide +kernel
theorem dX8_lies_68 : decode cX8_lies 68 = .ok (.iadd, 1) := by decide +kernel
theorem dX8_lies_69 : decode cX8_lies 69 = .ok (.iastore, 1) := by decide +kernel
theorem dX8_lies_70 : decode cX8_lies 70 = .ok (.iload_n 3, 1) := by decide +kernel
theorem dX8_lies_71 : decode cX8_lies 71 = .ok (.ireturn, 1) := by decide +kernel
theorem dX8_mould_0 : decode cX8_mould 0 = .ok (.iload_n 1, 1) := by decide +kernel
theorem dX8_mould_1 : decode cX8_mould 1 = .ok (.invokestatic 91, 3) := by decide +kernel
theorem dX8_mould_4 : decode cX8_mould 4 = .ok (.ifCond .eq 28, 3) := by decide +kernel
theorem dX8_mould_7 : decode cX8_mould 7 = .ok (.iload_n 2, 1) := by decide +kernel
theorem dX8_mould_8 : decode cX8_mould 8 = .ok (.i2l, 1) := by decide +kernel
theorem dX8_mould_9 : decode cX8_mould 9 = .ok (.lconst 0, 1) := by decide +kernel
theorem dX8_mould_10 : decode cX8_mould 10 = .ok (.ldc2_w 97, 3) := by decide +kernel
theorem dX8_mould_13 : decode cX8_mould 13 = .ok (.invokestatic 87, 3) := by decide +kernel
theorem dX8_mould_16 : decode cX8_mould 16 = .ok (.ifCond .eq 16, 3) := by decide +kernel
theorem dX8_mould_19 : decode cX8_mould 19 = .ok (.iload_n 2, 1) := by decide +kernel
theorem dX8_mould_20 : decode cX8_mould 20 = .ok (.aload_n 0, 1) := by decide +kernel
theorem dX8_mould_21 : decode cX8_mould 21 = .ok (.getfield 13, 3) := by decide +kernel
theorem dX8_mould_24 : decode cX8_mould 24 = .ok (.iload_n 1, 1) := by decide +kernel
theorem dX8_mould_25 : decode cX8_mould 25 = .ok (.iaload, 1) := by decide +kernel
theorem dX8_mould_26 : decode cX8_mould 26 = .ok (.iconst (-1), 1) := by decide +kernel
theorem dX8_mould_27 : decode cX8_mould 27 = .ok (.ixor, 1) := by decide +kernel
theorem dX8_mould_28 : decode cX8_mould 28 = .ok (.iand, 1) := by decide +kernel
theorem dX8_mould_29 : decode cX8_mould 29 = .ok (.ifCond .eq 5, 3) := by decide +kernel
theorem dX8_mould_32 : decode cX8_mould 32 = .ok (.iconst (-1), 1) := by decide +kernel
theorem dX8_mould_33 : decode cX8_mould 33 = .ok (.ireturn, 1) := by decide +kernel
theorem dX8_mould_34 : decode cX8_mould 34 = .ok (.aload_n 0, 1) := by decide +kernel
theorem dX8_mould_35 : decode cX8_mould 35 = .ok (.getfield 122, 3) := by decide +kernel
theorem dX8_mould_38 : decode cX8_mould 38 = .ok (.bipush 60, 2) := by decide +kernel
theorem dX8_mould_40 : decode cX8_mould 40 = .ok (.if_icmp .ne 6, 3) := by decide +kernel
theorem dX8_mould_43 : decode cX8_mould 43 = .ok (.bipush (-3), 2) := by decide +kernel
theorem dX8_mould_45 : decode cX8_mould 45 = .ok (.ireturn, 1) := by decide +kernel
theorem dX8_mould_46 : decode cX8_mould 46 = .ok (.aload_n 0, 1) := by decide +kernel
theorem dX8_mould_47 : decode cX8_mould 47 = .ok (.getfield 25, 3) := by decide +kernel
theorem dX8_mould_50 : decode cX8_mould 50 = .ok (.aload_n 0, 1) := by decide +kernel
theorem dX8_mould_51 : decode cX8_mould 51 = .ok (.getfield 122, 3) := by decide +kernel
theorem dX8_mould_54 : decode cX8_mould 54 = .ok (.iload_n 1, 1) := by decide +kernel
theorem dX8_mould_55 : decode cX8_mould 55 = .ok (.iastore, 1) := by decide +kernel
theorem dX8_mould_56 : decode cX8_mould 56 = .ok (.aload_n 0, 1) := by decide +kernel
theorem dX8_mould_57 : decode cX8_mould 57 = .ok (.getfield 28, 3) := by decide +kernel
theorem dX8_mould_60 : decode cX8_mould 60 = .ok (.aload_n 0, 1) := by decide +kernel
theorem dX8_mould_61 : decode cX8_mould 61 = .ok (.getfield 122, 3) := by decide +kernel
theorem dX8_mould_64 : decode cX8_mould 64 = .ok (.aload_n 0, 1) := by decide +kernel
theorem dX8_mould_65 : decode cX8_mould 65 = .ok (.getfield 13, 3) := by decide +kernel
theorem dX8_mould_68 : decode cX8_mould 68 = .ok (.iload_n 1, 1) := by decide +kernel
theorem dX8_mould_69 : decode cX8_mould 69 = .ok (.iaload, 1) := by decide +kernel
theorem dX8_mould_70 : decode cX8_mould 70 = .ok (.iload_n 2, 1) := by decide +kernel
theorem dX8_mould_71 : decode cX8_mould 71 = .ok (.iconst (-1), 1) := by decide +kernel
theorem dX8_mould_72 : decode cX8_mould 72 = .ok (.ixor, 1) := by decide +kernel
theorem dX8_mould_73 : decode cX8_mould 73 = .ok (.iand, 1) := by decide +kernel
theorem dX8_mould_74 : decode cX8_mould 74 = .ok (.iastore, 1) := by decide +kernel
theorem dX8_mould_75 : decode cX8_mould 75 = .ok (.aload_n 0, 1) := by decide +kernel
theorem dX8_mould_76 : decode cX8_mould 76 = .ok (.aload_n 0, 1) := by decide +kernel
theorem dX8_mould_77 : decode cX8_mould 77 = .ok (.getfield 122, 3) := by decide +kernel
theorem dX8_mould_80 : decode cX8_mould 80 = .ok (.iload_n 1, 1) := by decide +kernel
theorem dX8_mould_81 : decode cX8_mould 81 = .ok (.invokevirtual 126, 3) := by decide +kernel
theorem dX8_mould_84 : decode cX8_mould 84 = .ok (.istore_n 3, 1) := by decide +kernel
theorem dX8_mould_85 : decode cX8_mould 85 = .ok (.aload_n 0, 1) := by decide +kernel
theorem dX8_mould_86 : decode cX8_mould 86 = .ok (.dup, 1) := by decide +kernel
theorem dX8_mould_87 : decode cX8_mould 87 = .ok (.getfield 122, 3) := by decide +kernel
theorem dX8_mould_90 : decode cX8_mould 90 = .ok (.iconst 1, 1) := by decide +kernel
theorem dX8_mould_91 : decode cX8_mould 91 = .ok (.iadd, 1) := by decide +kernel
theorem dX8_mould_92 : decode cX8_mould 92 = .ok (.putfield 122, 3) := by decide +kernel
theorem dX8_mould_95 : decode cX8_mould 95 = .ok (.iload_n 3, 1) := by decide +kernel
theorem dX8_mould_96 : decode cX8_mould 96 = .ok (.ifCond .ne 10, 3) := by decide +kernel
theorem dX8_mould_99 : decode cX8_mould 99 = .ok (.aload_n 0, 1) := by decide +kernel
theorem dX8_mould_100 : decode cX8_mould 100 = .ok (.getfield 122, 3) := by decide +kernel
theorem dX8_mould_103 : decode cX8_mould 103 = .ok (.ifCond .le 12, 3) := by decide +kernel
theorem dX8_mould_106 : decode cX8_mould 106 = .ok (.aload_n 0, 1) := by decide +kernel
theorem dX8_mould_107 : decode cX8_mould 107 = .ok (.getfield 122, 3) := by decide +kernel
theorem dX8_mould_110 : decode cX8_mould 110 = .ok (.iconst 1, 1) := by decide +kernel
theorem dX8_mould_111 : decode cX8_mould 111 = .ok (.isub, 1) := by decide +kernel
theorem dX8_mould_112 : decode cX8_mould 112 = .ok (.goto 5, 3) := by decide +kernel
theorem dX8_mould_115 : decode cX8_mould 115 = .ok (.bipush (-4), 2) := by decide +kernel
theorem dX8_mould_117 : decode cX8_mould 117 = .ok (.ireturn, 1) := by decide +kernel
theorem dX8_told_0 : decode cX8_told 0 = .ok (.aload_n 0, 1) := by decide +kernel
theorem dX8_told_1 : decode cX8_told 1 = .ok (.iload_n 1, 1) := by decide +kernel
theorem dX8_told_2 : decode cX8_told 2 = .ok (.invokevirtual 130, 3) := by decide +kernel
theorem dX8_told_5 : decode cX8_told 5 = .ok (.ifCond .eq 15, 3) := by decide +kernel
theorem dX8_told_8 : decode cX8_told 8 = .ok (.iload_n 2, 1) := by decide +kernel
theorem dX8_told_9 : decode cX8_told 9 = .ok (.i2l, 1) := by decide +kernel
theorem dX8_told_10 : decode cX8_told 10 = .ok (.lconst 0, 1) := by decide +kernel
theorem dX8_told_11 : decode cX8_told 11 = .ok (.ldc2_w 133, 3) := by decide +kernel
theorem dX8_told_14 : decode cX8_told 14 = .ok (.invokestatic 87, 3) := by decide +kernel
theorem dX8_told_17 : decode cX8_told 17 = .ok (.ifCond .ne 5, 3) := by decide +kernel
theorem dX8_told_20 : decode cX8_told 20 = .ok (.iconst (-1), 1) := by decide +kernel
theorem dX8_told_21 : decode cX8_told 21 = .ok (.ireturn, 1) := by decide +kernel
theorem dX8_told_22 : decode cX8_told 22 = .ok (.iload_n 2, 1) := by decide +kernel
theorem dX8_told_23 : decode cX8_told 23 = .ok (.ifCond .ne 12, 3) := by decide +kernel
theorem dX8_told_26 : decode cX8_told 26 = .ok (.aload_n 0, 1) := by decide +kernel
theorem dX8_told_27 : decode cX8_told 27 = .ok (.getfield 25, 3) := by decide +kernel
theorem dX8_told_30 : decode cX8_told 30 = .ok (.iload_n 1, 1) := by decide +kernel
theorem dX8_told_31 : decode cX8_told 31 = .ok (.iaload, 1) := by decide +kernel
theorem dX8_told_32 : decode cX8_told 32 = .ok (.goto 23, 3) := by decide +kernel
theorem dX8_told_35 : decode cX8_told 35 = .ok (.iload_n 2, 1) := by decide +kernel
theorem dX8_told_36 : decode cX8_told 36 = .ok (.iconst 1, 1) := by decide +kernel
theorem dX8_told_37 : decode cX8_told 37 = .ok (.if_icmp .ne 12, 3) := by decide +kernel
theorem dX8_told_40 : decode cX8_told 40 = .ok (.aload_n 0, 1) := by decide +kernel
theorem dX8_told_41 : decode cX8_told 41 = .ok (.getfield 28, 3) := by decide +kernel
theorem dX8_told_44 : decode cX8_told 44 = .ok (.iload_n 1, 1) := by decide +kernel
theorem dX8_told_45 : decode cX8_told 45 = .ok (.iaload, 1) := by decide +kernel
theorem dX8_told_46 : decode cX8_told 46 = .ok (.goto 9, 3) := by decide +kernel
theorem dX8_told_49 : decode cX8_told 49 = .ok (.aload_n 0, 1) := by decide +kernel
theorem dX8_told_50 : decode cX8_told 50 = .ok (.getfield 31, 3) := by decide +kernel
theorem dX8_told_53 : decode cX8_told 53 = .ok (.iload_n 1, 1) := by decide +kernel
theorem dX8_told_54 : decode cX8_told 54 = .ok (.iaload, 1) := by decide +kernel
theorem dX8_told_55 : decode cX8_told 55 = .ok (.ireturn, 1) := by decide +kernel
theorem dX8_wear_0 : decode cX8_wear 0 = .ok (.aload_n 0, 1) := by decide +kernel
theorem dX8_wear_1 : decode cX8_wear 1 = .ok (.iload_n 1, 1) := by decide +kernel
theorem dX8_wear_2 : decode cX8_wear 2 = .ok (.invokevirtual 130, 3) := by decide +kernel
theorem dX8_wear_5 : decode cX8_wear 5 = .ok (.ifCond .eq 28, 3) := by decide +kernel
theorem dX8_wear_8 : decode cX8_wear 8 = .ok (.iload_n 2, 1) := by decide +kernel
theorem dX8_wear_9 : decode cX8_wear 9 = .ok (.i2l, 1) := by decide +kernel
theorem dX8_wear_10 : decode cX8_wear 10 = .ok (.lconst 0, 1) := by decide +kernel
theorem dX8_wear_11 : decode cX8_wear 11 = .ok (.ldc2_w 97, 3) := by decide +kernel
theorem dX8_wear_14 : decode cX8_wear 14 = .ok (.invokestatic 87, 3) := by decide +kernel
theorem dX8_wear_17 : decode cX8_wear 17 = .ok (.ifCond .eq 16, 3) := by decide +kernel
theorem dX8_wear_20 : decode cX8_wear 20 = .ok (.iload_n 2, 1) := by decide +kernel
theorem dX8_wear_21 : decode cX8_wear 21 = .ok (.aload_n 0, 1) := by decide +kernel
theorem dX8_wear_22 : decode cX8_wear 22 = .ok (.getfield 28, 3) := by decide +kernel
theorem dX8_wear_25 : decode cX8_wear 25 = .ok (.iload_n 1, 1) := by decide +kernel
theorem dX8_wear_26 : decode cX8_wear 26 = .ok (.iaload, 1) := by decide +kernel
theorem dX8_wear_27 : decode cX8_wear 27 = .ok (.iconst (-1), 1) := by decide +kernel
theorem dX8_wear_28 : decode cX8_wear 28 = .ok (.ixor, 1) := by decide +kernel
theorem dX8_wear_29 : decode cX8_wear 29 = .ok (.iand, 1) := by decide +kernel
theorem dX8_wear_30 : decode cX8_wear 30 = .ok (.ifCond .eq 5, 3) := by decide +kernel
theorem dX8_wear_33 : decode cX8_wear 33 = .ok (.iconst (-1), 1) := by decide +kernel
theorem dX8_wear_34 : decode cX8_wear 34 = .ok (.ireturn, 1) := by decide +kernel
theorem dX8_wear_35 : decode cX8_wear 35 = .ok (.aload_n 0, 1) := by decide +kernel
theorem dX8_wear_36 : decode cX8_wear 36 = .ok (.getfield 28, 3) := by decide +kernel
theorem dX8_wear_39 : decode cX8_wear 39 = .ok (.iload_n 1, 1) := by decide +kernel
theorem dX8_wear_40 : decode cX8_wear 40 = .ok (.dup2, 1) := by decide +kernel
theorem dX8_wear_41 : decode cX8_wear 41 = .ok (.iaload, 1) := by decide +kernel
theorem dX8_wear_42 : decode cX8_wear 42 = .ok (.iload_n 2, 1) := by decide +kernel
theorem dX8_wear_43 : decode cX8_wear 43 = .ok (.iconst (-1), 1) := by decide +kernel
theorem dX8_wear_44 : decode cX8_wear 44 = .ok (.ixor, 1) := by decide +kernel
theorem dX8_wear_45 : decode cX8_wear 45 = .ok (.iand, 1) := by decide +kernel
theorem dX8_wear_46 : decode cX8_wear 46 = .ok (.iastore, 1) := by decide +kernel
theorem dX8_wear_47 : decode cX8_wear 47 = .ok (.aload_n 0, 1) := by decide +kernel
theorem dX8_wear_48 : decode cX8_wear 48 = .ok (.getfield 28, 3) := by decide +kernel
theorem dX8_wear_51 : decode cX8_wear 51 = .ok (.iload_n 1, 1) := by decide +kernel
theorem dX8_wear_52 : decode cX8_wear 52 = .ok (.iaload, 1) := by decide +kernel
theorem dX8_wear_53 : decode cX8_wear 53 = .ok (.ireturn, 1) := by decide +kernel
theorem dX8_home_0 : decode cX8_home 0 = .ok (.aload_n 0, 1) := by decide +kernel
theorem dX8_home_1 : decode cX8_home 1 = .ok (.iload_n 1, 1) := by decide +kernel
theorem dX8_home_2 : decode cX8_home 2 = .ok (.invokevirtual 130, 3) := by decide +kernel
theorem dX8_home_5 : decode cX8_home 5 = .ok (.ifCond .ne 5, 3) := by decide +kernel
theorem dX8_home_8 : decode cX8_home 8 = .ok (.iconst (-1), 1) := by decide +kernel
theorem dX8_home_9 : decode cX8_home 9 = .ok (.ireturn, 1) := by decide +kernel
theorem dX8_home_10 : decode cX8_home 10 = .ok (.aload_n 0, 1) := by decide +kernel
theorem dX8_home_11 : decode cX8_home 11 = .ok (.getfield 31, 3) := by decide +kernel
theorem dX8_home_14 : decode cX8_home 14 = .ok (.iload_n 1, 1) := by decide +kernel
theorem dX8_home_15 : decode cX8_home 15 = .ok (.iaload, 1) := by decide +kernel
theorem dX8_home_16 : decode cX8_home 16 = .ok (.bipush 12, 2) := by decide +kernel
theorem dX8_home_18 : decode cX8_home 18 = .ok (.if_icmp .eq 6, 3) := by decide +kernel
theorem dX8_home_21 : decode cX8_home 21 = .ok (.bipush (-2), 2) := by decide +kernel
theorem dX8_home_23 : decode cX8_home 23 = .ok (.ireturn, 1) := by decide +kernel
theorem dX8_home_24 : decode cX8_home 24 = .ok (.aload_n 0, 1) := by decide +kernel
theorem dX8_home_25 : decode cX8_home 25 = .ok (.getfield 25, 3) := by decide +kernel
theorem dX8_home_28 : decode cX8_home 28 = .ok (.iload_n 1, 1) := by decide +kernel
theorem dX8_home_29 : decode cX8_home 29 = .ok (.iaload, 1) := by decide +kernel
theorem dX8_home_30 : decode cX8_home 30 = .ok (.istore_n 2, 1) := by decide +kernel
theorem dX8_home_31 : decode cX8_home 31 = .ok (.aload_n 0, 1) := by decide +kernel
theorem dX8_home_32 : decode cX8_home 32 = .ok (.iload_n 1, 1) := by decide +kernel
theorem dX8_home_33 : decode cX8_home 33 = .ok (.iload_n 2, 1) := by decide +kernel
theorem dX8_home_34 : decode cX8_home 34 = .ok (.invokevirtual 126, 3) := by decide +kernel
theorem dX8_home_37 : decode cX8_home 37 = .ok (.ifCond .eq 12, 3) := by decide +kernel
theorem dX8_home_40 : decode cX8_home 40 = .ok (.aload_n 0, 1) := by decide +kernel
theorem dX8_home_41 : decode cX8_home 41 = .ok (.getfield 34, 3) := by decide +kernel
theorem dX8_home_44 : decode cX8_home 44 = .ok (.iload_n 2, 1) := by decide +kernel
theorem dX8_home_45 : decode cX8_home 45 = .ok (.iaload, 1) := by decide +kernel
theorem dX8_home_46 : decode cX8_home 46 = .ok (.goto 5, 3) := by decide +kernel
theorem dX8_home_49 : decode cX8_home 49 = .ok (.bipush (-3), 2) := by decide +kernel
theorem dX8_home_51 : decode cX8_home 51 = .ok (.ireturn, 1) := by decide +kernel
theorem dX8_channel_0 : decode cX8_channel 0 = .ok (.iload_n 1, 1) := by decide +kernel
theorem dX8_channel_1 : decode cX8_channel 1 = .ok (.invokestatic 91, 3) := by decide +kernel
theorem dX8_channel_4 : decode cX8_channel 4 = .ok (.ifCond .eq 8, 3) := by decide +kernel
theorem dX8_channel_7 : decode cX8_channel 7 = .ok (.iload_n 2, 1) := by decide +kernel
theorem dX8_channel_8 : decode cX8_channel 8 = .ok (.iconst (-1), 1) := by decide +kernel
theorem dX8_channel_9 : decode cX8_channel 9 = .ok (.if_icmp .ge 5, 3) := by decide +kernel
theorem dX8_channel_12 : decode cX8_channel 12 = .ok (.iconst (-1), 1) := by decide +kernel
theorem dX8_channel_13 : decode cX8_channel 13 = .ok (.ireturn, 1) := by decide +kernel
theorem dX8_channel_14 : decode cX8_channel 14 = .ok (.iload_n 2, 1) := by decide +kernel
theorem dX8_channel_15 : decode cX8_channel 15 = .ok (.ifCond .ge 12, 3) := by decide +kernel
theorem dX8_channel_18 : decode cX8_channel 18 = .ok (.aload_n 0, 1) := by decide +kernel
theorem dX8_channel_19 : decode cX8_channel 19 = .ok (.getfield 34, 3) := by decide +kernel
theorem dX8_channel_22 : decode cX8_channel 22 = .ok (.iload_n 1, 1) := by decide +kernel
theorem dX8_channel_23 : decode cX8_channel 23 = .ok (.iaload, 1) := by decide +kernel
theorem dX8_channel_24 : decode cX8_channel 24 = .ok (.goto 29, 3) := by decide +kernel
theorem dX8_channel_27 : decode cX8_channel 27 = .ok (.iload_n 2, 1) := by decide +kernel
theorem dX8_channel_28 : decode cX8_channel 28 = .ok (.aload_n 0, 1) := by decide +kernel
theorem dX8_channel_29 : decode cX8_channel 29 = .ok (.getfield 34, 3) := by decide +kernel
theorem dX8_channel_32 : decode cX8_channel 32 = .ok (.iload_n 1, 1) := by decide +kernel
theorem dX8_channel_33 : decode cX8_channel 33 = .ok (.iaload, 1) := by decide +kernel
theorem dX8_channel_34 : decode cX8_channel 34 = .ok (.if_icmp .ge 17, 3) := by decide +kernel
theorem dX8_channel_37 : decode cX8_channel 37 = .ok (.aload_n 0, 1) := by decide +kernel
theorem dX8_channel_38 : decode cX8_channel 38 = .ok (.getfield 37, 3) := by decide +kernel
theorem dX8_channel_41 : decode cX8_channel 41 = .ok (.bipush 8, 2) := by decide +kernel
theorem dX8_channel_43 : decode cX8_channel 43 = .ok (.iload_n 1, 1) := by decide +kernel
theorem dX8_channel_44 : decode cX8_channel 44 = .ok (.imul, 1) := by decide +kernel
theorem dX8_channel_45 : decode cX8_channel 45 = .ok (.iload_n 2, 1) := by decide +kernel
theorem dX8_channel_46 : decode cX8_channel 46 = .ok (.iadd, 1) := by decide +kernel
theorem dX8_channel_47 : decode cX8_channel 47 = .ok (.iaload, 1) := by decide +kernel
theorem dX8_channel_48 : decode cX8_channel 48 = .ok (.goto 5, 3) := by decide +kernel
theorem dX8_channel_51 : decode cX8_channel 51 = .ok (.bipush (-4), 2) := by decide +kernel
theorem dX8_channel_53 : decode cX8_channel 53 = .ok (.ireturn, 1) := by decide +kernel
theorem dX8_lets_0 : decode cX8_lets 0 = .ok (.aload_n 0, 1) := by decide +kernel
theorem dX8_lets_1 : decode cX8_lets 1 = .ok (.getfield 43, 3) := by decide +kernel
theorem dX8_lets_4 : decode cX8_lets 4 = .ok (.aload_n 0, 1) := by decide +kernel
theorem dX8_lets_5 : decode cX8_lets 5 = .ok (.getfield 135, 3) := by decide +kernel
theorem dX8_lets_8 : decode cX8_lets 8 = .ok (.iload_n 1, 1) := by decide +kernel
theorem dX8_lets_9 : decode cX8_lets 9 = .ok (.iastore, 1) := by decide +kernel
theorem dX8_lets_10 : decode cX8_lets 10 = .ok (.aload_n 0, 1) := by decide +kernel
theorem dX8_lets_11 : decode cX8_lets 11 = .ok (.getfield 46, 3) := by decide +kernel
theorem dX8_lets_14 : decode cX8_lets 14 = .ok (.aload_n 0, 1) := by decide +kernel
theorem dX8_lets_15 : decode cX8_lets 15 = .ok (.getfield 135, 3) := by decide +kernel
theorem dX8_lets_18 : decode cX8_lets 18 = .ok (.aload_n 0, 1) := by decide +kernel
theorem dX8_lets_19 : decode cX8_lets 19 = .ok (.getfield 138, 3) := by decide +kernel
theorem dX8_lets_22 : decode cX8_lets 22 = .ok (.iconst 2, 1) := by decide +kernel
theorem dX8_lets_23 : decode cX8_lets 23 = .ok (.iadd, 1) := by decide +kernel
theorem dX8_lets_24 : decode cX8_lets 24 = .ok (.iload_n 2, 1) := by decide +kernel
theorem dX8_lets_25 : decode cX8_lets 25 = .ok (.iadd, 1) := by decide +kernel
theorem dX8_lets_26 : decode cX8_lets 26 = .ok (.iastore, 1) := by decide +kernel
theorem dX8_lets_27 : decode cX8_lets 27 = .ok (.aload_n 0, 1) := by decide +kernel
theorem dX8_lets_28 : decode cX8_lets 28 = .ok (.dup, 1) := by decide +kernel
theorem dX8_lets_29 : decode cX8_lets 29 = .ok (.getfield 135, 3) := by decide +kernel
theorem dX8_lets_32 : decode cX8_lets 32 = .ok (.iconst 1, 1) := by decide +kernel
theorem dX8_lets_33 : decode cX8_lets 33 = .ok (.iadd, 1) := by decide +kernel
theorem dX8_lets_34 : decode cX8_lets 34 = .ok (.putfield 135, 3) := by decide +kernel
theorem dX8_lets_37 : decode cX8_lets 37 = .ok (.aload_n 0, 1) := by decide +kernel
theorem dX8_lets_38 : decode cX8_lets 38 = .ok (.getfield 138, 3) := by decide +kernel
theorem dX8_lets_41 : decode cX8_lets 41 = .ok (.iconst 2, 1) := by decide +kernel
theorem dX8_lets_42 : decode cX8_lets 42 = .ok (.iadd, 1) := by decide +kernel
theorem dX8_lets_43 : decode cX8_lets 43 = .ok (.iload_n 2, 1) := by decide +kernel
theorem dX8_lets_44 : decode cX8_lets 44 = .ok (.iadd, 1) := by decide +kernel
theorem dX8_lets_45 : decode cX8_lets 45 = .ok (.ireturn, 1) := by decide +kernel
theorem dX8_key_0 : decode cX8_key 0 = .ok (.iload_n 1, 1) := by decide +kernel
theorem dX8_key_1 : decode cX8_key 1 = .ok (.invokestatic 91, 3) := by decide +kernel
theorem dX8_key_4 : decode cX8_key 4 = .ok (.ifCond .ne 5, 3) := by decide +kernel
theorem dX8_key_7 : decode cX8_key 7 = .ok (.iconst (-1), 1) := by decide +kernel
theorem dX8_key_8 : decode cX8_key 8 = .ok (.ireturn, 1) := by decide +kernel
theorem dX8_key_9 : decode cX8_key 9 = .ok (.aload_n 0, 1) := by decide +kernel
theorem dX8_key_10 : decode cX8_key 10 = .ok (.getfield 34, 3) := by decide +kernel
theorem dX8_key_13 : decode cX8_key 13 = .ok (.iload_n 1, 1) := by decide +kernel
theorem dX8_key_14 : decode cX8_key 14 = .ok (.iaload, 1) := by decide +kernel
theorem dX8_key_15 : decode cX8_key 15 = .ok (.ifCond .ne 6, 3) := by decide +kernel
theorem dX8_key_18 : decode cX8_key 18 = .ok (.bipush (-4), 2) := by decide +kernel
theorem dX8_key_20 : decode cX8_key 20 = .ok (.ireturn, 1) := by decide +kernel
theorem dX8_key_21 : decode cX8_key 21 = .ok (.aload_n 0, 1) := by decide +kernel
theorem dX8_key_22 : decode cX8_key 22 = .ok (.getfield 141, 3) := by decide +kernel
theorem dX8_key_25 : decode cX8_key 25 = .ok (.aload_n 0, 1) := by decide +kernel
theorem dX8_key_26 : decode cX8_key 26 = .ok (.getfield 135, 3) := by decide +kernel
theorem dX8_key_29 : decode cX8_key 29 = .ok (.iadd, 1) := by decide +kernel
theorem dX8_key_30 : decode cX8_key 30 = .ok (.bipush 24, 2) := by decide +kernel
theorem dX8_key_32 : decode cX8_key 32 = .ok (.if_icmp .ne 6, 3) := by decide +kernel
theorem dX8_key_35 : decode cX8_key 35 = .ok (.bipush (-3), 2) := by decide +kernel
theorem dX8_key_37 : decode cX8_key 37 = .ok (.ireturn, 1) := by decide +kernel
theorem dX8_key_38 : decode cX8_key 38 = .ok (.aload_n 0, 1) := by decide +kernel
theorem dX8_key_39 : decode cX8_key 39 = .ok (.getfield 37, 3) := by decide +kernel
theorem dX8_key_42 : decode cX8_key 42 = .ok (.bipush 8, 2) := by decide +kernel
theorem dX8_key_44 : decode cX8_key 44 = .ok (.iload_n 1, 1) := by decide +kernel
theorem dX8_key_45 : decode cX8_key 45 = .ok (.imul, 1) := by decide +kernel
theorem dX8_key_46 : decode cX8_key 46 = .ok (.iaload, 1) := by decide +kernel
theorem dX8_key_47 : decode cX8_key 47 = .ok (.istore_n 2, 1) := by decide +kernel
theorem dX8_key_48 : decode cX8_key 48 = .ok (.aload_n 0, 1) := by decide +kernel
theorem dX8_key_49 : decode cX8_key 49 = .ok (.getfield 34, 3) := by decide +kernel
theorem dX8_key_52 : decode cX8_key 52 = .ok (.iload_n 1, 1) := by decide +kernel
theorem dX8_key_53 : decode cX8_key 53 = .ok (.dup2, 1) := by decide +kernel
theorem dX8_key_54 : decode cX8_key 54 = .ok (.iaload, 1) := by decide +kernel
theorem dX8_key_55 : decode cX8_key 55 = .ok (.iconst 1, 1) := by decide +kernel
theorem dX8_key_56 : decode cX8_key 56 = .ok (.isub, 1) := by decide +kernel
theorem dX8_key_57 : decode cX8_key 57 = .ok (.iastore, 1) := by decide +kernel
theorem dX8_key_58 : decode cX8_key 58 = .ok (.iconst 0, 1) := by decide +kernel
theorem dX8_key_59 : decode cX8_key 59 = .ok (.istore_n 3, 1) := by decide +kernel
theorem dX8_key_60 : decode cX8_key 60 = .ok (.iload_n 3, 1) := by decide +kernel
theorem dX8_key_61 : decode cX8_key 61 = .ok (.aload_n 0, 1) := by decide +kernel
theorem dX8_key_62 : decode cX8_key 62 = .ok (.getfield 34, 3) := by decide +kernel
theorem dX8_key_65 : decode cX8_key 65 = .ok (.iload_n 1, 1) := by decide +kernel
theorem dX8_key_66 : decode cX8_key 66 = .ok (.iaload, 1) := by decide +kernel
theorem dX8_key_67 : decode cX8_key 67 = .ok (.if_icmp .ge 33, 3) := by decide +kernel
theorem dX8_key_70 : decode cX8_key 70 = .ok (.aload_n 0, 1) := by decide +kernel
theorem dX8_key_71 : decode cX8_key 71 = .ok (.getfield 37, 3) := by decide +kernel
theorem dX8_key_74 : decode cX8_key 74 = .ok (.bipush 8, 2) := by decide +kernel
theorem dX8_key_76 : decode cX8_key 76 = .ok (.iload_n 1, 1) := by decide +kernel
theorem dX8_key_77 : decode cX8_key 77 = .ok (.imul, 1) := by decide +kernel
theorem dX8_key_78 : decode cX8_key 78 = .ok (.iload_n 3, 1) := by decide +kernel
theorem dX8_key_79 : decode cX8_key 79 = .ok (.iadd, 1) := by decide +kernel
theorem dX8_key_80 : decode cX8_key 80 = .ok (.aload_n 0, 1) := by decide +kernel
theorem dX8_key_81 : decode cX8_key 81 = .ok (.getfield 37, 3) := by decide +kernel
theorem dX8_key_84 : decode cX8_key 84 = .ok (.bipush 8, 2) := by decide +kernel
theorem dX8_key_86 : decode cX8_key 86 = .ok (.iload_n 1, 1) := by decide +kernel
theorem dX8_key_87 : decode cX8_key 87 = .ok (.imul, 1) := by decide +kernel
theorem dX8_key_88 : decode cX8_key 88 = .ok (.iload_n 3, 1) := by decide +kernel
theorem dX8_key_89 : decode cX8_key 89 = .ok (.iadd, 1) := by decide +kernel
theorem dX8_key_90 : decode cX8_key 90 = .ok (.iconst 1, 1) := by decide +kernel
theorem dX8_key_91 : decode cX8_key 91 = .ok (.iadd, 1) := by decide +kernel
theorem dX8_key_92 : decode cX8_key 92 = .ok (.iaload, 1) := by decide +kernel
theorem dX8_key_93 : decode cX8_key 93 = .ok (.iastore, 1) := by decide +kernel
theorem dX8_key_94 : decode cX8_key 94 = .ok (.iinc 3 1, 3) := by decide +kernel
theorem dX8_key_97 : decode cX8_key 97 = .ok (.goto (-37), 3) := by decide +kernel
theorem dX8_key_100 : decode cX8_key 100 = .ok (.aload_n 0, 1) := by decide +kernel
theorem dX8_key_101 : decode cX8_key 101 = .ok (.getfield 31, 3) := by decide +kernel
theorem dX8_key_104 : decode cX8_key 104 = .ok (.iload_n 2, 1) := by decide +kernel
theorem dX8_key_105 : decode cX8_key 105 = .ok (.bipush 13, 2) := by decide +kernel
theorem dX8_key_107 : decode cX8_key 107 = .ok (.iastore, 1) := by decide +kernel
theorem dX8_key_108 : decode cX8_key 108 = .ok (.aload_n 0, 1) := by decide +kernel
theorem dX8_key_109 : decode cX8_key 109 = .ok (.iload_n 2, 1) := by decide +kernel
theorem dX8_key_110 : decode cX8_key 110 = .ok (.aload_n 0, 1) := by decide +kernel
theorem dX8_key_111 : decode cX8_key 111 = .ok (.getfield 19, 3) := by decide +kernel
theorem dX8_key_114 : decode cX8_key 114 = .ok (.iload_n 1, 1) := by decide +kernel
theorem dX8_key_115 : decode cX8_key 115 = .ok (.iaload, 1) := by decide +kernel
theorem dX8_key_116 : decode cX8_key 116 = .ok (.invokevirtual 144, 3) := by decide +kernel
theorem dX8_key_119 : decode cX8_key 119 = .ok (.ireturn, 1) := by decide +kernel
theorem dX8_band_0 : decode cX8_band 0 = .ok (.aload_n 0, 1) := by decide +kernel
theorem dX8_band_1 : decode cX8_band 1 = .ok (.getfield 148, 3) := by decide +kernel
theorem dX8_band_4 : decode cX8_band 4 = .ok (.bipush 12, 2) := by decide +kernel
theorem dX8_band_6 : decode cX8_band 6 = .ok (.if_icmp .ne 6, 3) := by decide +kernel
theorem dX8_band_9 : decode cX8_band 9 = .ok (.bipush (-4), 2) := by decide +kernel
theorem dX8_band_11 : decode cX8_band 11 = .ok (.ireturn, 1) := by decide +kernel
theorem dX8_band_12 : decode cX8_band 12 = .ok (.aload_n 0, 1) := by decide +kernel
theorem dX8_band_13 : decode cX8_band 13 = .ok (.getfield 141, 3) := by decide +kernel
theorem dX8_band_16 : decode cX8_band 16 = .ok (.aload_n 0, 1) := by decide +kernel
theorem dX8_band_17 : decode cX8_band 17 = .ok (.getfield 135, 3) := by decide +kernel
theorem dX8_band_20 : decode cX8_band 20 = .ok (.iadd, 1) := by decide +kernel
theorem dX8_band_21 : decode cX8_band 21 = .ok (.bipush 24, 2) := by decide +kernel
theorem dX8_band_23 : decode cX8_band 23 = .ok (.if_icmp .ne 6, 3) := by decide +kernel
theorem dX8_band_26 : decode cX8_band 26 = .ok (.bipush (-3), 2) := by decide +kernel
theorem dX8_band_28 : decode cX8_band 28 = .ok (.ireturn, 1) := by decide +kernel
theorem dX8_band_29 : decode cX8_band 29 = .ok (.aload_n 0, 1) := by decide +kernel
theorem dX8_band_30 : decode cX8_band 30 = .ok (.dup, 1) := by decide +kernel
theorem dX8_band_31 : decode cX8_band 31 = .ok (.getfield 148, 3) := by decide +kernel
theorem dX8_band_34 : decode cX8_band 34 = .ok (.iconst 1, 1) := by decide +kernel
theorem dX8_band_35 : decode cX8_band 35 = .ok (.iadd, 1) := by decide +kernel
theorem dX8_band_36 : decode cX8_band 36 = .ok (.putfield 148, 3) := by decide +kernel
theorem dX8_band_39 : decode cX8_band 39 = .ok (.aload_n 0, 1) := by decide +kernel
theorem dX8_band_40 : decode cX8_band 40 = .ok (.bipush 100, 2) := by decide +kernel
theorem dX8_band_42 : decode cX8_band 42 = .ok (.iconst 0, 1) := by decide +kernel
theorem dX8_band_43 : decode cX8_band 43 = .ok (.invokevirtual 144, 3) := by decide +kernel
theorem dX8_band_46 : decode cX8_band 46 = .ok (.ireturn, 1) := by decide +kernel
theorem dX8_tick_0 : decode cX8_tick 0 = .ok (.aload_n 0, 1) := by decide +kernel
theorem dX8_tick_1 : decode cX8_tick 1 = .ok (.dup, 1) := by decide +kernel
theorem dX8_tick_2 : decode cX8_tick 2 = .ok (.getfield 138, 3) := by decide +kernel
theorem dX8_tick_5 : decode cX8_tick 5 = .ok (.iconst 1, 1) := by decide +kernel
theorem dX8_tick_6 : decode cX8_tick 6 = .ok (.iadd, 1) := by decide +kernel
theorem dX8_tick_7 : decode cX8_tick 7 = .ok (.putfield 138, 3) := by decide +kernel
theorem dX8_tick_10 : decode cX8_tick 10 = .ok (.iconst 0, 1) := by decide +kernel
theorem dX8_tick_11 : decode cX8_tick 11 = .ok (.istore_n 1, 1) := by decide +kernel
theorem dX8_tick_12 : decode cX8_tick 12 = .ok (.iconst 0, 1) := by decide +kernel
theorem dX8_tick_13 : decode cX8_tick 13 = .ok (.istore_n 2, 1) := by decide +kernel
theorem dX8_tick_14 : decode cX8_tick 14 = .ok (.iload_n 2, 1) := by decide +kernel
theorem dX8_tick_15 : decode cX8_tick 15 = .ok (.aload_n 0, 1) := by decide +kernel
theorem dX8_tick_16 : decode cX8_tick 16 = .ok (.getfield 135, 3) := by decide +kernel
theorem dX8_tick_19 : decode cX8_tick 19 = .ok (.if_icmp .ge 77, 3) := by decide +kernel
theorem dX8_tick_22 : decode cX8_tick 22 = .ok (.aload_n 0, 1) := by decide +kernel
theorem dX8_tick_23 : decode cX8_tick 23 = .ok (.getfield 46, 3) := by decide +kernel
theorem dX8_tick_26 : decode cX8_tick 26 = .ok (.iload_n 2, 1) := by decide +kernel
theorem dX8_tick_27 : decode cX8_tick 27 = .ok (.iaload, 1) := by decide +kernel
theorem dX8_tick_28 : decode cX8_tick 28 = .ok (.aload_n 0, 1) := by decide +kernel
theorem dX8_tick_29 : decode cX8_tick 29 = .ok (.getfield 138, 3) := by decide +kernel
theorem dX8_tick_32 : decode cX8_tick 32 = .ok (.if_icmp .ne 31, 3) := by decide +kernel
theorem dX8_tick_35 : decode cX8_tick 35 = .ok (.aload_n 0, 1) := by decide +kernel
theorem dX8_tick_36 : decode cX8_tick 36 = .ok (.getfield 40, 3) := by decide +kernel
theorem dX8_tick_39 : decode cX8_tick 39 = .ok (.aload_n 0, 1) := by decide +kernel
theorem dX8_tick_40 : decode cX8_tick 40 = .ok (.getfield 141, 3) := by decide +kernel
theorem dX8_tick_43 : decode cX8_tick 43 = .ok (.aload_n 0, 1) := by decide +kernel
theorem dX8_tick_44 : decode cX8_tick 44 = .ok (.getfield 43, 3) := by decide +kernel
theorem dX8_tick_47 : decode cX8_tick 47 = .ok (.iload_n 2, 1) := by decide +kernel
theorem dX8_tick_48 : decode cX8_tick 48 = .ok (.iaload, 1) := by decide +kernel
theorem dX8_tick_49 : decode cX8_tick 49 = .ok (.iastore, 1) := by decide +kernel
theorem dX8_tick_50 : decode cX8_tick 50 = .ok (.aload_n 0, 1) := by decide +kernel
theorem dX8_tick_51 : decode cX8_tick 51 = .ok (.dup, 1) := by decide +kernel
theorem dX8_tick_52 : decode cX8_tick 52 = .ok (.getfield 141, 3) := by decide +kernel
theorem dX8_tick_55 : decode cX8_tick 55 = .ok (.iconst 1, 1) := by decide +kernel
theorem dX8_tick_56 : decode cX8_tick 56 = .ok (.iadd, 1) := by decide +kernel
theorem dX8_tick_57 : decode cX8_tick 57 = .ok (.putfield 141, 3) := by decide +kernel
theorem dX8_tick_60 : decode cX8_tick 60 = .ok (.goto 30, 3) := by decide +kernel
theorem dX8_tick_63 : decode cX8_tick 63 = .ok (.aload_n 0, 1) := by decide +kernel
theorem dX8_tick_64 : decode cX8_tick 64 = .ok (.getfield 43, 3) := by decide +kernel
theorem dX8_tick_67 : decode cX8_tick 67 = .ok (.iload_n 1, 1) := by decide +kernel
theorem dX8_tick_68 : decode cX8_tick 68 = .ok (.aload_n 0, 1) := by decide +kernel
theorem dX8_tick_69 : decode cX8_tick 69 = .ok (.getfield 43, 3) := by decide +kernel
theorem dX8_tick_72 : decode cX8_tick 72 = .ok (.iload_n 2, 1) := by decide +kernel
theorem dX8_tick_73 : decode cX8_tick 73 = .ok (.iaload, 1) := by decide +kernel
theorem dX8_tick_74 : decode cX8_tick 74 = .ok (.iastore, 1) := by decide +kernel
theorem dX8_tick_75 : decode cX8_tick 75 = .ok (.aload_n 0, 1) := by decide +kernel
theorem dX8_tick_76 : decode cX8_tick 76 = .ok (.getfield 46, 3) := by decide +kernel
theorem dX8_tick_79 : decode cX8_tick 79 = .ok (.iload_n 1, 1) := by decide +kernel
theorem dX8_tick_80 : decode cX8_tick 80 = .ok (.aload_n 0, 1) := by decide +kernel
theorem dX8_tick_81 : decode cX8_tick 81 = .ok (.getfield 46, 3) := by decide +kernel
theorem dX8_tick_84 : decode cX8_tick 84 = .ok (.iload_n 2, 1) := by decide +kernel
theorem dX8_tick_85 : decode cX8_tick 85 = .ok (.iaload, 1) := by decide +kernel
theorem dX8_tick_86 : decode cX8_tick 86 = .ok (.iastore, 1) := by decide +kernel
theorem dX8_tick_87 : decode cX8_tick 87 = .ok (.iinc 1 1, 3) := by decide +kernel
theorem dX8_tick_90 : decode cX8_tick 90 = .ok (.iinc 2 1, 3) := by decide +kernel
theorem dX8_tick_93 : decode cX8_tick 93 = .ok (.goto (-79), 3) := by decide +kernel
theorem dX8_tick_96 : decode cX8_tick 96 = .ok (.aload_n 0, 1) := by decide +kernel
theorem dX8_tick_97 : decode cX8_tick 97 = .ok (.iload_n 1, 1) := by decide +kernel
theorem dX8_tick_98 : decode cX8_tick 98 = .ok (.putfield 135, 3) := by decide +kernel
theorem dX8_tick_101 : decode cX8_tick 101 = .ok (.iconst 0, 1) := by decide +kernel
theorem dX8_tick_102 : decode cX8_tick 102 = .ok (.istore_n 1, 1) := by decide +kernel
theorem dX8_tick_103 : decode cX8_tick 103 = .ok (.iconst 0, 1) := by decide +kernel
theorem dX8_tick_104 : decode cX8_tick 104 = .ok (.istore_n 2, 1) := by decide +kernel
theorem dX8_tick_105 : decode cX8_tick 105 = .ok (.iload_n 2, 1) := by decide +kernel
theorem dX8_tick_106 : decode cX8_tick 106 = .ok (.aload_n 0, 1) := by decide +kernel
theorem dX8_tick_107 : decode cX8_tick 107 = .ok (.getfield 151, 3) := by decide +kernel
theorem dX8_tick_110 : decode cX8_tick 110 = .ok (.if_icmp .ge 110, 3) := by decide +kernel
theorem dX8_tick_113 : decode cX8_tick 113 = .ok (.aload_n 0, 1) := by decide +kernel
theorem dX8_tick_114 : decode cX8_tick 114 = .ok (.getfield 55, 3) := by decide +kernel
theorem dX8_tick_117 : decode cX8_tick 117 = .ok (.iload_n 2, 1) := by decide +kernel
theorem dX8_tick_118 : decode cX8_tick 118 = .ok (.iaload, 1) := by decide +kernel
theorem dX8_tick_119 : decode cX8_tick 119 = .ok (.aload_n 0, 1) := by decide +kernel
theorem dX8_tick_120 : decode cX8_tick 120 = .ok (.getfield 138, 3) := by decide +kernel
theorem dX8_tick_123 : decode cX8_tick 123 = .ok (.if_icmp .ne 52, 3) := by decide +kernel
theorem dX8_tick_126 : decode cX8_tick 126 = .ok (.aload_n 0, 1) := by decide +kernel
theorem dX8_tick_127 : decode cX8_tick 127 = .ok (.aload_n 0, 1) := by decide +kernel
theorem dX8_tick_128 : decode cX8_tick 128 = .ok (.getfield 49, 3) := by decide +kernel
theorem dX8_tick_131 : decode cX8_tick 131 = .ok (.iload_n 2, 1) := by decide +kernel
theorem dX8_tick_132 : decode cX8_tick 132 = .ok (.iaload, 1) := by decide +kernel
theorem dX8_tick_133 : decode cX8_tick 133 = .ok (.aload_n 0, 1) := by decide +kernel
theorem dX8_tick_134 : decode cX8_tick 134 = .ok (.getfield 52, 3) := by decide +kernel
theorem dX8_tick_137 : decode cX8_tick 137 = .ok (.iload_n 2, 1) := by decide +kernel
theorem dX8_tick_138 : decode cX8_tick 138 = .ok (.iaload, 1) := by decide +kernel
theorem dX8_tick_139 : decode cX8_tick 139 = .ok (.invokevirtual 126, 3) := by decide +kernel
theorem dX8_tick_142 : decode cX8_tick 142 = .ok (.istore_n 3, 1) := by decide +kernel
theorem dX8_tick_143 : decode cX8_tick 143 = .ok (.aload_n 0, 1) := by decide +kernel
theorem dX8_tick_144 : decode cX8_tick 144 = .ok (.dup, 1) := by decide +kernel
theorem dX8_tick_145 : decode cX8_tick 145 = .ok (.getfield 154, 3) := by decide +kernel
theorem dX8_tick_148 : decode cX8_tick 148 = .ok (.iload_n 3, 1) := by decide +kernel
theorem dX8_tick_149 : decode cX8_tick 149 = .ok (.ifCond .ne 14, 3) := by decide +kernel
theorem dX8_tick_152 : decode cX8_tick 152 = .ok (.aload_n 0, 1) := by decide +kernel
theorem dX8_tick_153 : decode cX8_tick 153 = .ok (.getfield 52, 3) := by decide +kernel
theorem dX8_tick_156 : decode cX8_tick 156 = .ok (.iload_n 2, 1) := by decide +kernel
theorem dX8_tick_157 : decode cX8_tick 157 = .ok (.iaload, 1) := by decide +kernel
theorem dX8_tick_158 : decode cX8_tick 158 = .ok (.bipush 12, 2) := by decide +kernel
theorem dX8_tick_160 : decode cX8_tick 160 = .ok (.if_icmp .ne 7, 3) := by decide +kernel
theorem dX8_tick_163 : decode cX8_tick 163 = .ok (.iconst 0, 1) := by decide +kernel
theorem dX8_tick_164 : decode cX8_tick 164 = .ok (.goto 4, 3) := by decide +kernel
theorem dX8_tick_167 : decode cX8_tick 167 = .ok (.iconst 1, 1) := by decide +kernel
theorem dX8_tick_168 : decode cX8_tick 168 = .ok (.iadd, 1) := by decide +kernel
theorem dX8_tick_169 : decode cX8_tick 169 = .ok (.putfield 154, 3) := by decide +kernel
theorem dX8_tick_172 : decode cX8_tick 172 = .ok (.goto 42, 3) := by decide +kernel
theorem dX8_tick_175 : decode cX8_tick 175 = .ok (.aload_n 0, 1) := by decide +kernel
theorem dX8_tick_176 : decode cX8_tick 176 = .ok (.getfield 49, 3) := by decide +kernel
theorem dX8_tick_179 : decode cX8_tick 179 = .ok (.iload_n 1, 1) := by decide +kernel
theorem dX8_tick_180 : decode cX8_tick 180 = .ok (.aload_n 0, 1) := by decide +kernel
theorem dX8_tick_181 : decode cX8_tick 181 = .ok (.getfield 49, 3) := by decide +kernel
theorem dX8_tick_184 : decode cX8_tick 184 = .ok (.iload_n 2, 1) := by decide +kernel
theorem dX8_tick_185 : decode cX8_tick 185 = .ok (.iaload, 1) := by decide +kernel
theorem dX8_tick_186 : decode cX8_tick 186 = .ok (.iastore, 1) := by decide +kernel
theorem dX8_tick_187 : decode cX8_tick 187 = .ok (.aload_n 0, 1) := by decide +kernel
theorem dX8_tick_188 : decode cX8_tick 188 = .ok (.getfield 52, 3) := by decide +kernel
theorem dX8_tick_191 : decode cX8_tick 191 = .ok (.iload_n 1, 1) := by decide +kernel
theorem dX8_tick_192 : decode cX8_tick 192 = .ok (.aload_n 0, 1) := by decide +kernel
theorem dX8_tick_193 : decode cX8_tick 193 = .ok (.getfield 52, 3) := by decide +kernel
theorem dX8_tick_196 : decode cX8_tick 196 = .ok (.iload_n 2, 1) := by decide +kernel
theorem dX8_tick_197 : decode cX8_tick 197 = .ok (.iaload, 1) := by decide +kernel
theorem dX8_tick_198 : decode cX8_tick 198 = .ok (.iastore, 1) := by decide +kernel
theorem dX8_tick_199 : decode cX8_tick 199 = .ok (.aload_n 0, 1) := by decide +kernel
theorem dX8_tick_200 : decode cX8_tick 200 = .ok (.getfield 55, 3) := by decide +kernel
theorem dX8_tick_203 : decode cX8_tick 203 = .ok (.iload_n 1, 1) := by decide +kernel
theorem dX8_tick_204 : decode cX8_tick 204 = .ok (.aload_n 0, 1) := by decide +kernel
theorem dX8_tick_205 : decode cX8_tick 205 = .ok (.getfield 55, 3) := by decide +kernel
theorem dX8_tick_208 : decode cX8_tick 208 = .ok (.iload_n 2, 1) := by decide +kernel
theorem dX8_tick_209 : decode cX8_tick 209 = .ok (.iaload, 1) := by decide +kernel
theorem dX8_tick_210 : decode cX8_tick 210 = .ok (.iastore, 1) := by decide +kernel
theorem dX8_tick_211 : decode cX8_tick 211 = .ok (.iinc 1 1, 3) := by decide +kernel
theorem dX8_tick_214 : decode cX8_tick 214 = .ok (.iinc 2 1, 3) := by decide +kernel
theorem dX8_tick_217 : decode cX8_tick 217 = .ok (.goto (-112), 3) := by decide +kernel
theorem dX8_tick_220 : decode cX8_tick 220 = .ok (.aload_n 0, 1) := by decide +kernel
theorem dX8_tick_221 : decode cX8_tick 221 = .ok (.iload_n 1, 1) := by decide +kernel
theorem dX8_tick_222 : decode cX8_tick 222 = .ok (.putfield 151, 3) := by decide +kernel
theorem dX8_tick_225 : decode cX8_tick 225 = .ok (.return_, 1) := by decide +kernel
theorem dX8_ticks_0 : decode cX8_ticks 0 = .ok (.iload_n 1, 1) := by decide +kernel
theorem dX8_ticks_1 : decode cX8_ticks 1 = .ok (.i2l, 1) := by decide +kernel
theorem dX8_ticks_2 : decode cX8_ticks 2 = .ok (.lconst 1, 1) := by decide +kernel
theorem dX8_ticks_3 : decode cX8_ticks 3 = .ok (.ldc2_w 157, 3) := by decide +kernel
theorem dX8_ticks_6 : decode cX8_ticks 6 = .ok (.invokestatic 87, 3) := by decide +kernel
theorem dX8_ticks_9 : decode cX8_ticks 9 = .ok (.ifCond .ne 5, 3) := by decide +kernel
theorem dX8_ticks_12 : decode cX8_ticks 12 = .ok (.iconst (-1), 1) := by decide +kernel
theorem dX8_ticks_13 : decode cX8_ticks 13 = .ok (.ireturn, 1) := by decide +kernel
theorem dX8_ticks_14 : decode cX8_ticks 14 = .ok (.aload_n 0, 1) := by decide +kernel
theorem dX8_ticks_15 : decode cX8_ticks 15 = .ok (.getfield 138, 3) := by decide +kernel
theorem dX8_ticks_18 : decode cX8_ticks 18 = .ok (.iload_n 1, 1) := by decide +kernel
theorem dX8_ticks_19 : decode cX8_ticks 19 = .ok (.iadd, 1) := by decide +kernel
theorem dX8_ticks_20 : decode cX8_ticks 20 = .ok (.ldc 159, 2) := by decide +kernel
theorem dX8_ticks_22 : decode cX8_ticks 22 = .ok (.if_icmp .le 6, 3) := by decide +kernel
theorem dX8_ticks_25 : decode cX8_ticks 25 = .ok (.bipush (-3), 2) := by decide +kernel
theorem dX8_ticks_27 : decode cX8_ticks 27 = .ok (.ireturn, 1) := by decide +kernel
theorem dX8_ticks_28 : decode cX8_ticks 28 = .ok (.iconst 0, 1) := by decide +kernel
theorem dX8_ticks_29 : decode cX8_ticks 29 = .ok (.istore_n 2, 1) := by decide +kernel
theorem dX8_ticks_30 : decode cX8_ticks 30 = .ok (.iload_n 2, 1) := by decide +kernel
theorem dX8_ticks_31 : decode cX8_ticks 31 = .ok (.iload_n 1, 1) := by decide +kernel
theorem dX8_ticks_32 : decode cX8_ticks 32 = .ok (.if_icmp .ge 13, 3) := by decide +kernel
theorem dX8_ticks_35 : decode cX8_ticks 35 = .ok (.aload_n 0, 1) := by decide +kernel
theorem dX8_ticks_36 : decode cX8_ticks 36 = .ok (.invokevirtual 160, 3) := by decide +kernel
theorem dX8_ticks_39 : decode cX8_ticks 39 = .ok (.iinc 2 1, 3) := by decide +kernel
theorem dX8_ticks_42 : decode cX8_ticks 42 = .ok (.goto (-12), 3) := by decide +kernel
theorem dX8_ticks_45 : decode cX8_ticks 45 = .ok (.aload_n 0, 1) := by decide +kernel
theorem dX8_ticks_46 : decode cX8_ticks 46 = .ok (.getfield 138, 3) := by decide +kernel
theorem dX8_ticks_49 : decode cX8_ticks 49 = .ok (.ireturn, 1) := by decide +kernel
theorem dX8_line_0 : decode cX8_line 0 = .ok (.iload_n 1, 1) := by decide +kernel
theorem dX8_line_1 : decode cX8_line 1 = .ok (.iconst (-1), 1) := by decide +kernel
theorem dX8_line_2 : decode cX8_line 2 = .ok (.if_icmp .ge 7, 3) := by decide +kernel
theorem dX8_line_5 : decode cX8_line 5 = .ok (.iconst (-1), 1) := by decide +kernel
theorem dX8_line_6 : decode cX8_line 6 = .ok (.goto 33, 3) := by decide +kernel
theorem dX8_line_9 : decode cX8_line 9 = .ok (.iload_n 1, 1) := by decide +kernel
theorem dX8_line_10 : decode cX8_line 10 = .ok (.ifCond .ge 10, 3) := by decide +kernel
theorem dX8_line_13 : decode cX8_line 13 = .ok (.aload_n 0, 1) := by decide +kernel
theorem dX8_line_14 : decode cX8_line 14 = .ok (.getfield 141, 3) := by decide +kernel
theorem dX8_line_17 : decode cX8_line 17 = .ok (.goto 22, 3) := by decide +kernel
theorem dX8_line_20 : decode cX8_line 20 = .ok (.iload_n 1, 1) := by decide +kernel
theorem dX8_line_21 : decode cX8_line 21 = .ok (.aload_n 0, 1) := by decide +kernel
theorem dX8_line_22 : decode cX8_line 22 = .ok (.getfield 141, 3) := by decide +kernel
theorem dX8_line_25 : decode cX8_line 25 = .ok (.if_icmp .ge 12, 3) := by decide +kernel
theorem dX8_line_28 : decode cX8_line 28 = .ok (.aload_n 0, 1) := by decide +kernel
theorem dX8_line_29 : decode cX8_line 29 = .ok (.getfield 40, 3) := by decide +kernel
theorem dX8_line_32 : decode cX8_line 32 = .ok (.iload_n 1, 1) := by decide +kernel
theorem dX8_line_33 : decode cX8_line 33 = .ok (.iaload, 1) := by decide +kernel
theorem dX8_line_34 : decode cX8_line 34 = .ok (.goto 5, 3) := by decide +kernel
theorem dX8_line_37 : decode cX8_line 37 = .ok (.bipush (-4), 2) := by decide +kernel
theorem dX8_line_39 : decode cX8_line 39 = .ok (.ireturn, 1) := by decide +kernel
theorem dX8_widthOf_0 : decode cX8_widthOf 0 = .ok (.iconst 0, 1) := by decide +kernel
theorem dX8_widthOf_1 : decode cX8_widthOf 1 = .ok (.istore_n 1, 1) := by decide +kernel
theorem dX8_widthOf_2 : decode cX8_widthOf 2 = .ok (.iconst 0, 1) := by decide +kernel
theorem dX8_widthOf_3 : decode cX8_widthOf 3 = .ok (.istore_n 2, 1) := by decide +kernel
theorem dX8_widthOf_4 : decode cX8_widthOf 4 = .ok (.iload_n 2, 1) := by decide +kernel
theorem dX8_widthOf_5 : decode cX8_widthOf 5 = .ok (.aload_n 0, 1) := by decide +kernel
theorem dX8_widthOf_6 : decode cX8_widthOf 6 = .ok (.getfield 141, 3) := by decide +kernel
theorem dX8_widthOf_9 : decode cX8_widthOf 9 = .ok (.if_icmp .ge 43, 3) := by decide +kernel
theorem dX8_widthOf_12 : decode cX8_widthOf 12 = .ok (.iload_n 1, 1) := by decide +kernel
theorem dX8_widthOf_13 : decode cX8_widthOf 13 = .ok (.aload_n 0, 1) := by decide +kernel
theorem dX8_widthOf_14 : decode cX8_widthOf 14 = .ok (.getfield 40, 3) := by decide +kernel
theorem dX8_widthOf_17 : decode cX8_widthOf 17 = .ok (.iload_n 2, 1) := by decide +kernel
theorem dX8_widthOf_18 : decode cX8_widthOf 18 = .ok (.iaload, 1) := by decide +kernel
theorem dX8_widthOf_19 : decode cX8_widthOf 19 = .ok (.bipush 100, 2) := by decide +kernel
theorem dX8_widthOf_21 : decode cX8_widthOf 21 = .ok (.if_icmp .ne 7, 3) := by decide +kernel
theorem dX8_widthOf_24 : decode cX8_widthOf 24 = .ok (.iconst 0, 1) := by decide +kernel
theorem dX8_widthOf_25 : decode cX8_widthOf 25 = .ok (.goto 19, 3) := by decide +kernel
theorem dX8_widthOf_28 : decode cX8_widthOf 28 = .ok (.aload_n 0, 1) := by decide +kernel
theorem dX8_widthOf_29 : decode cX8_widthOf 29 = .ok (.getfield 7, 3) := by decide +kernel
theorem dX8_widthOf_32 : decode cX8_widthOf 32 = .ok (.aload_n 0, 1) := by decide +kernel
theorem dX8_widthOf_33 : decode cX8_widthOf 33 = .ok (.getfield 25, 3) := by decide +kernel
theorem dX8_widthOf_36 : decode cX8_widthOf 36 = .ok (.aload_n 0, 1) := by decide +kernel
theorem dX8_widthOf_37 : decode cX8_widthOf 37 = .ok (.getfield 40, 3) := by decide +kernel
theorem dX8_widthOf_40 : decode cX8_widthOf 40 = .ok (.iload_n 2, 1) := by decide +kernel
theorem dX8_widthOf_41 : decode cX8_widthOf 41 = .ok (.iaload, 1) := by decide +kernel
theorem dX8_widthOf_42 : decode cX8_widthOf 42 = .ok (.iaload, 1) := by decide +kernel
theorem dX8_widthOf_43 : decode cX8_widthOf 43 = .ok (.iaload, 1) := by decide +kernel
theorem dX8_widthOf_44 : decode cX8_widthOf 44 = .ok (.iadd, 1) := by decide +kernel
theorem dX8_widthOf_45 : decode cX8_widthOf 45 = .ok (.istore_n 1, 1) := by decide +kernel
theorem dX8_widthOf_46 : decode cX8_widthOf 46 = .ok (.iinc 2 1, 3) := by decide +kernel
theorem dX8_widthOf_49 : decode cX8_widthOf 49 = .ok (.goto (-45), 3) := by decide +kernel
theorem dX8_widthOf_52 : decode cX8_widthOf 52 = .ok (.iload_n 1, 1) := by decide +kernel
theorem dX8_widthOf_53 : decode cX8_widthOf 53 = .ok (.ireturn, 1) := by decide +kernel
theorem dX8_bandMany_0 : decode cX8_bandMany 0 = .ok (.iconst 0, 1) := by decide +kernel
theorem dX8_bandMany_1 : decode cX8_bandMany 1 = .ok (.istore_n 1, 1) := by decide +kernel
theorem dX8_bandMany_2 : decode cX8_bandMany 2 = .ok (.iconst 0, 1) := by decide +kernel
theorem dX8_bandMany_3 : decode cX8_bandMany 3 = .ok (.istore_n 2, 1) := by decide +kernel
theorem dX8_bandMany_4 : decode cX8_bandMany 4 = .ok (.iload_n 2, 1) := by decide +kernel
theorem dX8_bandMany_5 : decode cX8_bandMany 5 = .ok (.aload_n 0, 1) := by decide +kernel
theorem dX8_bandMany_6 : decode cX8_bandMany 6 = .ok (.getfield 141, 3) := by decide +kernel
theorem dX8_bandMany_9 : decode cX8_bandMany 9 = .ok (.if_icmp .ge 28, 3) := by decide +kernel
theorem dX8_bandMany_12 : decode cX8_bandMany 12 = .ok (.iload_n 1, 1) := by decide +kernel
theorem dX8_bandMany_13 : decode cX8_bandMany 13 = .ok (.aload_n 0, 1) := by decide +kernel
theorem dX8_bandMany_14 : decode cX8_bandMany 14 = .ok (.getfield 40, 3) := by decide +kernel
theorem dX8_bandMany_17 : decode cX8_bandMany 17 = .ok (.iload_n 2, 1) := by decide +kernel
theorem dX8_bandMany_18 : decode cX8_bandMany 18 = .ok (.iaload, 1) := by decide +kernel
theorem dX8_bandMany_19 : decode cX8_bandMany 19 = .ok (.bipush 100, 2) := by decide +kernel
theorem dX8_bandMany_21 : decode cX8_bandMany 21 = .ok (.if_icmp .ne 7, 3) := by decide +kernel
theorem dX8_bandMany_24 : decode cX8_bandMany 24 = .ok (.iconst 1, 1) := by decide +kernel
theorem dX8_bandMany_25 : decode cX8_bandMany 25 = .ok (.goto 4, 3) := by decide +kernel
theorem dX8_bandMany_28 : decode cX8_bandMany 28 = .ok (.iconst 0, 1) := by decide +kernel
theorem dX8_bandMany_29 : decode cX8_bandMany 29 = .ok (.iadd, 1) := by decide +kernel
theorem dX8_bandMany_30 : decode cX8_bandMany 30 = .ok (.istore_n 1, 1) := by decide +kernel
theorem dX8_bandMany_31 : decode cX8_bandMany 31 = .ok (.iinc 2 1, 3) := by decide +kernel
theorem dX8_bandMany_34 : decode cX8_bandMany 34 = .ok (.goto (-30), 3) := by decide +kernel
theorem dX8_bandMany_37 : decode cX8_bandMany 37 = .ok (.iload_n 1, 1) := by decide +kernel
theorem dX8_bandMany_38 : decode cX8_bandMany 38 = .ok (.ireturn, 1) := by decide +kernel
theorem dX8_tightness_0 : decode cX8_tightness 0 = .ok (.iload_n 1, 1) := by decide +kernel
theorem dX8_tightness_1 : decode cX8_tightness 1 = .ok (.iload_n 2, 1) := by decide +kernel
theorem dX8_tightness_2 : decode cX8_tightness 2 = .ok (.aload_n 0, 1) := by decide +kernel
theorem dX8_tightness_3 : decode cX8_tightness 3 = .ok (.getfield 22, 3) := by decide +kernel
theorem dX8_tightness_6 : decode cX8_tightness 6 = .ok (.iconst 1, 1) := by decide +kernel
theorem dX8_tightness_7 : decode cX8_tightness 7 = .ok (.iaload, 1) := by decide +kernel
theorem dX8_tightness_8 : decode cX8_tightness 8 = .ok (.imul, 1) := by decide +kernel
theorem dX8_tightness_9 : decode cX8_tightness 9 = .ok (.iadd, 1) := by decide +kernel
theorem dX8_tightness_10 : decode cX8_tightness 10 = .ok (.aload_n 0, 1) := by decide +kernel
theorem dX8_tightness_11 : decode cX8_tightness 11 = .ok (.getfield 22, 3) := by decide +kernel
theorem dX8_tightness_14 : decode cX8_tightness 14 = .ok (.iconst 2, 1) := by decide +kernel
theorem dX8_tightness_15 : decode cX8_tightness 15 = .ok (.iaload, 1) := by decide +kernel
theorem dX8_tightness_16 : decode cX8_tightness 16 = .ok (.if_icmp .ge 7, 3) := by decide +kernel
theorem dX8_tightness_19 : decode cX8_tightness 19 = .ok (.iconst 1, 1) := by decide +kernel
theorem dX8_tightness_20 : decode cX8_tightness 20 = .ok (.goto 27, 3) := by decide +kernel
theorem dX8_tightness_23 : decode cX8_tightness 23 = .ok (.iload_n 1, 1) := by decide +kernel
theorem dX8_tightness_24 : decode cX8_tightness 24 = .ok (.iload_n 2, 1) := by decide +kernel
theorem dX8_tightness_25 : decode cX8_tightness 25 = .ok (.aload_n 0, 1) := by decide +kernel
theorem dX8_tightness_26 : decode cX8_tightness 26 = .ok (.getfield 22, 3) := by decide +kernel
theorem dX8_tightness_29 : decode cX8_tightness 29 = .ok (.iconst 0, 1) := by decide +kernel
theorem dX8_tightness_30 : decode cX8_tightness 30 = .ok (.iaload, 1) := by decide +kernel
theorem dX8_tightness_31 : decode cX8_tightness 31 = .ok (.imul, 1) := by decide +kernel
theorem dX8_tightness_32 : decode cX8_tightness 32 = .ok (.iadd, 1) := by decide +kernel
theorem dX8_tightness_33 : decode cX8_tightness 33 = .ok (.aload_n 0, 1) := by decide +kernel
theorem dX8_tightness_34 : decode cX8_tightness 34 = .ok (.getfield 22, 3) := by decide +kernel
theorem dX8_tightness_37 : decode cX8_tightness 37 = .ok (.iconst 2, 1) := by decide +kernel
theorem dX8_tightness_38 : decode cX8_tightness 38 = .ok (.iaload, 1) := by decide +kernel
theorem dX8_tightness_39 : decode cX8_tightness 39 = .ok (.if_icmp .le 7, 3) := by decide +kernel
theorem dX8_tightness_42 : decode cX8_tightness 42 = .ok (.iconst 2, 1) := by decide +kernel
theorem dX8_tightness_43 : decode cX8_tightness 43 = .ok (.goto 4, 3) := by decide +kernel
theorem dX8_tightness_46 : decode cX8_tightness 46 = .ok (.iconst 0, 1) := by decide +kernel
theorem dX8_tightness_47 : decode cX8_tightness 47 = .ok (.ireturn, 1) := by decide +kernel
theorem dX8_state_0 : decode cX8_state 0 = .ok (.aload_n 0, 1) := by decide +kernel
theorem dX8_state_1 : decode cX8_state 1 = .ok (.getfield 135, 3) := by decide +kernel
theorem dX8_state_4 : decode cX8_state 4 = .ok (.ifCond .le 6, 3) := by decide +kernel
theorem dX8_state_7 : decode cX8_state 7 = .ok (.bipush (-2), 2) := by decide +kernel
theorem dX8_state_9 : decode cX8_state 9 = .ok (.ireturn, 1) := by decide +kernel
theorem dX8_state_10 : decode cX8_state 10 = .ok (.aload_n 0, 1) := by decide +kernel
theorem dX8_state_11 : decode cX8_state 11 = .ok (.getfield 141, 3) := by decide +kernel
theorem dX8_state_14 : decode cX8_state 14 = .ok (.ifCond .ne 8, 3) := by decide +kernel
theorem dX8_state_17 : decode cX8_state 17 = .ok (.bipush (-4), 2) := by decide +kernel
theorem dX8_state_19 : decode cX8_state 19 = .ok (.goto 15, 3) := by decide +kernel
theorem dX8_state_22 : decode cX8_state 22 = .ok (.aload_n 0, 1) := by decide +kernel
theorem dX8_state_23 : decode cX8_state 23 = .ok (.aload_n 0, 1) := by decide +kernel
theorem dX8_state_24 : decode cX8_state 24 = .ok (.invokevirtual 163, 3) := by decide +kernel
theorem dX8_state_27 : decode cX8_state 27 = .ok (.aload_n 0, 1) := by decide +kernel
theorem dX8_state_28 : decode cX8_state 28 = .ok (.invokevirtual 167, 3) := by decide +kernel
theorem dX8_state_31 : decode cX8_state 31 = .ok (.invokevirtual 170, 3) := by decide +kernel
theorem dX8_state_34 : decode cX8_state 34 = .ok (.ireturn, 1) := by decide +kernel
theorem dX8_thick_0 : decode cX8_thick 0 = .ok (.aload_n 0, 1) := by decide +kernel
theorem dX8_thick_1 : decode cX8_thick 1 = .ok (.invokevirtual 167, 3) := by decide +kernel
theorem dX8_thick_4 : decode cX8_thick 4 = .ok (.istore_n 2, 1) := by decide +kernel
theorem dX8_thick_5 : decode cX8_thick 5 = .ok (.iload_n 1, 1) := by decide +kernel
theorem dX8_thick_6 : decode cX8_thick 6 = .ok (.i2l, 1) := by decide +kernel
theorem dX8_thick_7 : decode cX8_thick 7 = .ok (.lconst 0, 1) := by decide +kernel
theorem dX8_thick_8 : decode cX8_thick 8 = .ok (.iload_n 2, 1) := by decide +kernel
theorem dX8_thick_9 : decode cX8_thick 9 = .ok (.iconst 1, 1) := by decide +kernel
theorem dX8_thick_10 : decode cX8_thick 10 = .ok (.isub, 1) := by decide +kernel
theorem dX8_thick_11 : decode cX8_thick 11 = .ok (.i2l, 1) := by decide +kernel
theorem dX8_thick_12 : decode cX8_thick 12 = .ok (.invokestatic 87, 3) := by decide +kernel
theorem dX8_thick_15 : decode cX8_thick 15 = .ok (.ifCond .ne 5, 3) := by decide +kernel
theorem dX8_thick_18 : decode cX8_thick 18 = .ok (.iconst (-1), 1) := by decide +kernel
theorem dX8_thick_19 : decode cX8_thick 19 = .ok (.ireturn, 1) := by decide +kernel
theorem dX8_thick_20 : decode cX8_thick 20 = .ok (.aload_n 0, 1) := by decide +kernel
theorem dX8_thick_21 : decode cX8_thick 21 = .ok (.getfield 135, 3) := by decide +kernel
theorem dX8_thick_24 : decode cX8_thick 24 = .ok (.ifCond .gt 15, 3) := by decide +kernel
theorem dX8_thick_27 : decode cX8_thick 27 = .ok (.aload_n 0, 1) := by decide +kernel
theorem dX8_thick_28 : decode cX8_thick 28 = .ok (.aload_n 0, 1) := by decide +kernel
theorem dX8_thick_29 : decode cX8_thick 29 = .ok (.invokevirtual 163, 3) := by decide +kernel
theorem dX8_thick_32 : decode cX8_thick 32 = .ok (.iload_n 2, 1) := by decide +kernel
theorem dX8_thick_33 : decode cX8_thick 33 = .ok (.invokevirtual 170, 3) := by decide +kernel
theorem dX8_thick_36 : decode cX8_thick 36 = .ok (.ifCond .eq 6, 3) := by decide +kernel
theorem dX8_thick_39 : decode cX8_thick 39 = .ok (.bipush (-2), 2) := by decide +kernel
theorem dX8_thick_41 : decode cX8_thick 41 = .ok (.ireturn, 1) := by decide +kernel
theorem dX8_thick_42 : decode cX8_thick 42 = .ok (.aload_n 0, 1) := by decide +kernel
theorem dX8_thick_43 : decode cX8_thick 43 = .ok (.getfield 22, 3) := by decide +kernel
theorem dX8_thick_46 : decode cX8_thick 46 = .ok (.iconst 2, 1) := by decide +kernel
theorem dX8_thick_47 : decode cX8_thick 47 = .ok (.iaload, 1) := by decide +kernel
theorem dX8_thick_48 : decode cX8_thick 48 = .ok (.aload_n 0, 1) := by decide +kernel
theorem dX8_thick_49 : decode cX8_thick 49 = .ok (.invokevirtual 163, 3) := by decide +kernel
theorem dX8_thick_52 : decode cX8_thick 52 = .ok (.isub, 1) := by decide +kernel
theorem dX8_thick_53 : decode cX8_thick 53 = .ok (.istore_n 3, 1) := by decide +kernel
theorem dX8_thick_54 : decode cX8_thick 54 = .ok (.iload_n 3, 1) := by decide +kernel
theorem dX8_thick_55 : decode cX8_thick 55 = .ok (.iload_n 2, 1) := by decide +kernel
theorem dX8_thick_56 : decode cX8_thick 56 = .ok (.idiv, 1) := by decide +kernel
theorem dX8_thick_57 : decode cX8_thick 57 = .ok (.iload_n 1, 1) := by decide +kernel
theorem dX8_thick_58 : decode cX8_thick 58 = .ok (.iload_n 3, 1) := by decide +kernel
theorem dX8_thick_59 : decode cX8_thick 59 = .ok (.iload_n 2, 1) := by decide +kernel
theorem dX8_thick_60 : decode cX8_thick 60 = .ok (.irem, 1) := by decide +kernel
theorem dX8_thick_61 : decode cX8_thick 61 = .ok (.if_icmp .ge 7, 3) := by decide +kernel
theorem dX8_thick_64 : decode cX8_thick 64 = .ok (.iconst 1, 1) := by decide +kernel
theorem dX8_thick_65 : decode cX8_thick 65 = .ok (.goto 4, 3) := by decide +kernel
theorem dX8_thick_68 : decode cX8_thick 68 = .ok (.iconst 0, 1) := by decide +kernel
theorem dX8_thick_69 : decode cX8_thick 69 = .ok (.iadd, 1) := by decide +kernel
theorem dX8_thick_70 : decode cX8_thick 70 = .ok (.ireturn, 1) := by decide +kernel
theorem dX8_cast_0 : decode cX8_cast 0 = .ok (.aload_n 0, 1) := by decide +kernel
theorem dX8_cast_1 : decode cX8_cast 1 = .ok (.getfield 135, 3) := by decide +kernel
theorem dX8_cast_4 : decode cX8_cast 4 = .ok (.ifCond .le 6, 3) := by decide +kernel
theorem dX8_cast_7 : decode cX8_cast 7 = .ok (.bipush (-2), 2) := by decide +kernel
theorem dX8_cast_9 : decode cX8_cast 9 = .ok (.ireturn, 1) := by decide +kernel
theorem dX8_cast_10 : decode cX8_cast 10 = .ok (.aload_n 0, 1) := by decide +kernel
theorem dX8_cast_11 : decode cX8_cast 11 = .ok (.getfield 141, 3) := by decide +kernel
theorem dX8_cast_14 : decode cX8_cast 14 = .ok (.ifCond .ne 6, 3) := by decide +kernel
theorem dX8_cast_17 : decode cX8_cast 17 = .ok (.bipush (-4), 2) := by decide +kernel
theorem dX8_cast_19 : decode cX8_cast 19 = .ok (.ireturn, 1) := by decide +kernel
theorem dX8_cast_20 : decode cX8_cast 20 = .ok (.aload_n 0, 1) := by decide +kernel
theorem dX8_cast_21 : decode cX8_cast 21 = .ok (.aload_n 0, 1) := by decide +kernel
theorem dX8_cast_22 : decode cX8_cast 22 = .ok (.invokevirtual 163, 3) := by decide +kernel
theorem dX8_cast_25 : decode cX8_cast 25 = .ok (.aload_n 0, 1) := by decide +kernel
theorem dX8_cast_26 : decode cX8_cast 26 = .ok (.invokevirtual 167, 3) := by decide +kernel
theorem dX8_cast_29 : decode cX8_cast 29 = .ok (.invokevirtual 170, 3) := by decide +kernel
theorem dX8_cast_32 : decode cX8_cast 32 = .ok (.ifCond .eq 6, 3) := by decide +kernel
theorem dX8_cast_35 : decode cX8_cast 35 = .ok (.bipush (-2), 2) := by decide +kernel
theorem dX8_cast_37 : decode cX8_cast 37 = .ok (.ireturn, 1) := by decide +kernel
theorem dX8_cast_38 : decode cX8_cast 38 = .ok (.aload_n 0, 1) := by decide +kernel
theorem dX8_cast_39 : decode cX8_cast 39 = .ok (.getfield 173, 3) := by decide +kernel
theorem dX8_cast_42 : decode cX8_cast 42 = .ok (.bipush 40, 2) := by decide +kernel
theorem dX8_cast_44 : decode cX8_cast 44 = .ok (.if_icmp .ne 6, 3) := by decide +kernel
theorem dX8_cast_47 : decode cX8_cast 47 = .ok (.bipush (-3), 2) := by decide +kernel
theorem dX8_cast_49 : decode cX8_cast 49 = .ok (.ireturn, 1) := by decide +kernel
theorem dX8_cast_50 : decode cX8_cast 50 = .ok (.iconst 0, 1) := by decide +kernel
theorem dX8_cast_51 : decode cX8_cast 51 = .ok (.istore_n 1, 1) := by decide +kernel
theorem dX8_cast_52 : decode cX8_cast 52 = .ok (.iconst 0, 1) := by decide +kernel
theorem dX8_cast_53 : decode cX8_cast 53 = .ok (.istore_n 2, 1) := by decide +kernel
theorem dX8_cast_54 : decode cX8_cast 54 = .ok (.iload_n 2, 1) := by decide +kernel
theorem dX8_cast_55 : decode cX8_cast 55 = .ok (.aload_n 0, 1) := by decide +kernel
theorem dX8_cast_56 : decode cX8_cast 56 = .ok (.getfield 141, 3) := by decide +kernel
theorem dX8_cast_59 : decode cX8_cast 59 = .ok (.if_icmp .ge 138, 3) := by decide +kernel
theorem dX8_cast_62 : decode cX8_cast 62 = .ok (.aload_n 0, 1) := by decide +kernel
theorem dX8_cast_63 : decode cX8_cast 63 = .ok (.getfield 40, 3) := by decide +kernel
theorem dX8_cast_66 : decode cX8_cast 66 = .ok (.iload_n 2, 1) := by decide +kernel
theorem dX8_cast_67 : decode cX8_cast 67 = .ok (.iaload, 1) := by decide +kernel
theorem dX8_cast_68 : decode cX8_cast 68 = .ok (.istore_n 3, 1) := by decide +kernel
theorem dX8_cast_69 : decode cX8_cast 69 = .ok (.aload_n 0, 1) := by decide +kernel
theorem dX8_cast_70 : decode cX8_cast 70 = .ok (.getfield 61, 3) := by decide +kernel
theorem dX8_cast_73 : decode cX8_cast 73 = .ok (.bipush 24, 2) := by decide +kernel
theorem dX8_cast_75 : decode cX8_cast 75 = .ok (.aload_n 0, 1) := by decide +kernel
theorem dX8_cast_76 : decode cX8_cast 76 = .ok (.getfield 173, 3) := by decide +kernel
theorem dX8_cast_79 : decode cX8_cast 79 = .ok (.imul, 1) := by decide +kernel
theorem dX8_cast_80 : decode cX8_cast 80 = .ok (.iload_n 2, 1) := by decide +kernel
theorem dX8_cast_81 : decode cX8_cast 81 = .ok (.iadd, 1) := by decide +kernel
theorem dX8_cast_82 : decode cX8_cast 82 = .ok (.iload_n 3, 1) := by decide +kernel
theorem dX8_cast_83 : decode cX8_cast 83 = .ok (.bipush 100, 2) := by decide +kernel
theorem dX8_cast_85 : decode cX8_cast 85 = .ok (.if_icmp .ne 8, 3) := by decide +kernel
theorem dX8_cast_88 : decode cX8_cast 88 = .ok (.bipush 32, 2) := by decide +kernel
theorem dX8_cast_90 : decode cX8_cast 90 = .ok (.goto 12, 3) := by decide +kernel
theorem dX8_cast_93 : decode cX8_cast 93 = .ok (.bipush 97, 2) := by decide +kernel
theorem dX8_cast_95 : decode cX8_cast 95 = .ok (.aload_n 0, 1) := by decide +kernel
theorem dX8_cast_96 : decode cX8_cast 96 = .ok (.getfield 25, 3) := by decide +kernel
theorem dX8_cast_99 : decode cX8_cast 99 = .ok (.iload_n 3, 1) := by decide +kernel
theorem dX8_cast_100 : decode cX8_cast 100 = .ok (.iaload, 1) := by decide +kernel
theorem dX8_cast_101 : decode cX8_cast 101 = .ok (.iadd, 1) := by decide +kernel
theorem dX8_cast_102 : decode cX8_cast 102 = .ok (.iastore, 1) := by decide +kernel
theorem dX8_cast_103 : decode cX8_cast 103 = .ok (.iload_n 3, 1) := by decide +kernel
theorem dX8_cast_104 : decode cX8_cast 104 = .ok (.bipush 100, 2) := by decide +kernel
theorem dX8_cast_106 : decode cX8_cast 106 = .ok (.if_icmp .eq 85, 3) := by decide +kernel
theorem dX8_cast_109 : decode cX8_cast 109 = .ok (.aload_n 0, 1) := by decide +kernel
theorem dX8_cast_110 : decode cX8_cast 110 = .ok (.getfield 49, 3) := by decide +kernel
theorem dX8_cast_113 : decode cX8_cast 113 = .ok (.aload_n 0, 1) := by decide +kernel
theorem dX8_cast_114 : decode cX8_cast 114 = .ok (.getfield 151, 3) := by decide +kernel
theorem dX8_cast_117 : decode cX8_cast 117 = .ok (.iload_n 3, 1) := by decide +kernel
theorem dX8_cast_118 : decode cX8_cast 118 = .ok (.iastore, 1) := by decide +kernel
theorem dX8_cast_119 : decode cX8_cast 119 = .ok (.aload_n 0, 1) := by decide +kernel
theorem dX8_cast_120 : decode cX8_cast 120 = .ok (.getfield 52, 3) := by decide +kernel
theorem dX8_cast_123 : decode cX8_cast 123 = .ok (.aload_n 0, 1) := by decide +kernel
theorem dX8_cast_124 : decode cX8_cast 124 = .ok (.getfield 151, 3) := by decide +kernel
theorem dX8_cast_127 : decode cX8_cast 127 = .ok (.aload_n 0, 1) := by decide +kernel
theorem dX8_cast_128 : decode cX8_cast 128 = .ok (.aload_n 0, 1) := by decide +kernel
theorem dX8_cast_129 : decode cX8_cast 129 = .ok (.getfield 28, 3) := by decide +kernel
theorem dX8_cast_132 : decode cX8_cast 132 = .ok (.iload_n 3, 1) := by decide +kernel
theorem dX8_cast_133 : decode cX8_cast 133 = .ok (.iaload, 1) := by decide +kernel
theorem dX8_cast_134 : decode cX8_cast 134 = .ok (.invokevirtual 113, 3) := by decide +kernel
theorem dX8_cast_137 : decode cX8_cast 137 = .ok (.iastore, 1) := by decide +kernel
theorem dX8_cast_138 : decode cX8_cast 138 = .ok (.aload_n 0, 1) := by decide +kernel
theorem dX8_cast_139 : decode cX8_cast 139 = .ok (.getfield 55, 3) := by decide +kernel
theorem dX8_cast_142 : decode cX8_cast 142 = .ok (.aload_n 0, 1) := by decide +kernel
theorem dX8_cast_143 : decode cX8_cast 143 = .ok (.getfield 151, 3) := by decide +kernel
theorem dX8_cast_146 : decode cX8_cast 146 = .ok (.aload_n 0, 1) := by decide +kernel
theorem dX8_cast_147 : decode cX8_cast 147 = .ok (.getfield 138, 3) := by decide +kernel
theorem dX8_cast_150 : decode cX8_cast 150 = .ok (.aload_n 0, 1) := by decide +kernel
theorem dX8_cast_151 : decode cX8_cast 151 = .ok (.getfield 22, 3) := by decide +kernel
theorem dX8_cast_154 : decode cX8_cast 154 = .ok (.iconst 3, 1) := by decide +kernel
theorem dX8_cast_155 : decode cX8_cast 155 = .ok (.iaload, 1) := by decide +kernel
theorem dX8_cast_156 : decode cX8_cast 156 = .ok (.iadd, 1) := by decide +kernel
theorem dX8_cast_157 : decode cX8_cast 157 = .ok (.iload_n 1, 1) := by decide +kernel
theorem dX8_cast_158 : decode cX8_cast 158 = .ok (.iadd, 1) := by decide +kernel
theorem dX8_cast_159 : decode cX8_cast 159 = .ok (.aload_n 0, 1) := by decide +kernel
theorem dX8_cast_160 : decode cX8_cast 160 = .ok (.getfield 52, 3) := by decide +kernel
theorem dX8_cast_163 : decode cX8_cast 163 = .ok (.aload_n 0, 1) := by decide +kernel
theorem dX8_cast_164 : decode cX8_cast 164 = .ok (.getfield 151, 3) := by decide +kernel
theorem dX8_cast_167 : decode cX8_cast 167 = .ok (.iaload, 1) := by decide +kernel
theorem dX8_cast_168 : decode cX8_cast 168 = .ok (.iadd, 1) := by decide +kernel
theorem dX8_cast_169 : decode cX8_cast 169 = .ok (.iastore, 1) := by decide +kernel
theorem dX8_cast_170 : decode cX8_cast 170 = .ok (.aload_n 0, 1) := by decide +kernel
theorem dX8_cast_171 : decode cX8_cast 171 = .ok (.getfield 31, 3) := by decide +kernel
theorem dX8_cast_174 : decode cX8_cast 174 = .ok (.iload_n 3, 1) := by decide +kernel
theorem dX8_cast_175 : decode cX8_cast 175 = .ok (.bipush 14, 2) := by decide +kernel
theorem dX8_cast_177 : decode cX8_cast 177 = .ok (.iastore, 1) := by decide +kernel
theorem dX8_cast_178 : decode cX8_cast 178 = .ok (.aload_n 0, 1) := by decide +kernel
theorem dX8_cast_179 : decode cX8_cast 179 = .ok (.dup, 1) := by decide +kernel
theorem dX8_cast_180 : decode cX8_cast 180 = .ok (.getfield 151, 3) := by decide +kernel
theorem dX8_cast_183 : decode cX8_cast 183 = .ok (.iconst 1, 1) := by decide +kernel
theorem dX8_cast_184 : decode cX8_cast 184 = .ok (.iadd, 1) := by decide +kernel
theorem dX8_cast_185 : decode cX8_cast 185 = .ok (.putfield 151, 3) := by decide +kernel
theorem dX8_cast_188 : decode cX8_cast 188 = .ok (.iinc 1 1, 3) := by decide +kernel
theorem dX8_cast_191 : decode cX8_cast 191 = .ok (.iinc 2 1, 3) := by decide +kernel
theorem dX8_cast_194 : decode cX8_cast 194 = .ok (.goto (-140), 3) := by decide +kernel
theorem dX8_cast_197 : decode cX8_cast 197 = .ok (.aload_n 0, 1) := by decide +kernel
theorem dX8_cast_198 : decode cX8_cast 198 = .ok (.getfield 58, 3) := by decide +kernel
theorem dX8_cast_201 : decode cX8_cast 201 = .ok (.aload_n 0, 1) := by decide +kernel
theorem dX8_cast_202 : decode cX8_cast 202 = .ok (.getfield 173, 3) := by decide +kernel
theorem dX8_cast_205 : decode cX8_cast 205 = .ok (.aload_n 0, 1) := by decide +kernel
theorem dX8_cast_206 : decode cX8_cast 206 = .ok (.getfield 141, 3) := by decide +kernel
theorem dX8_cast_209 : decode cX8_cast 209 = .ok (.iastore, 1) := by decide +kernel
theorem dX8_cast_210 : decode cX8_cast 210 = .ok (.aload_n 0, 1) := by decide +kernel
theorem dX8_cast_211 : decode cX8_cast 211 = .ok (.dup, 1) := by decide +kernel
theorem dX8_cast_212 : decode cX8_cast 212 = .ok (.getfield 173, 3) := by decide +kernel
theorem dX8_cast_215 : decode cX8_cast 215 = .ok (.iconst 1, 1) := by decide +kernel
theorem dX8_cast_216 : decode cX8_cast 216 = .ok (.iadd, 1) := by decide +kernel
theorem dX8_cast_217 : decode cX8_cast 217 = .ok (.putfield 173, 3) := by decide +kernel
theorem dX8_cast_220 : decode cX8_cast 220 = .ok (.aload_n 0, 1) := by decide +kernel
theorem dX8_cast_221 : decode cX8_cast 221 = .ok (.iconst 0, 1) := by decide +kernel
theorem dX8_cast_222 : decode cX8_cast 222 = .ok (.putfield 141, 3) := by decide +kernel
theorem dX8_cast_225 : decode cX8_cast 225 = .ok (.aload_n 0, 1) := by decide +kernel
theorem dX8_cast_226 : decode cX8_cast 226 = .ok (.iconst 0, 1) := by decide +kernel
theorem dX8_cast_227 : decode cX8_cast 227 = .ok (.putfield 148, 3) := by decide +kernel
theorem dX8_cast_230 : decode cX8_cast 230 = .ok (.aload_n 0, 1) := by decide +kernel
theorem dX8_cast_231 : decode cX8_cast 231 = .ok (.getfield 173, 3) := by decide +kernel
theorem dX8_cast_234 : decode cX8_cast 234 = .ok (.iconst 1, 1) := by decide +kernel
theorem dX8_cast_235 : decode cX8_cast 235 = .ok (.isub, 1) := by decide +kernel
theorem dX8_cast_236 : decode cX8_cast 236 = .ok (.ireturn, 1) := by decide +kernel
theorem dX8_clear_0 : decode cX8_clear 0 = .ok (.aload_n 0, 1) := by decide +kernel
theorem dX8_clear_1 : decode cX8_clear 1 = .ok (.getfield 135, 3) := by decide +kernel
theorem dX8_clear_4 : decode cX8_clear 4 = .ok (.ifCond .le 6, 3) := by decide +kernel
theorem dX8_clear_7 : decode cX8_clear 7 = .ok (.bipush (-2), 2) := by decide +kernel
theorem dX8_clear_9 : decode cX8_clear 9 = .ok (.ireturn, 1) := by decide +kernel
theorem dX8_clear_10 : decode cX8_clear 10 = .ok (.iconst 0, 1) := by decide +kernel
theorem dX8_clear_11 : decode cX8_clear 11 = .ok (.istore_n 1, 1) := by decide +kernel
theorem dX8_clear_12 : decode cX8_clear 12 = .ok (.iconst 0, 1) := by decide +kernel
theorem dX8_clear_13 : decode cX8_clear 13 = .ok (.istore_n 2, 1) := by decide +kernel
theorem dX8_clear_14 : decode cX8_clear 14 = .ok (.iload_n 2, 1) := by decide +kernel
theorem dX8_clear_15 : decode cX8_clear 15 = .ok (.aload_n 0, 1) := by decide +kernel
theorem dX8_clear_16 : decode cX8_clear 16 = .ok (.getfield 141, 3) := by decide +kernel
theorem dX8_clear_19 : decode cX8_clear 19 = .ok (.if_icmp .ge 36, 3) := by decide +kernel
theorem dX8_clear_22 : decode cX8_clear 22 = .ok (.aload_n 0, 1) := by decide +kernel
theorem dX8_clear_23 : decode cX8_clear 23 = .ok (.getfield 40, 3) := by decide +kernel
theorem dX8_clear_26 : decode cX8_clear 26 = .ok (.iload_n 2, 1) := by decide +kernel
theorem dX8_clear_27 : decode cX8_clear 27 = .ok (.iaload, 1) := by decide +kernel
theorem dX8_clear_28 : decode cX8_clear 28 = .ok (.bipush 100, 2) := by decide +kernel
theorem dX8_clear_30 : decode cX8_clear 30 = .ok (.if_icmp .eq 19, 3) := by decide +kernel
theorem dX8_clear_33 : decode cX8_clear 33 = .ok (.aload_n 0, 1) := by decide +kernel
theorem dX8_clear_34 : decode cX8_clear 34 = .ok (.getfield 31, 3) := by decide +kernel
theorem dX8_clear_37 : decode cX8_clear 37 = .ok (.aload_n 0, 1) := by decide +kernel
theorem dX8_clear_38 : decode cX8_clear 38 = .ok (.getfield 40, 3) := by decide +kernel
theorem dX8_clear_41 : decode cX8_clear 41 = .ok (.iload_n 2, 1) := by decide +kernel
theorem dX8_clear_42 : decode cX8_clear 42 = .ok (.iaload, 1) := by decide +kernel
theorem dX8_clear_43 : decode cX8_clear 43 = .ok (.bipush 12, 2) := by decide +kernel
theorem dX8_clear_45 : decode cX8_clear 45 = .ok (.iastore, 1) := by decide +kernel
theorem dX8_clear_46 : decode cX8_clear 46 = .ok (.iinc 1 1, 3) := by decide +kernel
theorem dX8_clear_49 : decode cX8_clear 49 = .ok (.iinc 2 1, 3) := by decide +kernel
theorem dX8_clear_52 : decode cX8_clear 52 = .ok (.goto (-38), 3) := by decide +kernel
theorem dX8_clear_55 : decode cX8_clear 55 = .ok (.aload_n 0, 1) := by decide +kernel
theorem dX8_clear_56 : decode cX8_clear 56 = .ok (.iconst 0, 1) := by decide +kernel
theorem dX8_clear_57 : decode cX8_clear 57 = .ok (.putfield 141, 3) := by decide +kernel
theorem dX8_clear_60 : decode cX8_clear 60 = .ok (.aload_n 0, 1) := by decide +kernel
theorem dX8_clear_61 : decode cX8_clear 61 = .ok (.iconst 0, 1) := by decide +kernel
theorem dX8_clear_62 : decode cX8_clear 62 = .ok (.putfield 148, 3) := by decide +kernel
theorem dX8_clear_65 : decode cX8_clear 65 = .ok (.iload_n 1, 1) := by decide +kernel
theorem dX8_clear_66 : decode cX8_clear 66 = .ok (.ireturn, 1) := by decide +kernel
theorem dX8_slug_0 : decode cX8_slug 0 = .ok (.iload_n 1, 1) := by decide +kernel
theorem dX8_slug_1 : decode cX8_slug 1 = .ok (.i2l, 1) := by decide +kernel
theorem dX8_slug_2 : decode cX8_slug 2 = .ok (.lconst 0, 1) := by decide +kernel
theorem dX8_slug_3 : decode cX8_slug 3 = .ok (.aload_n 0, 1) := by decide +kernel
theorem dX8_slug_4 : decode cX8_slug 4 = .ok (.getfield 173, 3) := by decide +kernel
theorem dX8_slug_7 : decode cX8_slug 7 = .ok (.iconst 1, 1) := by decide +kernel
theorem dX8_slug_8 : decode cX8_slug 8 = .ok (.isub, 1) := by decide +kernel
theorem dX8_slug_9 : decode cX8_slug 9 = .ok (.i2l, 1) := by decide +kernel
theorem dX8_slug_10 : decode cX8_slug 10 = .ok (.invokestatic 87, 3) := by decide +kernel
theorem dX8_slug_13 : decode cX8_slug 13 = .ok (.ifCond .eq 18, 3) := by decide +kernel
theorem dX8_slug_16 : decode cX8_slug 16 = .ok (.iload_n 2, 1) := by decide +kernel
theorem dX8_slug_17 : decode cX8_slug 17 = .ok (.iconst (-1), 1) := by decide +kernel
theorem dX8_slug_18 : decode cX8_slug 18 = .ok (.if_icmp .lt 13, 3) := by decide +kernel
theorem dX8_slug_21 : decode cX8_slug 21 = .ok (.iload_n 2, 1) := by decide +kernel
theorem dX8_slug_22 : decode cX8_slug 22 = .ok (.aload_n 0, 1) := by decide +kernel
theorem dX8_slug_23 : decode cX8_slug 23 = .ok (.getfield 58, 3) := by decide +kernel
theorem dX8_slug_26 : decode cX8_slug 26 = .ok (.iload_n 1, 1) := by decide +kernel
theorem dX8_slug_27 : decode cX8_slug 27 = .ok (.iaload, 1) := by decide +kernel
theorem dX8_slug_28 : decode cX8_slug 28 = .ok (.if_icmp .lt 5, 3) := by decide +kernel
theorem dX8_slug_31 : decode cX8_slug 31 = .ok (.iconst (-1), 1) := by decide +kernel
theorem dX8_slug_32 : decode cX8_slug 32 = .ok (.ireturn, 1) := by decide +kernel
theorem dX8_slug_33 : decode cX8_slug 33 = .ok (.iload_n 2, 1) := by decide +kernel
theorem dX8_slug_34 : decode cX8_slug 34 = .ok (.ifCond .ge 12, 3) := by decide +kernel
theorem dX8_slug_37 : decode cX8_slug 37 = .ok (.aload_n 0, 1) := by decide +kernel
theorem dX8_slug_38 : decode cX8_slug 38 = .ok (.getfield 58, 3) := by decide +kernel
theorem dX8_slug_41 : decode cX8_slug 41 = .ok (.iload_n 1, 1) := by decide +kernel
theorem dX8_slug_42 : decode cX8_slug 42 = .ok (.iaload, 1) := by decide +kernel
theorem dX8_slug_43 : decode cX8_slug 43 = .ok (.goto 14, 3) := by decide +kernel
theorem dX8_slug_46 : decode cX8_slug 46 = .ok (.aload_n 0, 1) := by decide +kernel
theorem dX8_slug_47 : decode cX8_slug 47 = .ok (.getfield 61, 3) := by decide +kernel
theorem dX8_slug_50 : decode cX8_slug 50 = .ok (.bipush 24, 2) := by decide +kernel
theorem dX8_slug_52 : decode cX8_slug 52 = .ok (.iload_n 1, 1) := by decide +kernel
theorem dX8_slug_53 : decode cX8_slug 53 = .ok (.imul, 1) := by decide +kernel
theorem dX8_slug_54 : decode cX8_slug 54 = .ok (.iload_n 2, 1) := by decide +kernel
theorem dX8_slug_55 : decode cX8_slug 55 = .ok (.iadd, 1) := by decide +kernel
theorem dX8_slug_56 : decode cX8_slug 56 = .ok (.iaload, 1) := by decide +kernel
theorem dX8_slug_57 : decode cX8_slug 57 = .ok (.ireturn, 1) := by decide +kernel
theorem dX8_whereMany_0 : decode cX8_whereMany 0 = .ok (.iconst 0, 1) := by decide +kernel
theorem dX8_whereMany_1 : decode cX8_whereMany 1 = .ok (.istore_n 3, 1) := by decide +kernel
theorem dX8_whereMany_2 : decode cX8_whereMany 2 = .ok (.iconst 0, 1) := by decide +kernel
theorem dX8_whereMany_3 : decode cX8_whereMany 3 = .ok (.istore 4, 2) := by decide +kernel
theorem dX8_whereMany_5 : decode cX8_whereMany 5 = .ok (.iload 4, 2) := by decide +kernel
theorem dX8_whereMany_7 : decode cX8_whereMany 7 = .ok (.aload_n 0, 1) := by decide +kernel
theorem dX8_whereMany_8 : decode cX8_whereMany 8 = .ok (.getfield 122, 3) := by decide +kernel
theorem dX8_whereMany_11 : decode cX8_whereMany 11 = .ok (.if_icmp .ge 35, 3) := by decide +kernel
theorem dX8_whereMany_14 : decode cX8_whereMany 14 = .ok (.iload_n 3, 1) := by decide +kernel
theorem dX8_whereMany_15 : decode cX8_whereMany 15 = .ok (.aload_n 0, 1) := by decide +kernel
theorem dX8_whereMany_16 : decode cX8_whereMany 16 = .ok (.getfield 31, 3) := by decide +kernel
theorem dX8_whereMany_19 : decode cX8_whereMany 19 = .ok (.iload 4, 2) := by decide +kernel
theorem dX8_whereMany_21 : decode cX8_whereMany 21 = .ok (.iaload, 1) := by decide +kernel
theorem dX8_whereMany_22 : decode cX8_whereMany 22 = .ok (.i2l, 1) := by decide +kernel
theorem dX8_whereMany_23 : decode cX8_whereMany 23 = .ok (.iload_n 1, 1) := by decide +kernel
theorem dX8_whereMany_24 : decode cX8_whereMany 24 = .ok (.i2l, 1) := by decide +kernel
theorem dX8_whereMany_25 : decode cX8_whereMany 25 = .ok (.iload_n 2, 1) := by decide +kernel
theorem dX8_whereMany_26 : decode cX8_whereMany 26 = .ok (.i2l, 1) := by decide +kernel
theorem dX8_whereMany_27 : decode cX8_whereMany 27 = .ok (.invokestatic 87, 3) := by decide +kernel
theorem dX8_whereMany_30 : decode cX8_whereMany 30 = .ok (.ifCond .eq 7, 3) := by decide +kernel
theorem dX8_whereMany_33 : decode cX8_whereMany 33 = .ok (.iconst 1, 1) := by decide +kernel
theorem dX8_whereMany_34 : decode cX8_whereMany 34 = .ok (.goto 4, 3) := by decide +kernel
theorem dX8_whereMany_37 : decode cX8_whereMany 37 = .ok (.iconst 0, 1) := by decide +kernel
theorem dX8_whereMany_38 : decode cX8_whereMany 38 = .ok (.iadd, 1) := by decide +kernel
theorem dX8_whereMany_39 : decode cX8_whereMany 39 = .ok (.istore_n 3, 1) := by decide +kernel
theorem dX8_whereMany_40 : decode cX8_whereMany 40 = .ok (.iinc 4 1, 3) := by decide +kernel
theorem dX8_whereMany_43 : decode cX8_whereMany 43 = .ok (.goto (-38), 3) := by decide +kernel
theorem dX8_whereMany_46 : decode cX8_whereMany 46 = .ok (.iload_n 3, 1) := by decide +kernel
theorem dX8_whereMany_47 : decode cX8_whereMany 47 = .ok (.ireturn, 1) := by decide +kernel
theorem dX8_count_0 : decode cX8_count 0 = .ok (.iload_n 1, 1) := by decide +kernel
theorem dX8_count_1 : decode cX8_count 1 = .ok (.tableswitch 114 0 8 #[51, 56, 64, 73, 82, 91, 96, 104, 109], 51) := by decide +kernel
theorem dX8_count_52 : decode cX8_count 52 = .ok (.aload_n 0, 1) := by decide +kernel
theorem dX8_count_53 : decode cX8_count 53 = .ok (.getfield 122, 3) := by decide +kernel
theorem dX8_count_56 : decode cX8_count 56 = .ok (.ireturn, 1) := by decide +kernel
theorem dX8_count_57 : decode cX8_count 57 = .ok (.aload_n 0, 1) := by decide +kernel
theorem dX8_count_58 : decode cX8_count 58 = .ok (.iconst 0, 1) := by decide +kernel
theorem dX8_count_59 : decode cX8_count 59 = .ok (.bipush 11, 2) := by decide +kernel
theorem dX8_count_61 : decode cX8_count 61 = .ok (.invokevirtual 176, 3) := by decide +kernel
theorem dX8_count_64 : decode cX8_count 64 = .ok (.ireturn, 1) := by decide +kernel
theorem dX8_count_65 : decode cX8_count 65 = .ok (.aload_n 0, 1) := by decide +kernel
theorem dX8_count_66 : decode cX8_count 66 = .ok (.bipush 12, 2) := by decide +kernel
theorem dX8_count_68 : decode cX8_count 68 = .ok (.bipush 12, 2) := by decide +kernel
theorem dX8_count_70 : decode cX8_count 70 = .ok (.invokevirtual 176, 3) := by decide +kernel
theorem dX8_count_73 : decode cX8_count 73 = .ok (.ireturn, 1) := by decide +kernel
theorem dX8_count_74 : decode cX8_count 74 = .ok (.aload_n 0, 1) := by decide +kernel
theorem dX8_count_75 : decode cX8_count 75 = .ok (.bipush 13, 2) := by decide +kernel
theorem dX8_count_77 : decode cX8_count 77 = .ok (.bipush 13, 2) := by decide +kernel
theorem dX8_count_79 : decode cX8_count 79 = .ok (.invokevirtual 176, 3) := by decide +kernel
theorem dX8_count_82 : decode cX8_count 82 = .ok (.ireturn, 1) := by decide +kernel
theorem dX8_count_83 : decode cX8_count 83 = .ok (.aload_n 0, 1) := by decide +kernel
theorem dX8_count_84 : decode cX8_count 84 = .ok (.bipush 14, 2) := by decide +kernel
theorem dX8_count_86 : decode cX8_count 86 = .ok (.bipush 14, 2) := by decide +kernel
theorem dX8_count_88 : decode cX8_count 88 = .ok (.invokevirtual 176, 3) := by decide +kernel
theorem dX8_count_91 : decode cX8_count 91 = .ok (.ireturn, 1) := by decide +kernel
theorem dX8_count_92 : decode cX8_count 92 = .ok (.aload_n 0, 1) := by decide +kernel
theorem dX8_count_93 : decode cX8_count 93 = .ok (.getfield 173, 3) := by decide +kernel
theorem dX8_count_96 : decode cX8_count 96 = .ok (.ireturn, 1) := by decide +kernel
theorem dX8_count_97 : decode cX8_count 97 = .ok (.bipush 12, 2) := by decide +kernel
theorem dX8_count_99 : decode cX8_count 99 = .ok (.aload_n 0, 1) := by decide +kernel
theorem dX8_count_100 : decode cX8_count 100 = .ok (.getfield 148, 3) := by decide +kernel
theorem dX8_count_103 : decode cX8_count 103 = .ok (.isub, 1) := by decide +kernel
theorem dX8_count_104 : decode cX8_count 104 = .ok (.ireturn, 1) := by decide +kernel
theorem dX8_count_105 : decode cX8_count 105 = .ok (.aload_n 0, 1) := by decide +kernel
theorem dX8_count_106 : decode cX8_count 106 = .ok (.getfield 154, 3) := by decide +kernel
theorem dX8_count_109 : decode cX8_count 109 = .ok (.ireturn, 1) := by decide +kernel
theorem dX8_count_110 : decode cX8_count 110 = .ok (.aload_n 0, 1) := by decide +kernel
theorem dX8_count_111 : decode cX8_count 111 = .ok (.getfield 138, 3) := by decide +kernel
theorem dX8_count_114 : decode cX8_count 114 = .ok (.ireturn, 1) := by decide +kernel
theorem dX8_count_115 : decode cX8_count 115 = .ok (.iconst (-1), 1) := by decide +kernel
theorem dX8_count_116 : decode cX8_count 116 = .ok (.ireturn, 1) := by decide +kernel
theorem dX8_reachOf_0 : decode cX8_reachOf 0 = .ok (.iload_n 1, 1) := by decide +kernel
theorem dX8_reachOf_1 : decode cX8_reachOf 1 = .ok (.bipush 12, 2) := by decide +kernel
theorem dX8_reachOf_3 : decode cX8_reachOf 3 = .ok (.if_icmp .ne 7, 3) := by decide +kernel
theorem dX8_reachOf_6 : decode cX8_reachOf 6 = .ok (.iconst 0, 1) := by decide +kernel
theorem dX8_reachOf_7 : decode cX8_reachOf 7 = .ok (.goto 9, 3) := by decide +kernel
theorem dX8_reachOf_10 : decode cX8_reachOf 10 = .ok (.aload_n 0, 1) := by decide +kernel
theorem dX8_reachOf_11 : decode cX8_reachOf 11 = .ok (.getfield 19, 3) := by decide +kernel
theorem dX8_reachOf_14 : decode cX8_reachOf 14 = .ok (.iload_n 1, 1) := by decide +kernel
theorem dX8_reachOf_15 : decode cX8_reachOf 15 = .ok (.iaload, 1) := by decide +kernel
theorem dX8_reachOf_16 : decode cX8_reachOf 16 = .ok (.ireturn, 1) := by decide +kernel
theorem dX8_takes_0 : decode cX8_takes 0 = .ok (.aload_n 0, 1) := by decide +kernel
theorem dX8_takes_1 : decode cX8_takes 1 = .ok (.iload_n 1, 1) := by decide +kernel
theorem dX8_takes_2 : decode cX8_takes 2 = .ok (.iload_n 2, 1) := by decide +kernel
theorem dX8_takes_3 : decode cX8_takes 3 = .ok (.iload_n 3, 1) := by decide +kernel
theorem dX8_takes_4 : decode cX8_takes 4 = .ok (.iload 4, 2) := by decide +kernel
theorem dX8_takes_6 : decode cX8_takes 6 = .ok (.invokevirtual 107, 3) := by decide +kernel
theorem dX8_takes_9 : decode cX8_takes 9 = .ok (.istore 5, 2) := by decide +kernel
theorem dX8_takes_11 : decode cX8_takes 11 = .ok (.iconst 0, 1) := by decide +kernel
theorem dX8_takes_12 : decode cX8_takes 12 = .ok (.istore 6, 2) := by decide +kernel
theorem dX8_takes_14 : decode cX8_takes 14 = .ok (.iload 6, 2) := by decide +kernel
theorem dX8_takes_16 : decode cX8_takes 16 = .ok (.iload 4, 2) := by decide +kernel
theorem dX8_takes_18 : decode cX8_takes 18 = .ok (.if_icmp .ge 61, 3) := by decide +kernel
theorem dX8_takes_21 : decode cX8_takes 21 = .ok (.iload 5, 2) := by decide +kernel
theorem dX8_takes_23 : decode cX8_takes 23 = .ok (.ifCond .ne 56, 3) := by decide +kernel
theorem dX8_takes_26 : decode cX8_takes 26 = .ok (.aload_n 0, 1) := by decide +kernel
theorem dX8_takes_27 : decode cX8_takes 27 = .ok (.getfield 64, 3) := by decide +kernel
theorem dX8_takes_30 : decode cX8_takes 30 = .ok (.iload 6, 2) := by decide +kernel
theorem dX8_takes_32 : decode cX8_takes 32 = .ok (.aload_n 0, 1) := by decide +kernel
theorem dX8_takes_33 : decode cX8_takes 33 = .ok (.getfield 79, 3) := by decide +kernel
theorem dX8_takes_36 : decode cX8_takes 36 = .ok (.bipush 40, 2) := by decide +kernel
theorem dX8_takes_38 : decode cX8_takes 38 = .ok (.iload_n 1, 1) := by decide +kernel
theorem dX8_takes_39 : decode cX8_takes 39 = .ok (.imul, 1) := by decide +kernel
theorem dX8_takes_40 : decode cX8_takes 40 = .ok (.iload_n 3, 1) := by decide +kernel
theorem dX8_takes_41 : decode cX8_takes 41 = .ok (.iadd, 1) := by decide +kernel
theorem dX8_takes_42 : decode cX8_takes 42 = .ok (.iload 6, 2) := by decide +kernel
theorem dX8_takes_44 : decode cX8_takes 44 = .ok (.iadd, 1) := by decide +kernel
theorem dX8_takes_45 : decode cX8_takes 45 = .ok (.iaload, 1) := by decide +kernel
theorem dX8_takes_46 : decode cX8_takes 46 = .ok (.iastore, 1) := by decide +kernel
theorem dX8_takes_47 : decode cX8_takes 47 = .ok (.aload_n 0, 1) := by decide +kernel
theorem dX8_takes_48 : decode cX8_takes 48 = .ok (.getfield 64, 3) := by decide +kernel
theorem dX8_takes_51 : decode cX8_takes 51 = .ok (.iload 6, 2) := by decide +kernel
theorem dX8_takes_53 : decode cX8_takes 53 = .ok (.iaload, 1) := by decide +kernel
theorem dX8_takes_54 : decode cX8_takes 54 = .ok (.i2l, 1) := by decide +kernel
theorem dX8_takes_55 : decode cX8_takes 55 = .ok (.lconst 0, 1) := by decide +kernel
theorem dX8_takes_56 : decode cX8_takes 56 = .ok (.ldc2_w 117, 3) := by decide +kernel
theorem dX8_takes_59 : decode cX8_takes 59 = .ok (.invokestatic 87, 3) := by decide +kernel
theorem dX8_takes_62 : decode cX8_takes 62 = .ok (.ifCond .eq 7, 3) := by decide +kernel
theorem dX8_takes_65 : decode cX8_takes 65 = .ok (.iconst 0, 1) := by decide +kernel
theorem dX8_takes_66 : decode cX8_takes 66 = .ok (.goto 5, 3) := by decide +kernel
theorem dX8_takes_69 : decode cX8_takes 69 = .ok (.bipush (-2), 2) := by decide +kernel
theorem dX8_takes_71 : decode cX8_takes 71 = .ok (.istore 5, 2) := by decide +kernel
theorem dX8_takes_73 : decode cX8_takes 73 = .ok (.iinc 6 1, 3) := by decide +kernel
theorem dX8_takes_76 : decode cX8_takes 76 = .ok (.goto (-62), 3) := by decide +kernel
theorem dX8_takes_79 : decode cX8_takes 79 = .ok (.iload 5, 2) := by decide +kernel
theorem dX8_takes_81 : decode cX8_takes 81 = .ok (.ireturn, 1) := by decide +kernel
theorem dX8_lays_0 : decode cX8_lays 0 = .ok (.iconst 0, 1) := by decide +kernel
theorem dX8_lays_1 : decode cX8_lays 1 = .ok (.istore_n 3, 1) := by decide +kernel
theorem dX8_lays_2 : decode cX8_lays 2 = .ok (.iload_n 3, 1) := by decide +kernel
theorem dX8_lays_3 : decode cX8_lays 3 = .ok (.iload_n 1, 1) := by decide +kernel
theorem dX8_lays_4 : decode cX8_lays 4 = .ok (.if_icmp .ge 29, 3) := by decide +kernel
theorem dX8_lays_7 : decode cX8_lays 7 = .ok (.aload_n 0, 1) := by decide +kernel
theorem dX8_lays_8 : decode cX8_lays 8 = .ok (.getfield 67, 3) := by decide +kernel
theorem dX8_lays_11 : decode cX8_lays 11 = .ok (.iload_n 3, 1) := by decide +kernel
theorem dX8_lays_12 : decode cX8_lays 12 = .ok (.iload_n 2, 1) := by decide +kernel
theorem dX8_lays_13 : decode cX8_lays 13 = .ok (.iload_n 3, 1) := by decide +kernel
theorem dX8_lays_14 : decode cX8_lays 14 = .ok (.imul, 1) := by decide +kernel
theorem dX8_lays_15 : decode cX8_lays 15 = .ok (.aload_n 0, 1) := by decide +kernel
theorem dX8_lays_16 : decode cX8_lays 16 = .ok (.aload_n 0, 1) := by decide +kernel
theorem dX8_lays_17 : decode cX8_lays 17 = .ok (.getfield 64, 3) := by decide +kernel
theorem dX8_lays_20 : decode cX8_lays 20 = .ok (.iload_n 3, 1) := by decide +kernel
theorem dX8_lays_21 : decode cX8_lays 21 = .ok (.iaload, 1) := by decide +kernel
theorem dX8_lays_22 : decode cX8_lays 22 = .ok (.invokevirtual 179, 3) := by decide +kernel
theorem dX8_lays_25 : decode cX8_lays 25 = .ok (.iadd, 1) := by decide +kernel
theorem dX8_lays_26 : decode cX8_lays 26 = .ok (.iastore, 1) := by decide +kernel
theorem dX8_lays_27 : decode cX8_lays 27 = .ok (.iinc 3 1, 3) := by decide +kernel
theorem dX8_lays_30 : decode cX8_lays 30 = .ok (.goto (-28), 3) := by decide +kernel
theorem dX8_lays_33 : decode cX8_lays 33 = .ok (.return_, 1) := by decide +kernel
theorem dX8_isRow_0 : decode cX8_isRow 0 = .ok (.iload_n 0, 1) := by decide +kernel
theorem dX8_isRow_1 : decode cX8_isRow 1 = .ok (.invokestatic 101, 3) := by decide +kernel
theorem dX8_isRow_4 : decode cX8_isRow 4 = .ok (.ifCond .eq 38, 3) := by decide +kernel
theorem dX8_isRow_7 : decode cX8_isRow 7 = .ok (.iload_n 1, 1) := by decide +kernel
theorem dX8_isRow_8 : decode cX8_isRow 8 = .ok (.invokestatic 104, 3) := by decide +kernel
theorem dX8_isRow_11 : decode cX8_isRow 11 = .ok (.ifCond .eq 31, 3) := by decide +kernel
theorem dX8_isRow_14 : decode cX8_isRow 14 = .ok (.iload_n 2, 1) := by decide +kernel
theorem dX8_isRow_15 : decode cX8_isRow 15 = .ok (.i2l, 1) := by decide +kernel
theorem dX8_isRow_16 : decode cX8_isRow 16 = .ok (.lconst 1, 1) := by decide +kernel
theorem dX8_isRow_17 : decode cX8_isRow 17 = .ok (.ldc2_w 182, 3) := by decide +kernel
theorem dX8_isRow_20 : decode cX8_isRow 20 = .ok (.invokestatic 87, 3) := by decide +kernel
theorem dX8_isRow_23 : decode cX8_isRow 23 = .ok (.ifCond .eq 19, 3) := by decide +kernel
theorem dX8_isRow_26 : decode cX8_isRow 26 = .ok (.iload_n 3, 1) := by decide +kernel
theorem dX8_isRow_27 : decode cX8_isRow 27 = .ok (.i2l, 1) := by decide +kernel
theorem dX8_isRow_28 : decode cX8_isRow 28 = .ok (.lconst 1, 1) := by decide +kernel
theorem dX8_isRow_29 : decode cX8_isRow 29 = .ok (.ldc2_w 184, 3) := by decide +kernel
theorem dX8_isRow_32 : decode cX8_isRow 32 = .ok (.invokestatic 87, 3) := by decide +kernel
theorem dX8_isRow_35 : decode cX8_isRow 35 = .ok (.ifCond .eq 7, 3) := by decide +kernel
theorem dX8_isRow_38 : decode cX8_isRow 38 = .ok (.iconst 1, 1) := by decide +kernel
theorem dX8_isRow_39 : decode cX8_isRow 39 = .ok (.goto 4, 3) := by decide +kernel
theorem dX8_isRow_42 : decode cX8_isRow 42 = .ok (.iconst 0, 1) := by decide +kernel
theorem dX8_isRow_43 : decode cX8_isRow 43 = .ok (.ireturn, 1) := by decide +kernel
theorem dX8_comes_0 : decode cX8_comes 0 = .ok (.iload_n 1, 1) := by decide +kernel
theorem dX8_comes_1 : decode cX8_comes 1 = .ok (.iload_n 2, 1) := by decide +kernel
theorem dX8_comes_2 : decode cX8_comes 2 = .ok (.iload 4, 2) := by decide +kernel
theorem dX8_comes_4 : decode cX8_comes 4 = .ok (.iload 5, 2) := by decide +kernel
theorem dX8_comes_6 : decode cX8_comes 6 = .ok (.invokestatic 186, 3) := by decide +kernel
theorem dX8_comes_9 : decode cX8_comes 9 = .ok (.ifCond .eq 18, 3) := by decide +kernel
theorem dX8_comes_12 : decode cX8_comes 12 = .ok (.iload 6, 2) := by decide +kernel
theorem dX8_comes_14 : decode cX8_comes 14 = .ok (.i2l, 1) := by decide +kernel
theorem dX8_comes_15 : decode cX8_comes 15 = .ok (.lconst 0, 1) := by decide +kernel
theorem dX8_comes_16 : decode cX8_comes 16 = .ok (.iload 4, 2) := by decide +kernel
theorem dX8_comes_18 : decode cX8_comes 18 = .ok (.iconst 1, 1) := by decide +kernel
theorem dX8_comes_19 : decode cX8_comes 19 = .ok (.isub, 1) := by decide +kernel
theorem dX8_comes_20 : decode cX8_comes 20 = .ok (.i2l, 1) := by decide +kernel
theorem dX8_comes_21 : decode cX8_comes 21 = .ok (.invokestatic 87, 3) := by decide +kernel
theorem dX8_comes_24 : decode cX8_comes 24 = .ok (.ifCond .ne 5, 3) := by decide +kernel
theorem dX8_comes_27 : decode cX8_comes 27 = .ok (.iconst (-1), 1) := by decide +kernel
theorem dX8_comes_28 : decode cX8_comes 28 = .ok (.ireturn, 1) := by decide +kernel
theorem dX8_comes_29 : decode cX8_comes 29 = .ok (.aload_n 0, 1) := by decide +kernel
theorem dX8_comes_30 : decode cX8_comes 30 = .ok (.iload_n 1, 1) := by decide +kernel
theorem dX8_comes_31 : decode cX8_comes 31 = .ok (.iload_n 2, 1) := by decide +kernel
theorem dX8_comes_32 : decode cX8_comes 32 = .ok (.iload_n 3, 1) := by decide +kernel
theorem dX8_comes_33 : decode cX8_comes 33 = .ok (.iload 4, 2) := by decide +kernel
theorem dX8_comes_35 : decode cX8_comes 35 = .ok (.invokevirtual 190, 3) := by decide +kernel
theorem dX8_comes_38 : decode cX8_comes 38 = .ok (.istore 7, 2) := by decide +kernel
theorem dX8_comes_40 : decode cX8_comes 40 = .ok (.iload 7, 2) := by decide +kernel
theorem dX8_comes_42 : decode cX8_comes 42 = .ok (.ifCond .ge 6, 3) := by decide +kernel
theorem dX8_comes_45 : decode cX8_comes 45 = .ok (.iload 7, 2) := by decide +kernel
theorem dX8_comes_47 : decode cX8_comes 47 = .ok (.ireturn, 1) := by decide +kernel
theorem dX8_comes_48 : decode cX8_comes 48 = .ok (.aload_n 0, 1) := by decide +kernel
theorem dX8_comes_49 : decode cX8_comes 49 = .ok (.iload 4, 2) := by decide +kernel
theorem dX8_comes_51 : decode cX8_comes 51 = .ok (.iload 5, 2) := by decide +kernel
theorem dX8_comes_53 : decode cX8_comes 53 = .ok (.invokevirtual 193, 3) := by decide +kernel
theorem dX8_comes_56 : decode cX8_comes 56 = .ok (.bipush (-4), 2) := by decide +kernel
theorem dX8_comes_58 : decode cX8_comes 58 = .ok (.istore 8, 2) := by decide +kernel
theorem dX8_comes_60 : decode cX8_comes 60 = .ok (.iconst 0, 1) := by decide +kernel
theorem dX8_comes_61 : decode cX8_comes 61 = .ok (.istore 9, 2) := by decide +kernel
theorem dX8_comes_63 : decode cX8_comes 63 = .ok (.iload 9, 2) := by decide +kernel
theorem dX8_comes_65 : decode cX8_comes 65 = .ok (.iload 4, 2) := by decide +kernel
theorem dX8_comes_67 : decode cX8_comes 67 = .ok (.if_icmp .ge 95, 3) := by decide +kernel
theorem dX8_comes_70 : decode cX8_comes 70 = .ok (.iconst 0, 1) := by decide +kernel
theorem dX8_comes_71 : decode cX8_comes 71 = .ok (.istore 10, 2) := by decide +kernel
theorem dX8_comes_73 : decode cX8_comes 73 = .ok (.iconst 0, 1) := by decide +kernel
theorem dX8_comes_74 : decode cX8_comes 74 = .ok (.istore 11, 2) := by decide +kernel
theorem dX8_comes_76 : decode cX8_comes 76 = .ok (.iload 11, 2) := by decide +kernel
theorem dX8_comes_78 : decode cX8_comes 78 = .ok (.iload 4, 2) := by decide +kernel
theorem dX8_comes_80 : decode cX8_comes 80 = .ok (.if_icmp .ge 60, 3) := by decide +kernel
theorem dX8_comes_83 : decode cX8_comes 83 = .ok (.iload 10, 2) := by decide +kernel
theorem dX8_comes_85 : decode cX8_comes 85 = .ok (.aload_n 0, 1) := by decide +kernel
theorem dX8_comes_86 : decode cX8_comes 86 = .ok (.getfield 67, 3) := by decide +kernel
theorem dX8_comes_89 : decode cX8_comes 89 = .ok (.iload 11, 2) := by decide +kernel
theorem dX8_comes_91 : decode cX8_comes 91 = .ok (.iaload, 1) := by decide +kernel
theorem dX8_comes_92 : decode cX8_comes 92 = .ok (.aload_n 0, 1) := by decide +kernel
theorem dX8_comes_93 : decode cX8_comes 93 = .ok (.getfield 67, 3) := by decide +kernel
theorem dX8_comes_96 : decode cX8_comes 96 = .ok (.iload 9, 2) := by decide +kernel
theorem dX8_comes_98 : decode cX8_comes 98 = .ok (.iaload, 1) := by decide +kernel
theorem dX8_comes_99 : decode cX8_comes 99 = .ok (.if_icmp .lt 27, 3) := by decide +kernel
theorem dX8_comes_102 : decode cX8_comes 102 = .ok (.aload_n 0, 1) := by decide +kernel
theorem dX8_comes_103 : decode cX8_comes 103 = .ok (.getfield 67, 3) := by decide +kernel
theorem dX8_comes_106 : decode cX8_comes 106 = .ok (.iload 11, 2) := by decide +kernel
theorem dX8_comes_108 : decode cX8_comes 108 = .ok (.iaload, 1) := by decide +kernel
theorem dX8_comes_109 : decode cX8_comes 109 = .ok (.aload_n 0, 1) := by decide +kernel
theorem dX8_comes_110 : decode cX8_comes 110 = .ok (.getfield 67, 3) := by decide +kernel
theorem dX8_comes_113 : decode cX8_comes 113 = .ok (.iload 9, 2) := by decide +kernel
theorem dX8_comes_115 : decode cX8_comes 115 = .ok (.iaload, 1) := by decide +kernel
theorem dX8_comes_116 : decode cX8_comes 116 = .ok (.if_icmp .ne 14, 3) := by decide +kernel
theorem dX8_comes_119 : decode cX8_comes 119 = .ok (.iload 11, 2) := by decide +kernel
theorem dX8_comes_121 : decode cX8_comes 121 = .ok (.iload 9, 2) := by decide +kernel
theorem dX8_comes_123 : decode cX8_comes 123 = .ok (.if_icmp .ge 7, 3) := by decide +kernel
theorem dX8_comes_126 : decode cX8_comes 126 = .ok (.iconst 1, 1) := by decide +kernel
theorem dX8_comes_127 : decode cX8_comes 127 = .ok (.goto 4, 3) := by decide +kernel
theorem dX8_comes_130 : decode cX8_comes 130 = .ok (.iconst 0, 1) := by decide +kernel
theorem dX8_comes_131 : decode cX8_comes 131 = .ok (.iadd, 1) := by decide +kernel
theorem dX8_comes_132 : decode cX8_comes 132 = .ok (.istore 10, 2) := by decide +kernel
theorem dX8_comes_134 : decode cX8_comes 134 = .ok (.iinc 11 1, 3) := by decide +kernel
theorem dX8_comes_137 : decode cX8_comes 137 = .ok (.goto (-61), 3) := by decide +kernel
theorem dX8_comes_140 : decode cX8_comes 140 = .ok (.iload 10, 2) := by decide +kernel
theorem dX8_comes_142 : decode cX8_comes 142 = .ok (.iload 6, 2) := by decide +kernel
theorem dX8_comes_144 : decode cX8_comes 144 = .ok (.if_icmp .ne 8, 3) := by decide +kernel
theorem dX8_comes_147 : decode cX8_comes 147 = .ok (.iload 9, 2) := by decide +kernel
theorem dX8_comes_149 : decode cX8_comes 149 = .ok (.goto 5, 3) := by decide +kernel
theorem dX8_comes_152 : decode cX8_comes 152 = .ok (.iload 8, 2) := by decide +kernel
theorem dX8_comes_154 : decode cX8_comes 154 = .ok (.istore 8, 2) := by decide +kernel
theorem dX8_comes_156 : decode cX8_comes 156 = .ok (.iinc 9 1, 3) := by decide +kernel
theorem dX8_comes_159 : decode cX8_comes 159 = .ok (.goto (-96), 3) := by decide +kernel
theorem dX8_comes_162 : decode cX8_comes 162 = .ok (.iload 8, 2) := by decide +kernel
theorem dX8_comes_164 : decode cX8_comes 164 = .ok (.ireturn, 1) := by decide +kernel
theorem dX8_turnedBy_0 : decode cX8_turnedBy 0 = .ok (.aload_n 0, 1) := by decide +kernel
theorem dX8_turnedBy_1 : decode cX8_turnedBy 1 = .ok (.iload_n 1, 1) := by decide +kernel
theorem dX8_turnedBy_2 : decode cX8_turnedBy 2 = .ok (.iload_n 2, 1) := by decide +kernel
theorem dX8_turnedBy_3 : decode cX8_turnedBy 3 = .ok (.invokevirtual 193, 3) := by decide +kernel
theorem dX8_turnedBy_6 : decode cX8_turnedBy 6 = .ok (.iconst 0, 1) := by decide +kernel
theorem dX8_turnedBy_7 : decode cX8_turnedBy 7 = .ok (.istore_n 3, 1) := by decide +kernel
theorem dX8_turnedBy_8 : decode cX8_turnedBy 8 = .ok (.iconst 0, 1) := by decide +kernel
theorem dX8_turnedBy_9 : decode cX8_turnedBy 9 = .ok (.istore 4, 2) := by decide +kernel
theorem dX8_turnedBy_11 : decode cX8_turnedBy 11 = .ok (.iload 4, 2) := by decide +kernel
theorem dX8_turnedBy_13 : decode cX8_turnedBy 13 = .ok (.iload_n 1, 1) := by decide +kernel
theorem dX8_turnedBy_14 : decode cX8_turnedBy 14 = .ok (.if_icmp .ge 52, 3) := by decide +kernel
theorem dX8_turnedBy_17 : decode cX8_turnedBy 17 = .ok (.iload 4, 2) := by decide +kernel
theorem dX8_turnedBy_19 : decode cX8_turnedBy 19 = .ok (.iconst 1, 1) := by decide +kernel
theorem dX8_turnedBy_20 : decode cX8_turnedBy 20 = .ok (.iadd, 1) := by decide +kernel
theorem dX8_turnedBy_21 : decode cX8_turnedBy 21 = .ok (.istore 5, 2) := by decide +kernel
theorem dX8_turnedBy_23 : decode cX8_turnedBy 23 = .ok (.iload 5, 2) := by decide +kernel
theorem dX8_turnedBy_25 : decode cX8_turnedBy 25 = .ok (.iload_n 1, 1) := by decide +kernel
theorem dX8_turnedBy_26 : decode cX8_turnedBy 26 = .ok (.if_icmp .ge 34, 3) := by decide +kernel
theorem dX8_turnedBy_29 : decode cX8_turnedBy 29 = .ok (.iload_n 3, 1) := by decide +kernel
theorem dX8_turnedBy_30 : decode cX8_turnedBy 30 = .ok (.aload_n 0, 1) := by decide +kernel
theorem dX8_turnedBy_31 : decode cX8_turnedBy 31 = .ok (.getfield 67, 3) := by decide +kernel
theorem dX8_turnedBy_34 : decode cX8_turnedBy 34 = .ok (.iload 5, 2) := by decide +kernel
theorem dX8_turnedBy_36 : decode cX8_turnedBy 36 = .ok (.iaload, 1) := by decide +kernel
theorem dX8_turnedBy_37 : decode cX8_turnedBy 37 = .ok (.aload_n 0, 1) := by decide +kernel
theorem dX8_turnedBy_38 : decode cX8_turnedBy 38 = .ok (.getfield 67, 3) := by decide +kernel
theorem dX8_turnedBy_41 : decode cX8_turnedBy 41 = .ok (.iload 4, 2) := by decide +kernel
theorem dX8_turnedBy_43 : decode cX8_turnedBy 43 = .ok (.iaload, 1) := by decide +kernel
theorem dX8_turnedBy_44 : decode cX8_turnedBy 44 = .ok (.if_icmp .ge 7, 3) := by decide +kernel
theorem dX8_turnedBy_47 : decode cX8_turnedBy 47 = .ok (.iconst 1, 1) := by decide +kernel
theorem dX8_turnedBy_48 : decode cX8_turnedBy 48 = .ok (.goto 4, 3) := by decide +kernel
theorem dX8_turnedBy_51 : decode cX8_turnedBy 51 = .ok (.iconst 0, 1) := by decide +kernel
theorem dX8_turnedBy_52 : decode cX8_turnedBy 52 = .ok (.iadd, 1) := by decide +kernel
theorem dX8_turnedBy_53 : decode cX8_turnedBy 53 = .ok (.istore_n 3, 1) := by decide +kernel
theorem dX8_turnedBy_54 : decode cX8_turnedBy 54 = .ok (.iinc 5 1, 3) := by decide +kernel
theorem dX8_turnedBy_57 : decode cX8_turnedBy 57 = .ok (.goto (-34), 3) := by decide +kernel
theorem dX8_turnedBy_60 : decode cX8_turnedBy 60 = .ok (.iinc 4 1, 3) := by decide +kernel
theorem dX8_turnedBy_63 : decode cX8_turnedBy 63 = .ok (.goto (-52), 3) := by decide +kernel
theorem dX8_turnedBy_66 : decode cX8_turnedBy 66 = .ok (.iload_n 3, 1) := by decide +kernel
theorem dX8_turnedBy_67 : decode cX8_turnedBy 67 = .ok (.ireturn, 1) := by decide +kernel
theorem dX8_turned_0 : decode cX8_turned 0 = .ok (.iload_n 1, 1) := by decide +kernel
theorem dX8_turned_1 : decode cX8_turned 1 = .ok (.iload_n 2, 1) := by decide +kernel
theorem dX8_turned_2 : decode cX8_turned 2 = .ok (.iload 4, 2) := by decide +kernel
theorem dX8_turned_4 : decode cX8_turned 4 = .ok (.iload 5, 2) := by decide +kernel
theorem dX8_turned_6 : decode cX8_turned 6 = .ok (.invokestatic 186, 3) := by decide +kernel
theorem dX8_turned_9 : decode cX8_turned 9 = .ok (.ifCond .ne 5, 3) := by decide +kernel
theorem dX8_turned_12 : decode cX8_turned 12 = .ok (.iconst (-1), 1) := by decide +kernel
theorem dX8_turned_13 : decode cX8_turned 13 = .ok (.ireturn, 1) := by decide +kernel
theorem dX8_turned_14 : decode cX8_turned 14 = .ok (.aload_n 0, 1) := by decide +kernel
theorem dX8_turned_15 : decode cX8_turned 15 = .ok (.iload_n 1, 1) := by decide +kernel
theorem dX8_turned_16 : decode cX8_turned 16 = .ok (.iload_n 2, 1) := by decide +kernel
theorem dX8_turned_17 : decode cX8_turned 17 = .ok (.iload_n 3, 1) := by decide +kernel
theorem dX8_turned_18 : decode cX8_turned 18 = .ok (.iload 4, 2) := by decide +kernel
theorem dX8_turned_20 : decode cX8_turned 20 = .ok (.invokevirtual 190, 3) := by decide +kernel
theorem dX8_turned_23 : decode cX8_turned 23 = .ok (.istore 6, 2) := by decide +kernel
theorem dX8_turned_25 : decode cX8_turned 25 = .ok (.iload 6, 2) := by decide +kernel
theorem dX8_turned_27 : decode cX8_turned 27 = .ok (.ifCond .ge 8, 3) := by decide +kernel
theorem dX8_turned_30 : decode cX8_turned 30 = .ok (.iload 6, 2) := by decide +kernel
theorem dX8_turned_32 : decode cX8_turned 32 = .ok (.goto 11, 3) := by decide +kernel
theorem dX8_turned_35 : decode cX8_turned 35 = .ok (.aload_n 0, 1) := by decide +kernel
theorem dX8_turned_36 : decode cX8_turned 36 = .ok (.iload 4, 2) := by decide +kernel
theorem dX8_turned_38 : decode cX8_turned 38 = .ok (.iload 5, 2) := by decide +kernel
theorem dX8_turned_40 : decode cX8_turned 40 = .ok (.invokevirtual 197, 3) := by decide +kernel
theorem dX8_turned_43 : decode cX8_turned 43 = .ok (.ireturn, 1) := by decide +kernel
theorem dX8_waits_0 : decode cX8_waits 0 = .ok (.iload_n 1, 1) := by decide +kernel
theorem dX8_waits_1 : decode cX8_waits 1 = .ok (.iload_n 2, 1) := by decide +kernel
theorem dX8_waits_2 : decode cX8_waits 2 = .ok (.iload 4, 2) := by decide +kernel
theorem dX8_waits_4 : decode cX8_waits 4 = .ok (.iconst 1, 1) := by decide +kernel
theorem dX8_waits_5 : decode cX8_waits 5 = .ok (.invokestatic 186, 3) := by decide +kernel
theorem dX8_waits_8 : decode cX8_waits 8 = .ok (.ifCond .ne 5, 3) := by decide +kernel
theorem dX8_waits_11 : decode cX8_waits 11 = .ok (.iconst (-1), 1) := by decide +kernel
theorem dX8_waits_12 : decode cX8_waits 12 = .ok (.ireturn, 1) := by decide +kernel
theorem dX8_waits_13 : decode cX8_waits 13 = .ok (.aload_n 0, 1) := by decide +kernel
theorem dX8_waits_14 : decode cX8_waits 14 = .ok (.iload_n 1, 1) := by decide +kernel
theorem dX8_waits_15 : decode cX8_waits 15 = .ok (.iload_n 2, 1) := by decide +kernel
theorem dX8_waits_16 : decode cX8_waits 16 = .ok (.iload_n 3, 1) := by decide +kernel
theorem dX8_waits_17 : decode cX8_waits 17 = .ok (.iload 4, 2) := by decide +kernel
theorem dX8_waits_19 : decode cX8_waits 19 = .ok (.invokevirtual 190, 3) := by decide +kernel
theorem dX8_waits_22 : decode cX8_waits 22 = .ok (.istore 5, 2) := by decide +kernel
theorem dX8_waits_24 : decode cX8_waits 24 = .ok (.iload 5, 2) := by decide +kernel
theorem dX8_waits_26 : decode cX8_waits 26 = .ok (.ifCond .ge 6, 3) := by decide +kernel
theorem dX8_waits_29 : decode cX8_waits 29 = .ok (.iload 5, 2) := by decide +kernel
theorem dX8_waits_31 : decode cX8_waits 31 = .ok (.ireturn, 1) := by decide +kernel
theorem dX8_waits_32 : decode cX8_waits 32 = .ok (.iconst 0, 1) := by decide +kernel
theorem dX8_waits_33 : decode cX8_waits 33 = .ok (.istore 6, 2) := by decide +kernel
theorem dX8_waits_35 : decode cX8_waits 35 = .ok (.iconst 1, 1) := by decide +kernel
theorem dX8_waits_36 : decode cX8_waits 36 = .ok (.istore 7, 2) := by decide +kernel
theorem dX8_waits_38 : decode cX8_waits 38 = .ok (.iload 7, 2) := by decide +kernel
theorem dX8_waits_40 : decode cX8_waits 40 = .ok (.iload 4, 2) := by decide +kernel
theorem dX8_waits_42 : decode cX8_waits 42 = .ok (.if_icmp .ge 57, 3) := by decide +kernel
theorem dX8_waits_45 : decode cX8_waits 45 = .ok (.iload 6, 2) := by decide +kernel
theorem dX8_waits_47 : decode cX8_waits 47 = .ok (.aload_n 0, 1) := by decide +kernel
theorem dX8_waits_48 : decode cX8_waits 48 = .ok (.aload_n 0, 1) := by decide +kernel
theorem dX8_waits_49 : decode cX8_waits 49 = .ok (.getfield 64, 3) := by decide +kernel
theorem dX8_waits_52 : decode cX8_waits 52 = .ok (.iload 7, 2) := by decide +kernel
theorem dX8_waits_54 : decode cX8_waits 54 = .ok (.iconst 1, 1) := by decide +kernel
theorem dX8_waits_55 : decode cX8_waits 55 = .ok (.isub, 1) := by decide +kernel
theorem dX8_waits_56 : decode cX8_waits 56 = .ok (.iaload, 1) := by decide +kernel
theorem dX8_waits_57 : decode cX8_waits 57 = .ok (.invokevirtual 179, 3) := by decide +kernel
theorem dX8_waits_60 : decode cX8_waits 60 = .ok (.iadd, 1) := by decide +kernel
theorem dX8_waits_61 : decode cX8_waits 61 = .ok (.aload_n 0, 1) := by decide +kernel
theorem dX8_waits_62 : decode cX8_waits 62 = .ok (.aload_n 0, 1) := by decide +kernel
theorem dX8_waits_63 : decode cX8_waits 63 = .ok (.getfield 64, 3) := by decide +kernel
theorem dX8_waits_66 : decode cX8_waits 66 = .ok (.iload 7, 2) := by decide +kernel
theorem dX8_waits_68 : decode cX8_waits 68 = .ok (.iaload, 1) := by decide +kernel
theorem dX8_waits_69 : decode cX8_waits 69 = .ok (.invokevirtual 179, 3) := by decide +kernel
theorem dX8_waits_72 : decode cX8_waits 72 = .ok (.isub, 1) := by decide +kernel
theorem dX8_waits_73 : decode cX8_waits 73 = .ok (.istore 8, 2) := by decide +kernel
theorem dX8_waits_75 : decode cX8_waits 75 = .ok (.iload 8, 2) := by decide +kernel
theorem dX8_waits_77 : decode cX8_waits 77 = .ok (.iload 6, 2) := by decide +kernel
theorem dX8_waits_79 : decode cX8_waits 79 = .ok (.if_icmp .le 8, 3) := by decide +kernel
theorem dX8_waits_82 : decode cX8_waits 82 = .ok (.iload 8, 2) := by decide +kernel
theorem dX8_waits_84 : decode cX8_waits 84 = .ok (.goto 7, 3) := by decide +kernel
theorem dX8_waits_87 : decode cX8_waits 87 = .ok (.iload 6, 2) := by decide +kernel
theorem dX8_waits_89 : decode cX8_waits 89 = .ok (.iconst 1, 1) := by decide +kernel
theorem dX8_waits_90 : decode cX8_waits 90 = .ok (.iadd, 1) := by decide +kernel
theorem dX8_waits_91 : decode cX8_waits 91 = .ok (.istore 6, 2) := by decide +kernel
theorem dX8_waits_93 : decode cX8_waits 93 = .ok (.iinc 7 1, 3) := by decide +kernel
theorem dX8_waits_96 : decode cX8_waits 96 = .ok (.goto (-58), 3) := by decide +kernel
theorem dX8_waits_99 : decode cX8_waits 99 = .ok (.iload 6, 2) := by decide +kernel
theorem dX8_waits_101 : decode cX8_waits 101 = .ok (.ireturn, 1) := by decide +kernel
theorem dX8_gap_0 : decode cX8_gap 0 = .ok (.iload_n 1, 1) := by decide +kernel
theorem dX8_gap_1 : decode cX8_gap 1 = .ok (.iload_n 2, 1) := by decide +kernel
theorem dX8_gap_2 : decode cX8_gap 2 = .ok (.iload 4, 2) := by decide +kernel
theorem dX8_gap_4 : decode cX8_gap 4 = .ok (.iconst 1, 1) := by decide +kernel
theorem dX8_gap_5 : decode cX8_gap 5 = .ok (.invokestatic 186, 3) := by decide +kernel
theorem dX8_gap_8 : decode cX8_gap 8 = .ok (.ifCond .ne 5, 3) := by decide +kernel
theorem dX8_gap_11 : decode cX8_gap 11 = .ok (.iconst (-1), 1) := by decide +kernel
theorem dX8_gap_12 : decode cX8_gap 12 = .ok (.ireturn, 1) := by decide +kernel
theorem dX8_gap_13 : decode cX8_gap 13 = .ok (.aload_n 0, 1) := by decide +kernel
theorem dX8_gap_14 : decode cX8_gap 14 = .ok (.iload_n 1, 1) := by decide +kernel
theorem dX8_gap_15 : decode cX8_gap 15 = .ok (.iload_n 2, 1) := by decide +kernel
theorem dX8_gap_16 : decode cX8_gap 16 = .ok (.iload_n 3, 1) := by decide +kernel
theorem dX8_gap_17 : decode cX8_gap 17 = .ok (.iload 4, 2) := by decide +kernel
theorem dX8_gap_19 : decode cX8_gap 19 = .ok (.invokevirtual 190, 3) := by decide +kernel
theorem dX8_gap_22 : decode cX8_gap 22 = .ok (.istore 5, 2) := by decide +kernel
theorem dX8_gap_24 : decode cX8_gap 24 = .ok (.iload 5, 2) := by decide +kernel
theorem dX8_gap_26 : decode cX8_gap 26 = .ok (.ifCond .ge 6, 3) := by decide +kernel
theorem dX8_gap_29 : decode cX8_gap 29 = .ok (.iload 5, 2) := by decide +kernel
theorem dX8_gap_31 : decode cX8_gap 31 = .ok (.ireturn, 1) := by decide +kernel
theorem dX8_gap_32 : decode cX8_gap 32 = .ok (.iconst 1, 1) := by decide +kernel
theorem dX8_gap_33 : decode cX8_gap 33 = .ok (.istore 6, 2) := by decide +kernel
theorem dX8_gap_35 : decode cX8_gap 35 = .ok (.iload 6, 2) := by decide +kernel
theorem dX8_gap_37 : decode cX8_gap 37 = .ok (.bipush 30, 2) := by decide +kernel
theorem dX8_gap_39 : decode cX8_gap 39 = .ok (.if_icmp .gt 23, 3) := by decide +kernel
theorem dX8_gap_42 : decode cX8_gap 42 = .ok (.aload_n 0, 1) := by decide +kernel
theorem dX8_gap_43 : decode cX8_gap 43 = .ok (.iload 4, 2) := by decide +kernel
theorem dX8_gap_45 : decode cX8_gap 45 = .ok (.iload 6, 2) := by decide +kernel
theorem dX8_gap_47 : decode cX8_gap 47 = .ok (.invokevirtual 197, 3) := by decide +kernel
theorem dX8_gap_50 : decode cX8_gap 50 = .ok (.ifCond .ne 6, 3) := by decide +kernel
theorem dX8_gap_53 : decode cX8_gap 53 = .ok (.iload 6, 2) := by decide +kernel
theorem dX8_gap_55 : decode cX8_gap 55 = .ok (.ireturn, 1) := by decide +kernel
theorem dX8_gap_56 : decode cX8_gap 56 = .ok (.iinc 6 1, 3) := by decide +kernel
theorem dX8_gap_59 : decode cX8_gap 59 = .ok (.goto (-24), 3) := by decide +kernel
theorem dX8_gap_62 : decode cX8_gap 62 = .ok (.bipush (-4), 2) := by decide +kernel
theorem dX8_gap_64 : decode cX8_gap 64 = .ok (.ireturn, 1) := by decide +kernel
theorem dX8_type_0 : decode cX8_type 0 = .ok (.iload_n 3, 1) := by decide +kernel
theorem dX8_type_1 : decode cX8_type 1 = .ok (.i2l, 1) := by decide +kernel
theorem dX8_type_2 : decode cX8_type 2 = .ok (.lconst 1, 1) := by decide +kernel
theorem dX8_type_3 : decode cX8_type 3 = .ok (.ldc2_w 200, 3) := by decide +kernel
theorem dX8_type_6 : decode cX8_type 6 = .ok (.invokestatic 87, 3) := by decide +kernel
theorem dX8_type_9 : decode cX8_type 9 = .ok (.ifCond .ne 5, 3) := by decide +kernel
theorem dX8_type_12 : decode cX8_type 12 = .ok (.iconst (-1), 1) := by decide +kernel
theorem dX8_type_13 : decode cX8_type 13 = .ok (.ireturn, 1) := by decide +kernel
theorem dX8_type_14 : decode cX8_type 14 = .ok (.iconst 0, 1) := by decide +kernel
theorem dX8_type_15 : decode cX8_type 15 = .ok (.istore 4, 2) := by decide +kernel
theorem dX8_type_17 : decode cX8_type 17 = .ok (.iload 4, 2) := by decide +kernel
theorem dX8_type_19 : decode cX8_type 19 = .ok (.iload_n 3, 1) := by decide +kernel
theorem dX8_type_20 : decode cX8_type 20 = .ok (.if_icmp .ge 34, 3) := by decide +kernel
theorem dX8_type_23 : decode cX8_type 23 = .ok (.lload_n 1, 1) := by decide +kernel
theorem dX8_type_24 : decode cX8_type 24 = .ok (.bipush 8, 2) := by decide +kernel
theorem dX8_type_26 : decode cX8_type 26 = .ok (.iload 4, 2) := by decide +kernel
theorem dX8_type_28 : decode cX8_type 28 = .ok (.imul, 1) := by decide +kernel
theorem dX8_type_29 : decode cX8_type 29 = .ok (.lshr, 1) := by decide +kernel
theorem dX8_type_30 : decode cX8_type 30 = .ok (.ldc2_w 202, 3) := by decide +kernel
theorem dX8_type_33 : decode cX8_type 33 = .ok (.land, 1) := by decide +kernel
theorem dX8_type_34 : decode cX8_type 34 = .ok (.ldc2_w 204, 3) := by decide +kernel
theorem dX8_type_37 : decode cX8_type 37 = .ok (.ldc2_w 206, 3) := by decide +kernel
theorem dX8_type_40 : decode cX8_type 40 = .ok (.invokestatic 87, 3) := by decide +kernel
theorem dX8_type_43 : decode cX8_type 43 = .ok (.ifCond .ne 5, 3) := by decide +kernel
theorem dX8_type_46 : decode cX8_type 46 = .ok (.iconst (-1), 1) := by decide +kernel
theorem dX8_type_47 : decode cX8_type 47 = .ok (.ireturn, 1) := by decide +kernel
theorem dX8_type_48 : decode cX8_type 48 = .ok (.iinc 4 1, 3) := by decide +kernel
theorem dX8_type_51 : decode cX8_type 51 = .ok (.goto (-34), 3) := by decide +kernel
theorem dX8_type_54 : decode cX8_type 54 = .ok (.aload_n 0, 1) := by decide +kernel
theorem dX8_type_55 : decode cX8_type 55 = .ok (.getfield 208, 3) := by decide +kernel
theorem dX8_type_58 : decode cX8_type 58 = .ok (.iload_n 3, 1) := by decide +kernel
theorem dX8_type_59 : decode cX8_type 59 = .ok (.iadd, 1) := by decide +kernel
theorem dX8_type_60 : decode cX8_type 60 = .ok (.bipush 60, 2) := by decide +kernel
theorem dX8_type_62 : decode cX8_type 62 = .ok (.if_icmp .le 6, 3) := by decide +kernel
theorem dX8_type_65 : decode cX8_type 65 = .ok (.bipush (-3), 2) := by decide +kernel
theorem dX8_type_67 : decode cX8_type 67 = .ok (.ireturn, 1) := by decide +kernel
theorem dX8_type_68 : decode cX8_type 68 = .ok (.iload_n 3, 1) := by decide +kernel
theorem dX8_type_69 : decode cX8_type 69 = .ok (.iconst 1, 1) := by decide +kernel
theorem dX8_type_70 : decode cX8_type 70 = .ok (.isub, 1) := by decide +kernel
theorem dX8_type_71 : decode cX8_type 71 = .ok (.istore 4, 2) := by decide +kernel
theorem dX8_type_73 : decode cX8_type 73 = .ok (.iload 4, 2) := by decide +kernel
theorem dX8_type_75 : decode cX8_type 75 = .ok (.ifCond .lt 40, 3) := by decide +kernel
theorem dX8_type_78 : decode cX8_type 78 = .ok (.aload_n 0, 1) := by decide +kernel
theorem dX8_type_79 : decode cX8_type 79 = .ok (.getfield 70, 3) := by decide +kernel
theorem dX8_type_82 : decode cX8_type 82 = .ok (.aload_n 0, 1) := by decide +kernel
theorem dX8_type_83 : decode cX8_type 83 = .ok (.getfield 208, 3) := by decide +kernel
theorem dX8_type_86 : decode cX8_type 86 = .ok (.lload_n 1, 1) := by decide +kernel
theorem dX8_type_87 : decode cX8_type 87 = .ok (.bipush 8, 2) := by decide +kernel
theorem dX8_type_89 : decode cX8_type 89 = .ok (.iload 4, 2) := by decide +kernel
theorem dX8_type_91 : decode cX8_type 91 = .ok (.imul, 1) := by decide +kernel
theorem dX8_type_92 : decode cX8_type 92 = .ok (.lshr, 1) := by decide +kernel
theorem dX8_type_93 : decode cX8_type 93 = .ok (.ldc2_w 202, 3) := by decide +kernel
theorem dX8_type_96 : decode cX8_type 96 = .ok (.land, 1) := by decide +kernel
theorem dX8_type_97 : decode cX8_type 97 = .ok (.l2i, 1) := by decide +kernel
theorem dX8_type_98 : decode cX8_type 98 = .ok (.iastore, 1) := by decide +kernel
theorem dX8_type_99 : decode cX8_type 99 = .ok (.aload_n 0, 1) := by decide +kernel
theorem dX8_type_100 : decode cX8_type 100 = .ok (.dup, 1) := by decide +kernel
theorem dX8_type_101 : decode cX8_type 101 = .ok (.getfield 208, 3) := by decide +kernel
theorem dX8_type_104 : decode cX8_type 104 = .ok (.iconst 1, 1) := by decide +kernel
theorem dX8_type_105 : decode cX8_type 105 = .ok (.iadd, 1) := by decide +kernel
theorem dX8_type_106 : decode cX8_type 106 = .ok (.putfield 208, 3) := by decide +kernel
theorem dX8_type_109 : decode cX8_type 109 = .ok (.iinc 4 (-1), 3) := by decide +kernel
theorem dX8_type_112 : decode cX8_type 112 = .ok (.goto (-39), 3) := by decide +kernel
theorem dX8_type_115 : decode cX8_type 115 = .ok (.aload_n 0, 1) := by decide +kernel
theorem dX8_type_116 : decode cX8_type 116 = .ok (.getfield 208, 3) := by decide +kernel
theorem dX8_type_119 : decode cX8_type 119 = .ok (.ireturn, 1) := by decide +kernel
theorem dX8_plays_0 : decode cX8_plays 0 = .ok (.iload_n 1, 1) := by decide +kernel
theorem dX8_plays_1 : decode cX8_plays 1 = .ok (.i2l, 1) := by decide +kernel
theorem dX8_plays_2 : decode cX8_plays 2 = .ok (.lconst 1, 1) := by decide +kernel
theorem dX8_plays_3 : decode cX8_plays 3 = .ok (.ldc2_w 184, 3) := by decide +kernel
theorem dX8_plays_6 : decode cX8_plays 6 = .ok (.invokestatic 87, 3) := by decide +kernel
theorem dX8_plays_9 : decode cX8_plays 9 = .ok (.ifCond .ne 5, 3) := by decide +kernel
theorem dX8_plays_12 : decode cX8_plays 12 = .ok (.iconst (-1), 1) := by decide +kernel
theorem dX8_plays_13 : decode cX8_plays 13 = .ok (.ireturn, 1) := by decide +kernel
theorem dX8_plays_14 : decode cX8_plays 14 = .ok (.aload_n 0, 1) := by decide +kernel
theorem dX8_plays_15 : decode cX8_plays 15 = .ok (.getfield 208, 3) := by decide +kernel
theorem dX8_plays_18 : decode cX8_plays 18 = .ok (.istore_n 2, 1) := by decide +kernel
theorem dX8_plays_19 : decode cX8_plays 19 = .ok (.aload_n 0, 1) := by decide +kernel
theorem dX8_plays_20 : decode cX8_plays 20 = .ok (.iconst 0, 1) := by decide +kernel
theorem dX8_plays_21 : decode cX8_plays 21 = .ok (.putfield 208, 3) := by decide +kernel
theorem dX8_plays_24 : decode cX8_plays 24 = .ok (.iload_n 2, 1) := by decide +kernel
theorem dX8_plays_25 : decode cX8_plays 25 = .ok (.ifCond .ne 6, 3) := by decide +kernel
theorem dX8_plays_28 : decode cX8_plays 28 = .ok (.bipush (-20), 2) := by decide +kernel
theorem dX8_plays_30 : decode cX8_plays 30 = .ok (.ireturn, 1) := by decide +kernel
theorem dX8_plays_31 : decode cX8_plays 31 = .ok (.iconst 0, 1) := by decide +kernel
theorem dX8_plays_32 : decode cX8_plays 32 = .ok (.istore_n 3, 1) := by decide +kernel
theorem dX8_plays_33 : decode cX8_plays 33 = .ok (.iload_n 3, 1) := by decide +kernel
theorem dX8_plays_34 : decode cX8_plays 34 = .ok (.iload_n 2, 1) := by decide +kernel
theorem dX8_plays_35 : decode cX8_plays 35 = .ok (.if_icmp .ge 44, 3) := by decide +kernel
theorem dX8_plays_38 : decode cX8_plays 38 = .ok (.aload_n 0, 1) := by decide +kernel
theorem dX8_plays_39 : decode cX8_plays 39 = .ok (.getfield 70, 3) := by decide +kernel
theorem dX8_plays_42 : decode cX8_plays 42 = .ok (.iload_n 3, 1) := by decide +kernel
theorem dX8_plays_43 : decode cX8_plays 43 = .ok (.iaload, 1) := by decide +kernel
theorem dX8_plays_44 : decode cX8_plays 44 = .ok (.bipush 32, 2) := by decide +kernel
theorem dX8_plays_46 : decode cX8_plays 46 = .ok (.if_icmp .eq 27, 3) := by decide +kernel
theorem dX8_plays_49 : decode cX8_plays 49 = .ok (.aload_n 0, 1) := by decide +kernel
theorem dX8_plays_50 : decode cX8_plays 50 = .ok (.getfield 70, 3) := by decide +kernel
theorem dX8_plays_53 : decode cX8_plays 53 = .ok (.iload_n 3, 1) := by decide +kernel
theorem dX8_plays_54 : decode cX8_plays 54 = .ok (.iaload, 1) := by decide +kernel
theorem dX8_plays_55 : decode cX8_plays 55 = .ok (.i2l, 1) := by decide +kernel
theorem dX8_plays_56 : decode cX8_plays 56 = .ok (.ldc2_w 211, 3) := by decide +kernel
theorem dX8_plays_59 : decode cX8_plays 59 = .ok (.ldc2_w 213, 3) := by decide +kernel
theorem dX8_plays_62 : decode cX8_plays 62 = .ok (.invokestatic 87, 3) := by decide +kernel
theorem dX8_plays_65 : decode cX8_plays 65 = .ok (.ifCond .ne 8, 3) := by decide +kernel
theorem dX8_plays_68 : decode cX8_plays 68 = .ok (.bipush (-20), 2) := by decide +kernel
theorem dX8_plays_70 : decode cX8_plays 70 = .ok (.iload_n 3, 1) := by decide +kernel
theorem dX8_plays_71 : decode cX8_plays 71 = .ok (.isub, 1) := by decide +kernel
theorem dX8_plays_72 : decode cX8_plays 72 = .ok (.ireturn, 1) := by decide +kernel
theorem dX8_plays_73 : decode cX8_plays 73 = .ok (.iinc 3 1, 3) := by decide +kernel
theorem dX8_plays_76 : decode cX8_plays 76 = .ok (.goto (-43), 3) := by decide +kernel
theorem dX8_plays_79 : decode cX8_plays 79 = .ok (.aload_n 0, 1) := by decide +kernel
theorem dX8_plays_80 : decode cX8_plays 80 = .ok (.getfield 138, 3) := by decide +kernel
theorem dX8_plays_83 : decode cX8_plays 83 = .ok (.iload_n 1, 1) := by decide +kernel
theorem dX8_plays_84 : decode cX8_plays 84 = .ok (.iload_n 2, 1) := by decide +kernel
theorem dX8_plays_85 : decode cX8_plays 85 = .ok (.iconst 1, 1) := by decide +kernel
theorem dX8_plays_86 : decode cX8_plays 86 = .ok (.isub, 1) := by decide +kernel
theorem dX8_plays_87 : decode cX8_plays 87 = .ok (.imul, 1) := by decide +kernel
theorem dX8_plays_88 : decode cX8_plays 88 = .ok (.iadd, 1) := by decide +kernel
theorem dX8_plays_89 : decode cX8_plays 89 = .ok (.ldc 159, 2) := by decide +kernel
theorem dX8_plays_91 : decode cX8_plays 91 = .ok (.if_icmp .le 6, 3) := by decide +kernel
theorem dX8_plays_94 : decode cX8_plays 94 = .ok (.bipush (-3), 2) := by decide +kernel
theorem dX8_plays_96 : decode cX8_plays 96 = .ok (.ireturn, 1) := by decide +kernel
theorem dX8_plays_97 : decode cX8_plays 97 = .ok (.iconst 0, 1) := by decide +kernel
theorem dX8_plays_98 : decode cX8_plays 98 = .ok (.istore_n 3, 1) := by decide +kernel
theorem dX8_plays_99 : decode cX8_plays 99 = .ok (.iconst 1, 1) := by decide +kernel
theorem dX8_plays_100 : decode cX8_plays 100 = .ok (.istore 4, 2) := by decide +kernel
theorem dX8_plays_102 : decode cX8_plays 102 = .ok (.iload 4, 2) := by decide +kernel
theorem dX8_plays_104 : decode cX8_plays 104 = .ok (.ifCond .eq 92, 3) := by decide +kernel
theorem dX8_plays_107 : decode cX8_plays 107 = .ok (.iload_n 3, 1) := by decide +kernel
theorem dX8_plays_108 : decode cX8_plays 108 = .ok (.iload_n 2, 1) := by decide +kernel
theorem dX8_plays_109 : decode cX8_plays 109 = .ok (.if_icmp .ge 87, 3) := by decide +kernel
theorem dX8_plays_112 : decode cX8_plays 112 = .ok (.iconst 0, 1) := by decide +kernel
theorem dX8_plays_113 : decode cX8_plays 113 = .ok (.istore 5, 2) := by decide +kernel
theorem dX8_plays_115 : decode cX8_plays 115 = .ok (.iload 5, 2) := by decide +kernel
theorem dX8_plays_117 : decode cX8_plays 117 = .ok (.iload_n 1, 1) := by decide +kernel
theorem dX8_plays_118 : decode cX8_plays 118 = .ok (.if_icmp .ge 17, 3) := by decide +kernel
theorem dX8_plays_121 : decode cX8_plays 121 = .ok (.iload_n 3, 1) := by decide +kernel
theorem dX8_plays_122 : decode cX8_plays 122 = .ok (.ifCond .le 13, 3) := by decide +kernel
theorem dX8_plays_125 : decode cX8_plays 125 = .ok (.aload_n 0, 1) := by decide +kernel
theorem dX8_plays_126 : decode cX8_plays 126 = .ok (.invokevirtual 160, 3) := by decide +kernel
theorem dX8_plays_129 : decode cX8_plays 129 = .ok (.iinc 5 1, 3) := by decide +kernel
theorem dX8_plays_132 : decode cX8_plays 132 = .ok (.goto (-17), 3) := by decide +kernel
theorem dX8_plays_135 : decode cX8_plays 135 = .ok (.aload_n 0, 1) := by decide +kernel
theorem dX8_plays_136 : decode cX8_plays 136 = .ok (.getfield 70, 3) := by decide +kernel
theorem dX8_plays_139 : decode cX8_plays 139 = .ok (.iload_n 3, 1) := by decide +kernel
theorem dX8_plays_140 : decode cX8_plays 140 = .ok (.iaload, 1) := by decide +kernel
theorem dX8_plays_141 : decode cX8_plays 141 = .ok (.bipush 32, 2) := by decide +kernel
theorem dX8_plays_143 : decode cX8_plays 143 = .ok (.if_icmp .ne 10, 3) := by decide +kernel
theorem dX8_plays_146 : decode cX8_plays 146 = .ok (.aload_n 0, 1) := by decide +kernel
theorem dX8_plays_147 : decode cX8_plays 147 = .ok (.invokevirtual 215, 3) := by decide +kernel
theorem dX8_plays_150 : decode cX8_plays 150 = .ok (.goto 16, 3) := by decide +kernel
theorem dX8_plays_153 : decode cX8_plays 153 = .ok (.aload_n 0, 1) := by decide +kernel
theorem dX8_plays_154 : decode cX8_plays 154 = .ok (.aload_n 0, 1) := by decide +kernel
theorem dX8_plays_155 : decode cX8_plays 155 = .ok (.getfield 70, 3) := by decide +kernel
theorem dX8_plays_158 : decode cX8_plays 158 = .ok (.iload_n 3, 1) := by decide +kernel
theorem dX8_plays_159 : decode cX8_plays 159 = .ok (.iaload, 1) := by decide +kernel
theorem dX8_plays_160 : decode cX8_plays 160 = .ok (.bipush 97, 2) := by decide +kernel
theorem dX8_plays_162 : decode cX8_plays 162 = .ok (.isub, 1) := by decide +kernel
theorem dX8_plays_163 : decode cX8_plays 163 = .ok (.invokevirtual 218, 3) := by decide +kernel
theorem dX8_plays_166 : decode cX8_plays 166 = .ok (.istore 5, 2) := by decide +kernel
theorem dX8_plays_168 : decode cX8_plays 168 = .ok (.iload 5, 2) := by decide +kernel
theorem dX8_plays_170 : decode cX8_plays 170 = .ok (.ifCond .lt 7, 3) := by decide +kernel
theorem dX8_plays_173 : decode cX8_plays 173 = .ok (.iconst 1, 1) := by decide +kernel
theorem dX8_plays_174 : decode cX8_plays 174 = .ok (.goto 4, 3) := by decide +kernel
theorem dX8_plays_177 : decode cX8_plays 177 = .ok (.iconst 0, 1) := by decide +kernel
theorem dX8_plays_178 : decode cX8_plays 178 = .ok (.istore 4, 2) := by decide +kernel
theorem dX8_plays_180 : decode cX8_plays 180 = .ok (.iload_n 3, 1) := by decide +kernel
theorem dX8_plays_181 : decode cX8_plays 181 = .ok (.iload 4, 2) := by decide +kernel
theorem dX8_plays_183 : decode cX8_plays 183 = .ok (.ifCond .eq 7, 3) := by decide +kernel
theorem dX8_plays_186 : decode cX8_plays 186 = .ok (.iconst 1, 1) := by decide +kernel
theorem dX8_plays_187 : decode cX8_plays 187 = .ok (.goto 4, 3) := by decide +kernel
theorem dX8_plays_190 : decode cX8_plays 190 = .ok (.iconst 0, 1) := by decide +kernel
theorem dX8_plays_191 : decode cX8_plays 191 = .ok (.iadd, 1) := by decide +kernel
theorem dX8_plays_192 : decode cX8_plays 192 = .ok (.istore_n 3, 1) := by decide +kernel
theorem dX8_plays_193 : decode cX8_plays 193 = .ok (.goto (-91), 3) := by decide +kernel
theorem dX8_plays_196 : decode cX8_plays 196 = .ok (.iload_n 3, 1) := by decide +kernel
theorem dX8_plays_197 : decode cX8_plays 197 = .ok (.ireturn, 1) := by decide +kernel
theorem dX8_riskOf_0 : decode cX8_riskOf 0 = .ok (.iconst 0, 1) := by decide +kernel
theorem dX8_riskOf_1 : decode cX8_riskOf 1 = .ok (.istore_n 2, 1) := by decide +kernel
theorem dX8_riskOf_2 : decode cX8_riskOf 2 = .ok (.iconst 0, 1) := by decide +kernel
theorem dX8_riskOf_3 : decode cX8_riskOf 3 = .ok (.istore_n 3, 1) := by decide +kernel
theorem dX8_riskOf_4 : decode cX8_riskOf 4 = .ok (.iload_n 3, 1) := by decide +kernel
theorem dX8_riskOf_5 : decode cX8_riskOf 5 = .ok (.bipush 7, 2) := by decide +kernel
theorem dX8_riskOf_7 : decode cX8_riskOf 7 = .ok (.if_icmp .ge 62, 3) := by decide +kernel
theorem dX8_riskOf_10 : decode cX8_riskOf 10 = .ok (.aload_n 0, 1) := by decide +kernel
theorem dX8_riskOf_11 : decode cX8_riskOf 11 = .ok (.getfield 13, 3) := by decide +kernel
theorem dX8_riskOf_14 : decode cX8_riskOf 14 = .ok (.iload_n 1, 1) := by decide +kernel
theorem dX8_riskOf_15 : decode cX8_riskOf 15 = .ok (.iaload, 1) := by decide +kernel
theorem dX8_riskOf_16 : decode cX8_riskOf 16 = .ok (.iload_n 3, 1) := by decide +kernel
theorem dX8_riskOf_17 : decode cX8_riskOf 17 = .ok (.ishr, 1) := by decide +kernel
theorem dX8_riskOf_18 : decode cX8_riskOf 18 = .ok (.iconst 1, 1) := by decide +kernel
theorem dX8_riskOf_19 : decode cX8_riskOf 19 = .ok (.iand, 1) := by decide +kernel
theorem dX8_riskOf_20 : decode cX8_riskOf 20 = .ok (.iconst 1, 1) := by decide +kernel
theorem dX8_riskOf_21 : decode cX8_riskOf 21 = .ok (.if_icmp .ne 42, 3) := by decide +kernel
theorem dX8_riskOf_24 : decode cX8_riskOf 24 = .ok (.aload_n 0, 1) := by decide +kernel
theorem dX8_riskOf_25 : decode cX8_riskOf 25 = .ok (.aload_n 0, 1) := by decide +kernel
theorem dX8_riskOf_26 : decode cX8_riskOf 26 = .ok (.getfield 13, 3) := by decide +kernel
theorem dX8_riskOf_29 : decode cX8_riskOf 29 = .ok (.iload_n 1, 1) := by decide +kernel
theorem dX8_riskOf_30 : decode cX8_riskOf 30 = .ok (.iaload, 1) := by decide +kernel
theorem dX8_riskOf_31 : decode cX8_riskOf 31 = .ok (.iconst 1, 1) := by decide +kernel
theorem dX8_riskOf_32 : decode cX8_riskOf 32 = .ok (.iload_n 3, 1) := by decide +kernel
theorem dX8_riskOf_33 : decode cX8_riskOf 33 = .ok (.ishl, 1) := by decide +kernel
theorem dX8_riskOf_34 : decode cX8_riskOf 34 = .ok (.iconst (-1), 1) := by decide +kernel
theorem dX8_riskOf_35 : decode cX8_riskOf 35 = .ok (.ixor, 1) := by decide +kernel
theorem dX8_riskOf_36 : decode cX8_riskOf 36 = .ok (.iand, 1) := by decide +kernel
theorem dX8_riskOf_37 : decode cX8_riskOf 37 = .ok (.invokevirtual 113, 3) := by decide +kernel
theorem dX8_riskOf_40 : decode cX8_riskOf 40 = .ok (.istore 4, 2) := by decide +kernel
theorem dX8_riskOf_42 : decode cX8_riskOf 42 = .ok (.iload_n 2, 1) := by decide +kernel
theorem dX8_riskOf_43 : decode cX8_riskOf 43 = .ok (.iload 4, 2) := by decide +kernel
theorem dX8_riskOf_45 : decode cX8_riskOf 45 = .ok (.iload_n 1, 1) := by decide +kernel
theorem dX8_riskOf_46 : decode cX8_riskOf 46 = .ok (.if_icmp .eq 14, 3) := by decide +kernel
theorem dX8_riskOf_49 : decode cX8_riskOf 49 = .ok (.iload 4, 2) := by decide +kernel
theorem dX8_riskOf_51 : decode cX8_riskOf 51 = .ok (.bipush 12, 2) := by decide +kernel
theorem dX8_riskOf_53 : decode cX8_riskOf 53 = .ok (.if_icmp .eq 7, 3) := by decide +kernel
theorem dX8_riskOf_56 : decode cX8_riskOf 56 = .ok (.iconst 1, 1) := by decide +kernel
theorem dX8_riskOf_57 : decode cX8_riskOf 57 = .ok (.goto 4, 3) := by decide +kernel
theorem dX8_riskOf_60 : decode cX8_riskOf 60 = .ok (.iconst 0, 1) := by decide +kernel
theorem dX8_riskOf_61 : decode cX8_riskOf 61 = .ok (.iadd, 1) := by decide +kernel
theorem dX8_riskOf_62 : decode cX8_riskOf 62 = .ok (.istore_n 2, 1) := by decide +kernel
theorem dX8_riskOf_63 : decode cX8_riskOf 63 = .ok (.iinc 3 1, 3) := by decide +kernel
theorem dX8_riskOf_66 : decode cX8_riskOf 66 = .ok (.goto (-62), 3) := by decide +kernel
theorem dX8_riskOf_69 : decode cX8_riskOf 69 = .ok (.iload_n 2, 1) := by decide +kernel
theorem dX8_riskOf_70 : decode cX8_riskOf 70 = .ok (.ireturn, 1) := by decide +kernel
theorem dX8_risk_0 : decode cX8_risk 0 = .ok (.iload_n 1, 1) := by decide +kernel
theorem dX8_risk_1 : decode cX8_risk 1 = .ok (.invokestatic 91, 3) := by decide +kernel
theorem dX8_risk_4 : decode cX8_risk 4 = .ok (.ifCond .eq 11, 3) := by decide +kernel
theorem dX8_risk_7 : decode cX8_risk 7 = .ok (.aload_n 0, 1) := by decide +kernel
theorem dX8_risk_8 : decode cX8_risk 8 = .ok (.iload_n 1, 1) := by decide +kernel
theorem dX8_risk_9 : decode cX8_risk 9 = .ok (.invokevirtual 221, 3) := by decide +kernel
theorem dX8_risk_12 : decode cX8_risk 12 = .ok (.goto 4, 3) := by decide +kernel
theorem dX8_risk_15 : decode cX8_risk 15 = .ok (.iconst (-1), 1) := by decide +kernel
theorem dX8_risk_16 : decode cX8_risk 16 = .ok (.ireturn, 1) := by decide +kernel
theorem dX8_better_0 : decode cX8_better 0 = .ok (.iload_n 1, 1) := by decide +kernel
theorem dX8_better_1 : decode cX8_better 1 = .ok (.invokestatic 91, 3) := by decide +kernel
theorem dX8_better_4 : decode cX8_better 4 = .ok (.ifCond .ne 5, 3) := by decide +kernel
theorem dX8_better_7 : decode cX8_better 7 = .ok (.iconst (-1), 1) := by decide +kernel
theorem dX8_better_8 : decode cX8_better 8 = .ok (.ireturn, 1) := by decide +kernel
theorem dX8_better_9 : decode cX8_better 9 = .ok (.aload_n 0, 1) := by decide +kernel
theorem dX8_better_10 : decode cX8_better 10 = .ok (.getfield 13, 3) := by decide +kernel
theorem dX8_better_13 : decode cX8_better 13 = .ok (.iload_n 1, 1) := by decide +kernel
theorem dX8_better_14 : decode cX8_better 14 = .ok (.iaload, 1) := by decide +kernel
theorem dX8_better_15 : decode cX8_better 15 = .ok (.istore_n 2, 1) := by decide +kernel
theorem dX8_better_16 : decode cX8_better 16 = .ok (.aload_n 0, 1) := by decide +kernel
theorem dX8_better_17 : decode cX8_better 17 = .ok (.getfield 16, 3) := by decide +kernel
theorem dX8_better_20 : decode cX8_better 20 = .ok (.iload_n 1, 1) := by decide +kernel
theorem dX8_better_21 : decode cX8_better 21 = .ok (.iaload, 1) := by decide +kernel
theorem dX8_better_22 : decode cX8_better 22 = .ok (.istore_n 3, 1) := by decide +kernel
theorem dX8_better_23 : decode cX8_better 23 = .ok (.bipush (-4), 2) := by decide +kernel
theorem dX8_better_25 : decode cX8_better 25 = .ok (.istore 4, 2) := by decide +kernel
theorem dX8_better_27 : decode cX8_better 27 = .ok (.sipush 1000, 3) := by decide +kernel
theorem dX8_better_30 : decode cX8_better 30 = .ok (.istore 5, 2) := by decide +kernel
theorem dX8_better_32 : decode cX8_better 32 = .ok (.iconst 1, 1) := by decide +kernel
theorem dX8_better_33 : decode cX8_better 33 = .ok (.istore 6, 2) := by decide +kernel
theorem dX8_better_35 : decode cX8_better 35 = .ok (.iload 6, 2) := by decide +kernel
theorem dX8_better_37 : decode cX8_better 37 = .ok (.sipush 128, 3) := by decide +kernel
theorem dX8_better_40 : decode cX8_better 40 = .ok (.if_icmp .ge 109, 3) := by decide +kernel
theorem dX8_better_43 : decode cX8_better 43 = .ok (.aload_n 0, 1) := by decide +kernel
theorem dX8_better_44 : decode cX8_better 44 = .ok (.getfield 13, 3) := by decide +kernel
theorem dX8_better_47 : decode cX8_better 47 = .ok (.iload_n 1, 1) := by decide +kernel
theorem dX8_better_48 : decode cX8_better 48 = .ok (.iload 6, 2) := by decide +kernel
theorem dX8_better_50 : decode cX8_better 50 = .ok (.iastore, 1) := by decide +kernel
theorem dX8_better_51 : decode cX8_better 51 = .ok (.aload_n 0, 1) := by decide +kernel
theorem dX8_better_52 : decode cX8_better 52 = .ok (.getfield 16, 3) := by decide +kernel
theorem dX8_better_55 : decode cX8_better 55 = .ok (.iload_n 1, 1) := by decide +kernel
theorem dX8_better_56 : decode cX8_better 56 = .ok (.bipush 127, 2) := by decide +kernel
theorem dX8_better_58 : decode cX8_better 58 = .ok (.iload 6, 2) := by decide +kernel
theorem dX8_better_60 : decode cX8_better 60 = .ok (.iconst (-1), 1) := by decide +kernel
theorem dX8_better_61 : decode cX8_better 61 = .ok (.ixor, 1) := by decide +kernel
theorem dX8_better_62 : decode cX8_better 62 = .ok (.iand, 1) := by decide +kernel
theorem dX8_better_63 : decode cX8_better 63 = .ok (.iastore, 1) := by decide +kernel
theorem dX8_better_64 : decode cX8_better 64 = .ok (.iconst 0, 1) := by decide +kernel
theorem dX8_better_65 : decode cX8_better 65 = .ok (.istore 7, 2) := by decide +kernel
theorem dX8_better_67 : decode cX8_better 67 = .ok (.iconst 0, 1) := by decide +kernel
theorem dX8_better_68 : decode cX8_better 68 = .ok (.istore 8, 2) := by decide +kernel
theorem dX8_better_70 : decode cX8_better 70 = .ok (.iload 8, 2) := by decide +kernel
theorem dX8_better_72 : decode cX8_better 72 = .ok (.bipush 12, 2) := by decide +kernel
theorem dX8_better_74 : decode cX8_better 74 = .ok (.if_icmp .ge 20, 3) := by decide +kernel
theorem dX8_better_77 : decode cX8_better 77 = .ok (.iload 7, 2) := by decide +kernel
theorem dX8_better_79 : decode cX8_better 79 = .ok (.aload_n 0, 1) := by decide +kernel
theorem dX8_better_80 : decode cX8_better 80 = .ok (.iload 8, 2) := by decide +kernel
theorem dX8_better_82 : decode cX8_better 82 = .ok (.invokevirtual 221, 3) := by decide +kernel
theorem dX8_better_85 : decode cX8_better 85 = .ok (.iadd, 1) := by decide +kernel
theorem dX8_better_86 : decode cX8_better 86 = .ok (.istore 7, 2) := by decide +kernel
theorem dX8_better_88 : decode cX8_better 88 = .ok (.iinc 8 1, 3) := by decide +kernel
theorem dX8_better_91 : decode cX8_better 91 = .ok (.goto (-21), 3) := by decide +kernel
theorem dX8_better_94 : decode cX8_better 94 = .ok (.aload_n 0, 1) := by decide +kernel
theorem dX8_better_95 : decode cX8_better 95 = .ok (.invokevirtual 224, 3) := by decide +kernel
theorem dX8_better_98 : decode cX8_better 98 = .ok (.ifCond .ge 14, 3) := by decide +kernel
theorem dX8_better_101 : decode cX8_better 101 = .ok (.iload 7, 2) := by decide +kernel
theorem dX8_better_103 : decode cX8_better 103 = .ok (.iload 5, 2) := by decide +kernel
theorem dX8_better_105 : decode cX8_better 105 = .ok (.if_icmp .ge 7, 3) := by decide +kernel
theorem dX8_better_108 : decode cX8_better 108 = .ok (.iconst 1, 1) := by decide +kernel
theorem dX8_better_109 : decode cX8_better 109 = .ok (.goto 4, 3) := by decide +kernel
theorem dX8_better_112 : decode cX8_better 112 = .ok (.iconst 0, 1) := by decide +kernel
theorem dX8_better_113 : decode cX8_better 113 = .ok (.istore 8, 2) := by decide +kernel
theorem dX8_better_115 : decode cX8_better 115 = .ok (.iload 8, 2) := by decide +kernel
theorem dX8_better_117 : decode cX8_better 117 = .ok (.ifCond .eq 8, 3) := by decide +kernel
theorem dX8_better_120 : decode cX8_better 120 = .ok (.iload 6, 2) := by decide +kernel
theorem dX8_better_122 : decode cX8_better 122 = .ok (.goto 5, 3) := by decide +kernel
theorem dX8_better_125 : decode cX8_better 125 = .ok (.iload 4, 2) := by decide +kernel
theorem dX8_better_127 : decode cX8_better 127 = .ok (.istore 4, 2) := by decide +kernel
theorem dX8_better_129 : decode cX8_better 129 = .ok (.iload 8, 2) := by decide +kernel
theorem dX8_better_131 : decode cX8_better 131 = .ok (.ifCond .eq 8, 3) := by decide +kernel
theorem dX8_better_134 : decode cX8_better 134 = .ok (.iload 7, 2) := by decide +kernel
theorem dX8_better_136 : decode cX8_better 136 = .ok (.goto 5, 3) := by decide +kernel
theorem dX8_better_139 : decode cX8_better 139 = .ok (.iload 5, 2) := by decide +kernel
theorem dX8_better_141 : decode cX8_better 141 = .ok (.istore 5, 2) := by decide +kernel
theorem dX8_better_143 : decode cX8_better 143 = .ok (.iinc 6 1, 3) := by decide +kernel
theorem dX8_better_146 : decode cX8_better 146 = .ok (.goto (-111), 3) := by decide +kernel
theorem dX8_better_149 : decode cX8_better 149 = .ok (.aload_n 0, 1) := by decide +kernel
theorem dX8_better_150 : decode cX8_better 150 = .ok (.getfield 13, 3) := by decide +kernel
theorem dX8_better_153 : decode cX8_better 153 = .ok (.iload_n 1, 1) := by decide +kernel
theorem dX8_better_154 : decode cX8_better 154 = .ok (.iload_n 2, 1) := by decide +kernel
theorem dX8_better_155 : decode cX8_better 155 = .ok (.iastore, 1) := by decide +kernel
theorem dX8_better_156 : decode cX8_better 156 = .ok (.aload_n 0, 1) := by decide +kernel
theorem dX8_better_157 : decode cX8_better 157 = .ok (.getfield 16, 3) := by decide +kernel
theorem dX8_better_160 : decode cX8_better 160 = .ok (.iload_n 1, 1) := by decide +kernel
theorem dX8_better_161 : decode cX8_better 161 = .ok (.iload_n 3, 1) := by decide +kernel
theorem dX8_better_162 : decode cX8_better 162 = .ok (.iastore, 1) := by decide +kernel
theorem dX8_better_163 : decode cX8_better 163 = .ok (.iload 4, 2) := by decide +kernel
theorem dX8_better_165 : decode cX8_better 165 = .ok (.ireturn, 1) := by decide +kernel
theorem dX8_isSheet_0 : decode cX8_isSheet 0 = .ok (.iload_n 0, 1) := by decide +kernel
theorem dX8_isSheet_1 : decode cX8_isSheet 1 = .ok (.i2l, 1) := by decide +kernel
theorem dX8_isSheet_2 : decode cX8_isSheet 2 = .ok (.lconst 0, 1) := by decide +kernel
theorem dX8_isSheet_3 : decode cX8_isSheet 3 = .ok (.ldc2_w 111, 3) := by decide +kernel
theorem dX8_isSheet_6 : decode cX8_isSheet 6 = .ok (.invokestatic 87, 3) := by decide +kernel
theorem dX8_isSheet_9 : decode cX8_isSheet 9 = .ok (.ireturn, 1) := by decide +kernel
theorem dX8_isLane_0 : decode cX8_isLane 0 = .ok (.iload_n 0, 1) := by decide +kernel
theorem dX8_isLane_1 : decode cX8_isLane 1 = .ok (.i2l, 1) := by decide +kernel
theorem dX8_isLane_2 : decode cX8_isLane 2 = .ok (.lconst 0, 1) := by decide +kernel
theorem dX8_isLane_3 : decode cX8_isLane 3 = .ok (.ldc2_w 133, 3) := by decide +kernel
theorem dX8_isLane_6 : decode cX8_isLane 6 = .ok (.invokestatic 87, 3) := by decide +kernel
theorem dX8_isLane_9 : decode cX8_isLane 9 = .ok (.ireturn, 1) := by decide +kernel
theorem dX8_finds_0 : decode cX8_finds 0 = .ok (.aload_n 0, 1) := by decide +kernel
theorem dX8_finds_1 : decode cX8_finds 1 = .ok (.getfield 73, 3) := by decide +kernel
theorem dX8_finds_4 : decode cX8_finds 4 = .ok (.iload_n 1, 1) := by decide +kernel
theorem dX8_finds_5 : decode cX8_finds 5 = .ok (.iaload, 1) := by decide +kernel
theorem dX8_finds_6 : decode cX8_finds 6 = .ok (.ifCond .ge 6, 3) := by decide +kernel
theorem dX8_finds_9 : decode cX8_finds 9 = .ok (.bipush (-11), 2) := by decide +kernel
theorem dX8_finds_11 : decode cX8_finds 11 = .ok (.ireturn, 1) := by decide +kernel
theorem dX8_finds_12 : decode cX8_finds 12 = .ok (.aload_n 0, 1) := by decide +kernel
theorem dX8_finds_13 : decode cX8_finds 13 = .ok (.getfield 73, 3) := by decide +kernel
theorem dX8_finds_16 : decode cX8_finds 16 = .ok (.iload_n 1, 1) := by decide +kernel
theorem dX8_finds_17 : decode cX8_finds 17 = .ok (.iaload, 1) := by decide +kernel
theorem dX8_finds_18 : decode cX8_finds 18 = .ok (.iload_n 2, 1) := by decide +kernel
theorem dX8_finds_19 : decode cX8_finds 19 = .ok (.if_icmp .eq 6, 3) := by decide +kernel
theorem dX8_finds_22 : decode cX8_finds 22 = .ok (.bipush (-12), 2) := by decide +kernel
theorem dX8_finds_24 : decode cX8_finds 24 = .ok (.ireturn, 1) := by decide +kernel
theorem dX8_finds_25 : decode cX8_finds 25 = .ok (.iload_n 3, 1) := by decide +kernel
theorem dX8_finds_26 : decode cX8_finds 26 = .ok (.ifCond .lt 20, 3) := by decide +kernel
theorem dX8_finds_29 : decode cX8_finds 29 = .ok (.iload_n 3, 1) := by decide +kernel
theorem dX8_finds_30 : decode cX8_finds 30 = .ok (.i2l, 1) := by decide +kernel
theorem dX8_finds_31 : decode cX8_finds 31 = .ok (.iload 4, 2) := by decide +kernel
theorem dX8_finds_33 : decode cX8_finds 33 = .ok (.i2l, 1) := by decide +kernel
theorem dX8_finds_34 : decode cX8_finds 34 = .ok (.ladd, 1) := by decide +kernel
theorem dX8_finds_35 : decode cX8_finds 35 = .ok (.aload_n 0, 1) := by decide +kernel
theorem dX8_finds_36 : decode cX8_finds 36 = .ok (.getfield 76, 3) := by decide +kernel
theorem dX8_finds_39 : decode cX8_finds 39 = .ok (.iload_n 1, 1) := by decide +kernel
theorem dX8_finds_40 : decode cX8_finds 40 = .ok (.iaload, 1) := by decide +kernel
theorem dX8_finds_41 : decode cX8_finds 41 = .ok (.i2l, 1) := by decide +kernel
theorem dX8_finds_42 : decode cX8_finds 42 = .ok (.lcmp, 1) := by decide +kernel
theorem dX8_finds_43 : decode cX8_finds 43 = .ok (.ifCond .le 8, 3) := by decide +kernel
theorem dX8_finds_46 : decode cX8_finds 46 = .ok (.bipush (-13), 2) := by decide +kernel
theorem dX8_finds_48 : decode cX8_finds 48 = .ok (.goto 4, 3) := by decide +kernel
theorem dX8_finds_51 : decode cX8_finds 51 = .ok (.iconst 0, 1) := by decide +kernel
theorem dX8_finds_52 : decode cX8_finds 52 = .ok (.ireturn, 1) := by decide +kernel
theorem dX8_sheet_0 : decode cX8_sheet 0 = .ok (.iload_n 1, 1) := by decide +kernel
theorem dX8_sheet_1 : decode cX8_sheet 1 = .ok (.invokestatic 101, 3) := by decide +kernel
theorem dX8_sheet_4 : decode cX8_sheet 4 = .ok (.ifCond .eq 16, 3) := by decide +kernel
theorem dX8_sheet_7 : decode cX8_sheet 7 = .ok (.iload_n 2, 1) := by decide +kernel
theorem dX8_sheet_8 : decode cX8_sheet 8 = .ok (.invokestatic 104, 3) := by decide +kernel
theorem dX8_sheet_11 : decode cX8_sheet 11 = .ok (.ifCond .eq 9, 3) := by decide +kernel
theorem dX8_sheet_14 : decode cX8_sheet 14 = .ok (.iload_n 3, 1) := by decide +kernel
theorem dX8_sheet_15 : decode cX8_sheet 15 = .ok (.bipush 40, 2) := by decide +kernel
theorem dX8_sheet_17 : decode cX8_sheet 17 = .ok (.if_icmp .le 5, 3) := by decide +kernel
theorem dX8_sheet_20 : decode cX8_sheet 20 = .ok (.iconst (-1), 1) := by decide +kernel
theorem dX8_sheet_21 : decode cX8_sheet 21 = .ok (.ireturn, 1) := by decide +kernel
theorem dX8_sheet_22 : decode cX8_sheet 22 = .ok (.iload_n 3, 1) := by decide +kernel
theorem dX8_sheet_23 : decode cX8_sheet 23 = .ok (.ifCond .ge 6, 3) := by decide +kernel
theorem dX8_sheet_26 : decode cX8_sheet 26 = .ok (.bipush (-14), 2) := by decide +kernel
theorem dX8_sheet_28 : decode cX8_sheet 28 = .ok (.ireturn, 1) := by decide +kernel
theorem dX8_sheet_29 : decode cX8_sheet 29 = .ok (.aload_n 0, 1) := by decide +kernel
theorem dX8_sheet_30 : decode cX8_sheet 30 = .ok (.getfield 73, 3) := by decide +kernel
theorem dX8_sheet_33 : decode cX8_sheet 33 = .ok (.iload_n 1, 1) := by decide +kernel
theorem dX8_sheet_34 : decode cX8_sheet 34 = .ok (.iload_n 2, 1) := by decide +kernel
theorem dX8_sheet_35 : decode cX8_sheet 35 = .ok (.iastore, 1) := by decide +kernel
theorem dX8_sheet_36 : decode cX8_sheet 36 = .ok (.aload_n 0, 1) := by decide +kernel
theorem dX8_sheet_37 : decode cX8_sheet 37 = .ok (.getfield 76, 3) := by decide +kernel
theorem dX8_sheet_40 : decode cX8_sheet 40 = .ok (.iload_n 1, 1) := by decide +kernel
theorem dX8_sheet_41 : decode cX8_sheet 41 = .ok (.iload_n 3, 1) := by decide +kernel
theorem dX8_sheet_42 : decode cX8_sheet 42 = .ok (.iastore, 1) := by decide +kernel
theorem dX8_sheet_43 : decode cX8_sheet 43 = .ok (.iconst 0, 1) := by decide +kernel
theorem dX8_sheet_44 : decode cX8_sheet 44 = .ok (.istore 4, 2) := by decide +kernel
theorem dX8_sheet_46 : decode cX8_sheet 46 = .ok (.iload 4, 2) := by decide +kernel
theorem dX8_sheet_48 : decode cX8_sheet 48 = .ok (.bipush 40, 2) := by decide +kernel
theorem dX8_sheet_50 : decode cX8_sheet 50 = .ok (.if_icmp .ge 22, 3) := by decide +kernel
theorem dX8_sheet_53 : decode cX8_sheet 53 = .ok (.aload_n 0, 1) := by decide +kernel
theorem dX8_sheet_54 : decode cX8_sheet 54 = .ok (.getfield 79, 3) := by decide +kernel
theorem dX8_sheet_57 : decode cX8_sheet 57 = .ok (.bipush 40, 2) := by decide +kernel
theorem dX8_sheet_59 : decode cX8_sheet 59 = .ok (.iload_n 1, 1) := by decide +kernel
theorem dX8_sheet_60 : decode cX8_sheet 60 = .ok (.imul, 1) := by decide +kernel
theorem dX8_sheet_61 : decode cX8_sheet 61 = .ok (.iload 4, 2) := by decide +kernel
theorem dX8_sheet_63 : decode cX8_sheet 63 = .ok (.iadd, 1) := by decide +kernel
theorem dX8_sheet_64 : decode cX8_sheet 64 = .ok (.iconst 0, 1) := by decide +kernel
theorem dX8_sheet_65 : decode cX8_sheet 65 = .ok (.iastore, 1) := by decide +kernel
theorem dX8_sheet_66 : decode cX8_sheet 66 = .ok (.iinc 4 1, 3) := by decide +kernel
theorem dX8_sheet_69 : decode cX8_sheet 69 = .ok (.goto (-23), 3) := by decide +kernel
theorem dX8_sheet_72 : decode cX8_sheet 72 = .ok (.iload_n 3, 1) := by decide +kernel
theorem dX8_sheet_73 : decode cX8_sheet 73 = .ok (.ireturn, 1) := by decide +kernel
theorem dX8_drop_0 : decode cX8_drop 0 = .ok (.iload_n 1, 1) := by decide +kernel
theorem dX8_drop_1 : decode cX8_drop 1 = .ok (.invokestatic 101, 3) := by decide +kernel
theorem dX8_drop_4 : decode cX8_drop 4 = .ok (.ifCond .ne 5, 3) := by decide +kernel
theorem dX8_drop_7 : decode cX8_drop 7 = .ok (.iconst (-1), 1) := by decide +kernel
theorem dX8_drop_8 : decode cX8_drop 8 = .ok (.ireturn, 1) := by decide +kernel
theorem dX8_drop_9 : decode cX8_drop 9 = .ok (.aload_n 0, 1) := by decide +kernel
theorem dX8_drop_10 : decode cX8_drop 10 = .ok (.getfield 73, 3) := by decide +kernel
theorem dX8_drop_13 : decode cX8_drop 13 = .ok (.iload_n 1, 1) := by decide +kernel
theorem dX8_drop_14 : decode cX8_drop 14 = .ok (.iaload, 1) := by decide +kernel
theorem dX8_drop_15 : decode cX8_drop 15 = .ok (.ifCond .ge 6, 3) := by decide +kernel
theorem dX8_drop_18 : decode cX8_drop 18 = .ok (.bipush (-11), 2) := by decide +kernel
theorem dX8_drop_20 : decode cX8_drop 20 = .ok (.ireturn, 1) := by decide +kernel
theorem dX8_drop_21 : decode cX8_drop 21 = .ok (.aload_n 0, 1) := by decide +kernel
theorem dX8_drop_22 : decode cX8_drop 22 = .ok (.getfield 73, 3) := by decide +kernel
theorem dX8_drop_25 : decode cX8_drop 25 = .ok (.iload_n 1, 1) := by decide +kernel
theorem dX8_drop_26 : decode cX8_drop 26 = .ok (.iconst (-1), 1) := by decide +kernel
theorem dX8_drop_27 : decode cX8_drop 27 = .ok (.iastore, 1) := by decide +kernel
theorem dX8_drop_28 : decode cX8_drop 28 = .ok (.aload_n 0, 1) := by decide +kernel
theorem dX8_drop_29 : decode cX8_drop 29 = .ok (.getfield 76, 3) := by decide +kernel
theorem dX8_drop_32 : decode cX8_drop 32 = .ok (.iload_n 1, 1) := by decide +kernel
theorem dX8_drop_33 : decode cX8_drop 33 = .ok (.iaload, 1) := by decide +kernel
theorem dX8_drop_34 : decode cX8_drop 34 = .ok (.ireturn, 1) := by decide +kernel
theorem dX8_item_0 : decode cX8_item 0 = .ok (.iload_n 1, 1) := by decide +kernel
theorem dX8_item_1 : decode cX8_item 1 = .ok (.invokestatic 101, 3) := by decide +kernel
theorem dX8_item_4 : decode cX8_item 4 = .ok (.ifCond .eq 10, 3) := by decide +kernel
theorem dX8_item_7 : decode cX8_item 7 = .ok (.iload_n 2, 1) := by decide +kernel
theorem dX8_item_8 : decode cX8_item 8 = .ok (.invokestatic 104, 3) := by decide +kernel
theorem dX8_item_11 : decode cX8_item 11 = .ok (.ifCond .ne 5, 3) := by decide +kernel
theorem dX8_item_14 : decode cX8_item 14 = .ok (.iconst (-1), 1) := by decide +kernel
theorem dX8_item_15 : decode cX8_item 15 = .ok (.ireturn, 1) := by decide +kernel
theorem dX8_item_16 : decode cX8_item 16 = .ok (.aload_n 0, 1) := by decide +kernel
theorem dX8_item_17 : decode cX8_item 17 = .ok (.iload_n 1, 1) := by decide +kernel
theorem dX8_item_18 : decode cX8_item 18 = .ok (.iload_n 2, 1) := by decide +kernel
theorem dX8_item_19 : decode cX8_item 19 = .ok (.iload_n 3, 1) := by decide +kernel
theorem dX8_item_20 : decode cX8_item 20 = .ok (.iconst 1, 1) := by decide +kernel
theorem dX8_item_21 : decode cX8_item 21 = .ok (.invokevirtual 107, 3) := by decide +kernel
theorem dX8_item_24 : decode cX8_item 24 = .ok (.istore 5, 2) := by decide +kernel
theorem dX8_item_26 : decode cX8_item 26 = .ok (.iload 5, 2) := by decide +kernel
theorem dX8_item_28 : decode cX8_item 28 = .ok (.ifCond .ge 6, 3) := by decide +kernel
theorem dX8_item_31 : decode cX8_item 31 = .ok (.iload 5, 2) := by decide +kernel
theorem dX8_item_33 : decode cX8_item 33 = .ok (.ireturn, 1) := by decide +kernel
theorem dX8_item_34 : decode cX8_item 34 = .ok (.aload_n 0, 1) := by decide +kernel
theorem dX8_item_35 : decode cX8_item 35 = .ok (.getfield 79, 3) := by decide +kernel
theorem dX8_item_38 : decode cX8_item 38 = .ok (.bipush 40, 2) := by decide +kernel
theorem dX8_item_40 : decode cX8_item 40 = .ok (.iload_n 1, 1) := by decide +kernel
theorem dX8_item_41 : decode cX8_item 41 = .ok (.imul, 1) := by decide +kernel
theorem dX8_item_42 : decode cX8_item 42 = .ok (.iload_n 3, 1) := by decide +kernel
theorem dX8_item_43 : decode cX8_item 43 = .ok (.iadd, 1) := by decide +kernel
theorem dX8_item_44 : decode cX8_item 44 = .ok (.iload_n 2, 1) := by decide +kernel
theorem dX8_item_45 : decode cX8_item 45 = .ok (.ifCond .ne 9, 3) := by decide +kernel
theorem dX8_item_48 : decode cX8_item 48 = .ok (.iload 4, 2) := by decide +kernel
theorem dX8_item_50 : decode cX8_item 50 = .ok (.i2b, 1) := by decide +kernel
theorem dX8_item_51 : decode cX8_item 51 = .ok (.goto 16, 3) := by decide +kernel
theorem dX8_item_54 : decode cX8_item 54 = .ok (.iload_n 2, 1) := by decide +kernel
theorem dX8_item_55 : decode cX8_item 55 = .ok (.iconst 1, 1) := by decide +kernel
theorem dX8_item_56 : decode cX8_item 56 = .ok (.if_icmp .ne 9, 3) := by decide +kernel
theorem dX8_item_59 : decode cX8_item 59 = .ok (.iload 4, 2) := by decide +kernel
theorem dX8_item_61 : decode cX8_item 61 = .ok (.i2s, 1) := by decide +kernel
theorem dX8_item_62 : decode cX8_item 62 = .ok (.goto 5, 3) := by decide +kernel
theorem dX8_item_65 : decode cX8_item 65 = .ok (.iload 4, 2) := by decide +kernel
theorem dX8_item_67 : decode cX8_item 67 = .ok (.iastore, 1) := by decide +kernel
theorem dX8_item_68 : decode cX8_item 68 = .ok (.iconst 1, 1) := by decide +kernel
theorem dX8_item_69 : decode cX8_item 69 = .ok (.ireturn, 1) := by decide +kernel
theorem dX8_copy_0 : decode cX8_copy 0 = .ok (.iload_n 1, 1) := by decide +kernel
theorem dX8_copy_1 : decode cX8_copy 1 = .ok (.invokestatic 101, 3) := by decide +kernel
theorem dX8_copy_4 : decode cX8_copy 4 = .ok (.ifCond .eq 10, 3) := by decide +kernel
theorem dX8_copy_7 : decode cX8_copy 7 = .ok (.iload_n 3, 1) := by decide +kernel
theorem dX8_copy_8 : decode cX8_copy 8 = .ok (.invokestatic 101, 3) := by decide +kernel
theorem dX8_copy_11 : decode cX8_copy 11 = .ok (.ifCond .ne 5, 3) := by decide +kernel
theorem dX8_copy_14 : decode cX8_copy 14 = .ok (.iconst (-1), 1) := by decide +kernel
theorem dX8_copy_15 : decode cX8_copy 15 = .ok (.ireturn, 1) := by decide +kernel
theorem dX8_copy_16 : decode cX8_copy 16 = .ok (.aload_n 0, 1) := by decide +kernel
theorem dX8_copy_17 : decode cX8_copy 17 = .ok (.getfield 73, 3) := by decide +kernel
theorem dX8_copy_20 : decode cX8_copy 20 = .ok (.iload_n 1, 1) := by decide +kernel
theorem dX8_copy_21 : decode cX8_copy 21 = .ok (.iaload, 1) := by decide +kernel
theorem dX8_copy_22 : decode cX8_copy 22 = .ok (.ifCond .lt 12, 3) := by decide +kernel
theorem dX8_copy_25 : decode cX8_copy 25 = .ok (.aload_n 0, 1) := by decide +kernel
theorem dX8_copy_26 : decode cX8_copy 26 = .ok (.getfield 73, 3) := by decide +kernel
theorem dX8_copy_29 : decode cX8_copy 29 = .ok (.iload_n 3, 1) := by decide +kernel
theorem dX8_copy_30 : decode cX8_copy 30 = .ok (.iaload, 1) := by decide +kernel
theorem dX8_copy_31 : decode cX8_copy 31 = .ok (.ifCond .ge 6, 3) := by decide +kernel
theorem dX8_copy_34 : decode cX8_copy 34 = .ok (.bipush (-11), 2) := by decide +kernel
theorem dX8_copy_36 : decode cX8_copy 36 = .ok (.ireturn, 1) := by decide +kernel
theorem dX8_copy_37 : decode cX8_copy 37 = .ok (.aload_n 0, 1) := by decide +kernel
theorem dX8_copy_38 : decode cX8_copy 38 = .ok (.getfield 73, 3) := by decide +kernel
theorem dX8_copy_41 : decode cX8_copy 41 = .ok (.iload_n 1, 1) := by decide +kernel
theorem dX8_copy_42 : decode cX8_copy 42 = .ok (.iaload, 1) := by decide +kernel
theorem dX8_copy_43 : decode cX8_copy 43 = .ok (.aload_n 0, 1) := by decide +kernel
theorem dX8_copy_44 : decode cX8_copy 44 = .ok (.getfield 73, 3) := by decide +kernel
theorem dX8_copy_47 : decode cX8_copy 47 = .ok (.iload_n 3, 1) := by decide +kernel
theorem dX8_copy_48 : decode cX8_copy 48 = .ok (.iaload, 1) := by decide +kernel
theorem dX8_copy_49 : decode cX8_copy 49 = .ok (.if_icmp .eq 6, 3) := by decide +kernel
theorem dX8_copy_52 : decode cX8_copy 52 = .ok (.bipush (-12), 2) := by decide +kernel
theorem dX8_copy_54 : decode cX8_copy 54 = .ok (.ireturn, 1) := by decide +kernel
theorem dX8_copy_55 : decode cX8_copy 55 = .ok (.iload 5, 2) := by decide +kernel
theorem dX8_copy_57 : decode cX8_copy 57 = .ok (.ifCond .lt 38, 3) := by decide +kernel
theorem dX8_copy_60 : decode cX8_copy 60 = .ok (.aload_n 0, 1) := by decide +kernel
theorem dX8_copy_61 : decode cX8_copy 61 = .ok (.iload_n 1, 1) := by decide +kernel
theorem dX8_copy_62 : decode cX8_copy 62 = .ok (.aload_n 0, 1) := by decide +kernel
theorem dX8_copy_63 : decode cX8_copy 63 = .ok (.getfield 73, 3) := by decide +kernel
theorem dX8_copy_66 : decode cX8_copy 66 = .ok (.iload_n 1, 1) := by decide +kernel
theorem dX8_copy_67 : decode cX8_copy 67 = .ok (.iaload, 1) := by decide +kernel
theorem dX8_copy_68 : decode cX8_copy 68 = .ok (.iload_n 2, 1) := by decide +kernel
theorem dX8_copy_69 : decode cX8_copy 69 = .ok (.iload 5, 2) := by decide +kernel
theorem dX8_copy_71 : decode cX8_copy 71 = .ok (.invokevirtual 107, 3) := by decide +kernel
theorem dX8_copy_74 : decode cX8_copy 74 = .ok (.ifCond .lt 21, 3) := by decide +kernel
theorem dX8_copy_77 : decode cX8_copy 77 = .ok (.aload_n 0, 1) := by decide +kernel
theorem dX8_copy_78 : decode cX8_copy 78 = .ok (.iload_n 3, 1) := by decide +kernel
theorem dX8_copy_79 : decode cX8_copy 79 = .ok (.aload_n 0, 1) := by decide +kernel
theorem dX8_copy_80 : decode cX8_copy 80 = .ok (.getfield 73, 3) := by decide +kernel
theorem dX8_copy_83 : decode cX8_copy 83 = .ok (.iload_n 3, 1) := by decide +kernel
theorem dX8_copy_84 : decode cX8_copy 84 = .ok (.iaload, 1) := by decide +kernel
theorem dX8_copy_85 : decode cX8_copy 85 = .ok (.iload 4, 2) := by decide +kernel
theorem dX8_copy_87 : decode cX8_copy 87 = .ok (.iload 5, 2) := by decide +kernel
theorem dX8_copy_89 : decode cX8_copy 89 = .ok (.invokevirtual 107, 3) := by decide +kernel
theorem dX8_copy_92 : decode cX8_copy 92 = .ok (.ifCond .ge 6, 3) := by decide +kernel
theorem dX8_copy_95 : decode cX8_copy 95 = .ok (.bipush (-13), 2) := by decide +kernel
theorem dX8_copy_97 : decode cX8_copy 97 = .ok (.ireturn, 1) := by decide +kernel
theorem dX8_copy_98 : decode cX8_copy 98 = .ok (.iconst 0, 1) := by decide +kernel
theorem dX8_copy_99 : decode cX8_copy 99 = .ok (.istore 6, 2) := by decide +kernel
theorem dX8_copy_101 : decode cX8_copy 101 = .ok (.iload 6, 2) := by decide +kernel
theorem dX8_copy_103 : decode cX8_copy 103 = .ok (.iload 5, 2) := by decide +kernel
theorem dX8_copy_105 : decode cX8_copy 105 = .ok (.if_icmp .ge 30, 3) := by decide +kernel
theorem dX8_copy_108 : decode cX8_copy 108 = .ok (.aload_n 0, 1) := by decide +kernel
theorem dX8_copy_109 : decode cX8_copy 109 = .ok (.getfield 82, 3) := by decide +kernel
theorem dX8_copy_112 : decode cX8_copy 112 = .ok (.iload 6, 2) := by decide +kernel
theorem dX8_copy_114 : decode cX8_copy 114 = .ok (.aload_n 0, 1) := by decide +kernel
theorem dX8_copy_115 : decode cX8_copy 115 = .ok (.getfield 79, 3) := by decide +kernel
theorem dX8_copy_118 : decode cX8_copy 118 = .ok (.bipush 40, 2) := by decide +kernel
theorem dX8_copy_120 : decode cX8_copy 120 = .ok (.iload_n 1, 1) := by decide +kernel
theorem dX8_copy_121 : decode cX8_copy 121 = .ok (.imul, 1) := by decide +kernel
theorem dX8_copy_122 : decode cX8_copy 122 = .ok (.iload_n 2, 1) := by decide +kernel
theorem dX8_copy_123 : decode cX8_copy 123 = .ok (.iadd, 1) := by decide +kernel
theorem dX8_copy_124 : decode cX8_copy 124 = .ok (.iload 6, 2) := by decide +kernel
theorem dX8_copy_126 : decode cX8_copy 126 = .ok (.iadd, 1) := by decide +kernel
theorem dX8_copy_127 : decode cX8_copy 127 = .ok (.iaload, 1) := by decide +kernel
theorem dX8_copy_128 : decode cX8_copy 128 = .ok (.iastore, 1) := by decide +kernel
theorem dX8_copy_129 : decode cX8_copy 129 = .ok (.iinc 6 1, 3) := by decide +kernel
theorem dX8_copy_132 : decode cX8_copy 132 = .ok (.goto (-31), 3) := by decide +kernel
theorem dX8_copy_135 : decode cX8_copy 135 = .ok (.iconst 0, 1) := by decide +kernel
theorem dX8_copy_136 : decode cX8_copy 136 = .ok (.istore 6, 2) := by decide +kernel
theorem dX8_copy_138 : decode cX8_copy 138 = .ok (.iload 6, 2) := by decide +kernel
theorem dX8_copy_140 : decode cX8_copy 140 = .ok (.iload 5, 2) := by decide +kernel
theorem dX8_copy_142 : decode cX8_copy 142 = .ok (.if_icmp .ge 31, 3) := by decide +kernel
theorem dX8_copy_145 : decode cX8_copy 145 = .ok (.aload_n 0, 1) := by decide +kernel
theorem dX8_copy_146 : decode cX8_copy 146 = .ok (.getfield 79, 3) := by decide +kernel
theorem dX8_copy_149 : decode cX8_copy 149 = .ok (.bipush 40, 2) := by decide +kernel
theorem dX8_copy_151 : decode cX8_copy 151 = .ok (.iload_n 3, 1) := by decide +kernel
theorem dX8_copy_152 : decode cX8_copy 152 = .ok (.imul, 1) := by decide +kernel
theorem dX8_copy_153 : decode cX8_copy 153 = .ok (.iload 4, 2) := by decide +kernel
theorem dX8_copy_155 : decode cX8_copy 155 = .ok (.iadd, 1) := by decide +kernel
theorem dX8_copy_156 : decode cX8_copy 156 = .ok (.iload 6, 2) := by decide +kernel
theorem dX8_copy_158 : decode cX8_copy 158 = .ok (.iadd, 1) := by decide +kernel
theorem dX8_copy_159 : decode cX8_copy 159 = .ok (.aload_n 0, 1) := by decide +kernel
theorem dX8_copy_160 : decode cX8_copy 160 = .ok (.getfield 82, 3) := by decide +kernel
theorem dX8_copy_163 : decode cX8_copy 163 = .ok (.iload 6, 2) := by decide +kernel
theorem dX8_copy_165 : decode cX8_copy 165 = .ok (.iaload, 1) := by decide +kernel
theorem dX8_copy_166 : decode cX8_copy 166 = .ok (.iastore, 1) := by decide +kernel
theorem dX8_copy_167 : decode cX8_copy 167 = .ok (.iinc 6 1, 3) := by decide +kernel
theorem dX8_copy_170 : decode cX8_copy 170 = .ok (.goto (-32), 3) := by decide +kernel
theorem dX8_copy_173 : decode cX8_copy 173 = .ok (.iload 5, 2) := by decide +kernel
theorem dX8_copy_175 : decode cX8_copy 175 = .ok (.ireturn, 1) := by decide +kernel
theorem dJ6_bitCount_0f7a4_0 : decode cJ6_bitCount_0f7a4 0 = .ok (.iload_n 0, 1) := by decide +kernel
theorem dJ6_bitCount_0f7a4_1 : decode cJ6_bitCount_0f7a4 1 = .ok (.iload_n 0, 1) := by decide +kernel
theorem dJ6_bitCount_0f7a4_2 : decode cJ6_bitCount_0f7a4 2 = .ok (.iconst 1, 1) := by decide +kernel
theorem dJ6_bitCount_0f7a4_3 : decode cJ6_bitCount_0f7a4 3 = .ok (.iushr, 1) := by decide +kernel
theorem dJ6_bitCount_0f7a4_4 : decode cJ6_bitCount_0f7a4 4 = .ok (.ldc_w 265, 3) := by decide +kernel
theorem dJ6_bitCount_0f7a4_7 : decode cJ6_bitCount_0f7a4 7 = .ok (.iand, 1) := by decide +kernel
theorem dJ6_bitCount_0f7a4_8 : decode cJ6_bitCount_0f7a4 8 = .ok (.isub, 1) := by decide +kernel
theorem dJ6_bitCount_0f7a4_9 : decode cJ6_bitCount_0f7a4 9 = .ok (.istore_n 0, 1) := by decide +kernel
theorem dJ6_bitCount_0f7a4_10 : decode cJ6_bitCount_0f7a4 10 = .ok (.iload_n 0, 1) := by decide +kernel
theorem dJ6_bitCount_0f7a4_11 : decode cJ6_bitCount_0f7a4 11 = .ok (.ldc_w 266, 3) := by decide +kernel
theorem dJ6_bitCount_0f7a4_14 : decode cJ6_bitCount_0f7a4 14 = .ok (.iand, 1) := by decide +kernel
theorem dJ6_bitCount_0f7a4_15 : decode cJ6_bitCount_0f7a4 15 = .ok (.iload_n 0, 1) := by decide +kernel
theorem dJ6_bitCount_0f7a4_16 : decode cJ6_bitCount_0f7a4 16 = .ok (.iconst 2, 1) := by decide +kernel
theorem dJ6_bitCount_0f7a4_17 : decode cJ6_bitCount_0f7a4 17 = .ok (.iushr, 1) := by decide +kernel
theorem dJ6_bitCount_0f7a4_18 : decode cJ6_bitCount_0f7a4 18 = .ok (.ldc_w 266, 3) := by decide +kernel
theorem dJ6_bitCount_0f7a4_21 : decode cJ6_bitCount_0f7a4 21 = .ok (.iand, 1) := by decide +kernel
theorem dJ6_bitCount_0f7a4_22 : decode cJ6_bitCount_0f7a4 22 = .ok (.iadd, 1) := by decide +kernel
theorem dJ6_bitCount_0f7a4_23 : decode cJ6_bitCount_0f7a4 23 = .ok (.istore_n 0, 1) := by decide +kernel
theorem dJ6_bitCount_0f7a4_24 : decode cJ6_bitCount_0f7a4 24 = .ok (.iload_n 0, 1) := by decide +kernel
theorem dJ6_bitCount_0f7a4_25 : decode cJ6_bitCount_0f7a4 25 = .ok (.iload_n 0, 1) := by decide +kernel
theorem dJ6_bitCount_0f7a4_26 : decode cJ6_bitCount_0f7a4 26 = .ok (.iconst 4, 1) := by decide +kernel
theorem dJ6_bitCount_0f7a4_27 : decode cJ6_bitCount_0f7a4 27 = .ok (.iushr, 1) := by decide +kernel
theorem dJ6_bitCount_0f7a4_28 : decode cJ6_bitCount_0f7a4 28 = .ok (.iadd, 1) := by decide +kernel
theorem dJ6_bitCount_0f7a4_29 : decode cJ6_bitCount_0f7a4 29 = .ok (.ldc_w 267, 3) := by decide +kernel
theorem dJ6_bitCount_0f7a4_32 : decode cJ6_bitCount_0f7a4 32 = .ok (.iand, 1) := by decide +kernel
theorem dJ6_bitCount_0f7a4_33 : decode cJ6_bitCount_0f7a4 33 = .ok (.istore_n 0, 1) := by decide +kernel
theorem dJ6_bitCount_0f7a4_34 : decode cJ6_bitCount_0f7a4 34 = .ok (.iload_n 0, 1) := by decide +kernel
theorem dJ6_bitCount_0f7a4_35 : decode cJ6_bitCount_0f7a4 35 = .ok (.iload_n 0, 1) := by decide +kernel
theorem dJ6_bitCount_0f7a4_36 : decode cJ6_bitCount_0f7a4 36 = .ok (.bipush 8, 2) := by decide +kernel
theorem dJ6_bitCount_0f7a4_38 : decode cJ6_bitCount_0f7a4 38 = .ok (.iushr, 1) := by decide +kernel
theorem dJ6_bitCount_0f7a4_39 : decode cJ6_bitCount_0f7a4 39 = .ok (.iadd, 1) := by decide +kernel
theorem dJ6_bitCount_0f7a4_40 : decode cJ6_bitCount_0f7a4 40 = .ok (.istore_n 0, 1) := by decide +kernel
theorem dJ6_bitCount_0f7a4_41 : decode cJ6_bitCount_0f7a4 41 = .ok (.iload_n 0, 1) := by decide +kernel
theorem dJ6_bitCount_0f7a4_42 : decode cJ6_bitCount_0f7a4 42 = .ok (.iload_n 0, 1) := by decide +kernel
theorem dJ6_bitCount_0f7a4_43 : decode cJ6_bitCount_0f7a4 43 = .ok (.bipush 16, 2) := by decide +kernel
theorem dJ6_bitCount_0f7a4_45 : decode cJ6_bitCount_0f7a4 45 = .ok (.iushr, 1) := by decide +kernel
theorem dJ6_bitCount_0f7a4_46 : decode cJ6_bitCount_0f7a4 46 = .ok (.iadd, 1) := by decide +kernel
theorem dJ6_bitCount_0f7a4_47 : decode cJ6_bitCount_0f7a4 47 = .ok (.istore_n 0, 1) := by decide +kernel
theorem dJ6_bitCount_0f7a4_48 : decode cJ6_bitCount_0f7a4 48 = .ok (.iload_n 0, 1) := by decide +kernel
theorem dJ6_bitCount_0f7a4_49 : decode cJ6_bitCount_0f7a4 49 = .ok (.bipush 63, 2) := by decide +kernel
theorem dJ6_bitCount_0f7a4_51 : decode cJ6_bitCount_0f7a4 51 = .ok (.iand, 1) := by decide +kernel
theorem dJ6_bitCount_0f7a4_52 : decode cJ6_bitCount_0f7a4 52 = .ok (.ireturn, 1) := by decide +kernel
theorem dJ9_max_7cf53_0 : decode cJ9_max_7cf53 0 = .ok (.iload_n 0, 1) := by decide +kernel
theorem dJ9_max_7cf53_1 : decode cJ9_max_7cf53 1 = .ok (.iload_n 1, 1) := by decide +kernel
theorem dJ9_max_7cf53_2 : decode cJ9_max_7cf53 2 = .ok (.if_icmp .lt 7, 3) := by decide +kernel
theorem dJ9_max_7cf53_5 : decode cJ9_max_7cf53 5 = .ok (.iload_n 0, 1) := by decide +kernel
theorem dJ9_max_7cf53_6 : decode cJ9_max_7cf53 6 = .ok (.goto 4, 3) := by decide +kernel
theorem dJ9_max_7cf53_9 : decode cJ9_max_7cf53 9 = .ok (.iload_n 1, 1) := by decide +kernel
theorem dJ9_max_7cf53_10 : decode cJ9_max_7cf53 10 = .ok (.ireturn, 1) := by decide +kernel
