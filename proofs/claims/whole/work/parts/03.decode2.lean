theorem dX7_isAhead_104 : decode cX7_isAhead 104 = .ok (.iload 5, 2) := by decide +kernel
theorem dX7_isAhead_106 : decode cX7_isAhead 106 = .ok (.ifCond .le 7, 3) := by decide +kernel
theorem dX7_isAhead_109 : decode cX7_isAhead 109 = .ok (.iconst 1, 1) := by decide +kernel
theorem dX7_isAhead_110 : decode cX7_isAhead 110 = .ok (.goto 4, 3) := by decide +kernel
theorem dX7_isAhead_113 : decode cX7_isAhead 113 = .ok (.iconst 0, 1) := by decide +kernel
theorem dX7_isAhead_114 : decode cX7_isAhead 114 = .ok (.ireturn, 1) := by decide +kernel
theorem dX7_orderOf_0 : decode cX7_orderOf 0 = .ok (.iconst 0, 1) := by decide +kernel
theorem dX7_orderOf_1 : decode cX7_orderOf 1 = .ok (.istore_n 2, 1) := by decide +kernel
theorem dX7_orderOf_2 : decode cX7_orderOf 2 = .ok (.iconst 0, 1) := by decide +kernel
theorem dX7_orderOf_3 : decode cX7_orderOf 3 = .ok (.istore_n 3, 1) := by decide +kernel
theorem dX7_orderOf_4 : decode cX7_orderOf 4 = .ok (.iload_n 3, 1) := by decide +kernel
theorem dX7_orderOf_5 : decode cX7_orderOf 5 = .ok (.iconst 2, 1) := by decide +kernel
theorem dX7_orderOf_6 : decode cX7_orderOf 6 = .ok (.aload_n 0, 1) := by decide +kernel
theorem dX7_orderOf_7 : decode cX7_orderOf 7 = .ok (.getfield 7, 3) := by decide +kernel
theorem dX7_orderOf_10 : decode cX7_orderOf 10 = .ok (.iconst 1, 1) := by decide +kernel
theorem dX7_orderOf_11 : decode cX7_orderOf 11 = .ok (.iaload, 1) := by decide +kernel
theorem dX7_orderOf_12 : decode cX7_orderOf 12 = .ok (.imul, 1) := by decide +kernel
theorem dX7_orderOf_13 : decode cX7_orderOf 13 = .ok (.if_icmp .ge 44, 3) := by decide +kernel
theorem dX7_orderOf_16 : decode cX7_orderOf 16 = .ok (.iload_n 2, 1) := by decide +kernel
theorem dX7_orderOf_17 : decode cX7_orderOf 17 = .ok (.iload_n 3, 1) := by decide +kernel
theorem dX7_orderOf_18 : decode cX7_orderOf 18 = .ok (.iload_n 1, 1) := by decide +kernel
theorem dX7_orderOf_19 : decode cX7_orderOf 19 = .ok (.if_icmp .eq 29, 3) := by decide +kernel
theorem dX7_orderOf_22 : decode cX7_orderOf 22 = .ok (.aload_n 0, 1) := by decide +kernel
theorem dX7_orderOf_23 : decode cX7_orderOf 23 = .ok (.iload_n 3, 1) := by decide +kernel
theorem dX7_orderOf_24 : decode cX7_orderOf 24 = .ok (.invokevirtual 98, 3) := by decide +kernel
theorem dX7_orderOf_27 : decode cX7_orderOf 27 = .ok (.aload_n 0, 1) := by decide +kernel
theorem dX7_orderOf_28 : decode cX7_orderOf 28 = .ok (.iload_n 1, 1) := by decide +kernel
theorem dX7_orderOf_29 : decode cX7_orderOf 29 = .ok (.invokevirtual 98, 3) := by decide +kernel
theorem dX7_orderOf_32 : decode cX7_orderOf 32 = .ok (.if_icmp .ne 16, 3) := by decide +kernel
theorem dX7_orderOf_35 : decode cX7_orderOf 35 = .ok (.aload_n 0, 1) := by decide +kernel
theorem dX7_orderOf_36 : decode cX7_orderOf 36 = .ok (.iload_n 3, 1) := by decide +kernel
theorem dX7_orderOf_37 : decode cX7_orderOf 37 = .ok (.iload_n 1, 1) := by decide +kernel
theorem dX7_orderOf_38 : decode cX7_orderOf 38 = .ok (.invokevirtual 253, 3) := by decide +kernel
theorem dX7_orderOf_41 : decode cX7_orderOf 41 = .ok (.ifCond .eq 7, 3) := by decide +kernel
theorem dX7_orderOf_44 : decode cX7_orderOf 44 = .ok (.iconst 1, 1) := by decide +kernel
theorem dX7_orderOf_45 : decode cX7_orderOf 45 = .ok (.goto 4, 3) := by decide +kernel
theorem dX7_orderOf_48 : decode cX7_orderOf 48 = .ok (.iconst 0, 1) := by decide +kernel
theorem dX7_orderOf_49 : decode cX7_orderOf 49 = .ok (.iadd, 1) := by decide +kernel
theorem dX7_orderOf_50 : decode cX7_orderOf 50 = .ok (.istore_n 2, 1) := by decide +kernel
theorem dX7_orderOf_51 : decode cX7_orderOf 51 = .ok (.iinc 3 1, 3) := by decide +kernel
theorem dX7_orderOf_54 : decode cX7_orderOf 54 = .ok (.goto (-50), 3) := by decide +kernel
theorem dX7_orderOf_57 : decode cX7_orderOf 57 = .ok (.iload_n 2, 1) := by decide +kernel
theorem dX7_orderOf_58 : decode cX7_orderOf 58 = .ok (.ireturn, 1) := by decide +kernel
theorem dX7_half_0 : decode cX7_half 0 = .ok (.bipush (-4), 2) := by decide +kernel
theorem dX7_half_2 : decode cX7_half 2 = .ok (.istore_n 3, 1) := by decide +kernel
theorem dX7_half_3 : decode cX7_half 3 = .ok (.iconst 0, 1) := by decide +kernel
theorem dX7_half_4 : decode cX7_half 4 = .ok (.istore 4, 2) := by decide +kernel
theorem dX7_half_6 : decode cX7_half 6 = .ok (.iload 4, 2) := by decide +kernel
theorem dX7_half_8 : decode cX7_half 8 = .ok (.iconst 2, 1) := by decide +kernel
theorem dX7_half_9 : decode cX7_half 9 = .ok (.aload_n 0, 1) := by decide +kernel
theorem dX7_half_10 : decode cX7_half 10 = .ok (.getfield 7, 3) := by decide +kernel
theorem dX7_half_13 : decode cX7_half 13 = .ok (.iconst 1, 1) := by decide +kernel
theorem dX7_half_14 : decode cX7_half 14 = .ok (.iaload, 1) := by decide +kernel
theorem dX7_half_15 : decode cX7_half 15 = .ok (.imul, 1) := by decide +kernel
theorem dX7_half_16 : decode cX7_half 16 = .ok (.if_icmp .ge 36, 3) := by decide +kernel
theorem dX7_half_19 : decode cX7_half 19 = .ok (.aload_n 0, 1) := by decide +kernel
theorem dX7_half_20 : decode cX7_half 20 = .ok (.iload 4, 2) := by decide +kernel
theorem dX7_half_22 : decode cX7_half 22 = .ok (.invokevirtual 98, 3) := by decide +kernel
theorem dX7_half_25 : decode cX7_half 25 = .ok (.iload_n 1, 1) := by decide +kernel
theorem dX7_half_26 : decode cX7_half 26 = .ok (.if_icmp .ne 18, 3) := by decide +kernel
theorem dX7_half_29 : decode cX7_half 29 = .ok (.aload_n 0, 1) := by decide +kernel
theorem dX7_half_30 : decode cX7_half 30 = .ok (.iload 4, 2) := by decide +kernel
theorem dX7_half_32 : decode cX7_half 32 = .ok (.invokevirtual 256, 3) := by decide +kernel
theorem dX7_half_35 : decode cX7_half 35 = .ok (.iload_n 2, 1) := by decide +kernel
theorem dX7_half_36 : decode cX7_half 36 = .ok (.if_icmp .ne 8, 3) := by decide +kernel
theorem dX7_half_39 : decode cX7_half 39 = .ok (.iload 4, 2) := by decide +kernel
theorem dX7_half_41 : decode cX7_half 41 = .ok (.goto 4, 3) := by decide +kernel
theorem dX7_half_44 : decode cX7_half 44 = .ok (.iload_n 3, 1) := by decide +kernel
theorem dX7_half_45 : decode cX7_half 45 = .ok (.istore_n 3, 1) := by decide +kernel
theorem dX7_half_46 : decode cX7_half 46 = .ok (.iinc 4 1, 3) := by decide +kernel
theorem dX7_half_49 : decode cX7_half 49 = .ok (.goto (-43), 3) := by decide +kernel
theorem dX7_half_52 : decode cX7_half 52 = .ok (.iload_n 3, 1) := by decide +kernel
theorem dX7_half_53 : decode cX7_half 53 = .ok (.ireturn, 1) := by decide +kernel
theorem dX7_nextOf_0 : decode cX7_nextOf 0 = .ok (.aload_n 0, 1) := by decide +kernel
theorem dX7_nextOf_1 : decode cX7_nextOf 1 = .ok (.aload_n 0, 1) := by decide +kernel
theorem dX7_nextOf_2 : decode cX7_nextOf 2 = .ok (.iload_n 1, 1) := by decide +kernel
theorem dX7_nextOf_3 : decode cX7_nextOf 3 = .ok (.invokevirtual 101, 3) := by decide +kernel
theorem dX7_nextOf_6 : decode cX7_nextOf 6 = .ok (.invokevirtual 142, 3) := by decide +kernel
theorem dX7_nextOf_9 : decode cX7_nextOf 9 = .ok (.istore_n 2, 1) := by decide +kernel
theorem dX7_nextOf_10 : decode cX7_nextOf 10 = .ok (.aload_n 0, 1) := by decide +kernel
theorem dX7_nextOf_11 : decode cX7_nextOf 11 = .ok (.aload_n 0, 1) := by decide +kernel
theorem dX7_nextOf_12 : decode cX7_nextOf 12 = .ok (.iload_n 1, 1) := by decide +kernel
theorem dX7_nextOf_13 : decode cX7_nextOf 13 = .ok (.invokevirtual 101, 3) := by decide +kernel
theorem dX7_nextOf_16 : decode cX7_nextOf 16 = .ok (.aload_n 0, 1) := by decide +kernel
theorem dX7_nextOf_17 : decode cX7_nextOf 17 = .ok (.iload_n 1, 1) := by decide +kernel
theorem dX7_nextOf_18 : decode cX7_nextOf 18 = .ok (.invokestatic 259, 3) := by decide +kernel
theorem dX7_nextOf_21 : decode cX7_nextOf 21 = .ok (.invokevirtual 256, 3) := by decide +kernel
theorem dX7_nextOf_24 : decode cX7_nextOf 24 = .ok (.iload_n 2, 1) := by decide +kernel
theorem dX7_nextOf_25 : decode cX7_nextOf 25 = .ok (.iadd, 1) := by decide +kernel
theorem dX7_nextOf_26 : decode cX7_nextOf 26 = .ok (.iconst 1, 1) := by decide +kernel
theorem dX7_nextOf_27 : decode cX7_nextOf 27 = .ok (.isub, 1) := by decide +kernel
theorem dX7_nextOf_28 : decode cX7_nextOf 28 = .ok (.iload_n 2, 1) := by decide +kernel
theorem dX7_nextOf_29 : decode cX7_nextOf 29 = .ok (.irem, 1) := by decide +kernel
theorem dX7_nextOf_30 : decode cX7_nextOf 30 = .ok (.invokevirtual 262, 3) := by decide +kernel
theorem dX7_nextOf_33 : decode cX7_nextOf 33 = .ok (.ireturn, 1) := by decide +kernel
theorem dX7_laysFaces_0 : decode cX7_laysFaces 0 = .ok (.aload_n 0, 1) := by decide +kernel
theorem dX7_laysFaces_1 : decode cX7_laysFaces 1 = .ok (.iconst 0, 1) := by decide +kernel
theorem dX7_laysFaces_2 : decode cX7_laysFaces 2 = .ok (.putfield 265, 3) := by decide +kernel
theorem dX7_laysFaces_5 : decode cX7_laysFaces 5 = .ok (.iconst 0, 1) := by decide +kernel
theorem dX7_laysFaces_6 : decode cX7_laysFaces 6 = .ok (.istore_n 1, 1) := by decide +kernel
theorem dX7_laysFaces_7 : decode cX7_laysFaces 7 = .ok (.iload_n 1, 1) := by decide +kernel
theorem dX7_laysFaces_8 : decode cX7_laysFaces 8 = .ok (.bipush 18, 2) := by decide +kernel
theorem dX7_laysFaces_10 : decode cX7_laysFaces 10 = .ok (.if_icmp .ge 17, 3) := by decide +kernel
theorem dX7_laysFaces_13 : decode cX7_laysFaces 13 = .ok (.aload_n 0, 1) := by decide +kernel
theorem dX7_laysFaces_14 : decode cX7_laysFaces 14 = .ok (.getfield 54, 3) := by decide +kernel
theorem dX7_laysFaces_17 : decode cX7_laysFaces 17 = .ok (.iload_n 1, 1) := by decide +kernel
theorem dX7_laysFaces_18 : decode cX7_laysFaces 18 = .ok (.bipush (-4), 2) := by decide +kernel
theorem dX7_laysFaces_20 : decode cX7_laysFaces 20 = .ok (.iastore, 1) := by decide +kernel
theorem dX7_laysFaces_21 : decode cX7_laysFaces 21 = .ok (.iinc 1 1, 3) := by decide +kernel
theorem dX7_laysFaces_24 : decode cX7_laysFaces 24 = .ok (.goto (-17), 3) := by decide +kernel
theorem dX7_laysFaces_27 : decode cX7_laysFaces 27 = .ok (.iconst 0, 1) := by decide +kernel
theorem dX7_laysFaces_28 : decode cX7_laysFaces 28 = .ok (.istore_n 1, 1) := by decide +kernel
theorem dX7_laysFaces_29 : decode cX7_laysFaces 29 = .ok (.iload_n 1, 1) := by decide +kernel
theorem dX7_laysFaces_30 : decode cX7_laysFaces 30 = .ok (.iconst 2, 1) := by decide +kernel
theorem dX7_laysFaces_31 : decode cX7_laysFaces 31 = .ok (.aload_n 0, 1) := by decide +kernel
theorem dX7_laysFaces_32 : decode cX7_laysFaces 32 = .ok (.getfield 7, 3) := by decide +kernel
theorem dX7_laysFaces_35 : decode cX7_laysFaces 35 = .ok (.iconst 1, 1) := by decide +kernel
theorem dX7_laysFaces_36 : decode cX7_laysFaces 36 = .ok (.iaload, 1) := by decide +kernel
theorem dX7_laysFaces_37 : decode cX7_laysFaces 37 = .ok (.imul, 1) := by decide +kernel
theorem dX7_laysFaces_38 : decode cX7_laysFaces 38 = .ok (.if_icmp .ge 58, 3) := by decide +kernel
theorem dX7_laysFaces_41 : decode cX7_laysFaces 41 = .ok (.aload_n 0, 1) := by decide +kernel
theorem dX7_laysFaces_42 : decode cX7_laysFaces 42 = .ok (.getfield 54, 3) := by decide +kernel
theorem dX7_laysFaces_45 : decode cX7_laysFaces 45 = .ok (.iload_n 1, 1) := by decide +kernel
theorem dX7_laysFaces_46 : decode cX7_laysFaces 46 = .ok (.iaload, 1) := by decide +kernel
theorem dX7_laysFaces_47 : decode cX7_laysFaces 47 = .ok (.ifCond .ge 43, 3) := by decide +kernel
theorem dX7_laysFaces_50 : decode cX7_laysFaces 50 = .ok (.iload_n 1, 1) := by decide +kernel
theorem dX7_laysFaces_51 : decode cX7_laysFaces 51 = .ok (.istore_n 2, 1) := by decide +kernel
theorem dX7_laysFaces_52 : decode cX7_laysFaces 52 = .ok (.aload_n 0, 1) := by decide +kernel
theorem dX7_laysFaces_53 : decode cX7_laysFaces 53 = .ok (.getfield 54, 3) := by decide +kernel
theorem dX7_laysFaces_56 : decode cX7_laysFaces 56 = .ok (.iload_n 2, 1) := by decide +kernel
theorem dX7_laysFaces_57 : decode cX7_laysFaces 57 = .ok (.iaload, 1) := by decide +kernel
theorem dX7_laysFaces_58 : decode cX7_laysFaces 58 = .ok (.ifCond .ge 22, 3) := by decide +kernel
theorem dX7_laysFaces_61 : decode cX7_laysFaces 61 = .ok (.aload_n 0, 1) := by decide +kernel
theorem dX7_laysFaces_62 : decode cX7_laysFaces 62 = .ok (.getfield 54, 3) := by decide +kernel
theorem dX7_laysFaces_65 : decode cX7_laysFaces 65 = .ok (.iload_n 2, 1) := by decide +kernel
theorem dX7_laysFaces_66 : decode cX7_laysFaces 66 = .ok (.aload_n 0, 1) := by decide +kernel
theorem dX7_laysFaces_67 : decode cX7_laysFaces 67 = .ok (.getfield 265, 3) := by decide +kernel
theorem dX7_laysFaces_70 : decode cX7_laysFaces 70 = .ok (.iastore, 1) := by decide +kernel
theorem dX7_laysFaces_71 : decode cX7_laysFaces 71 = .ok (.aload_n 0, 1) := by decide +kernel
theorem dX7_laysFaces_72 : decode cX7_laysFaces 72 = .ok (.iload_n 2, 1) := by decide +kernel
theorem dX7_laysFaces_73 : decode cX7_laysFaces 73 = .ok (.invokevirtual 268, 3) := by decide +kernel
theorem dX7_laysFaces_76 : decode cX7_laysFaces 76 = .ok (.istore_n 2, 1) := by decide +kernel
theorem dX7_laysFaces_77 : decode cX7_laysFaces 77 = .ok (.goto (-25), 3) := by decide +kernel
theorem dX7_laysFaces_80 : decode cX7_laysFaces 80 = .ok (.aload_n 0, 1) := by decide +kernel
theorem dX7_laysFaces_81 : decode cX7_laysFaces 81 = .ok (.dup, 1) := by decide +kernel
theorem dX7_laysFaces_82 : decode cX7_laysFaces 82 = .ok (.getfield 265, 3) := by decide +kernel
theorem dX7_laysFaces_85 : decode cX7_laysFaces 85 = .ok (.iconst 1, 1) := by decide +kernel
theorem dX7_laysFaces_86 : decode cX7_laysFaces 86 = .ok (.iadd, 1) := by decide +kernel
theorem dX7_laysFaces_87 : decode cX7_laysFaces 87 = .ok (.putfield 265, 3) := by decide +kernel
theorem dX7_laysFaces_90 : decode cX7_laysFaces 90 = .ok (.iinc 1 1, 3) := by decide +kernel
theorem dX7_laysFaces_93 : decode cX7_laysFaces 93 = .ok (.goto (-64), 3) := by decide +kernel
theorem dX7_laysFaces_96 : decode cX7_laysFaces 96 = .ok (.return_, 1) := by decide +kernel
theorem dX7_areaOf_0 : decode cX7_areaOf 0 = .ok (.iconst 0, 1) := by decide +kernel
theorem dX7_areaOf_1 : decode cX7_areaOf 1 = .ok (.istore_n 2, 1) := by decide +kernel
theorem dX7_areaOf_2 : decode cX7_areaOf 2 = .ok (.iconst 0, 1) := by decide +kernel
theorem dX7_areaOf_3 : decode cX7_areaOf 3 = .ok (.istore_n 3, 1) := by decide +kernel
theorem dX7_areaOf_4 : decode cX7_areaOf 4 = .ok (.iload_n 3, 1) := by decide +kernel
theorem dX7_areaOf_5 : decode cX7_areaOf 5 = .ok (.iconst 2, 1) := by decide +kernel
theorem dX7_areaOf_6 : decode cX7_areaOf 6 = .ok (.aload_n 0, 1) := by decide +kernel
theorem dX7_areaOf_7 : decode cX7_areaOf 7 = .ok (.getfield 7, 3) := by decide +kernel
theorem dX7_areaOf_10 : decode cX7_areaOf 10 = .ok (.iconst 1, 1) := by decide +kernel
theorem dX7_areaOf_11 : decode cX7_areaOf 11 = .ok (.iaload, 1) := by decide +kernel
theorem dX7_areaOf_12 : decode cX7_areaOf 12 = .ok (.imul, 1) := by decide +kernel
theorem dX7_areaOf_13 : decode cX7_areaOf 13 = .ok (.if_icmp .ge 65, 3) := by decide +kernel
theorem dX7_areaOf_16 : decode cX7_areaOf 16 = .ok (.iload_n 2, 1) := by decide +kernel
theorem dX7_areaOf_17 : decode cX7_areaOf 17 = .ok (.aload_n 0, 1) := by decide +kernel
theorem dX7_areaOf_18 : decode cX7_areaOf 18 = .ok (.getfield 54, 3) := by decide +kernel
theorem dX7_areaOf_21 : decode cX7_areaOf 21 = .ok (.iload_n 3, 1) := by decide +kernel
theorem dX7_areaOf_22 : decode cX7_areaOf 22 = .ok (.iaload, 1) := by decide +kernel
theorem dX7_areaOf_23 : decode cX7_areaOf 23 = .ok (.iload_n 1, 1) := by decide +kernel
theorem dX7_areaOf_24 : decode cX7_areaOf 24 = .ok (.if_icmp .ne 45, 3) := by decide +kernel
theorem dX7_areaOf_27 : decode cX7_areaOf 27 = .ok (.aload_n 0, 1) := by decide +kernel
theorem dX7_areaOf_28 : decode cX7_areaOf 28 = .ok (.aload_n 0, 1) := by decide +kernel
theorem dX7_areaOf_29 : decode cX7_areaOf 29 = .ok (.iload_n 3, 1) := by decide +kernel
theorem dX7_areaOf_30 : decode cX7_areaOf 30 = .ok (.invokevirtual 98, 3) := by decide +kernel
theorem dX7_areaOf_33 : decode cX7_areaOf 33 = .ok (.invokevirtual 83, 3) := by decide +kernel
theorem dX7_areaOf_36 : decode cX7_areaOf 36 = .ok (.aload_n 0, 1) := by decide +kernel
theorem dX7_areaOf_37 : decode cX7_areaOf 37 = .ok (.aload_n 0, 1) := by decide +kernel
theorem dX7_areaOf_38 : decode cX7_areaOf 38 = .ok (.iload_n 3, 1) := by decide +kernel
theorem dX7_areaOf_39 : decode cX7_areaOf 39 = .ok (.invokevirtual 101, 3) := by decide +kernel
theorem dX7_areaOf_42 : decode cX7_areaOf 42 = .ok (.invokevirtual 87, 3) := by decide +kernel
theorem dX7_areaOf_45 : decode cX7_areaOf 45 = .ok (.imul, 1) := by decide +kernel
theorem dX7_areaOf_46 : decode cX7_areaOf 46 = .ok (.aload_n 0, 1) := by decide +kernel
theorem dX7_areaOf_47 : decode cX7_areaOf 47 = .ok (.aload_n 0, 1) := by decide +kernel
theorem dX7_areaOf_48 : decode cX7_areaOf 48 = .ok (.iload_n 3, 1) := by decide +kernel
theorem dX7_areaOf_49 : decode cX7_areaOf 49 = .ok (.invokevirtual 101, 3) := by decide +kernel
theorem dX7_areaOf_52 : decode cX7_areaOf 52 = .ok (.invokevirtual 83, 3) := by decide +kernel
theorem dX7_areaOf_55 : decode cX7_areaOf 55 = .ok (.aload_n 0, 1) := by decide +kernel
theorem dX7_areaOf_56 : decode cX7_areaOf 56 = .ok (.aload_n 0, 1) := by decide +kernel
theorem dX7_areaOf_57 : decode cX7_areaOf 57 = .ok (.iload_n 3, 1) := by decide +kernel
theorem dX7_areaOf_58 : decode cX7_areaOf 58 = .ok (.invokevirtual 98, 3) := by decide +kernel
theorem dX7_areaOf_61 : decode cX7_areaOf 61 = .ok (.invokevirtual 87, 3) := by decide +kernel
theorem dX7_areaOf_64 : decode cX7_areaOf 64 = .ok (.imul, 1) := by decide +kernel
theorem dX7_areaOf_65 : decode cX7_areaOf 65 = .ok (.isub, 1) := by decide +kernel
theorem dX7_areaOf_66 : decode cX7_areaOf 66 = .ok (.goto 4, 3) := by decide +kernel
theorem dX7_areaOf_69 : decode cX7_areaOf 69 = .ok (.iconst 0, 1) := by decide +kernel
theorem dX7_areaOf_70 : decode cX7_areaOf 70 = .ok (.iadd, 1) := by decide +kernel
theorem dX7_areaOf_71 : decode cX7_areaOf 71 = .ok (.istore_n 2, 1) := by decide +kernel
theorem dX7_areaOf_72 : decode cX7_areaOf 72 = .ok (.iinc 3 1, 3) := by decide +kernel
theorem dX7_areaOf_75 : decode cX7_areaOf 75 = .ok (.goto (-71), 3) := by decide +kernel
theorem dX7_areaOf_78 : decode cX7_areaOf 78 = .ok (.iload_n 2, 1) := by decide +kernel
theorem dX7_areaOf_79 : decode cX7_areaOf 79 = .ok (.ireturn, 1) := by decide +kernel
theorem dX7_leastOf_0 : decode cX7_leastOf 0 = .ok (.iconst 0, 1) := by decide +kernel
theorem dX7_leastOf_1 : decode cX7_leastOf 1 = .ok (.istore_n 2, 1) := by decide +kernel
theorem dX7_leastOf_2 : decode cX7_leastOf 2 = .ok (.aload_n 0, 1) := by decide +kernel
theorem dX7_leastOf_3 : decode cX7_leastOf 3 = .ok (.getfield 54, 3) := by decide +kernel
theorem dX7_leastOf_6 : decode cX7_leastOf 6 = .ok (.iload_n 2, 1) := by decide +kernel
theorem dX7_leastOf_7 : decode cX7_leastOf 7 = .ok (.iaload, 1) := by decide +kernel
theorem dX7_leastOf_8 : decode cX7_leastOf 8 = .ok (.iload_n 1, 1) := by decide +kernel
theorem dX7_leastOf_9 : decode cX7_leastOf 9 = .ok (.if_icmp .eq 9, 3) := by decide +kernel
theorem dX7_leastOf_12 : decode cX7_leastOf 12 = .ok (.iinc 2 1, 3) := by decide +kernel
theorem dX7_leastOf_15 : decode cX7_leastOf 15 = .ok (.goto (-13), 3) := by decide +kernel
theorem dX7_leastOf_18 : decode cX7_leastOf 18 = .ok (.iload_n 2, 1) := by decide +kernel
theorem dX7_leastOf_19 : decode cX7_leastOf 19 = .ok (.ireturn, 1) := by decide +kernel
theorem dX7_manyOf_0 : decode cX7_manyOf 0 = .ok (.iconst 0, 1) := by decide +kernel
theorem dX7_manyOf_1 : decode cX7_manyOf 1 = .ok (.istore_n 2, 1) := by decide +kernel
theorem dX7_manyOf_2 : decode cX7_manyOf 2 = .ok (.iconst 0, 1) := by decide +kernel
theorem dX7_manyOf_3 : decode cX7_manyOf 3 = .ok (.istore_n 3, 1) := by decide +kernel
theorem dX7_manyOf_4 : decode cX7_manyOf 4 = .ok (.iload_n 3, 1) := by decide +kernel
theorem dX7_manyOf_5 : decode cX7_manyOf 5 = .ok (.iconst 2, 1) := by decide +kernel
theorem dX7_manyOf_6 : decode cX7_manyOf 6 = .ok (.aload_n 0, 1) := by decide +kernel
theorem dX7_manyOf_7 : decode cX7_manyOf 7 = .ok (.getfield 7, 3) := by decide +kernel
theorem dX7_manyOf_10 : decode cX7_manyOf 10 = .ok (.iconst 1, 1) := by decide +kernel
theorem dX7_manyOf_11 : decode cX7_manyOf 11 = .ok (.iaload, 1) := by decide +kernel
theorem dX7_manyOf_12 : decode cX7_manyOf 12 = .ok (.imul, 1) := by decide +kernel
theorem dX7_manyOf_13 : decode cX7_manyOf 13 = .ok (.if_icmp .ge 27, 3) := by decide +kernel
theorem dX7_manyOf_16 : decode cX7_manyOf 16 = .ok (.iload_n 2, 1) := by decide +kernel
theorem dX7_manyOf_17 : decode cX7_manyOf 17 = .ok (.aload_n 0, 1) := by decide +kernel
theorem dX7_manyOf_18 : decode cX7_manyOf 18 = .ok (.getfield 54, 3) := by decide +kernel
theorem dX7_manyOf_21 : decode cX7_manyOf 21 = .ok (.iload_n 3, 1) := by decide +kernel
theorem dX7_manyOf_22 : decode cX7_manyOf 22 = .ok (.iaload, 1) := by decide +kernel
theorem dX7_manyOf_23 : decode cX7_manyOf 23 = .ok (.iload_n 1, 1) := by decide +kernel
theorem dX7_manyOf_24 : decode cX7_manyOf 24 = .ok (.if_icmp .ne 7, 3) := by decide +kernel
theorem dX7_manyOf_27 : decode cX7_manyOf 27 = .ok (.iconst 1, 1) := by decide +kernel
theorem dX7_manyOf_28 : decode cX7_manyOf 28 = .ok (.goto 4, 3) := by decide +kernel
theorem dX7_manyOf_31 : decode cX7_manyOf 31 = .ok (.iconst 0, 1) := by decide +kernel
theorem dX7_manyOf_32 : decode cX7_manyOf 32 = .ok (.iadd, 1) := by decide +kernel
theorem dX7_manyOf_33 : decode cX7_manyOf 33 = .ok (.istore_n 2, 1) := by decide +kernel
theorem dX7_manyOf_34 : decode cX7_manyOf 34 = .ok (.iinc 3 1, 3) := by decide +kernel
theorem dX7_manyOf_37 : decode cX7_manyOf 37 = .ok (.goto (-33), 3) := by decide +kernel
theorem dX7_manyOf_40 : decode cX7_manyOf 40 = .ok (.iload_n 2, 1) := by decide +kernel
theorem dX7_manyOf_41 : decode cX7_manyOf 41 = .ok (.ireturn, 1) := by decide +kernel
theorem dX7_isWhole_0 : decode cX7_isWhole 0 = .ok (.iconst 1, 1) := by decide +kernel
theorem dX7_isWhole_1 : decode cX7_isWhole 1 = .ok (.istore_n 1, 1) := by decide +kernel
theorem dX7_isWhole_2 : decode cX7_isWhole 2 = .ok (.iconst 0, 1) := by decide +kernel
theorem dX7_isWhole_3 : decode cX7_isWhole 3 = .ok (.istore_n 2, 1) := by decide +kernel
theorem dX7_isWhole_4 : decode cX7_isWhole 4 = .ok (.iload_n 2, 1) := by decide +kernel
theorem dX7_isWhole_5 : decode cX7_isWhole 5 = .ok (.bipush 6, 2) := by decide +kernel
theorem dX7_isWhole_7 : decode cX7_isWhole 7 = .ok (.if_icmp .ge 56, 3) := by decide +kernel
theorem dX7_isWhole_10 : decode cX7_isWhole 10 = .ok (.iconst 0, 1) := by decide +kernel
theorem dX7_isWhole_11 : decode cX7_isWhole 11 = .ok (.istore_n 3, 1) := by decide +kernel
theorem dX7_isWhole_12 : decode cX7_isWhole 12 = .ok (.iload_n 3, 1) := by decide +kernel
theorem dX7_isWhole_13 : decode cX7_isWhole 13 = .ok (.iconst 2, 1) := by decide +kernel
theorem dX7_isWhole_14 : decode cX7_isWhole 14 = .ok (.aload_n 0, 1) := by decide +kernel
theorem dX7_isWhole_15 : decode cX7_isWhole 15 = .ok (.getfield 7, 3) := by decide +kernel
theorem dX7_isWhole_18 : decode cX7_isWhole 18 = .ok (.iconst 1, 1) := by decide +kernel
theorem dX7_isWhole_19 : decode cX7_isWhole 19 = .ok (.iaload, 1) := by decide +kernel
theorem dX7_isWhole_20 : decode cX7_isWhole 20 = .ok (.imul, 1) := by decide +kernel
theorem dX7_isWhole_21 : decode cX7_isWhole 21 = .ok (.if_icmp .ge 36, 3) := by decide +kernel
theorem dX7_isWhole_24 : decode cX7_isWhole 24 = .ok (.iload_n 1, 1) := by decide +kernel
theorem dX7_isWhole_25 : decode cX7_isWhole 25 = .ok (.iload_n 1, 1) := by decide +kernel
theorem dX7_isWhole_26 : decode cX7_isWhole 26 = .ok (.aload_n 0, 1) := by decide +kernel
theorem dX7_isWhole_27 : decode cX7_isWhole 27 = .ok (.iload_n 3, 1) := by decide +kernel
theorem dX7_isWhole_28 : decode cX7_isWhole 28 = .ok (.invokevirtual 98, 3) := by decide +kernel
theorem dX7_isWhole_31 : decode cX7_isWhole 31 = .ok (.ishr, 1) := by decide +kernel
theorem dX7_isWhole_32 : decode cX7_isWhole 32 = .ok (.iconst 1, 1) := by decide +kernel
theorem dX7_isWhole_33 : decode cX7_isWhole 33 = .ok (.iand, 1) := by decide +kernel
theorem dX7_isWhole_34 : decode cX7_isWhole 34 = .ok (.iconst 1, 1) := by decide +kernel
theorem dX7_isWhole_35 : decode cX7_isWhole 35 = .ok (.if_icmp .ne 13, 3) := by decide +kernel
theorem dX7_isWhole_38 : decode cX7_isWhole 38 = .ok (.iconst 1, 1) := by decide +kernel
theorem dX7_isWhole_39 : decode cX7_isWhole 39 = .ok (.aload_n 0, 1) := by decide +kernel
theorem dX7_isWhole_40 : decode cX7_isWhole 40 = .ok (.iload_n 3, 1) := by decide +kernel
theorem dX7_isWhole_41 : decode cX7_isWhole 41 = .ok (.invokevirtual 101, 3) := by decide +kernel
theorem dX7_isWhole_44 : decode cX7_isWhole 44 = .ok (.ishl, 1) := by decide +kernel
theorem dX7_isWhole_45 : decode cX7_isWhole 45 = .ok (.goto 4, 3) := by decide +kernel
theorem dX7_isWhole_48 : decode cX7_isWhole 48 = .ok (.iconst 0, 1) := by decide +kernel
theorem dX7_isWhole_49 : decode cX7_isWhole 49 = .ok (.ior, 1) := by decide +kernel
theorem dX7_isWhole_50 : decode cX7_isWhole 50 = .ok (.istore_n 1, 1) := by decide +kernel
theorem dX7_isWhole_51 : decode cX7_isWhole 51 = .ok (.iinc 3 1, 3) := by decide +kernel
theorem dX7_isWhole_54 : decode cX7_isWhole 54 = .ok (.goto (-42), 3) := by decide +kernel
theorem dX7_isWhole_57 : decode cX7_isWhole 57 = .ok (.iinc 2 1, 3) := by decide +kernel
theorem dX7_isWhole_60 : decode cX7_isWhole 60 = .ok (.goto (-56), 3) := by decide +kernel
theorem dX7_isWhole_63 : decode cX7_isWhole 63 = .ok (.aload_n 0, 1) := by decide +kernel
theorem dX7_isWhole_64 : decode cX7_isWhole 64 = .ok (.getfield 7, 3) := by decide +kernel
theorem dX7_isWhole_67 : decode cX7_isWhole 67 = .ok (.iconst 1, 1) := by decide +kernel
theorem dX7_isWhole_68 : decode cX7_isWhole 68 = .ok (.iaload, 1) := by decide +kernel
theorem dX7_isWhole_69 : decode cX7_isWhole 69 = .ok (.ifCond .le 21, 3) := by decide +kernel
theorem dX7_isWhole_72 : decode cX7_isWhole 72 = .ok (.iload_n 1, 1) := by decide +kernel
theorem dX7_isWhole_73 : decode cX7_isWhole 73 = .ok (.iconst 1, 1) := by decide +kernel
theorem dX7_isWhole_74 : decode cX7_isWhole 74 = .ok (.aload_n 0, 1) := by decide +kernel
theorem dX7_isWhole_75 : decode cX7_isWhole 75 = .ok (.getfield 7, 3) := by decide +kernel
theorem dX7_isWhole_78 : decode cX7_isWhole 78 = .ok (.iconst 0, 1) := by decide +kernel
theorem dX7_isWhole_79 : decode cX7_isWhole 79 = .ok (.iaload, 1) := by decide +kernel
theorem dX7_isWhole_80 : decode cX7_isWhole 80 = .ok (.ishl, 1) := by decide +kernel
theorem dX7_isWhole_81 : decode cX7_isWhole 81 = .ok (.iconst 1, 1) := by decide +kernel
theorem dX7_isWhole_82 : decode cX7_isWhole 82 = .ok (.isub, 1) := by decide +kernel
theorem dX7_isWhole_83 : decode cX7_isWhole 83 = .ok (.if_icmp .ne 7, 3) := by decide +kernel
theorem dX7_isWhole_86 : decode cX7_isWhole 86 = .ok (.iconst 1, 1) := by decide +kernel
theorem dX7_isWhole_87 : decode cX7_isWhole 87 = .ok (.goto 4, 3) := by decide +kernel
theorem dX7_isWhole_90 : decode cX7_isWhole 90 = .ok (.iconst 0, 1) := by decide +kernel
theorem dX7_isWhole_91 : decode cX7_isWhole 91 = .ok (.ireturn, 1) := by decide +kernel
theorem dX7_outer_0 : decode cX7_outer 0 = .ok (.bipush (-4), 2) := by decide +kernel
theorem dX7_outer_2 : decode cX7_outer 2 = .ok (.istore_n 1, 1) := by decide +kernel
theorem dX7_outer_3 : decode cX7_outer 3 = .ok (.aload_n 0, 1) := by decide +kernel
theorem dX7_outer_4 : decode cX7_outer 4 = .ok (.getfield 265, 3) := by decide +kernel
theorem dX7_outer_7 : decode cX7_outer 7 = .ok (.iconst 1, 1) := by decide +kernel
theorem dX7_outer_8 : decode cX7_outer 8 = .ok (.isub, 1) := by decide +kernel
theorem dX7_outer_9 : decode cX7_outer 9 = .ok (.istore_n 2, 1) := by decide +kernel
theorem dX7_outer_10 : decode cX7_outer 10 = .ok (.iload_n 2, 1) := by decide +kernel
theorem dX7_outer_11 : decode cX7_outer 11 = .ok (.ifCond .lt 30, 3) := by decide +kernel
theorem dX7_outer_14 : decode cX7_outer 14 = .ok (.aload_n 0, 1) := by decide +kernel
theorem dX7_outer_15 : decode cX7_outer 15 = .ok (.invokevirtual 271, 3) := by decide +kernel
theorem dX7_outer_18 : decode cX7_outer 18 = .ok (.ifCond .eq 23, 3) := by decide +kernel
theorem dX7_outer_21 : decode cX7_outer 21 = .ok (.aload_n 0, 1) := by decide +kernel
theorem dX7_outer_22 : decode cX7_outer 22 = .ok (.iload_n 2, 1) := by decide +kernel
theorem dX7_outer_23 : decode cX7_outer 23 = .ok (.invokevirtual 274, 3) := by decide +kernel
theorem dX7_outer_26 : decode cX7_outer 26 = .ok (.ifCond .gt 7, 3) := by decide +kernel
theorem dX7_outer_29 : decode cX7_outer 29 = .ok (.iload_n 2, 1) := by decide +kernel
theorem dX7_outer_30 : decode cX7_outer 30 = .ok (.goto 4, 3) := by decide +kernel
theorem dX7_outer_33 : decode cX7_outer 33 = .ok (.iload_n 1, 1) := by decide +kernel
theorem dX7_outer_34 : decode cX7_outer 34 = .ok (.istore_n 1, 1) := by decide +kernel
theorem dX7_outer_35 : decode cX7_outer 35 = .ok (.iinc 2 (-1), 3) := by decide +kernel
theorem dX7_outer_38 : decode cX7_outer 38 = .ok (.goto (-28), 3) := by decide +kernel
theorem dX7_outer_41 : decode cX7_outer 41 = .ok (.iload_n 1, 1) := by decide +kernel
theorem dX7_outer_42 : decode cX7_outer 42 = .ok (.ireturn, 1) := by decide +kernel
theorem dX7_count_0 : decode cX7_count 0 = .ok (.bipush 81, 2) := by decide +kernel
theorem dX7_count_2 : decode cX7_count 2 = .ok (.istore_n 2, 1) := by decide +kernel
theorem dX7_count_3 : decode cX7_count 3 = .ok (.iconst 0, 1) := by decide +kernel
theorem dX7_count_4 : decode cX7_count 4 = .ok (.istore_n 3, 1) := by decide +kernel
theorem dX7_count_5 : decode cX7_count 5 = .ok (.iload_n 3, 1) := by decide +kernel
theorem dX7_count_6 : decode cX7_count 6 = .ok (.bipush 9, 2) := by decide +kernel
theorem dX7_count_8 : decode cX7_count 8 = .ok (.if_icmp .ge 21, 3) := by decide +kernel
theorem dX7_count_11 : decode cX7_count 11 = .ok (.iload_n 2, 1) := by decide +kernel
theorem dX7_count_12 : decode cX7_count 12 = .ok (.aload_n 0, 1) := by decide +kernel
theorem dX7_count_13 : decode cX7_count 13 = .ok (.getfield 7, 3) := by decide +kernel
theorem dX7_count_16 : decode cX7_count 16 = .ok (.bipush 33, 2) := by decide +kernel
theorem dX7_count_18 : decode cX7_count 18 = .ok (.iload_n 3, 1) := by decide +kernel
theorem dX7_count_19 : decode cX7_count 19 = .ok (.iadd, 1) := by decide +kernel
theorem dX7_count_20 : decode cX7_count 20 = .ok (.iaload, 1) := by decide +kernel
theorem dX7_count_21 : decode cX7_count 21 = .ok (.iadd, 1) := by decide +kernel
theorem dX7_count_22 : decode cX7_count 22 = .ok (.istore_n 2, 1) := by decide +kernel
theorem dX7_count_23 : decode cX7_count 23 = .ok (.iinc 3 1, 3) := by decide +kernel
theorem dX7_count_26 : decode cX7_count 26 = .ok (.goto (-21), 3) := by decide +kernel
theorem dX7_count_29 : decode cX7_count 29 = .ok (.aload_n 0, 1) := by decide +kernel
theorem dX7_count_30 : decode cX7_count 30 = .ok (.invokevirtual 232, 3) := by decide +kernel
theorem dX7_count_33 : decode cX7_count 33 = .ok (.aload_n 0, 1) := by decide +kernel
theorem dX7_count_34 : decode cX7_count 34 = .ok (.invokevirtual 277, 3) := by decide +kernel
theorem dX7_count_37 : decode cX7_count 37 = .ok (.iload_n 1, 1) := by decide +kernel
theorem dX7_count_38 : decode cX7_count 38 = .ok (.tableswitch 123 0 8 #[50, 57, 64, 76, 93, 106, 111, 116, 118], 50) := by decide +kernel
theorem dX7_count_88 : decode cX7_count 88 = .ok (.aload_n 0, 1) := by decide +kernel
theorem dX7_count_89 : decode cX7_count 89 = .ok (.getfield 7, 3) := by decide +kernel
theorem dX7_count_92 : decode cX7_count 92 = .ok (.iconst 0, 1) := by decide +kernel
theorem dX7_count_93 : decode cX7_count 93 = .ok (.iaload, 1) := by decide +kernel
theorem dX7_count_94 : decode cX7_count 94 = .ok (.ireturn, 1) := by decide +kernel
theorem dX7_count_95 : decode cX7_count 95 = .ok (.aload_n 0, 1) := by decide +kernel
theorem dX7_count_96 : decode cX7_count 96 = .ok (.getfield 7, 3) := by decide +kernel
theorem dX7_count_99 : decode cX7_count 99 = .ok (.iconst 1, 1) := by decide +kernel
theorem dX7_count_100 : decode cX7_count 100 = .ok (.iaload, 1) := by decide +kernel
theorem dX7_count_101 : decode cX7_count 101 = .ok (.ireturn, 1) := by decide +kernel
theorem dX7_count_102 : decode cX7_count 102 = .ok (.aload_n 0, 1) := by decide +kernel
theorem dX7_count_103 : decode cX7_count 103 = .ok (.getfield 7, 3) := by decide +kernel
theorem dX7_count_106 : decode cX7_count 106 = .ok (.iconst 1, 1) := by decide +kernel
theorem dX7_count_107 : decode cX7_count 107 = .ok (.iaload, 1) := by decide +kernel
theorem dX7_count_108 : decode cX7_count 108 = .ok (.aload_n 0, 1) := by decide +kernel
theorem dX7_count_109 : decode cX7_count 109 = .ok (.getfield 213, 3) := by decide +kernel
theorem dX7_count_112 : decode cX7_count 112 = .ok (.isub, 1) := by decide +kernel
theorem dX7_count_113 : decode cX7_count 113 = .ok (.ireturn, 1) := by decide +kernel
theorem dX7_count_114 : decode cX7_count 114 = .ok (.aload_n 0, 1) := by decide +kernel
theorem dX7_count_115 : decode cX7_count 115 = .ok (.aload_n 0, 1) := by decide +kernel
theorem dX7_count_116 : decode cX7_count 116 = .ok (.invokevirtual 206, 3) := by decide +kernel
theorem dX7_count_119 : decode cX7_count 119 = .ok (.invokevirtual 250, 3) := by decide +kernel
theorem dX7_count_122 : decode cX7_count 122 = .ok (.ifCond .eq 7, 3) := by decide +kernel
theorem dX7_count_125 : decode cX7_count 125 = .ok (.iconst 1, 1) := by decide +kernel
theorem dX7_count_126 : decode cX7_count 126 = .ok (.goto 4, 3) := by decide +kernel
theorem dX7_count_129 : decode cX7_count 129 = .ok (.iconst 0, 1) := by decide +kernel
theorem dX7_count_130 : decode cX7_count 130 = .ok (.ireturn, 1) := by decide +kernel
theorem dX7_count_131 : decode cX7_count 131 = .ok (.aload_n 0, 1) := by decide +kernel
theorem dX7_count_132 : decode cX7_count 132 = .ok (.invokevirtual 271, 3) := by decide +kernel
theorem dX7_count_135 : decode cX7_count 135 = .ok (.ifCond .eq 7, 3) := by decide +kernel
theorem dX7_count_138 : decode cX7_count 138 = .ok (.iconst 1, 1) := by decide +kernel
theorem dX7_count_139 : decode cX7_count 139 = .ok (.goto 4, 3) := by decide +kernel
theorem dX7_count_142 : decode cX7_count 142 = .ok (.iconst 0, 1) := by decide +kernel
theorem dX7_count_143 : decode cX7_count 143 = .ok (.ireturn, 1) := by decide +kernel
theorem dX7_count_144 : decode cX7_count 144 = .ok (.aload_n 0, 1) := by decide +kernel
theorem dX7_count_145 : decode cX7_count 145 = .ok (.getfield 265, 3) := by decide +kernel
theorem dX7_count_148 : decode cX7_count 148 = .ok (.ireturn, 1) := by decide +kernel
theorem dX7_count_149 : decode cX7_count 149 = .ok (.aload_n 0, 1) := by decide +kernel
theorem dX7_count_150 : decode cX7_count 150 = .ok (.invokevirtual 280, 3) := by decide +kernel
theorem dX7_count_153 : decode cX7_count 153 = .ok (.ireturn, 1) := by decide +kernel
theorem dX7_count_154 : decode cX7_count 154 = .ok (.iload_n 2, 1) := by decide +kernel
theorem dX7_count_155 : decode cX7_count 155 = .ok (.ireturn, 1) := by decide +kernel
theorem dX7_count_156 : decode cX7_count 156 = .ok (.aload_n 0, 1) := by decide +kernel
theorem dX7_count_157 : decode cX7_count 157 = .ok (.getfield 112, 3) := by decide +kernel
theorem dX7_count_160 : decode cX7_count 160 = .ok (.ireturn, 1) := by decide +kernel
theorem dX7_count_161 : decode cX7_count 161 = .ok (.iconst (-1), 1) := by decide +kernel
theorem dX7_count_162 : decode cX7_count 162 = .ok (.ireturn, 1) := by decide +kernel
theorem dX7_isHalf_0 : decode cX7_isHalf 0 = .ok (.iload_n 1, 1) := by decide +kernel
theorem dX7_isHalf_1 : decode cX7_isHalf 1 = .ok (.i2l, 1) := by decide +kernel
theorem dX7_isHalf_2 : decode cX7_isHalf 2 = .ok (.lconst 0, 1) := by decide +kernel
theorem dX7_isHalf_3 : decode cX7_isHalf 3 = .ok (.iconst 2, 1) := by decide +kernel
theorem dX7_isHalf_4 : decode cX7_isHalf 4 = .ok (.aload_n 0, 1) := by decide +kernel
theorem dX7_isHalf_5 : decode cX7_isHalf 5 = .ok (.getfield 7, 3) := by decide +kernel
theorem dX7_isHalf_8 : decode cX7_isHalf 8 = .ok (.iconst 1, 1) := by decide +kernel
theorem dX7_isHalf_9 : decode cX7_isHalf 9 = .ok (.iaload, 1) := by decide +kernel
theorem dX7_isHalf_10 : decode cX7_isHalf 10 = .ok (.imul, 1) := by decide +kernel
theorem dX7_isHalf_11 : decode cX7_isHalf 11 = .ok (.iconst 1, 1) := by decide +kernel
theorem dX7_isHalf_12 : decode cX7_isHalf 12 = .ok (.isub, 1) := by decide +kernel
theorem dX7_isHalf_13 : decode cX7_isHalf 13 = .ok (.i2l, 1) := by decide +kernel
theorem dX7_isHalf_14 : decode cX7_isHalf 14 = .ok (.invokestatic 79, 3) := by decide +kernel
theorem dX7_isHalf_17 : decode cX7_isHalf 17 = .ok (.ireturn, 1) := by decide +kernel
theorem dX7_next_0 : decode cX7_next 0 = .ok (.aload_n 0, 1) := by decide +kernel
theorem dX7_next_1 : decode cX7_next 1 = .ok (.iload_n 1, 1) := by decide +kernel
theorem dX7_next_2 : decode cX7_next 2 = .ok (.invokevirtual 283, 3) := by decide +kernel
theorem dX7_next_5 : decode cX7_next 5 = .ok (.ifCond .eq 11, 3) := by decide +kernel
theorem dX7_next_8 : decode cX7_next 8 = .ok (.aload_n 0, 1) := by decide +kernel
theorem dX7_next_9 : decode cX7_next 9 = .ok (.iload_n 1, 1) := by decide +kernel
theorem dX7_next_10 : decode cX7_next 10 = .ok (.invokevirtual 268, 3) := by decide +kernel
theorem dX7_next_13 : decode cX7_next 13 = .ok (.goto 4, 3) := by decide +kernel
theorem dX7_next_16 : decode cX7_next 16 = .ok (.iconst (-1), 1) := by decide +kernel
theorem dX7_next_17 : decode cX7_next 17 = .ok (.ireturn, 1) := by decide +kernel
theorem dX7_face_0 : decode cX7_face 0 = .ok (.aload_n 0, 1) := by decide +kernel
theorem dX7_face_1 : decode cX7_face 1 = .ok (.invokevirtual 277, 3) := by decide +kernel
theorem dX7_face_4 : decode cX7_face 4 = .ok (.iload_n 1, 1) := by decide +kernel
theorem dX7_face_5 : decode cX7_face 5 = .ok (.i2l, 1) := by decide +kernel
theorem dX7_face_6 : decode cX7_face 6 = .ok (.lconst 0, 1) := by decide +kernel
theorem dX7_face_7 : decode cX7_face 7 = .ok (.aload_n 0, 1) := by decide +kernel
theorem dX7_face_8 : decode cX7_face 8 = .ok (.getfield 265, 3) := by decide +kernel
theorem dX7_face_11 : decode cX7_face 11 = .ok (.iconst 1, 1) := by decide +kernel
theorem dX7_face_12 : decode cX7_face 12 = .ok (.isub, 1) := by decide +kernel
theorem dX7_face_13 : decode cX7_face 13 = .ok (.i2l, 1) := by decide +kernel
theorem dX7_face_14 : decode cX7_face 14 = .ok (.invokestatic 79, 3) := by decide +kernel
theorem dX7_face_17 : decode cX7_face 17 = .ok (.ifCond .eq 15, 3) := by decide +kernel
theorem dX7_face_20 : decode cX7_face 20 = .ok (.iload_n 2, 1) := by decide +kernel
theorem dX7_face_21 : decode cX7_face 21 = .ok (.i2l, 1) := by decide +kernel
theorem dX7_face_22 : decode cX7_face 22 = .ok (.lconst 0, 1) := by decide +kernel
theorem dX7_face_23 : decode cX7_face 23 = .ok (.ldc2_w 230, 3) := by decide +kernel
theorem dX7_face_26 : decode cX7_face 26 = .ok (.invokestatic 79, 3) := by decide +kernel
theorem dX7_face_29 : decode cX7_face 29 = .ok (.ifCond .ne 5, 3) := by decide +kernel
theorem dX7_face_32 : decode cX7_face 32 = .ok (.iconst (-1), 1) := by decide +kernel
theorem dX7_face_33 : decode cX7_face 33 = .ok (.ireturn, 1) := by decide +kernel
theorem dX7_face_34 : decode cX7_face 34 = .ok (.aload_n 0, 1) := by decide +kernel
theorem dX7_face_35 : decode cX7_face 35 = .ok (.iload_n 1, 1) := by decide +kernel
theorem dX7_face_36 : decode cX7_face 36 = .ok (.invokevirtual 274, 3) := by decide +kernel
theorem dX7_face_39 : decode cX7_face 39 = .ok (.istore_n 3, 1) := by decide +kernel
theorem dX7_face_40 : decode cX7_face 40 = .ok (.iload_n 2, 1) := by decide +kernel
theorem dX7_face_41 : decode cX7_face 41 = .ok (.ifCond .ne 11, 3) := by decide +kernel
theorem dX7_face_44 : decode cX7_face 44 = .ok (.aload_n 0, 1) := by decide +kernel
theorem dX7_face_45 : decode cX7_face 45 = .ok (.iload_n 1, 1) := by decide +kernel
theorem dX7_face_46 : decode cX7_face 46 = .ok (.invokevirtual 286, 3) := by decide +kernel
theorem dX7_face_49 : decode cX7_face 49 = .ok (.goto 26, 3) := by decide +kernel
theorem dX7_face_52 : decode cX7_face 52 = .ok (.iload_n 2, 1) := by decide +kernel
theorem dX7_face_53 : decode cX7_face 53 = .ok (.iconst 1, 1) := by decide +kernel
theorem dX7_face_54 : decode cX7_face 54 = .ok (.if_icmp .ne 16, 3) := by decide +kernel
theorem dX7_face_57 : decode cX7_face 57 = .ok (.iload_n 3, 1) := by decide +kernel
theorem dX7_face_58 : decode cX7_face 58 = .ok (.ifCond .ge 8, 3) := by decide +kernel
theorem dX7_face_61 : decode cX7_face 61 = .ok (.iload_n 3, 1) := by decide +kernel
theorem dX7_face_62 : decode cX7_face 62 = .ok (.ineg, 1) := by decide +kernel
theorem dX7_face_63 : decode cX7_face 63 = .ok (.goto 12, 3) := by decide +kernel
theorem dX7_face_66 : decode cX7_face 66 = .ok (.iload_n 3, 1) := by decide +kernel
theorem dX7_face_67 : decode cX7_face 67 = .ok (.goto 8, 3) := by decide +kernel
theorem dX7_face_70 : decode cX7_face 70 = .ok (.aload_n 0, 1) := by decide +kernel
theorem dX7_face_71 : decode cX7_face 71 = .ok (.iload_n 1, 1) := by decide +kernel
theorem dX7_face_72 : decode cX7_face 72 = .ok (.invokevirtual 289, 3) := by decide +kernel
theorem dX7_face_75 : decode cX7_face 75 = .ok (.ireturn, 1) := by decide +kernel
theorem dX7_round_0 : decode cX7_round 0 = .ok (.aload_n 0, 1) := by decide +kernel
theorem dX7_round_1 : decode cX7_round 1 = .ok (.invokevirtual 277, 3) := by decide +kernel
theorem dX7_round_4 : decode cX7_round 4 = .ok (.iload_n 1, 1) := by decide +kernel
theorem dX7_round_5 : decode cX7_round 5 = .ok (.i2l, 1) := by decide +kernel
theorem dX7_round_6 : decode cX7_round 6 = .ok (.lconst 0, 1) := by decide +kernel
theorem dX7_round_7 : decode cX7_round 7 = .ok (.aload_n 0, 1) := by decide +kernel
theorem dX7_round_8 : decode cX7_round 8 = .ok (.getfield 265, 3) := by decide +kernel
theorem dX7_round_11 : decode cX7_round 11 = .ok (.iconst 1, 1) := by decide +kernel
theorem dX7_round_12 : decode cX7_round 12 = .ok (.isub, 1) := by decide +kernel
theorem dX7_round_13 : decode cX7_round 13 = .ok (.i2l, 1) := by decide +kernel
theorem dX7_round_14 : decode cX7_round 14 = .ok (.invokestatic 79, 3) := by decide +kernel
theorem dX7_round_17 : decode cX7_round 17 = .ok (.ifCond .eq 20, 3) := by decide +kernel
theorem dX7_round_20 : decode cX7_round 20 = .ok (.iload_n 2, 1) := by decide +kernel
theorem dX7_round_21 : decode cX7_round 21 = .ok (.i2l, 1) := by decide +kernel
theorem dX7_round_22 : decode cX7_round 22 = .ok (.lconst 0, 1) := by decide +kernel
theorem dX7_round_23 : decode cX7_round 23 = .ok (.aload_n 0, 1) := by decide +kernel
theorem dX7_round_24 : decode cX7_round 24 = .ok (.iload_n 1, 1) := by decide +kernel
theorem dX7_round_25 : decode cX7_round 25 = .ok (.invokevirtual 286, 3) := by decide +kernel
theorem dX7_round_28 : decode cX7_round 28 = .ok (.iconst 1, 1) := by decide +kernel
theorem dX7_round_29 : decode cX7_round 29 = .ok (.isub, 1) := by decide +kernel
theorem dX7_round_30 : decode cX7_round 30 = .ok (.i2l, 1) := by decide +kernel
theorem dX7_round_31 : decode cX7_round 31 = .ok (.invokestatic 79, 3) := by decide +kernel
theorem dX7_round_34 : decode cX7_round 34 = .ok (.ifCond .ne 5, 3) := by decide +kernel
theorem dX7_round_37 : decode cX7_round 37 = .ok (.iconst (-1), 1) := by decide +kernel
theorem dX7_round_38 : decode cX7_round 38 = .ok (.ireturn, 1) := by decide +kernel
theorem dX7_round_39 : decode cX7_round 39 = .ok (.aload_n 0, 1) := by decide +kernel
theorem dX7_round_40 : decode cX7_round 40 = .ok (.iload_n 1, 1) := by decide +kernel
theorem dX7_round_41 : decode cX7_round 41 = .ok (.invokevirtual 289, 3) := by decide +kernel
theorem dX7_round_44 : decode cX7_round 44 = .ok (.istore_n 3, 1) := by decide +kernel
theorem dX7_round_45 : decode cX7_round 45 = .ok (.iconst 0, 1) := by decide +kernel
theorem dX7_round_46 : decode cX7_round 46 = .ok (.istore 4, 2) := by decide +kernel
theorem dX7_round_48 : decode cX7_round 48 = .ok (.iload 4, 2) := by decide +kernel
theorem dX7_round_50 : decode cX7_round 50 = .ok (.iload_n 2, 1) := by decide +kernel
theorem dX7_round_51 : decode cX7_round 51 = .ok (.if_icmp .ge 15, 3) := by decide +kernel
theorem dX7_round_54 : decode cX7_round 54 = .ok (.aload_n 0, 1) := by decide +kernel
theorem dX7_round_55 : decode cX7_round 55 = .ok (.iload_n 3, 1) := by decide +kernel
theorem dX7_round_56 : decode cX7_round 56 = .ok (.invokevirtual 268, 3) := by decide +kernel
theorem dX7_round_59 : decode cX7_round 59 = .ok (.istore_n 3, 1) := by decide +kernel
theorem dX7_round_60 : decode cX7_round 60 = .ok (.iinc 4 1, 3) := by decide +kernel
theorem dX7_round_63 : decode cX7_round 63 = .ok (.goto (-15), 3) := by decide +kernel
theorem dX7_round_66 : decode cX7_round 66 = .ok (.iload_n 3, 1) := by decide +kernel
theorem dX7_round_67 : decode cX7_round 67 = .ok (.ireturn, 1) := by decide +kernel
theorem dX7_beside_0 : decode cX7_beside 0 = .ok (.aload_n 0, 1) := by decide +kernel
theorem dX7_beside_1 : decode cX7_beside 1 = .ok (.iload_n 1, 1) := by decide +kernel
theorem dX7_beside_2 : decode cX7_beside 2 = .ok (.invokevirtual 283, 3) := by decide +kernel
theorem dX7_beside_5 : decode cX7_beside 5 = .ok (.ifCond .ne 5, 3) := by decide +kernel
theorem dX7_beside_8 : decode cX7_beside 8 = .ok (.iconst (-1), 1) := by decide +kernel
theorem dX7_beside_9 : decode cX7_beside 9 = .ok (.ireturn, 1) := by decide +kernel
theorem dX7_beside_10 : decode cX7_beside 10 = .ok (.aload_n 0, 1) := by decide +kernel
theorem dX7_beside_11 : decode cX7_beside 11 = .ok (.invokevirtual 277, 3) := by decide +kernel
theorem dX7_beside_14 : decode cX7_beside 14 = .ok (.aload_n 0, 1) := by decide +kernel
theorem dX7_beside_15 : decode cX7_beside 15 = .ok (.getfield 54, 3) := by decide +kernel
theorem dX7_beside_18 : decode cX7_beside 18 = .ok (.iload_n 1, 1) := by decide +kernel
theorem dX7_beside_19 : decode cX7_beside 19 = .ok (.iaload, 1) := by decide +kernel
theorem dX7_beside_20 : decode cX7_beside 20 = .ok (.ireturn, 1) := by decide +kernel
theorem dX7_goesOver_0 : decode cX7_goesOver 0 = .ok (.aload_n 0, 1) := by decide +kernel
theorem dX7_goesOver_1 : decode cX7_goesOver 1 = .ok (.getfield 54, 3) := by decide +kernel
theorem dX7_goesOver_4 : decode cX7_goesOver 4 = .ok (.iload_n 1, 1) := by decide +kernel
theorem dX7_goesOver_5 : decode cX7_goesOver 5 = .ok (.iaload, 1) := by decide +kernel
theorem dX7_goesOver_6 : decode cX7_goesOver 6 = .ok (.istore_n 2, 1) := by decide +kernel
theorem dX7_goesOver_7 : decode cX7_goesOver 7 = .ok (.aload_n 0, 1) := by decide +kernel
theorem dX7_goesOver_8 : decode cX7_goesOver 8 = .ok (.getfield 54, 3) := by decide +kernel
theorem dX7_goesOver_11 : decode cX7_goesOver 11 = .ok (.iload_n 1, 1) := by decide +kernel
theorem dX7_goesOver_12 : decode cX7_goesOver 12 = .ok (.invokestatic 259, 3) := by decide +kernel
theorem dX7_goesOver_15 : decode cX7_goesOver 15 = .ok (.iaload, 1) := by decide +kernel
theorem dX7_goesOver_16 : decode cX7_goesOver 16 = .ok (.istore_n 3, 1) := by decide +kernel
theorem dX7_goesOver_17 : decode cX7_goesOver 17 = .ok (.aload_n 0, 1) := by decide +kernel
theorem dX7_goesOver_18 : decode cX7_goesOver 18 = .ok (.iload_n 1, 1) := by decide +kernel
theorem dX7_goesOver_19 : decode cX7_goesOver 19 = .ok (.invokevirtual 189, 3) := by decide +kernel
theorem dX7_goesOver_22 : decode cX7_goesOver 22 = .ok (.i2l, 1) := by decide +kernel
theorem dX7_goesOver_23 : decode cX7_goesOver 23 = .ok (.aload_n 0, 1) := by decide +kernel
theorem dX7_goesOver_24 : decode cX7_goesOver 24 = .ok (.iload_n 1, 1) := by decide +kernel
theorem dX7_goesOver_25 : decode cX7_goesOver 25 = .ok (.iconst 2, 1) := by decide +kernel
theorem dX7_goesOver_26 : decode cX7_goesOver 26 = .ok (.idiv, 1) := by decide +kernel
theorem dX7_goesOver_27 : decode cX7_goesOver 27 = .ok (.invokevirtual 244, 3) := by decide +kernel
theorem dX7_goesOver_30 : decode cX7_goesOver 30 = .ok (.lmul, 1) := by decide +kernel
theorem dX7_goesOver_31 : decode cX7_goesOver 31 = .ok (.lstore 4, 2) := by decide +kernel
theorem dX7_goesOver_33 : decode cX7_goesOver 33 = .ok (.aload_n 0, 1) := by decide +kernel
theorem dX7_goesOver_34 : decode cX7_goesOver 34 = .ok (.iload_n 1, 1) := by decide +kernel
theorem dX7_goesOver_35 : decode cX7_goesOver 35 = .ok (.invokevirtual 192, 3) := by decide +kernel
theorem dX7_goesOver_38 : decode cX7_goesOver 38 = .ok (.i2l, 1) := by decide +kernel
theorem dX7_goesOver_39 : decode cX7_goesOver 39 = .ok (.aload_n 0, 1) := by decide +kernel
theorem dX7_goesOver_40 : decode cX7_goesOver 40 = .ok (.iload_n 1, 1) := by decide +kernel
theorem dX7_goesOver_41 : decode cX7_goesOver 41 = .ok (.iconst 2, 1) := by decide +kernel
theorem dX7_goesOver_42 : decode cX7_goesOver 42 = .ok (.idiv, 1) := by decide +kernel
theorem dX7_goesOver_43 : decode cX7_goesOver 43 = .ok (.invokevirtual 244, 3) := by decide +kernel
theorem dX7_goesOver_46 : decode cX7_goesOver 46 = .ok (.lmul, 1) := by decide +kernel
theorem dX7_goesOver_47 : decode cX7_goesOver 47 = .ok (.lstore 6, 2) := by decide +kernel
theorem dX7_goesOver_49 : decode cX7_goesOver 49 = .ok (.aload_n 0, 1) := by decide +kernel
theorem dX7_goesOver_50 : decode cX7_goesOver 50 = .ok (.getfield 57, 3) := by decide +kernel
theorem dX7_goesOver_53 : decode cX7_goesOver 53 = .ok (.iload_n 2, 1) := by decide +kernel
theorem dX7_goesOver_54 : decode cX7_goesOver 54 = .ok (.aload_n 0, 1) := by decide +kernel
theorem dX7_goesOver_55 : decode cX7_goesOver 55 = .ok (.getfield 57, 3) := by decide +kernel
theorem dX7_goesOver_58 : decode cX7_goesOver 58 = .ok (.iload_n 3, 1) := by decide +kernel
theorem dX7_goesOver_59 : decode cX7_goesOver 59 = .ok (.laload, 1) := by decide +kernel
theorem dX7_goesOver_60 : decode cX7_goesOver 60 = .ok (.lload 4, 2) := by decide +kernel
theorem dX7_goesOver_62 : decode cX7_goesOver 62 = .ok (.ladd, 1) := by decide +kernel
theorem dX7_goesOver_63 : decode cX7_goesOver 63 = .ok (.lastore, 1) := by decide +kernel
theorem dX7_goesOver_64 : decode cX7_goesOver 64 = .ok (.aload_n 0, 1) := by decide +kernel
theorem dX7_goesOver_65 : decode cX7_goesOver 65 = .ok (.getfield 60, 3) := by decide +kernel
theorem dX7_goesOver_68 : decode cX7_goesOver 68 = .ok (.iload_n 2, 1) := by decide +kernel
theorem dX7_goesOver_69 : decode cX7_goesOver 69 = .ok (.aload_n 0, 1) := by decide +kernel
theorem dX7_goesOver_70 : decode cX7_goesOver 70 = .ok (.getfield 60, 3) := by decide +kernel
theorem dX7_goesOver_73 : decode cX7_goesOver 73 = .ok (.iload_n 3, 1) := by decide +kernel
theorem dX7_goesOver_74 : decode cX7_goesOver 74 = .ok (.laload, 1) := by decide +kernel
theorem dX7_goesOver_75 : decode cX7_goesOver 75 = .ok (.lload 6, 2) := by decide +kernel
theorem dX7_goesOver_77 : decode cX7_goesOver 77 = .ok (.ladd, 1) := by decide +kernel
theorem dX7_goesOver_78 : decode cX7_goesOver 78 = .ok (.lastore, 1) := by decide +kernel
theorem dX7_goesOver_79 : decode cX7_goesOver 79 = .ok (.aload_n 0, 1) := by decide +kernel
theorem dX7_goesOver_80 : decode cX7_goesOver 80 = .ok (.getfield 63, 3) := by decide +kernel
theorem dX7_goesOver_83 : decode cX7_goesOver 83 = .ok (.iload_n 2, 1) := by decide +kernel
theorem dX7_goesOver_84 : decode cX7_goesOver 84 = .ok (.aload_n 0, 1) := by decide +kernel
theorem dX7_goesOver_85 : decode cX7_goesOver 85 = .ok (.getfield 63, 3) := by decide +kernel
theorem dX7_goesOver_88 : decode cX7_goesOver 88 = .ok (.iload_n 3, 1) := by decide +kernel
theorem dX7_goesOver_89 : decode cX7_goesOver 89 = .ok (.laload, 1) := by decide +kernel
theorem dX7_goesOver_90 : decode cX7_goesOver 90 = .ok (.lload 6, 2) := by decide +kernel
theorem dX7_goesOver_92 : decode cX7_goesOver 92 = .ok (.lsub, 1) := by decide +kernel
theorem dX7_goesOver_93 : decode cX7_goesOver 93 = .ok (.lastore, 1) := by decide +kernel
theorem dX7_goesOver_94 : decode cX7_goesOver 94 = .ok (.aload_n 0, 1) := by decide +kernel
theorem dX7_goesOver_95 : decode cX7_goesOver 95 = .ok (.getfield 66, 3) := by decide +kernel
theorem dX7_goesOver_98 : decode cX7_goesOver 98 = .ok (.iload_n 2, 1) := by decide +kernel
theorem dX7_goesOver_99 : decode cX7_goesOver 99 = .ok (.aload_n 0, 1) := by decide +kernel
theorem dX7_goesOver_100 : decode cX7_goesOver 100 = .ok (.getfield 66, 3) := by decide +kernel
theorem dX7_goesOver_103 : decode cX7_goesOver 103 = .ok (.iload_n 3, 1) := by decide +kernel
theorem dX7_goesOver_104 : decode cX7_goesOver 104 = .ok (.laload, 1) := by decide +kernel
theorem dX7_goesOver_105 : decode cX7_goesOver 105 = .ok (.lload 4, 2) := by decide +kernel
theorem dX7_goesOver_107 : decode cX7_goesOver 107 = .ok (.ladd, 1) := by decide +kernel
theorem dX7_goesOver_108 : decode cX7_goesOver 108 = .ok (.lastore, 1) := by decide +kernel
theorem dX7_goesOver_109 : decode cX7_goesOver 109 = .ok (.aload_n 0, 1) := by decide +kernel
theorem dX7_goesOver_110 : decode cX7_goesOver 110 = .ok (.getfield 69, 3) := by decide +kernel
theorem dX7_goesOver_113 : decode cX7_goesOver 113 = .ok (.iload_n 2, 1) := by decide +kernel
theorem dX7_goesOver_114 : decode cX7_goesOver 114 = .ok (.aload_n 0, 1) := by decide +kernel
theorem dX7_goesOver_115 : decode cX7_goesOver 115 = .ok (.getfield 69, 3) := by decide +kernel
theorem dX7_goesOver_118 : decode cX7_goesOver 118 = .ok (.iload_n 3, 1) := by decide +kernel
theorem dX7_goesOver_119 : decode cX7_goesOver 119 = .ok (.laload, 1) := by decide +kernel
theorem dX7_goesOver_120 : decode cX7_goesOver 120 = .ok (.lload 6, 2) := by decide +kernel
theorem dX7_goesOver_122 : decode cX7_goesOver 122 = .ok (.aload_n 0, 1) := by decide +kernel
theorem dX7_goesOver_123 : decode cX7_goesOver 123 = .ok (.aload_n 0, 1) := by decide +kernel
theorem dX7_goesOver_124 : decode cX7_goesOver 124 = .ok (.iload_n 1, 1) := by decide +kernel
theorem dX7_goesOver_125 : decode cX7_goesOver 125 = .ok (.invokevirtual 98, 3) := by decide +kernel
theorem dX7_goesOver_128 : decode cX7_goesOver 128 = .ok (.invokevirtual 83, 3) := by decide +kernel
theorem dX7_goesOver_131 : decode cX7_goesOver 131 = .ok (.i2l, 1) := by decide +kernel
theorem dX7_goesOver_132 : decode cX7_goesOver 132 = .ok (.lmul, 1) := by decide +kernel
theorem dX7_goesOver_133 : decode cX7_goesOver 133 = .ok (.ladd, 1) := by decide +kernel
theorem dX7_goesOver_134 : decode cX7_goesOver 134 = .ok (.lload 4, 2) := by decide +kernel
theorem dX7_goesOver_136 : decode cX7_goesOver 136 = .ok (.aload_n 0, 1) := by decide +kernel
theorem dX7_goesOver_137 : decode cX7_goesOver 137 = .ok (.aload_n 0, 1) := by decide +kernel
theorem dX7_goesOver_138 : decode cX7_goesOver 138 = .ok (.iload_n 1, 1) := by decide +kernel
theorem dX7_goesOver_139 : decode cX7_goesOver 139 = .ok (.invokevirtual 98, 3) := by decide +kernel
theorem dX7_goesOver_142 : decode cX7_goesOver 142 = .ok (.invokevirtual 87, 3) := by decide +kernel
theorem dX7_goesOver_145 : decode cX7_goesOver 145 = .ok (.i2l, 1) := by decide +kernel
theorem dX7_goesOver_146 : decode cX7_goesOver 146 = .ok (.lmul, 1) := by decide +kernel
theorem dX7_goesOver_147 : decode cX7_goesOver 147 = .ok (.lsub, 1) := by decide +kernel
theorem dX7_goesOver_148 : decode cX7_goesOver 148 = .ok (.lastore, 1) := by decide +kernel
theorem dX7_goesOver_149 : decode cX7_goesOver 149 = .ok (.aload_n 0, 1) := by decide +kernel
theorem dX7_goesOver_150 : decode cX7_goesOver 150 = .ok (.getfield 72, 3) := by decide +kernel
theorem dX7_goesOver_153 : decode cX7_goesOver 153 = .ok (.iload_n 2, 1) := by decide +kernel
theorem dX7_goesOver_154 : decode cX7_goesOver 154 = .ok (.iconst 1, 1) := by decide +kernel
theorem dX7_goesOver_155 : decode cX7_goesOver 155 = .ok (.bastore, 1) := by decide +kernel
theorem dX7_goesOver_156 : decode cX7_goesOver 156 = .ok (.return_, 1) := by decide +kernel
theorem dX7_laysPoints_0 : decode cX7_laysPoints 0 = .ok (.aload_n 0, 1) := by decide +kernel
theorem dX7_laysPoints_1 : decode cX7_laysPoints 1 = .ok (.invokevirtual 232, 3) := by decide +kernel
theorem dX7_laysPoints_4 : decode cX7_laysPoints 4 = .ok (.aload_n 0, 1) := by decide +kernel
theorem dX7_laysPoints_5 : decode cX7_laysPoints 5 = .ok (.invokevirtual 277, 3) := by decide +kernel
theorem dX7_laysPoints_8 : decode cX7_laysPoints 8 = .ok (.aload_n 0, 1) := by decide +kernel
theorem dX7_laysPoints_9 : decode cX7_laysPoints 9 = .ok (.invokevirtual 280, 3) := by decide +kernel
theorem dX7_laysPoints_12 : decode cX7_laysPoints 12 = .ok (.istore_n 1, 1) := by decide +kernel
theorem dX7_laysPoints_13 : decode cX7_laysPoints 13 = .ok (.iconst 0, 1) := by decide +kernel
theorem dX7_laysPoints_14 : decode cX7_laysPoints 14 = .ok (.istore_n 2, 1) := by decide +kernel
theorem dX7_laysPoints_15 : decode cX7_laysPoints 15 = .ok (.iload_n 2, 1) := by decide +kernel
theorem dX7_laysPoints_16 : decode cX7_laysPoints 16 = .ok (.bipush 18, 2) := by decide +kernel
theorem dX7_laysPoints_18 : decode cX7_laysPoints 18 = .ok (.if_icmp .ge 25, 3) := by decide +kernel
theorem dX7_laysPoints_21 : decode cX7_laysPoints 21 = .ok (.aload_n 0, 1) := by decide +kernel
theorem dX7_laysPoints_22 : decode cX7_laysPoints 22 = .ok (.getfield 72, 3) := by decide +kernel
theorem dX7_laysPoints_25 : decode cX7_laysPoints 25 = .ok (.iload_n 2, 1) := by decide +kernel
theorem dX7_laysPoints_26 : decode cX7_laysPoints 26 = .ok (.iload_n 2, 1) := by decide +kernel
theorem dX7_laysPoints_27 : decode cX7_laysPoints 27 = .ok (.iload_n 1, 1) := by decide +kernel
theorem dX7_laysPoints_28 : decode cX7_laysPoints 28 = .ok (.if_icmp .ne 7, 3) := by decide +kernel
theorem dX7_laysPoints_31 : decode cX7_laysPoints 31 = .ok (.iconst 1, 1) := by decide +kernel
theorem dX7_laysPoints_32 : decode cX7_laysPoints 32 = .ok (.goto 4, 3) := by decide +kernel
theorem dX7_laysPoints_35 : decode cX7_laysPoints 35 = .ok (.iconst 0, 1) := by decide +kernel
theorem dX7_laysPoints_36 : decode cX7_laysPoints 36 = .ok (.bastore, 1) := by decide +kernel
theorem dX7_laysPoints_37 : decode cX7_laysPoints 37 = .ok (.iinc 2 1, 3) := by decide +kernel
theorem dX7_laysPoints_40 : decode cX7_laysPoints 40 = .ok (.goto (-25), 3) := by decide +kernel
theorem dX7_laysPoints_43 : decode cX7_laysPoints 43 = .ok (.aload_n 0, 1) := by decide +kernel
theorem dX7_laysPoints_44 : decode cX7_laysPoints 44 = .ok (.getfield 57, 3) := by decide +kernel
theorem dX7_laysPoints_47 : decode cX7_laysPoints 47 = .ok (.iload_n 1, 1) := by decide +kernel
theorem dX7_laysPoints_48 : decode cX7_laysPoints 48 = .ok (.lconst 0, 1) := by decide +kernel
theorem dX7_laysPoints_49 : decode cX7_laysPoints 49 = .ok (.lastore, 1) := by decide +kernel
theorem dX7_laysPoints_50 : decode cX7_laysPoints 50 = .ok (.aload_n 0, 1) := by decide +kernel
theorem dX7_laysPoints_51 : decode cX7_laysPoints 51 = .ok (.getfield 60, 3) := by decide +kernel
theorem dX7_laysPoints_54 : decode cX7_laysPoints 54 = .ok (.iload_n 1, 1) := by decide +kernel
theorem dX7_laysPoints_55 : decode cX7_laysPoints 55 = .ok (.lconst 0, 1) := by decide +kernel
theorem dX7_laysPoints_56 : decode cX7_laysPoints 56 = .ok (.lastore, 1) := by decide +kernel
theorem dX7_laysPoints_57 : decode cX7_laysPoints 57 = .ok (.aload_n 0, 1) := by decide +kernel
theorem dX7_laysPoints_58 : decode cX7_laysPoints 58 = .ok (.getfield 63, 3) := by decide +kernel
theorem dX7_laysPoints_61 : decode cX7_laysPoints 61 = .ok (.iload_n 1, 1) := by decide +kernel
theorem dX7_laysPoints_62 : decode cX7_laysPoints 62 = .ok (.lconst 0, 1) := by decide +kernel
theorem dX7_laysPoints_63 : decode cX7_laysPoints 63 = .ok (.lastore, 1) := by decide +kernel
theorem dX7_laysPoints_64 : decode cX7_laysPoints 64 = .ok (.aload_n 0, 1) := by decide +kernel
theorem dX7_laysPoints_65 : decode cX7_laysPoints 65 = .ok (.getfield 66, 3) := by decide +kernel
theorem dX7_laysPoints_68 : decode cX7_laysPoints 68 = .ok (.iload_n 1, 1) := by decide +kernel
theorem dX7_laysPoints_69 : decode cX7_laysPoints 69 = .ok (.lconst 0, 1) := by decide +kernel
theorem dX7_laysPoints_70 : decode cX7_laysPoints 70 = .ok (.lastore, 1) := by decide +kernel
theorem dX7_laysPoints_71 : decode cX7_laysPoints 71 = .ok (.aload_n 0, 1) := by decide +kernel
theorem dX7_laysPoints_72 : decode cX7_laysPoints 72 = .ok (.getfield 69, 3) := by decide +kernel
theorem dX7_laysPoints_75 : decode cX7_laysPoints 75 = .ok (.iload_n 1, 1) := by decide +kernel
theorem dX7_laysPoints_76 : decode cX7_laysPoints 76 = .ok (.lconst 0, 1) := by decide +kernel
theorem dX7_laysPoints_77 : decode cX7_laysPoints 77 = .ok (.lastore, 1) := by decide +kernel
theorem dX7_laysPoints_78 : decode cX7_laysPoints 78 = .ok (.iconst 0, 1) := by decide +kernel
theorem dX7_laysPoints_79 : decode cX7_laysPoints 79 = .ok (.istore_n 2, 1) := by decide +kernel
theorem dX7_laysPoints_80 : decode cX7_laysPoints 80 = .ok (.iload_n 2, 1) := by decide +kernel
theorem dX7_laysPoints_81 : decode cX7_laysPoints 81 = .ok (.aload_n 0, 1) := by decide +kernel
theorem dX7_laysPoints_82 : decode cX7_laysPoints 82 = .ok (.getfield 265, 3) := by decide +kernel
theorem dX7_laysPoints_85 : decode cX7_laysPoints 85 = .ok (.if_icmp .ge 65, 3) := by decide +kernel
theorem dX7_laysPoints_88 : decode cX7_laysPoints 88 = .ok (.iconst 0, 1) := by decide +kernel
theorem dX7_laysPoints_89 : decode cX7_laysPoints 89 = .ok (.istore_n 3, 1) := by decide +kernel
theorem dX7_laysPoints_90 : decode cX7_laysPoints 90 = .ok (.iload_n 3, 1) := by decide +kernel
theorem dX7_laysPoints_91 : decode cX7_laysPoints 91 = .ok (.iconst 2, 1) := by decide +kernel
theorem dX7_laysPoints_92 : decode cX7_laysPoints 92 = .ok (.aload_n 0, 1) := by decide +kernel
theorem dX7_laysPoints_93 : decode cX7_laysPoints 93 = .ok (.getfield 7, 3) := by decide +kernel
theorem dX7_laysPoints_96 : decode cX7_laysPoints 96 = .ok (.iconst 1, 1) := by decide +kernel
theorem dX7_laysPoints_97 : decode cX7_laysPoints 97 = .ok (.iaload, 1) := by decide +kernel
theorem dX7_laysPoints_98 : decode cX7_laysPoints 98 = .ok (.imul, 1) := by decide +kernel
theorem dX7_laysPoints_99 : decode cX7_laysPoints 99 = .ok (.if_icmp .ge 45, 3) := by decide +kernel
theorem dX7_laysPoints_102 : decode cX7_laysPoints 102 = .ok (.aload_n 0, 1) := by decide +kernel
theorem dX7_laysPoints_103 : decode cX7_laysPoints 103 = .ok (.getfield 72, 3) := by decide +kernel
theorem dX7_laysPoints_106 : decode cX7_laysPoints 106 = .ok (.aload_n 0, 1) := by decide +kernel
theorem dX7_laysPoints_107 : decode cX7_laysPoints 107 = .ok (.getfield 54, 3) := by decide +kernel
theorem dX7_laysPoints_110 : decode cX7_laysPoints 110 = .ok (.iload_n 3, 1) := by decide +kernel
theorem dX7_laysPoints_111 : decode cX7_laysPoints 111 = .ok (.invokestatic 259, 3) := by decide +kernel
theorem dX7_laysPoints_114 : decode cX7_laysPoints 114 = .ok (.iaload, 1) := by decide +kernel
theorem dX7_laysPoints_115 : decode cX7_laysPoints 115 = .ok (.baload, 1) := by decide +kernel
theorem dX7_laysPoints_116 : decode cX7_laysPoints 116 = .ok (.ifCond .eq 22, 3) := by decide +kernel
theorem dX7_laysPoints_119 : decode cX7_laysPoints 119 = .ok (.aload_n 0, 1) := by decide +kernel
theorem dX7_laysPoints_120 : decode cX7_laysPoints 120 = .ok (.getfield 72, 3) := by decide +kernel
theorem dX7_laysPoints_123 : decode cX7_laysPoints 123 = .ok (.aload_n 0, 1) := by decide +kernel
theorem dX7_laysPoints_124 : decode cX7_laysPoints 124 = .ok (.getfield 54, 3) := by decide +kernel
theorem dX7_laysPoints_127 : decode cX7_laysPoints 127 = .ok (.iload_n 3, 1) := by decide +kernel
theorem dX7_laysPoints_128 : decode cX7_laysPoints 128 = .ok (.iaload, 1) := by decide +kernel
theorem dX7_laysPoints_129 : decode cX7_laysPoints 129 = .ok (.baload, 1) := by decide +kernel
theorem dX7_laysPoints_130 : decode cX7_laysPoints 130 = .ok (.ifCond .ne 8, 3) := by decide +kernel
theorem dX7_laysPoints_133 : decode cX7_laysPoints 133 = .ok (.aload_n 0, 1) := by decide +kernel
theorem dX7_laysPoints_134 : decode cX7_laysPoints 134 = .ok (.iload_n 3, 1) := by decide +kernel
theorem dX7_laysPoints_135 : decode cX7_laysPoints 135 = .ok (.invokevirtual 292, 3) := by decide +kernel
theorem dX7_laysPoints_138 : decode cX7_laysPoints 138 = .ok (.iinc 3 1, 3) := by decide +kernel
theorem dX7_laysPoints_141 : decode cX7_laysPoints 141 = .ok (.goto (-51), 3) := by decide +kernel
theorem dX7_laysPoints_144 : decode cX7_laysPoints 144 = .ok (.iinc 2 1, 3) := by decide +kernel
theorem dX7_laysPoints_147 : decode cX7_laysPoints 147 = .ok (.goto (-67), 3) := by decide +kernel
theorem dX7_laysPoints_150 : decode cX7_laysPoints 150 = .ok (.return_, 1) := by decide +kernel
theorem dX7_point_0 : decode cX7_point 0 = .ok (.aload_n 0, 1) := by decide +kernel
theorem dX7_point_1 : decode cX7_point 1 = .ok (.invokevirtual 277, 3) := by decide +kernel
theorem dX7_point_4 : decode cX7_point 4 = .ok (.iload_n 1, 1) := by decide +kernel
theorem dX7_point_5 : decode cX7_point 5 = .ok (.i2l, 1) := by decide +kernel
theorem dX7_point_6 : decode cX7_point 6 = .ok (.lconst 0, 1) := by decide +kernel
theorem dX7_point_7 : decode cX7_point 7 = .ok (.aload_n 0, 1) := by decide +kernel
theorem dX7_point_8 : decode cX7_point 8 = .ok (.getfield 265, 3) := by decide +kernel
theorem dX7_point_11 : decode cX7_point 11 = .ok (.iconst 1, 1) := by decide +kernel
theorem dX7_point_12 : decode cX7_point 12 = .ok (.isub, 1) := by decide +kernel
theorem dX7_point_13 : decode cX7_point 13 = .ok (.i2l, 1) := by decide +kernel
theorem dX7_point_14 : decode cX7_point 14 = .ok (.invokestatic 79, 3) := by decide +kernel
theorem dX7_point_17 : decode cX7_point 17 = .ok (.ifCond .eq 25, 3) := by decide +kernel
theorem dX7_point_20 : decode cX7_point 20 = .ok (.iload_n 2, 1) := by decide +kernel
theorem dX7_point_21 : decode cX7_point 21 = .ok (.i2l, 1) := by decide +kernel
theorem dX7_point_22 : decode cX7_point 22 = .ok (.lconst 0, 1) := by decide +kernel
theorem dX7_point_23 : decode cX7_point 23 = .ok (.lconst 1, 1) := by decide +kernel
theorem dX7_point_24 : decode cX7_point 24 = .ok (.invokestatic 79, 3) := by decide +kernel
theorem dX7_point_27 : decode cX7_point 27 = .ok (.ifCond .eq 15, 3) := by decide +kernel
theorem dX7_point_30 : decode cX7_point 30 = .ok (.iload_n 3, 1) := by decide +kernel
theorem dX7_point_31 : decode cX7_point 31 = .ok (.i2l, 1) := by decide +kernel
theorem dX7_point_32 : decode cX7_point 32 = .ok (.lconst 0, 1) := by decide +kernel
theorem dX7_point_33 : decode cX7_point 33 = .ok (.ldc2_w 230, 3) := by decide +kernel
theorem dX7_point_36 : decode cX7_point 36 = .ok (.invokestatic 79, 3) := by decide +kernel
theorem dX7_point_39 : decode cX7_point 39 = .ok (.ifCond .ne 7, 3) := by decide +kernel
theorem dX7_point_42 : decode cX7_point 42 = .ok (.ldc2_w 238, 3) := by decide +kernel
theorem dX7_point_45 : decode cX7_point 45 = .ok (.lreturn, 1) := by decide +kernel
theorem dX7_point_46 : decode cX7_point 46 = .ok (.aload_n 0, 1) := by decide +kernel
theorem dX7_point_47 : decode cX7_point 47 = .ok (.invokevirtual 271, 3) := by decide +kernel
theorem dX7_point_50 : decode cX7_point 50 = .ok (.ifCond .ne 7, 3) := by decide +kernel
theorem dX7_point_53 : decode cX7_point 53 = .ok (.ldc2_w 295, 3) := by decide +kernel
theorem dX7_point_56 : decode cX7_point 56 = .ok (.lreturn, 1) := by decide +kernel
theorem dX7_point_57 : decode cX7_point 57 = .ok (.aload_n 0, 1) := by decide +kernel
theorem dX7_point_58 : decode cX7_point 58 = .ok (.invokevirtual 297, 3) := by decide +kernel
theorem dX7_point_61 : decode cX7_point 61 = .ok (.iload_n 2, 1) := by decide +kernel
theorem dX7_point_62 : decode cX7_point 62 = .ok (.ifCond .ne 12, 3) := by decide +kernel
theorem dX7_point_65 : decode cX7_point 65 = .ok (.aload_n 0, 1) := by decide +kernel
theorem dX7_point_66 : decode cX7_point 66 = .ok (.getfield 57, 3) := by decide +kernel
theorem dX7_point_69 : decode cX7_point 69 = .ok (.iload_n 1, 1) := by decide +kernel
theorem dX7_point_70 : decode cX7_point 70 = .ok (.laload, 1) := by decide +kernel
theorem dX7_point_71 : decode cX7_point 71 = .ok (.goto 9, 3) := by decide +kernel
theorem dX7_point_74 : decode cX7_point 74 = .ok (.aload_n 0, 1) := by decide +kernel
theorem dX7_point_75 : decode cX7_point 75 = .ok (.getfield 60, 3) := by decide +kernel
theorem dX7_point_78 : decode cX7_point 78 = .ok (.iload_n 1, 1) := by decide +kernel
theorem dX7_point_79 : decode cX7_point 79 = .ok (.laload, 1) := by decide +kernel
theorem dX7_point_80 : decode cX7_point 80 = .ok (.aload_n 0, 1) := by decide +kernel
theorem dX7_point_81 : decode cX7_point 81 = .ok (.getfield 198, 3) := by decide +kernel
theorem dX7_point_84 : decode cX7_point 84 = .ok (.iload_n 3, 1) := by decide +kernel
theorem dX7_point_85 : decode cX7_point 85 = .ok (.invokestatic 240, 3) := by decide +kernel
theorem dX7_point_88 : decode cX7_point 88 = .ok (.lreturn, 1) := by decide +kernel
theorem dX7_plane_0 : decode cX7_plane 0 = .ok (.aload_n 0, 1) := by decide +kernel
theorem dX7_plane_1 : decode cX7_plane 1 = .ok (.invokevirtual 277, 3) := by decide +kernel
theorem dX7_plane_4 : decode cX7_plane 4 = .ok (.iload_n 1, 1) := by decide +kernel
theorem dX7_plane_5 : decode cX7_plane 5 = .ok (.i2l, 1) := by decide +kernel
theorem dX7_plane_6 : decode cX7_plane 6 = .ok (.lconst 0, 1) := by decide +kernel
theorem dX7_plane_7 : decode cX7_plane 7 = .ok (.aload_n 0, 1) := by decide +kernel
theorem dX7_plane_8 : decode cX7_plane 8 = .ok (.getfield 265, 3) := by decide +kernel
theorem dX7_plane_11 : decode cX7_plane 11 = .ok (.iconst 1, 1) := by decide +kernel
theorem dX7_plane_12 : decode cX7_plane 12 = .ok (.isub, 1) := by decide +kernel
theorem dX7_plane_13 : decode cX7_plane 13 = .ok (.i2l, 1) := by decide +kernel
theorem dX7_plane_14 : decode cX7_plane 14 = .ok (.invokestatic 79, 3) := by decide +kernel
theorem dX7_plane_17 : decode cX7_plane 17 = .ok (.ifCond .eq 27, 3) := by decide +kernel
theorem dX7_plane_20 : decode cX7_plane 20 = .ok (.iload_n 2, 1) := by decide +kernel
theorem dX7_plane_21 : decode cX7_plane 21 = .ok (.i2l, 1) := by decide +kernel
theorem dX7_plane_22 : decode cX7_plane 22 = .ok (.lconst 0, 1) := by decide +kernel
theorem dX7_plane_23 : decode cX7_plane 23 = .ok (.ldc2_w 230, 3) := by decide +kernel
theorem dX7_plane_26 : decode cX7_plane 26 = .ok (.invokestatic 79, 3) := by decide +kernel
theorem dX7_plane_29 : decode cX7_plane 29 = .ok (.ifCond .eq 15, 3) := by decide +kernel
theorem dX7_plane_32 : decode cX7_plane 32 = .ok (.iload_n 3, 1) := by decide +kernel
theorem dX7_plane_33 : decode cX7_plane 33 = .ok (.i2l, 1) := by decide +kernel
theorem dX7_plane_34 : decode cX7_plane 34 = .ok (.lconst 0, 1) := by decide +kernel
theorem dX7_plane_35 : decode cX7_plane 35 = .ok (.ldc2_w 230, 3) := by decide +kernel
theorem dX7_plane_38 : decode cX7_plane 38 = .ok (.invokestatic 79, 3) := by decide +kernel
theorem dX7_plane_41 : decode cX7_plane 41 = .ok (.ifCond .ne 7, 3) := by decide +kernel
theorem dX7_plane_44 : decode cX7_plane 44 = .ok (.ldc2_w 238, 3) := by decide +kernel
theorem dX7_plane_47 : decode cX7_plane 47 = .ok (.lreturn, 1) := by decide +kernel
theorem dX7_plane_48 : decode cX7_plane 48 = .ok (.aload_n 0, 1) := by decide +kernel
theorem dX7_plane_49 : decode cX7_plane 49 = .ok (.invokevirtual 271, 3) := by decide +kernel
theorem dX7_plane_52 : decode cX7_plane 52 = .ok (.ifCond .ne 7, 3) := by decide +kernel
theorem dX7_plane_55 : decode cX7_plane 55 = .ok (.ldc2_w 295, 3) := by decide +kernel
theorem dX7_plane_58 : decode cX7_plane 58 = .ok (.lreturn, 1) := by decide +kernel
theorem dX7_plane_59 : decode cX7_plane 59 = .ok (.aload_n 0, 1) := by decide +kernel
theorem dX7_plane_60 : decode cX7_plane 60 = .ok (.invokevirtual 297, 3) := by decide +kernel
theorem dX7_plane_63 : decode cX7_plane 63 = .ok (.iload_n 2, 1) := by decide +kernel
theorem dX7_plane_64 : decode cX7_plane 64 = .ok (.ifCond .ne 12, 3) := by decide +kernel
theorem dX7_plane_67 : decode cX7_plane 67 = .ok (.aload_n 0, 1) := by decide +kernel
theorem dX7_plane_68 : decode cX7_plane 68 = .ok (.getfield 63, 3) := by decide +kernel
theorem dX7_plane_71 : decode cX7_plane 71 = .ok (.iload_n 1, 1) := by decide +kernel
theorem dX7_plane_72 : decode cX7_plane 72 = .ok (.laload, 1) := by decide +kernel
theorem dX7_plane_73 : decode cX7_plane 73 = .ok (.goto 23, 3) := by decide +kernel
theorem dX7_plane_76 : decode cX7_plane 76 = .ok (.iload_n 2, 1) := by decide +kernel
theorem dX7_plane_77 : decode cX7_plane 77 = .ok (.iconst 1, 1) := by decide +kernel
theorem dX7_plane_78 : decode cX7_plane 78 = .ok (.if_icmp .ne 12, 3) := by decide +kernel
theorem dX7_plane_81 : decode cX7_plane 81 = .ok (.aload_n 0, 1) := by decide +kernel
theorem dX7_plane_82 : decode cX7_plane 82 = .ok (.getfield 66, 3) := by decide +kernel
theorem dX7_plane_85 : decode cX7_plane 85 = .ok (.iload_n 1, 1) := by decide +kernel
theorem dX7_plane_86 : decode cX7_plane 86 = .ok (.laload, 1) := by decide +kernel
theorem dX7_plane_87 : decode cX7_plane 87 = .ok (.goto 9, 3) := by decide +kernel
theorem dX7_plane_90 : decode cX7_plane 90 = .ok (.aload_n 0, 1) := by decide +kernel
theorem dX7_plane_91 : decode cX7_plane 91 = .ok (.getfield 69, 3) := by decide +kernel
theorem dX7_plane_94 : decode cX7_plane 94 = .ok (.iload_n 1, 1) := by decide +kernel
theorem dX7_plane_95 : decode cX7_plane 95 = .ok (.laload, 1) := by decide +kernel
theorem dX7_plane_96 : decode cX7_plane 96 = .ok (.aload_n 0, 1) := by decide +kernel
theorem dX7_plane_97 : decode cX7_plane 97 = .ok (.getfield 198, 3) := by decide +kernel
theorem dX7_plane_100 : decode cX7_plane 100 = .ok (.iload_n 3, 1) := by decide +kernel
theorem dX7_plane_101 : decode cX7_plane 101 = .ok (.invokestatic 240, 3) := by decide +kernel
theorem dX7_plane_104 : decode cX7_plane 104 = .ok (.lreturn, 1) := by decide +kernel
theorem dX7_height_0 : decode cX7_height 0 = .ok (.aload_n 0, 1) := by decide +kernel
theorem dX7_height_1 : decode cX7_height 1 = .ok (.iload_n 1, 1) := by decide +kernel
theorem dX7_height_2 : decode cX7_height 2 = .ok (.invokevirtual 128, 3) := by decide +kernel
theorem dX7_height_5 : decode cX7_height 5 = .ok (.ifCond .eq 15, 3) := by decide +kernel
theorem dX7_height_8 : decode cX7_height 8 = .ok (.iload_n 2, 1) := by decide +kernel
theorem dX7_height_9 : decode cX7_height 9 = .ok (.i2l, 1) := by decide +kernel
theorem dX7_height_10 : decode cX7_height 10 = .ok (.lconst 0, 1) := by decide +kernel
theorem dX7_height_11 : decode cX7_height 11 = .ok (.ldc2_w 230, 3) := by decide +kernel
theorem dX7_height_14 : decode cX7_height 14 = .ok (.invokestatic 79, 3) := by decide +kernel
theorem dX7_height_17 : decode cX7_height 17 = .ok (.ifCond .ne 7, 3) := by decide +kernel
theorem dX7_height_20 : decode cX7_height 20 = .ok (.ldc2_w 238, 3) := by decide +kernel
theorem dX7_height_23 : decode cX7_height 23 = .ok (.lreturn, 1) := by decide +kernel
theorem dX7_height_24 : decode cX7_height 24 = .ok (.aload_n 0, 1) := by decide +kernel
theorem dX7_height_25 : decode cX7_height 25 = .ok (.invokevirtual 271, 3) := by decide +kernel
theorem dX7_height_28 : decode cX7_height 28 = .ok (.ifCond .ne 7, 3) := by decide +kernel
theorem dX7_height_31 : decode cX7_height 31 = .ok (.ldc2_w 295, 3) := by decide +kernel
theorem dX7_height_34 : decode cX7_height 34 = .ok (.lreturn, 1) := by decide +kernel
theorem dX7_height_35 : decode cX7_height 35 = .ok (.aload_n 0, 1) := by decide +kernel
theorem dX7_height_36 : decode cX7_height 36 = .ok (.invokevirtual 297, 3) := by decide +kernel
theorem dX7_height_39 : decode cX7_height 39 = .ok (.aload_n 0, 1) := by decide +kernel
theorem dX7_height_40 : decode cX7_height 40 = .ok (.getfield 54, 3) := by decide +kernel
theorem dX7_height_43 : decode cX7_height 43 = .ok (.aload_n 0, 1) := by decide +kernel
theorem dX7_height_44 : decode cX7_height 44 = .ok (.iload_n 1, 1) := by decide +kernel
theorem dX7_height_45 : decode cX7_height 45 = .ok (.iconst 0, 1) := by decide +kernel
theorem dX7_height_46 : decode cX7_height 46 = .ok (.invokevirtual 262, 3) := by decide +kernel
theorem dX7_height_49 : decode cX7_height 49 = .ok (.iaload, 1) := by decide +kernel
theorem dX7_height_50 : decode cX7_height 50 = .ok (.istore_n 3, 1) := by decide +kernel
theorem dX7_height_51 : decode cX7_height 51 = .ok (.aload_n 0, 1) := by decide +kernel
theorem dX7_height_52 : decode cX7_height 52 = .ok (.getfield 63, 3) := by decide +kernel
theorem dX7_height_55 : decode cX7_height 55 = .ok (.iload_n 3, 1) := by decide +kernel
theorem dX7_height_56 : decode cX7_height 56 = .ok (.laload, 1) := by decide +kernel
theorem dX7_height_57 : decode cX7_height 57 = .ok (.aload_n 0, 1) := by decide +kernel
theorem dX7_height_58 : decode cX7_height 58 = .ok (.iload_n 1, 1) := by decide +kernel
theorem dX7_height_59 : decode cX7_height 59 = .ok (.invokevirtual 83, 3) := by decide +kernel
theorem dX7_height_62 : decode cX7_height 62 = .ok (.i2l, 1) := by decide +kernel
theorem dX7_height_63 : decode cX7_height 63 = .ok (.lmul, 1) := by decide +kernel
theorem dX7_height_64 : decode cX7_height 64 = .ok (.aload_n 0, 1) := by decide +kernel
theorem dX7_height_65 : decode cX7_height 65 = .ok (.getfield 66, 3) := by decide +kernel
theorem dX7_height_68 : decode cX7_height 68 = .ok (.iload_n 3, 1) := by decide +kernel
theorem dX7_height_69 : decode cX7_height 69 = .ok (.laload, 1) := by decide +kernel
theorem dX7_height_70 : decode cX7_height 70 = .ok (.aload_n 0, 1) := by decide +kernel
theorem dX7_height_71 : decode cX7_height 71 = .ok (.iload_n 1, 1) := by decide +kernel
theorem dX7_height_72 : decode cX7_height 72 = .ok (.invokevirtual 87, 3) := by decide +kernel
theorem dX7_height_75 : decode cX7_height 75 = .ok (.i2l, 1) := by decide +kernel
theorem dX7_height_76 : decode cX7_height 76 = .ok (.lmul, 1) := by decide +kernel
theorem dX7_height_77 : decode cX7_height 77 = .ok (.ladd, 1) := by decide +kernel
theorem dX7_height_78 : decode cX7_height 78 = .ok (.aload_n 0, 1) := by decide +kernel
theorem dX7_height_79 : decode cX7_height 79 = .ok (.getfield 69, 3) := by decide +kernel
theorem dX7_height_82 : decode cX7_height 82 = .ok (.iload_n 3, 1) := by decide +kernel
theorem dX7_height_83 : decode cX7_height 83 = .ok (.laload, 1) := by decide +kernel
theorem dX7_height_84 : decode cX7_height 84 = .ok (.ladd, 1) := by decide +kernel
theorem dX7_height_85 : decode cX7_height 85 = .ok (.aload_n 0, 1) := by decide +kernel
theorem dX7_height_86 : decode cX7_height 86 = .ok (.getfield 198, 3) := by decide +kernel
theorem dX7_height_89 : decode cX7_height 89 = .ok (.iload_n 2, 1) := by decide +kernel
theorem dX7_height_90 : decode cX7_height 90 = .ok (.invokestatic 240, 3) := by decide +kernel
theorem dX7_height_93 : decode cX7_height 93 = .ok (.lreturn, 1) := by decide +kernel
theorem dX7_corner_0 : decode cX7_corner 0 = .ok (.aload_n 0, 1) := by decide +kernel
theorem dX7_corner_1 : decode cX7_corner 1 = .ok (.iload_n 1, 1) := by decide +kernel
theorem dX7_corner_2 : decode cX7_corner 2 = .ok (.invokevirtual 128, 3) := by decide +kernel
theorem dX7_corner_5 : decode cX7_corner 5 = .ok (.ifCond .eq 41, 3) := by decide +kernel
theorem dX7_corner_8 : decode cX7_corner 8 = .ok (.iload_n 2, 1) := by decide +kernel
theorem dX7_corner_9 : decode cX7_corner 9 = .ok (.i2l, 1) := by decide +kernel
theorem dX7_corner_10 : decode cX7_corner 10 = .ok (.lconst 0, 1) := by decide +kernel
theorem dX7_corner_11 : decode cX7_corner 11 = .ok (.aload_n 0, 1) := by decide +kernel
theorem dX7_corner_12 : decode cX7_corner 12 = .ok (.iload_n 1, 1) := by decide +kernel
theorem dX7_corner_13 : decode cX7_corner 13 = .ok (.invokevirtual 142, 3) := by decide +kernel
theorem dX7_corner_16 : decode cX7_corner 16 = .ok (.i2l, 1) := by decide +kernel
theorem dX7_corner_17 : decode cX7_corner 17 = .ok (.invokestatic 79, 3) := by decide +kernel
theorem dX7_corner_20 : decode cX7_corner 20 = .ok (.ifCond .eq 26, 3) := by decide +kernel
theorem dX7_corner_23 : decode cX7_corner 23 = .ok (.iload_n 3, 1) := by decide +kernel
theorem dX7_corner_24 : decode cX7_corner 24 = .ok (.i2l, 1) := by decide +kernel
theorem dX7_corner_25 : decode cX7_corner 25 = .ok (.lconst 0, 1) := by decide +kernel
theorem dX7_corner_26 : decode cX7_corner 26 = .ok (.lconst 1, 1) := by decide +kernel
theorem dX7_corner_27 : decode cX7_corner 27 = .ok (.invokestatic 79, 3) := by decide +kernel
theorem dX7_corner_30 : decode cX7_corner 30 = .ok (.ifCond .eq 16, 3) := by decide +kernel
theorem dX7_corner_33 : decode cX7_corner 33 = .ok (.iload 4, 2) := by decide +kernel
theorem dX7_corner_35 : decode cX7_corner 35 = .ok (.i2l, 1) := by decide +kernel
theorem dX7_corner_36 : decode cX7_corner 36 = .ok (.lconst 0, 1) := by decide +kernel
theorem dX7_corner_37 : decode cX7_corner 37 = .ok (.ldc2_w 230, 3) := by decide +kernel
theorem dX7_corner_40 : decode cX7_corner 40 = .ok (.invokestatic 79, 3) := by decide +kernel
theorem dX7_corner_43 : decode cX7_corner 43 = .ok (.ifCond .ne 7, 3) := by decide +kernel
theorem dX7_corner_46 : decode cX7_corner 46 = .ok (.ldc2_w 238, 3) := by decide +kernel
theorem dX7_corner_49 : decode cX7_corner 49 = .ok (.lreturn, 1) := by decide +kernel
theorem dX7_corner_50 : decode cX7_corner 50 = .ok (.aload_n 0, 1) := by decide +kernel
theorem dX7_corner_51 : decode cX7_corner 51 = .ok (.invokevirtual 232, 3) := by decide +kernel
theorem dX7_corner_54 : decode cX7_corner 54 = .ok (.lconst 0, 1) := by decide +kernel
theorem dX7_corner_55 : decode cX7_corner 55 = .ok (.lstore 5, 2) := by decide +kernel
theorem dX7_corner_57 : decode cX7_corner 57 = .ok (.iconst 0, 1) := by decide +kernel
theorem dX7_corner_58 : decode cX7_corner 58 = .ok (.istore 7, 2) := by decide +kernel
theorem dX7_corner_60 : decode cX7_corner 60 = .ok (.iload 7, 2) := by decide +kernel
theorem dX7_corner_62 : decode cX7_corner 62 = .ok (.iload_n 2, 1) := by decide +kernel
theorem dX7_corner_63 : decode cX7_corner 63 = .ok (.if_icmp .ge 52, 3) := by decide +kernel
theorem dX7_corner_66 : decode cX7_corner 66 = .ok (.aload_n 0, 1) := by decide +kernel
theorem dX7_corner_67 : decode cX7_corner 67 = .ok (.iload_n 1, 1) := by decide +kernel
theorem dX7_corner_68 : decode cX7_corner 68 = .ok (.iload 7, 2) := by decide +kernel
theorem dX7_corner_70 : decode cX7_corner 70 = .ok (.invokevirtual 262, 3) := by decide +kernel
theorem dX7_corner_73 : decode cX7_corner 73 = .ok (.istore 8, 2) := by decide +kernel
theorem dX7_corner_75 : decode cX7_corner 75 = .ok (.lload 5, 2) := by decide +kernel
theorem dX7_corner_77 : decode cX7_corner 77 = .ok (.aload_n 0, 1) := by decide +kernel
theorem dX7_corner_78 : decode cX7_corner 78 = .ok (.iload 8, 2) := by decide +kernel
theorem dX7_corner_80 : decode cX7_corner 80 = .ok (.iconst 2, 1) := by decide +kernel
theorem dX7_corner_81 : decode cX7_corner 81 = .ok (.idiv, 1) := by decide +kernel
theorem dX7_corner_82 : decode cX7_corner 82 = .ok (.invokevirtual 244, 3) := by decide +kernel
theorem dX7_corner_85 : decode cX7_corner 85 = .ok (.iload_n 3, 1) := by decide +kernel
theorem dX7_corner_86 : decode cX7_corner 86 = .ok (.ifCond .ne 12, 3) := by decide +kernel
theorem dX7_corner_89 : decode cX7_corner 89 = .ok (.aload_n 0, 1) := by decide +kernel
theorem dX7_corner_90 : decode cX7_corner 90 = .ok (.iload 8, 2) := by decide +kernel
theorem dX7_corner_92 : decode cX7_corner 92 = .ok (.invokevirtual 189, 3) := by decide +kernel
theorem dX7_corner_95 : decode cX7_corner 95 = .ok (.goto 9, 3) := by decide +kernel
theorem dX7_corner_98 : decode cX7_corner 98 = .ok (.aload_n 0, 1) := by decide +kernel
theorem dX7_corner_99 : decode cX7_corner 99 = .ok (.iload 8, 2) := by decide +kernel
theorem dX7_corner_101 : decode cX7_corner 101 = .ok (.invokevirtual 192, 3) := by decide +kernel
theorem dX7_corner_104 : decode cX7_corner 104 = .ok (.i2l, 1) := by decide +kernel
theorem dX7_corner_105 : decode cX7_corner 105 = .ok (.lmul, 1) := by decide +kernel
theorem dX7_corner_106 : decode cX7_corner 106 = .ok (.ladd, 1) := by decide +kernel
theorem dX7_corner_107 : decode cX7_corner 107 = .ok (.lstore 5, 2) := by decide +kernel
theorem dX7_corner_109 : decode cX7_corner 109 = .ok (.iinc 7 1, 3) := by decide +kernel
theorem dX7_corner_112 : decode cX7_corner 112 = .ok (.goto (-52), 3) := by decide +kernel
theorem dX7_corner_115 : decode cX7_corner 115 = .ok (.lload 5, 2) := by decide +kernel
theorem dX7_corner_117 : decode cX7_corner 117 = .ok (.aload_n 0, 1) := by decide +kernel
theorem dX7_corner_118 : decode cX7_corner 118 = .ok (.getfield 198, 3) := by decide +kernel
theorem dX7_corner_121 : decode cX7_corner 121 = .ok (.iload 4, 2) := by decide +kernel
theorem dX7_corner_123 : decode cX7_corner 123 = .ok (.invokestatic 240, 3) := by decide +kernel
theorem dX7_corner_126 : decode cX7_corner 126 = .ok (.lreturn, 1) := by decide +kernel
theorem dX7_type_0 : decode cX7_type 0 = .ok (.iload_n 1, 1) := by decide +kernel
theorem dX7_type_1 : decode cX7_type 1 = .ok (.i2l, 1) := by decide +kernel
theorem dX7_type_2 : decode cX7_type 2 = .ok (.ldc2_w 300, 3) := by decide +kernel
theorem dX7_type_5 : decode cX7_type 5 = .ok (.ldc2_w 302, 3) := by decide +kernel
theorem dX7_type_8 : decode cX7_type 8 = .ok (.invokestatic 79, 3) := by decide +kernel
theorem dX7_type_11 : decode cX7_type 11 = .ok (.ifCond .ne 5, 3) := by decide +kernel
theorem dX7_type_14 : decode cX7_type 14 = .ok (.iconst (-1), 1) := by decide +kernel
theorem dX7_type_15 : decode cX7_type 15 = .ok (.ireturn, 1) := by decide +kernel
theorem dX7_type_16 : decode cX7_type 16 = .ok (.aload_n 0, 1) := by decide +kernel
theorem dX7_type_17 : decode cX7_type 17 = .ok (.getfield 304, 3) := by decide +kernel
theorem dX7_type_20 : decode cX7_type 20 = .ok (.bipush 60, 2) := by decide +kernel
theorem dX7_type_22 : decode cX7_type 22 = .ok (.if_icmp .ne 6, 3) := by decide +kernel
theorem dX7_type_25 : decode cX7_type 25 = .ok (.bipush (-3), 2) := by decide +kernel
theorem dX7_type_27 : decode cX7_type 27 = .ok (.ireturn, 1) := by decide +kernel
theorem dX7_type_28 : decode cX7_type 28 = .ok (.aload_n 0, 1) := by decide +kernel
theorem dX7_type_29 : decode cX7_type 29 = .ok (.getfield 26, 3) := by decide +kernel
theorem dX7_type_32 : decode cX7_type 32 = .ok (.aload_n 0, 1) := by decide +kernel
theorem dX7_type_33 : decode cX7_type 33 = .ok (.getfield 304, 3) := by decide +kernel
theorem dX7_type_36 : decode cX7_type 36 = .ok (.iload_n 1, 1) := by decide +kernel
theorem dX7_type_37 : decode cX7_type 37 = .ok (.iastore, 1) := by decide +kernel
theorem dX7_type_38 : decode cX7_type 38 = .ok (.aload_n 0, 1) := by decide +kernel
theorem dX7_type_39 : decode cX7_type 39 = .ok (.dup, 1) := by decide +kernel
theorem dX7_type_40 : decode cX7_type 40 = .ok (.getfield 304, 3) := by decide +kernel
theorem dX7_type_43 : decode cX7_type 43 = .ok (.iconst 1, 1) := by decide +kernel
theorem dX7_type_44 : decode cX7_type 44 = .ok (.iadd, 1) := by decide +kernel
theorem dX7_type_45 : decode cX7_type 45 = .ok (.putfield 304, 3) := by decide +kernel
theorem dX7_type_48 : decode cX7_type 48 = .ok (.aload_n 0, 1) := by decide +kernel
theorem dX7_type_49 : decode cX7_type 49 = .ok (.getfield 304, 3) := by decide +kernel
theorem dX7_type_52 : decode cX7_type 52 = .ok (.ireturn, 1) := by decide +kernel
theorem dX7_here_0 : decode cX7_here 0 = .ok (.aload_n 0, 1) := by decide +kernel
theorem dX7_here_1 : decode cX7_here 1 = .ok (.getfield 307, 3) := by decide +kernel
theorem dX7_here_4 : decode cX7_here 4 = .ok (.aload_n 0, 1) := by decide +kernel
theorem dX7_here_5 : decode cX7_here 5 = .ok (.getfield 304, 3) := by decide +kernel
theorem dX7_here_8 : decode cX7_here 8 = .ok (.if_icmp .ge 30, 3) := by decide +kernel
theorem dX7_here_11 : decode cX7_here 11 = .ok (.aload_n 0, 1) := by decide +kernel
theorem dX7_here_12 : decode cX7_here 12 = .ok (.getfield 26, 3) := by decide +kernel
theorem dX7_here_15 : decode cX7_here 15 = .ok (.aload_n 0, 1) := by decide +kernel
theorem dX7_here_16 : decode cX7_here 16 = .ok (.getfield 307, 3) := by decide +kernel
theorem dX7_here_19 : decode cX7_here 19 = .ok (.iaload, 1) := by decide +kernel
theorem dX7_here_20 : decode cX7_here 20 = .ok (.bipush 32, 2) := by decide +kernel
theorem dX7_here_22 : decode cX7_here 22 = .ok (.if_icmp .ne 16, 3) := by decide +kernel
theorem dX7_here_25 : decode cX7_here 25 = .ok (.aload_n 0, 1) := by decide +kernel
theorem dX7_here_26 : decode cX7_here 26 = .ok (.dup, 1) := by decide +kernel
theorem dX7_here_27 : decode cX7_here 27 = .ok (.getfield 307, 3) := by decide +kernel
theorem dX7_here_30 : decode cX7_here 30 = .ok (.iconst 1, 1) := by decide +kernel
theorem dX7_here_31 : decode cX7_here 31 = .ok (.iadd, 1) := by decide +kernel
theorem dX7_here_32 : decode cX7_here 32 = .ok (.putfield 307, 3) := by decide +kernel
theorem dX7_here_35 : decode cX7_here 35 = .ok (.goto (-35), 3) := by decide +kernel
theorem dX7_here_38 : decode cX7_here 38 = .ok (.aload_n 0, 1) := by decide +kernel
theorem dX7_here_39 : decode cX7_here 39 = .ok (.getfield 307, 3) := by decide +kernel
theorem dX7_here_42 : decode cX7_here 42 = .ok (.aload_n 0, 1) := by decide +kernel
theorem dX7_here_43 : decode cX7_here 43 = .ok (.getfield 304, 3) := by decide +kernel
theorem dX7_here_46 : decode cX7_here 46 = .ok (.if_icmp .ge 15, 3) := by decide +kernel
theorem dX7_here_49 : decode cX7_here 49 = .ok (.aload_n 0, 1) := by decide +kernel
theorem dX7_here_50 : decode cX7_here 50 = .ok (.getfield 26, 3) := by decide +kernel
theorem dX7_here_53 : decode cX7_here 53 = .ok (.aload_n 0, 1) := by decide +kernel
theorem dX7_here_54 : decode cX7_here 54 = .ok (.getfield 307, 3) := by decide +kernel
theorem dX7_here_57 : decode cX7_here 57 = .ok (.iaload, 1) := by decide +kernel
theorem dX7_here_58 : decode cX7_here 58 = .ok (.goto 4, 3) := by decide +kernel
theorem dX7_here_61 : decode cX7_here 61 = .ok (.iconst 0, 1) := by decide +kernel
theorem dX7_here_62 : decode cX7_here 62 = .ok (.ireturn, 1) := by decide +kernel
theorem dX7_figure_0 : decode cX7_figure 0 = .ok (.aload_n 0, 1) := by decide +kernel
theorem dX7_figure_1 : decode cX7_figure 1 = .ok (.invokevirtual 310, 3) := by decide +kernel
theorem dX7_figure_4 : decode cX7_figure 4 = .ok (.bipush 48, 2) := by decide +kernel
theorem dX7_figure_6 : decode cX7_figure 6 = .ok (.isub, 1) := by decide +kernel
theorem dX7_figure_7 : decode cX7_figure 7 = .ok (.istore_n 2, 1) := by decide +kernel
theorem dX7_figure_8 : decode cX7_figure 8 = .ok (.iload_n 2, 1) := by decide +kernel
theorem dX7_figure_9 : decode cX7_figure 9 = .ok (.i2l, 1) := by decide +kernel
theorem dX7_figure_10 : decode cX7_figure 10 = .ok (.lconst 0, 1) := by decide +kernel
theorem dX7_figure_11 : decode cX7_figure 11 = .ok (.iload_n 1, 1) := by decide +kernel
theorem dX7_figure_12 : decode cX7_figure 12 = .ok (.i2l, 1) := by decide +kernel
theorem dX7_figure_13 : decode cX7_figure 13 = .ok (.invokestatic 79, 3) := by decide +kernel
theorem dX7_figure_16 : decode cX7_figure 16 = .ok (.ifCond .ne 6, 3) := by decide +kernel
theorem dX7_figure_19 : decode cX7_figure 19 = .ok (.bipush (-4), 2) := by decide +kernel
theorem dX7_figure_21 : decode cX7_figure 21 = .ok (.ireturn, 1) := by decide +kernel
theorem dX7_figure_22 : decode cX7_figure 22 = .ok (.aload_n 0, 1) := by decide +kernel
theorem dX7_figure_23 : decode cX7_figure 23 = .ok (.dup, 1) := by decide +kernel
theorem dX7_figure_24 : decode cX7_figure 24 = .ok (.getfield 307, 3) := by decide +kernel
theorem dX7_figure_27 : decode cX7_figure 27 = .ok (.iconst 1, 1) := by decide +kernel
theorem dX7_figure_28 : decode cX7_figure 28 = .ok (.iadd, 1) := by decide +kernel
theorem dX7_figure_29 : decode cX7_figure 29 = .ok (.putfield 307, 3) := by decide +kernel
theorem dX7_figure_32 : decode cX7_figure 32 = .ok (.iload_n 2, 1) := by decide +kernel
theorem dX7_figure_33 : decode cX7_figure 33 = .ok (.ireturn, 1) := by decide +kernel
theorem dX7_readsJoint_0 : decode cX7_readsJoint 0 = .ok (.aload_n 0, 1) := by decide +kernel
theorem dX7_readsJoint_1 : decode cX7_readsJoint 1 = .ok (.getfield 7, 3) := by decide +kernel
theorem dX7_readsJoint_4 : decode cX7_readsJoint 4 = .ok (.iconst 0, 1) := by decide +kernel
theorem dX7_readsJoint_5 : decode cX7_readsJoint 5 = .ok (.iaload, 1) := by decide +kernel
theorem dX7_readsJoint_6 : decode cX7_readsJoint 6 = .ok (.bipush 6, 2) := by decide +kernel
theorem dX7_readsJoint_8 : decode cX7_readsJoint 8 = .ok (.if_icmp .ne 10, 3) := by decide +kernel
theorem dX7_readsJoint_11 : decode cX7_readsJoint 11 = .ok (.aload_n 0, 1) := by decide +kernel
theorem dX7_readsJoint_12 : decode cX7_readsJoint 12 = .ok (.invokevirtual 310, 3) := by decide +kernel
theorem dX7_readsJoint_15 : decode cX7_readsJoint 15 = .ok (.pop, 1) := by decide +kernel
theorem dX7_readsJoint_16 : decode cX7_readsJoint 16 = .ok (.iconst 0, 1) := by decide +kernel
theorem dX7_readsJoint_17 : decode cX7_readsJoint 17 = .ok (.ireturn, 1) := by decide +kernel
theorem dX7_readsJoint_18 : decode cX7_readsJoint 18 = .ok (.aload_n 0, 1) := by decide +kernel
theorem dX7_readsJoint_19 : decode cX7_readsJoint 19 = .ok (.iconst 5, 1) := by decide +kernel
theorem dX7_readsJoint_20 : decode cX7_readsJoint 20 = .ok (.invokevirtual 313, 3) := by decide +kernel
theorem dX7_readsJoint_23 : decode cX7_readsJoint 23 = .ok (.istore_n 1, 1) := by decide +kernel
theorem dX7_readsJoint_24 : decode cX7_readsJoint 24 = .ok (.iload_n 1, 1) := by decide +kernel
theorem dX7_readsJoint_25 : decode cX7_readsJoint 25 = .ok (.ifCond .ge 7, 3) := by decide +kernel
theorem dX7_readsJoint_28 : decode cX7_readsJoint 28 = .ok (.iconst 0, 1) := by decide +kernel
theorem dX7_readsJoint_29 : decode cX7_readsJoint 29 = .ok (.goto 10, 3) := by decide +kernel
theorem dX7_readsJoint_32 : decode cX7_readsJoint 32 = .ok (.aload_n 0, 1) := by decide +kernel
theorem dX7_readsJoint_33 : decode cX7_readsJoint 33 = .ok (.invokevirtual 310, 3) := by decide +kernel
theorem dX7_readsJoint_36 : decode cX7_readsJoint 36 = .ok (.bipush 48, 2) := by decide +kernel
theorem dX7_readsJoint_38 : decode cX7_readsJoint 38 = .ok (.isub, 1) := by decide +kernel
theorem dX7_readsJoint_39 : decode cX7_readsJoint 39 = .ok (.istore_n 2, 1) := by decide +kernel
theorem dX7_readsJoint_40 : decode cX7_readsJoint 40 = .ok (.iload_n 1, 1) := by decide +kernel
theorem dX7_readsJoint_41 : decode cX7_readsJoint 41 = .ok (.ifCond .lt 24, 3) := by decide +kernel
theorem dX7_readsJoint_44 : decode cX7_readsJoint 44 = .ok (.iload_n 2, 1) := by decide +kernel
theorem dX7_readsJoint_45 : decode cX7_readsJoint 45 = .ok (.i2l, 1) := by decide +kernel
theorem dX7_readsJoint_46 : decode cX7_readsJoint 46 = .ok (.lconst 0, 1) := by decide +kernel
theorem dX7_readsJoint_47 : decode cX7_readsJoint 47 = .ok (.ldc2_w 115, 3) := by decide +kernel
theorem dX7_readsJoint_50 : decode cX7_readsJoint 50 = .ok (.invokestatic 79, 3) := by decide +kernel
theorem dX7_readsJoint_53 : decode cX7_readsJoint 53 = .ok (.ifCond .eq 12, 3) := by decide +kernel
theorem dX7_readsJoint_56 : decode cX7_readsJoint 56 = .ok (.aload_n 0, 1) := by decide +kernel
theorem dX7_readsJoint_57 : decode cX7_readsJoint 57 = .ok (.iload_n 1, 1) := by decide +kernel
theorem dX7_readsJoint_58 : decode cX7_readsJoint 58 = .ok (.iload_n 2, 1) := by decide +kernel
theorem dX7_readsJoint_59 : decode cX7_readsJoint 59 = .ok (.invokevirtual 121, 3) := by decide +kernel
theorem dX7_readsJoint_62 : decode cX7_readsJoint 62 = .ok (.ifCond .lt 5, 3) := by decide +kernel
theorem dX7_readsJoint_65 : decode cX7_readsJoint 65 = .ok (.iconst 0, 1) := by decide +kernel
theorem dX7_readsJoint_66 : decode cX7_readsJoint 66 = .ok (.ireturn, 1) := by decide +kernel
theorem dX7_readsJoint_67 : decode cX7_readsJoint 67 = .ok (.aload_n 0, 1) := by decide +kernel
theorem dX7_readsJoint_68 : decode cX7_readsJoint 68 = .ok (.dup, 1) := by decide +kernel
theorem dX7_readsJoint_69 : decode cX7_readsJoint 69 = .ok (.getfield 307, 3) := by decide +kernel
theorem dX7_readsJoint_72 : decode cX7_readsJoint 72 = .ok (.iconst 1, 1) := by decide +kernel
theorem dX7_readsJoint_73 : decode cX7_readsJoint 73 = .ok (.iadd, 1) := by decide +kernel
theorem dX7_readsJoint_74 : decode cX7_readsJoint 74 = .ok (.putfield 307, 3) := by decide +kernel
theorem dX7_readsJoint_77 : decode cX7_readsJoint 77 = .ok (.aload_n 0, 1) := by decide +kernel
theorem dX7_readsJoint_78 : decode cX7_readsJoint 78 = .ok (.iload_n 1, 1) := by decide +kernel
theorem dX7_readsJoint_79 : decode cX7_readsJoint 79 = .ok (.iload_n 2, 1) := by decide +kernel
theorem dX7_readsJoint_80 : decode cX7_readsJoint 80 = .ok (.invokevirtual 161, 3) := by decide +kernel
theorem dX7_readsJoint_83 : decode cX7_readsJoint 83 = .ok (.ifCond .lt 7, 3) := by decide +kernel
theorem dX7_readsJoint_86 : decode cX7_readsJoint 86 = .ok (.iconst 1, 1) := by decide +kernel
theorem dX7_readsJoint_87 : decode cX7_readsJoint 87 = .ok (.goto 4, 3) := by decide +kernel
theorem dX7_readsJoint_90 : decode cX7_readsJoint 90 = .ok (.iconst 0, 1) := by decide +kernel
theorem dX7_readsJoint_91 : decode cX7_readsJoint 91 = .ok (.ireturn, 1) := by decide +kernel
theorem dX7_readsBar_0 : decode cX7_readsBar 0 = .ok (.aload_n 0, 1) := by decide +kernel
theorem dX7_readsBar_1 : decode cX7_readsBar 1 = .ok (.getfield 7, 3) := by decide +kernel
theorem dX7_readsBar_4 : decode cX7_readsBar 4 = .ok (.iconst 1, 1) := by decide +kernel
theorem dX7_readsBar_5 : decode cX7_readsBar 5 = .ok (.iaload, 1) := by decide +kernel
theorem dX7_readsBar_6 : decode cX7_readsBar 6 = .ok (.bipush 9, 2) := by decide +kernel
theorem dX7_readsBar_8 : decode cX7_readsBar 8 = .ok (.if_icmp .ne 10, 3) := by decide +kernel
theorem dX7_readsBar_11 : decode cX7_readsBar 11 = .ok (.aload_n 0, 1) := by decide +kernel
theorem dX7_readsBar_12 : decode cX7_readsBar 12 = .ok (.invokevirtual 310, 3) := by decide +kernel
theorem dX7_readsBar_15 : decode cX7_readsBar 15 = .ok (.pop, 1) := by decide +kernel
theorem dX7_readsBar_16 : decode cX7_readsBar 16 = .ok (.iconst 0, 1) := by decide +kernel
theorem dX7_readsBar_17 : decode cX7_readsBar 17 = .ok (.ireturn, 1) := by decide +kernel
theorem dX7_readsBar_18 : decode cX7_readsBar 18 = .ok (.aload_n 0, 1) := by decide +kernel
theorem dX7_readsBar_19 : decode cX7_readsBar 19 = .ok (.aload_n 0, 1) := by decide +kernel
theorem dX7_readsBar_20 : decode cX7_readsBar 20 = .ok (.getfield 7, 3) := by decide +kernel
theorem dX7_readsBar_23 : decode cX7_readsBar 23 = .ok (.iconst 0, 1) := by decide +kernel
theorem dX7_readsBar_24 : decode cX7_readsBar 24 = .ok (.iaload, 1) := by decide +kernel
theorem dX7_readsBar_25 : decode cX7_readsBar 25 = .ok (.iconst 1, 1) := by decide +kernel
theorem dX7_readsBar_26 : decode cX7_readsBar 26 = .ok (.isub, 1) := by decide +kernel
theorem dX7_readsBar_27 : decode cX7_readsBar 27 = .ok (.invokevirtual 313, 3) := by decide +kernel
theorem dX7_readsBar_30 : decode cX7_readsBar 30 = .ok (.istore_n 1, 1) := by decide +kernel
theorem dX7_readsBar_31 : decode cX7_readsBar 31 = .ok (.iload_n 1, 1) := by decide +kernel
theorem dX7_readsBar_32 : decode cX7_readsBar 32 = .ok (.ifCond .ge 7, 3) := by decide +kernel
theorem dX7_readsBar_35 : decode cX7_readsBar 35 = .ok (.iconst 0, 1) := by decide +kernel
theorem dX7_readsBar_36 : decode cX7_readsBar 36 = .ok (.goto 10, 3) := by decide +kernel
theorem dX7_readsBar_39 : decode cX7_readsBar 39 = .ok (.aload_n 0, 1) := by decide +kernel
theorem dX7_readsBar_40 : decode cX7_readsBar 40 = .ok (.invokevirtual 310, 3) := by decide +kernel
theorem dX7_readsBar_43 : decode cX7_readsBar 43 = .ok (.bipush 48, 2) := by decide +kernel
theorem dX7_readsBar_45 : decode cX7_readsBar 45 = .ok (.isub, 1) := by decide +kernel
theorem dX7_readsBar_46 : decode cX7_readsBar 46 = .ok (.istore_n 2, 1) := by decide +kernel
theorem dX7_readsBar_47 : decode cX7_readsBar 47 = .ok (.iload_n 1, 1) := by decide +kernel
theorem dX7_readsBar_48 : decode cX7_readsBar 48 = .ok (.ifCond .lt 12, 3) := by decide +kernel
theorem dX7_readsBar_51 : decode cX7_readsBar 51 = .ok (.aload_n 0, 1) := by decide +kernel
theorem dX7_readsBar_52 : decode cX7_readsBar 52 = .ok (.iload_n 1, 1) := by decide +kernel
theorem dX7_readsBar_53 : decode cX7_readsBar 53 = .ok (.iload_n 2, 1) := by decide +kernel
theorem dX7_readsBar_54 : decode cX7_readsBar 54 = .ok (.invokevirtual 164, 3) := by decide +kernel
theorem dX7_readsBar_57 : decode cX7_readsBar 57 = .ok (.ifCond .ge 5, 3) := by decide +kernel
theorem dX7_readsBar_60 : decode cX7_readsBar 60 = .ok (.iconst 0, 1) := by decide +kernel
theorem dX7_readsBar_61 : decode cX7_readsBar 61 = .ok (.ireturn, 1) := by decide +kernel
theorem dX7_readsBar_62 : decode cX7_readsBar 62 = .ok (.aload_n 0, 1) := by decide +kernel
theorem dX7_readsBar_63 : decode cX7_readsBar 63 = .ok (.dup, 1) := by decide +kernel
theorem dX7_readsBar_64 : decode cX7_readsBar 64 = .ok (.getfield 307, 3) := by decide +kernel
theorem dX7_readsBar_67 : decode cX7_readsBar 67 = .ok (.iconst 1, 1) := by decide +kernel
theorem dX7_readsBar_68 : decode cX7_readsBar 68 = .ok (.iadd, 1) := by decide +kernel
theorem dX7_readsBar_69 : decode cX7_readsBar 69 = .ok (.putfield 307, 3) := by decide +kernel
theorem dX7_readsBar_72 : decode cX7_readsBar 72 = .ok (.iconst 1, 1) := by decide +kernel
theorem dX7_readsBar_73 : decode cX7_readsBar 73 = .ok (.ireturn, 1) := by decide +kernel
theorem dX7_readsAll_0 : decode cX7_readsAll 0 = .ok (.iconst 1, 1) := by decide +kernel
theorem dX7_readsAll_1 : decode cX7_readsAll 1 = .ok (.istore_n 1, 1) := by decide +kernel
theorem dX7_readsAll_2 : decode cX7_readsAll 2 = .ok (.iload_n 1, 1) := by decide +kernel
theorem dX7_readsAll_3 : decode cX7_readsAll 3 = .ok (.ifCond .eq 48, 3) := by decide +kernel
theorem dX7_readsAll_6 : decode cX7_readsAll 6 = .ok (.aload_n 0, 1) := by decide +kernel
theorem dX7_readsAll_7 : decode cX7_readsAll 7 = .ok (.invokevirtual 316, 3) := by decide +kernel
theorem dX7_readsAll_10 : decode cX7_readsAll 10 = .ok (.ifCond .ne 5, 3) := by decide +kernel
theorem dX7_readsAll_13 : decode cX7_readsAll 13 = .ok (.iconst 0, 1) := by decide +kernel
theorem dX7_readsAll_14 : decode cX7_readsAll 14 = .ok (.ireturn, 1) := by decide +kernel
theorem dX7_readsAll_15 : decode cX7_readsAll 15 = .ok (.aload_n 0, 1) := by decide +kernel
theorem dX7_readsAll_16 : decode cX7_readsAll 16 = .ok (.invokevirtual 310, 3) := by decide +kernel
theorem dX7_readsAll_19 : decode cX7_readsAll 19 = .ok (.bipush 44, 2) := by decide +kernel
theorem dX7_readsAll_21 : decode cX7_readsAll 21 = .ok (.if_icmp .ne 7, 3) := by decide +kernel
theorem dX7_readsAll_24 : decode cX7_readsAll 24 = .ok (.iconst 1, 1) := by decide +kernel
theorem dX7_readsAll_25 : decode cX7_readsAll 25 = .ok (.goto 4, 3) := by decide +kernel
theorem dX7_readsAll_28 : decode cX7_readsAll 28 = .ok (.iconst 0, 1) := by decide +kernel
theorem dX7_readsAll_29 : decode cX7_readsAll 29 = .ok (.istore_n 1, 1) := by decide +kernel
theorem dX7_readsAll_30 : decode cX7_readsAll 30 = .ok (.aload_n 0, 1) := by decide +kernel
theorem dX7_readsAll_31 : decode cX7_readsAll 31 = .ok (.dup, 1) := by decide +kernel
theorem dX7_readsAll_32 : decode cX7_readsAll 32 = .ok (.getfield 307, 3) := by decide +kernel
theorem dX7_readsAll_35 : decode cX7_readsAll 35 = .ok (.iload_n 1, 1) := by decide +kernel
theorem dX7_readsAll_36 : decode cX7_readsAll 36 = .ok (.ifCond .eq 7, 3) := by decide +kernel
theorem dX7_readsAll_39 : decode cX7_readsAll 39 = .ok (.iconst 1, 1) := by decide +kernel
theorem dX7_readsAll_40 : decode cX7_readsAll 40 = .ok (.goto 4, 3) := by decide +kernel
theorem dX7_readsAll_43 : decode cX7_readsAll 43 = .ok (.iconst 0, 1) := by decide +kernel
theorem dX7_readsAll_44 : decode cX7_readsAll 44 = .ok (.iadd, 1) := by decide +kernel
theorem dX7_readsAll_45 : decode cX7_readsAll 45 = .ok (.putfield 307, 3) := by decide +kernel
theorem dX7_readsAll_48 : decode cX7_readsAll 48 = .ok (.goto (-46), 3) := by decide +kernel
theorem dX7_readsAll_51 : decode cX7_readsAll 51 = .ok (.aload_n 0, 1) := by decide +kernel
theorem dX7_readsAll_52 : decode cX7_readsAll 52 = .ok (.invokevirtual 310, 3) := by decide +kernel
theorem dX7_readsAll_55 : decode cX7_readsAll 55 = .ok (.bipush 59, 2) := by decide +kernel
theorem dX7_readsAll_57 : decode cX7_readsAll 57 = .ok (.if_icmp .ne 7, 3) := by decide +kernel
theorem dX7_readsAll_60 : decode cX7_readsAll 60 = .ok (.iconst 1, 1) := by decide +kernel
theorem dX7_readsAll_61 : decode cX7_readsAll 61 = .ok (.goto 4, 3) := by decide +kernel
theorem dX7_readsAll_64 : decode cX7_readsAll 64 = .ok (.iconst 0, 1) := by decide +kernel
theorem dX7_readsAll_65 : decode cX7_readsAll 65 = .ok (.istore_n 1, 1) := by decide +kernel
theorem dX7_readsAll_66 : decode cX7_readsAll 66 = .ok (.iload_n 1, 1) := by decide +kernel
theorem dX7_readsAll_67 : decode cX7_readsAll 67 = .ok (.ifCond .eq 40, 3) := by decide +kernel
theorem dX7_readsAll_70 : decode cX7_readsAll 70 = .ok (.aload_n 0, 1) := by decide +kernel
theorem dX7_readsAll_71 : decode cX7_readsAll 71 = .ok (.dup, 1) := by decide +kernel
theorem dX7_readsAll_72 : decode cX7_readsAll 72 = .ok (.getfield 307, 3) := by decide +kernel
theorem dX7_readsAll_75 : decode cX7_readsAll 75 = .ok (.iconst 1, 1) := by decide +kernel
theorem dX7_readsAll_76 : decode cX7_readsAll 76 = .ok (.iadd, 1) := by decide +kernel
theorem dX7_readsAll_77 : decode cX7_readsAll 77 = .ok (.putfield 307, 3) := by decide +kernel
theorem dX7_readsAll_80 : decode cX7_readsAll 80 = .ok (.aload_n 0, 1) := by decide +kernel
theorem dX7_readsAll_81 : decode cX7_readsAll 81 = .ok (.invokevirtual 319, 3) := by decide +kernel
theorem dX7_readsAll_84 : decode cX7_readsAll 84 = .ok (.ifCond .ne 5, 3) := by decide +kernel
theorem dX7_readsAll_87 : decode cX7_readsAll 87 = .ok (.iconst 0, 1) := by decide +kernel
theorem dX7_readsAll_88 : decode cX7_readsAll 88 = .ok (.ireturn, 1) := by decide +kernel
theorem dX7_readsAll_89 : decode cX7_readsAll 89 = .ok (.aload_n 0, 1) := by decide +kernel
theorem dX7_readsAll_90 : decode cX7_readsAll 90 = .ok (.invokevirtual 310, 3) := by decide +kernel
theorem dX7_readsAll_93 : decode cX7_readsAll 93 = .ok (.bipush 44, 2) := by decide +kernel
theorem dX7_readsAll_95 : decode cX7_readsAll 95 = .ok (.if_icmp .ne 7, 3) := by decide +kernel
theorem dX7_readsAll_98 : decode cX7_readsAll 98 = .ok (.iconst 1, 1) := by decide +kernel
theorem dX7_readsAll_99 : decode cX7_readsAll 99 = .ok (.goto 4, 3) := by decide +kernel
theorem dX7_readsAll_102 : decode cX7_readsAll 102 = .ok (.iconst 0, 1) := by decide +kernel
theorem dX7_readsAll_103 : decode cX7_readsAll 103 = .ok (.istore_n 1, 1) := by decide +kernel
theorem dX7_readsAll_104 : decode cX7_readsAll 104 = .ok (.goto (-38), 3) := by decide +kernel
theorem dX7_readsAll_107 : decode cX7_readsAll 107 = .ok (.aload_n 0, 1) := by decide +kernel
theorem dX7_readsAll_108 : decode cX7_readsAll 108 = .ok (.invokevirtual 310, 3) := by decide +kernel
theorem dX7_readsAll_111 : decode cX7_readsAll 111 = .ok (.ifCond .ne 7, 3) := by decide +kernel
theorem dX7_readsAll_114 : decode cX7_readsAll 114 = .ok (.iconst 1, 1) := by decide +kernel
theorem dX7_readsAll_115 : decode cX7_readsAll 115 = .ok (.goto 4, 3) := by decide +kernel
theorem dX7_readsAll_118 : decode cX7_readsAll 118 = .ok (.iconst 0, 1) := by decide +kernel
theorem dX7_readsAll_119 : decode cX7_readsAll 119 = .ok (.ireturn, 1) := by decide +kernel
theorem dX7_read_0 : decode cX7_read 0 = .ok (.iconst 0, 1) := by decide +kernel
theorem dX7_read_1 : decode cX7_read 1 = .ok (.istore_n 1, 1) := by decide +kernel
theorem dX7_read_2 : decode cX7_read 2 = .ok (.iload_n 1, 1) := by decide +kernel
theorem dX7_read_3 : decode cX7_read 3 = .ok (.bipush 42, 2) := by decide +kernel
theorem dX7_read_5 : decode cX7_read 5 = .ok (.if_icmp .ge 21, 3) := by decide +kernel
theorem dX7_read_8 : decode cX7_read 8 = .ok (.aload_n 0, 1) := by decide +kernel
theorem dX7_read_9 : decode cX7_read 9 = .ok (.getfield 76, 3) := by decide +kernel
theorem dX7_read_12 : decode cX7_read 12 = .ok (.iload_n 1, 1) := by decide +kernel
theorem dX7_read_13 : decode cX7_read 13 = .ok (.aload_n 0, 1) := by decide +kernel
theorem dX7_read_14 : decode cX7_read 14 = .ok (.getfield 7, 3) := by decide +kernel
theorem dX7_read_17 : decode cX7_read 17 = .ok (.iload_n 1, 1) := by decide +kernel
theorem dX7_read_18 : decode cX7_read 18 = .ok (.iaload, 1) := by decide +kernel
theorem dX7_read_19 : decode cX7_read 19 = .ok (.iastore, 1) := by decide +kernel
theorem dX7_read_20 : decode cX7_read 20 = .ok (.iinc 1 1, 3) := by decide +kernel
theorem dX7_read_23 : decode cX7_read 23 = .ok (.goto (-21), 3) := by decide +kernel
theorem dX7_read_26 : decode cX7_read 26 = .ok (.iconst 0, 1) := by decide +kernel
theorem dX7_read_27 : decode cX7_read 27 = .ok (.istore_n 1, 1) := by decide +kernel
theorem dX7_read_28 : decode cX7_read 28 = .ok (.iload_n 1, 1) := by decide +kernel
theorem dX7_read_29 : decode cX7_read 29 = .ok (.bipush 33, 2) := by decide +kernel
theorem dX7_read_31 : decode cX7_read 31 = .ok (.if_icmp .ge 30, 3) := by decide +kernel
theorem dX7_read_34 : decode cX7_read 34 = .ok (.aload_n 0, 1) := by decide +kernel
theorem dX7_read_35 : decode cX7_read 35 = .ok (.getfield 7, 3) := by decide +kernel
theorem dX7_read_38 : decode cX7_read 38 = .ok (.iload_n 1, 1) := by decide +kernel
theorem dX7_read_39 : decode cX7_read 39 = .ok (.iload_n 1, 1) := by decide +kernel
theorem dX7_read_40 : decode cX7_read 40 = .ok (.iconst 2, 1) := by decide +kernel
theorem dX7_read_41 : decode cX7_read 41 = .ok (.if_icmp .ne 12, 3) := by decide +kernel
theorem dX7_read_44 : decode cX7_read 44 = .ok (.aload_n 0, 1) := by decide +kernel
theorem dX7_read_45 : decode cX7_read 45 = .ok (.getfield 7, 3) := by decide +kernel
theorem dX7_read_48 : decode cX7_read 48 = .ok (.iload_n 1, 1) := by decide +kernel
theorem dX7_read_49 : decode cX7_read 49 = .ok (.iaload, 1) := by decide +kernel
theorem dX7_read_50 : decode cX7_read 50 = .ok (.goto 4, 3) := by decide +kernel
theorem dX7_read_53 : decode cX7_read 53 = .ok (.iconst 0, 1) := by decide +kernel
theorem dX7_read_54 : decode cX7_read 54 = .ok (.iastore, 1) := by decide +kernel
theorem dX7_read_55 : decode cX7_read 55 = .ok (.iinc 1 1, 3) := by decide +kernel
theorem dX7_read_58 : decode cX7_read 58 = .ok (.goto (-30), 3) := by decide +kernel
theorem dX7_read_61 : decode cX7_read 61 = .ok (.aload_n 0, 1) := by decide +kernel
theorem dX7_read_62 : decode cX7_read 62 = .ok (.iconst 0, 1) := by decide +kernel
theorem dX7_read_63 : decode cX7_read 63 = .ok (.putfield 307, 3) := by decide +kernel
theorem dX7_read_66 : decode cX7_read 66 = .ok (.aload_n 0, 1) := by decide +kernel
theorem dX7_read_67 : decode cX7_read 67 = .ok (.invokevirtual 322, 3) := by decide +kernel
theorem dX7_read_70 : decode cX7_read 70 = .ok (.istore_n 1, 1) := by decide +kernel
theorem dX7_read_71 : decode cX7_read 71 = .ok (.aload_n 0, 1) := by decide +kernel
theorem dX7_read_72 : decode cX7_read 72 = .ok (.iconst 0, 1) := by decide +kernel
theorem dX7_read_73 : decode cX7_read 73 = .ok (.putfield 304, 3) := by decide +kernel
theorem dX7_read_76 : decode cX7_read 76 = .ok (.iconst 0, 1) := by decide +kernel
theorem dX7_read_77 : decode cX7_read 77 = .ok (.istore_n 2, 1) := by decide +kernel
theorem dX7_read_78 : decode cX7_read 78 = .ok (.iload_n 2, 1) := by decide +kernel
theorem dX7_read_79 : decode cX7_read 79 = .ok (.bipush 42, 2) := by decide +kernel
theorem dX7_read_81 : decode cX7_read 81 = .ok (.if_icmp .ge 33, 3) := by decide +kernel
theorem dX7_read_84 : decode cX7_read 84 = .ok (.aload_n 0, 1) := by decide +kernel
theorem dX7_read_85 : decode cX7_read 85 = .ok (.getfield 42, 3) := by decide +kernel
theorem dX7_read_88 : decode cX7_read 88 = .ok (.iload_n 2, 1) := by decide +kernel
theorem dX7_read_89 : decode cX7_read 89 = .ok (.aload_n 0, 1) := by decide +kernel
theorem dX7_read_90 : decode cX7_read 90 = .ok (.getfield 7, 3) := by decide +kernel
theorem dX7_read_93 : decode cX7_read 93 = .ok (.iload_n 2, 1) := by decide +kernel
theorem dX7_read_94 : decode cX7_read 94 = .ok (.iaload, 1) := by decide +kernel
theorem dX7_read_95 : decode cX7_read 95 = .ok (.iastore, 1) := by decide +kernel
theorem dX7_read_96 : decode cX7_read 96 = .ok (.aload_n 0, 1) := by decide +kernel
theorem dX7_read_97 : decode cX7_read 97 = .ok (.getfield 7, 3) := by decide +kernel
theorem dX7_read_100 : decode cX7_read 100 = .ok (.iload_n 2, 1) := by decide +kernel
theorem dX7_read_101 : decode cX7_read 101 = .ok (.aload_n 0, 1) := by decide +kernel
theorem dX7_read_102 : decode cX7_read 102 = .ok (.getfield 76, 3) := by decide +kernel
theorem dX7_read_105 : decode cX7_read 105 = .ok (.iload_n 2, 1) := by decide +kernel
theorem dX7_read_106 : decode cX7_read 106 = .ok (.iaload, 1) := by decide +kernel
theorem dX7_read_107 : decode cX7_read 107 = .ok (.iastore, 1) := by decide +kernel
theorem dX7_read_108 : decode cX7_read 108 = .ok (.iinc 2 1, 3) := by decide +kernel
theorem dX7_read_111 : decode cX7_read 111 = .ok (.goto (-33), 3) := by decide +kernel
theorem dX7_read_114 : decode cX7_read 114 = .ok (.iload_n 1, 1) := by decide +kernel
theorem dX7_read_115 : decode cX7_read 115 = .ok (.ifCond .ne 11, 3) := by decide +kernel
theorem dX7_read_118 : decode cX7_read 118 = .ok (.bipush (-20), 2) := by decide +kernel
theorem dX7_read_120 : decode cX7_read 120 = .ok (.aload_n 0, 1) := by decide +kernel
theorem dX7_read_121 : decode cX7_read 121 = .ok (.getfield 307, 3) := by decide +kernel
theorem dX7_read_124 : decode cX7_read 124 = .ok (.isub, 1) := by decide +kernel
theorem dX7_read_125 : decode cX7_read 125 = .ok (.ireturn, 1) := by decide +kernel
theorem dX7_read_126 : decode cX7_read 126 = .ok (.aload_n 0, 1) := by decide +kernel
theorem dX7_read_127 : decode cX7_read 127 = .ok (.invokevirtual 183, 3) := by decide +kernel
theorem dX7_read_130 : decode cX7_read 130 = .ok (.aload_n 0, 1) := by decide +kernel
theorem dX7_read_131 : decode cX7_read 131 = .ok (.invokevirtual 139, 3) := by decide +kernel
theorem dX7_read_134 : decode cX7_read 134 = .ok (.aload_n 0, 1) := by decide +kernel
theorem dX7_read_135 : decode cX7_read 135 = .ok (.getfield 7, 3) := by decide +kernel
theorem dX7_read_138 : decode cX7_read 138 = .ok (.iconst 1, 1) := by decide +kernel
theorem dX7_read_139 : decode cX7_read 139 = .ok (.iaload, 1) := by decide +kernel
theorem dX7_read_140 : decode cX7_read 140 = .ok (.ireturn, 1) := by decide +kernel
theorem dX7_turns_0 : decode cX7_turns 0 = .ok (.aload_n 0, 1) := by decide +kernel
theorem dX7_turns_1 : decode cX7_turns 1 = .ok (.invokevirtual 183, 3) := by decide +kernel
theorem dX7_turns_4 : decode cX7_turns 4 = .ok (.aload_n 0, 1) := by decide +kernel
theorem dX7_turns_5 : decode cX7_turns 5 = .ok (.getfield 7, 3) := by decide +kernel
theorem dX7_turns_8 : decode cX7_turns 8 = .ok (.iconst 2, 1) := by decide +kernel
theorem dX7_turns_9 : decode cX7_turns 9 = .ok (.aload_n 0, 1) := by decide +kernel
theorem dX7_turns_10 : decode cX7_turns 10 = .ok (.getfield 7, 3) := by decide +kernel
theorem dX7_turns_13 : decode cX7_turns 13 = .ok (.iconst 2, 1) := by decide +kernel
theorem dX7_turns_14 : decode cX7_turns 14 = .ok (.iaload, 1) := by decide +kernel
theorem dX7_turns_15 : decode cX7_turns 15 = .ok (.i2l, 1) := by decide +kernel
theorem dX7_turns_16 : decode cX7_turns 16 = .ok (.ldc2_w 325, 3) := by decide +kernel
theorem dX7_turns_19 : decode cX7_turns 19 = .ok (.lmul, 1) := by decide +kernel
theorem dX7_turns_20 : decode cX7_turns 20 = .ok (.ldc2_w 327, 3) := by decide +kernel
theorem dX7_turns_23 : decode cX7_turns 23 = .ok (.ladd, 1) := by decide +kernel
theorem dX7_turns_24 : decode cX7_turns 24 = .ok (.ldc2_w 329, 3) := by decide +kernel
theorem dX7_turns_27 : decode cX7_turns 27 = .ok (.land, 1) := by decide +kernel
theorem dX7_turns_28 : decode cX7_turns 28 = .ok (.l2i, 1) := by decide +kernel
theorem dX7_turns_29 : decode cX7_turns 29 = .ok (.iastore, 1) := by decide +kernel
theorem dX7_turns_30 : decode cX7_turns 30 = .ok (.aload_n 0, 1) := by decide +kernel
theorem dX7_turns_31 : decode cX7_turns 31 = .ok (.getfield 7, 3) := by decide +kernel
theorem dX7_turns_34 : decode cX7_turns 34 = .ok (.iconst 2, 1) := by decide +kernel
theorem dX7_turns_35 : decode cX7_turns 35 = .ok (.iaload, 1) := by decide +kernel
theorem dX7_turns_36 : decode cX7_turns 36 = .ok (.ldc_w 331, 3) := by decide +kernel
theorem dX7_turns_39 : decode cX7_turns 39 = .ok (.idiv, 1) := by decide +kernel
theorem dX7_turns_40 : decode cX7_turns 40 = .ok (.istore_n 1, 1) := by decide +kernel
theorem dX7_turns_41 : decode cX7_turns 41 = .ok (.iload_n 1, 1) := by decide +kernel
theorem dX7_turns_42 : decode cX7_turns 42 = .ok (.bipush 8, 2) := by decide +kernel
theorem dX7_turns_44 : decode cX7_turns 44 = .ok (.idiv, 1) := by decide +kernel
theorem dX7_turns_45 : decode cX7_turns 45 = .ok (.bipush 6, 2) := by decide +kernel
theorem dX7_turns_47 : decode cX7_turns 47 = .ok (.irem, 1) := by decide +kernel
theorem dX7_turns_48 : decode cX7_turns 48 = .ok (.istore_n 2, 1) := by decide +kernel
theorem dX7_turns_49 : decode cX7_turns 49 = .ok (.iload_n 1, 1) := by decide +kernel
theorem dX7_turns_50 : decode cX7_turns 50 = .ok (.bipush 64, 2) := by decide +kernel
theorem dX7_turns_52 : decode cX7_turns 52 = .ok (.idiv, 1) := by decide +kernel
theorem dX7_turns_53 : decode cX7_turns 53 = .ok (.bipush 6, 2) := by decide +kernel
theorem dX7_turns_55 : decode cX7_turns 55 = .ok (.irem, 1) := by decide +kernel
theorem dX7_turns_56 : decode cX7_turns 56 = .ok (.istore_n 3, 1) := by decide +kernel
theorem dX7_turns_57 : decode cX7_turns 57 = .ok (.iload_n 1, 1) := by decide +kernel
theorem dX7_turns_58 : decode cX7_turns 58 = .ok (.sipush 512, 3) := by decide +kernel
theorem dX7_turns_61 : decode cX7_turns 61 = .ok (.idiv, 1) := by decide +kernel
theorem dX7_turns_62 : decode cX7_turns 62 = .ok (.bipush 6, 2) := by decide +kernel
theorem dX7_turns_64 : decode cX7_turns 64 = .ok (.irem, 1) := by decide +kernel
theorem dX7_turns_65 : decode cX7_turns 65 = .ok (.istore 4, 2) := by decide +kernel
theorem dX7_turns_67 : decode cX7_turns 67 = .ok (.iload_n 1, 1) := by decide +kernel
theorem dX7_turns_68 : decode cX7_turns 68 = .ok (.bipush 8, 2) := by decide +kernel
theorem dX7_turns_70 : decode cX7_turns 70 = .ok (.irem, 1) := by decide +kernel
theorem dX7_turns_71 : decode cX7_turns 71 = .ok (.istore 5, 2) := by decide +kernel
theorem dX7_turns_73 : decode cX7_turns 73 = .ok (.iload 5, 2) := by decide +kernel
theorem dX7_turns_75 : decode cX7_turns 75 = .ok (.ifCond .ne 14, 3) := by decide +kernel
theorem dX7_turns_78 : decode cX7_turns 78 = .ok (.aload_n 0, 1) := by decide +kernel
theorem dX7_turns_79 : decode cX7_turns 79 = .ok (.iconst 0, 1) := by decide +kernel
theorem dX7_turns_80 : decode cX7_turns 80 = .ok (.iload_n 2, 1) := by decide +kernel
theorem dX7_turns_81 : decode cX7_turns 81 = .ok (.iload_n 3, 1) := by decide +kernel
theorem dX7_turns_82 : decode cX7_turns 82 = .ok (.iconst 0, 1) := by decide +kernel
theorem dX7_turns_83 : decode cX7_turns 83 = .ok (.invokevirtual 179, 3) := by decide +kernel
theorem dX7_turns_86 : decode cX7_turns 86 = .ok (.goto 69, 3) := by decide +kernel
theorem dX7_turns_89 : decode cX7_turns 89 = .ok (.iload 5, 2) := by decide +kernel
theorem dX7_turns_91 : decode cX7_turns 91 = .ok (.iconst 5, 1) := by decide +kernel
theorem dX7_turns_92 : decode cX7_turns 92 = .ok (.if_icmp .ge 14, 3) := by decide +kernel
theorem dX7_turns_95 : decode cX7_turns 95 = .ok (.aload_n 0, 1) := by decide +kernel
theorem dX7_turns_96 : decode cX7_turns 96 = .ok (.iconst 1, 1) := by decide +kernel
theorem dX7_turns_97 : decode cX7_turns 97 = .ok (.iload_n 2, 1) := by decide +kernel
theorem dX7_turns_98 : decode cX7_turns 98 = .ok (.iload_n 3, 1) := by decide +kernel
theorem dX7_turns_99 : decode cX7_turns 99 = .ok (.iconst 0, 1) := by decide +kernel
theorem dX7_turns_100 : decode cX7_turns 100 = .ok (.invokevirtual 179, 3) := by decide +kernel
theorem dX7_turns_103 : decode cX7_turns 103 = .ok (.goto 52, 3) := by decide +kernel
theorem dX7_turns_106 : decode cX7_turns 106 = .ok (.iload 5, 2) := by decide +kernel
theorem dX7_turns_108 : decode cX7_turns 108 = .ok (.iconst 5, 1) := by decide +kernel
theorem dX7_turns_109 : decode cX7_turns 109 = .ok (.if_icmp .ne 15, 3) := by decide +kernel
theorem dX7_turns_112 : decode cX7_turns 112 = .ok (.aload_n 0, 1) := by decide +kernel
theorem dX7_turns_113 : decode cX7_turns 113 = .ok (.iconst 2, 1) := by decide +kernel
theorem dX7_turns_114 : decode cX7_turns 114 = .ok (.iload_n 2, 1) := by decide +kernel
theorem dX7_turns_115 : decode cX7_turns 115 = .ok (.iload_n 3, 1) := by decide +kernel
theorem dX7_turns_116 : decode cX7_turns 116 = .ok (.iload 4, 2) := by decide +kernel
theorem dX7_turns_118 : decode cX7_turns 118 = .ok (.invokevirtual 179, 3) := by decide +kernel
theorem dX7_turns_121 : decode cX7_turns 121 = .ok (.goto 34, 3) := by decide +kernel
theorem dX7_turns_124 : decode cX7_turns 124 = .ok (.iload 5, 2) := by decide +kernel
theorem dX7_turns_126 : decode cX7_turns 126 = .ok (.bipush 6, 2) := by decide +kernel
theorem dX7_turns_128 : decode cX7_turns 128 = .ok (.if_icmp .ne 14, 3) := by decide +kernel
theorem dX7_turns_131 : decode cX7_turns 131 = .ok (.aload_n 0, 1) := by decide +kernel
theorem dX7_turns_132 : decode cX7_turns 132 = .ok (.iconst 3, 1) := by decide +kernel
theorem dX7_turns_133 : decode cX7_turns 133 = .ok (.iload_n 2, 1) := by decide +kernel
theorem dX7_turns_134 : decode cX7_turns 134 = .ok (.iconst 0, 1) := by decide +kernel
theorem dX7_turns_135 : decode cX7_turns 135 = .ok (.iconst 0, 1) := by decide +kernel
theorem dX7_turns_136 : decode cX7_turns 136 = .ok (.invokevirtual 179, 3) := by decide +kernel
theorem dX7_turns_139 : decode cX7_turns 139 = .ok (.goto 16, 3) := by decide +kernel
theorem dX7_turns_142 : decode cX7_turns 142 = .ok (.aload_n 0, 1) := by decide +kernel
theorem dX7_turns_143 : decode cX7_turns 143 = .ok (.iconst 4, 1) := by decide +kernel
theorem dX7_turns_144 : decode cX7_turns 144 = .ok (.iload_n 2, 1) := by decide +kernel
theorem dX7_turns_145 : decode cX7_turns 145 = .ok (.iload_n 3, 1) := by decide +kernel
theorem dX7_turns_146 : decode cX7_turns 146 = .ok (.iload 4, 2) := by decide +kernel
theorem dX7_turns_148 : decode cX7_turns 148 = .ok (.iadd, 1) := by decide +kernel
theorem dX7_turns_149 : decode cX7_turns 149 = .ok (.iconst 5, 1) := by decide +kernel
theorem dX7_turns_150 : decode cX7_turns 150 = .ok (.isub, 1) := by decide +kernel
theorem dX7_turns_151 : decode cX7_turns 151 = .ok (.iconst 0, 1) := by decide +kernel
theorem dX7_turns_152 : decode cX7_turns 152 = .ok (.invokevirtual 179, 3) := by decide +kernel
theorem dX7_turns_155 : decode cX7_turns 155 = .ok (.istore 6, 2) := by decide +kernel
theorem dX7_turns_157 : decode cX7_turns 157 = .ok (.aload_n 0, 1) := by decide +kernel
theorem dX7_turns_158 : decode cX7_turns 158 = .ok (.iload 6, 2) := by decide +kernel
theorem dX7_turns_160 : decode cX7_turns 160 = .ok (.putfield 213, 3) := by decide +kernel
theorem dX7_turns_163 : decode cX7_turns 163 = .ok (.return_, 1) := by decide +kernel
theorem dX7_drift_0 : decode cX7_drift 0 = .ok (.iload_n 1, 1) := by decide +kernel
theorem dX7_drift_1 : decode cX7_drift 1 = .ok (.i2l, 1) := by decide +kernel
theorem dX7_drift_2 : decode cX7_drift 2 = .ok (.lconst 1, 1) := by decide +kernel
theorem dX7_drift_3 : decode cX7_drift 3 = .ok (.ldc2_w 332, 3) := by decide +kernel
theorem dX7_drift_6 : decode cX7_drift 6 = .ok (.invokestatic 79, 3) := by decide +kernel
theorem dX7_drift_9 : decode cX7_drift 9 = .ok (.ifCond .ne 5, 3) := by decide +kernel
theorem dX7_drift_12 : decode cX7_drift 12 = .ok (.iconst (-1), 1) := by decide +kernel
theorem dX7_drift_13 : decode cX7_drift 13 = .ok (.ireturn, 1) := by decide +kernel
theorem dX7_drift_14 : decode cX7_drift 14 = .ok (.iconst 0, 1) := by decide +kernel
theorem dX7_drift_15 : decode cX7_drift 15 = .ok (.istore_n 2, 1) := by decide +kernel
theorem dX7_drift_16 : decode cX7_drift 16 = .ok (.iload_n 2, 1) := by decide +kernel
theorem dX7_drift_17 : decode cX7_drift 17 = .ok (.iload_n 1, 1) := by decide +kernel
theorem dX7_drift_18 : decode cX7_drift 18 = .ok (.if_icmp .ge 13, 3) := by decide +kernel
theorem dX7_drift_21 : decode cX7_drift 21 = .ok (.aload_n 0, 1) := by decide +kernel
theorem dX7_drift_22 : decode cX7_drift 22 = .ok (.invokevirtual 334, 3) := by decide +kernel
theorem dX7_drift_25 : decode cX7_drift 25 = .ok (.iinc 2 1, 3) := by decide +kernel
theorem dX7_drift_28 : decode cX7_drift 28 = .ok (.goto (-12), 3) := by decide +kernel
theorem dX7_drift_31 : decode cX7_drift 31 = .ok (.aload_n 0, 1) := by decide +kernel
theorem dX7_drift_32 : decode cX7_drift 32 = .ok (.getfield 7, 3) := by decide +kernel
theorem dX7_drift_35 : decode cX7_drift 35 = .ok (.iconst 1, 1) := by decide +kernel
theorem dX7_drift_36 : decode cX7_drift 36 = .ok (.iaload, 1) := by decide +kernel
theorem dX7_drift_37 : decode cX7_drift 37 = .ok (.ireturn, 1) := by decide +kernel
theorem dX7_undo_0 : decode cX7_undo 0 = .ok (.aload_n 0, 1) := by decide +kernel
theorem dX7_undo_1 : decode cX7_undo 1 = .ok (.getfield 112, 3) := by decide +kernel
theorem dX7_undo_4 : decode cX7_undo 4 = .ok (.ifCond .ne 6, 3) := by decide +kernel
theorem dX7_undo_7 : decode cX7_undo 7 = .ok (.bipush (-4), 2) := by decide +kernel
theorem dX7_undo_9 : decode cX7_undo 9 = .ok (.ireturn, 1) := by decide +kernel
theorem dX7_undo_10 : decode cX7_undo 10 = .ok (.aload_n 0, 1) := by decide +kernel
theorem dX7_undo_11 : decode cX7_undo 11 = .ok (.dup, 1) := by decide +kernel
theorem dX7_undo_12 : decode cX7_undo 12 = .ok (.getfield 112, 3) := by decide +kernel
theorem dX7_undo_15 : decode cX7_undo 15 = .ok (.iconst 1, 1) := by decide +kernel
theorem dX7_undo_16 : decode cX7_undo 16 = .ok (.isub, 1) := by decide +kernel
theorem dX7_undo_17 : decode cX7_undo 17 = .ok (.putfield 112, 3) := by decide +kernel
theorem dX7_undo_20 : decode cX7_undo 20 = .ok (.iconst 0, 1) := by decide +kernel
theorem dX7_undo_21 : decode cX7_undo 21 = .ok (.istore_n 1, 1) := by decide +kernel
theorem dX7_undo_22 : decode cX7_undo 22 = .ok (.iload_n 1, 1) := by decide +kernel
theorem dX7_undo_23 : decode cX7_undo 23 = .ok (.bipush 42, 2) := by decide +kernel
theorem dX7_undo_25 : decode cX7_undo 25 = .ok (.if_icmp .ge 29, 3) := by decide +kernel
theorem dX7_undo_28 : decode cX7_undo 28 = .ok (.aload_n 0, 1) := by decide +kernel
theorem dX7_undo_29 : decode cX7_undo 29 = .ok (.getfield 7, 3) := by decide +kernel
theorem dX7_undo_32 : decode cX7_undo 32 = .ok (.iload_n 1, 1) := by decide +kernel
theorem dX7_undo_33 : decode cX7_undo 33 = .ok (.aload_n 0, 1) := by decide +kernel
theorem dX7_undo_34 : decode cX7_undo 34 = .ok (.getfield 13, 3) := by decide +kernel
theorem dX7_undo_37 : decode cX7_undo 37 = .ok (.bipush 42, 2) := by decide +kernel
theorem dX7_undo_39 : decode cX7_undo 39 = .ok (.aload_n 0, 1) := by decide +kernel
theorem dX7_undo_40 : decode cX7_undo 40 = .ok (.getfield 112, 3) := by decide +kernel
theorem dX7_undo_43 : decode cX7_undo 43 = .ok (.imul, 1) := by decide +kernel
theorem dX7_undo_44 : decode cX7_undo 44 = .ok (.iload_n 1, 1) := by decide +kernel
theorem dX7_undo_45 : decode cX7_undo 45 = .ok (.iadd, 1) := by decide +kernel
theorem dX7_undo_46 : decode cX7_undo 46 = .ok (.iaload, 1) := by decide +kernel
theorem dX7_undo_47 : decode cX7_undo 47 = .ok (.iastore, 1) := by decide +kernel
theorem dX7_undo_48 : decode cX7_undo 48 = .ok (.iinc 1 1, 3) := by decide +kernel
theorem dX7_undo_51 : decode cX7_undo 51 = .ok (.goto (-29), 3) := by decide +kernel
theorem dX7_undo_54 : decode cX7_undo 54 = .ok (.aload_n 0, 1) := by decide +kernel
theorem dX7_undo_55 : decode cX7_undo 55 = .ok (.getfield 112, 3) := by decide +kernel
theorem dX7_undo_58 : decode cX7_undo 58 = .ok (.ireturn, 1) := by decide +kernel
theorem dX7_seed_0 : decode cX7_seed 0 = .ok (.iload_n 1, 1) := by decide +kernel
theorem dX7_seed_1 : decode cX7_seed 1 = .ok (.ifCond .ge 5, 3) := by decide +kernel
theorem dX7_seed_4 : decode cX7_seed 4 = .ok (.iconst (-1), 1) := by decide +kernel
theorem dX7_seed_5 : decode cX7_seed 5 = .ok (.ireturn, 1) := by decide +kernel
theorem dX7_seed_6 : decode cX7_seed 6 = .ok (.aload_n 0, 1) := by decide +kernel
theorem dX7_seed_7 : decode cX7_seed 7 = .ok (.getfield 7, 3) := by decide +kernel
theorem dX7_seed_10 : decode cX7_seed 10 = .ok (.iconst 2, 1) := by decide +kernel
theorem dX7_seed_11 : decode cX7_seed 11 = .ok (.iaload, 1) := by decide +kernel
theorem dX7_seed_12 : decode cX7_seed 12 = .ok (.istore_n 2, 1) := by decide +kernel
theorem dX7_seed_13 : decode cX7_seed 13 = .ok (.aload_n 0, 1) := by decide +kernel
theorem dX7_seed_14 : decode cX7_seed 14 = .ok (.getfield 7, 3) := by decide +kernel
theorem dX7_seed_17 : decode cX7_seed 17 = .ok (.iconst 2, 1) := by decide +kernel
theorem dX7_seed_18 : decode cX7_seed 18 = .ok (.iload_n 1, 1) := by decide +kernel
theorem dX7_seed_19 : decode cX7_seed 19 = .ok (.iastore, 1) := by decide +kernel
theorem dX7_seed_20 : decode cX7_seed 20 = .ok (.iload_n 2, 1) := by decide +kernel
theorem dX7_seed_21 : decode cX7_seed 21 = .ok (.ireturn, 1) := by decide +kernel
theorem dX7_image_0 : decode cX7_image 0 = .ok (.iconst 0, 1) := by decide +kernel
theorem dX7_image_1 : decode cX7_image 1 = .ok (.istore_n 1, 1) := by decide +kernel
theorem dX7_image_2 : decode cX7_image 2 = .ok (.iload_n 1, 1) := by decide +kernel
theorem dX7_image_3 : decode cX7_image 3 = .ok (.bipush 42, 2) := by decide +kernel
theorem dX7_image_5 : decode cX7_image 5 = .ok (.if_icmp .ge 21, 3) := by decide +kernel
theorem dX7_image_8 : decode cX7_image 8 = .ok (.aload_n 0, 1) := by decide +kernel
theorem dX7_image_9 : decode cX7_image 9 = .ok (.getfield 16, 3) := by decide +kernel
theorem dX7_image_12 : decode cX7_image 12 = .ok (.iload_n 1, 1) := by decide +kernel
theorem dX7_image_13 : decode cX7_image 13 = .ok (.aload_n 0, 1) := by decide +kernel
theorem dX7_image_14 : decode cX7_image 14 = .ok (.getfield 7, 3) := by decide +kernel
theorem dX7_image_17 : decode cX7_image 17 = .ok (.iload_n 1, 1) := by decide +kernel
theorem dX7_image_18 : decode cX7_image 18 = .ok (.iaload, 1) := by decide +kernel
theorem dX7_image_19 : decode cX7_image 19 = .ok (.iastore, 1) := by decide +kernel
theorem dX7_image_20 : decode cX7_image 20 = .ok (.iinc 1 1, 3) := by decide +kernel
theorem dX7_image_23 : decode cX7_image 23 = .ok (.goto (-21), 3) := by decide +kernel
theorem dX7_image_26 : decode cX7_image 26 = .ok (.iconst 0, 1) := by decide +kernel
theorem dX7_image_27 : decode cX7_image 27 = .ok (.istore_n 1, 1) := by decide +kernel
theorem dX7_image_28 : decode cX7_image 28 = .ok (.iload_n 1, 1) := by decide +kernel
theorem dX7_image_29 : decode cX7_image 29 = .ok (.sipush 252, 3) := by decide +kernel
theorem dX7_image_32 : decode cX7_image 32 = .ok (.if_icmp .ge 21, 3) := by decide +kernel
theorem dX7_image_35 : decode cX7_image 35 = .ok (.aload_n 0, 1) := by decide +kernel
theorem dX7_image_36 : decode cX7_image 36 = .ok (.getfield 19, 3) := by decide +kernel
theorem dX7_image_39 : decode cX7_image 39 = .ok (.iload_n 1, 1) := by decide +kernel
theorem dX7_image_40 : decode cX7_image 40 = .ok (.aload_n 0, 1) := by decide +kernel
theorem dX7_image_41 : decode cX7_image 41 = .ok (.getfield 13, 3) := by decide +kernel
theorem dX7_image_44 : decode cX7_image 44 = .ok (.iload_n 1, 1) := by decide +kernel
theorem dX7_image_45 : decode cX7_image 45 = .ok (.iaload, 1) := by decide +kernel
theorem dX7_image_46 : decode cX7_image 46 = .ok (.iastore, 1) := by decide +kernel
theorem dX7_image_47 : decode cX7_image 47 = .ok (.iinc 1 1, 3) := by decide +kernel
theorem dX7_image_50 : decode cX7_image 50 = .ok (.goto (-22), 3) := by decide +kernel
theorem dX7_image_53 : decode cX7_image 53 = .ok (.aload_n 0, 1) := by decide +kernel
theorem dX7_image_54 : decode cX7_image 54 = .ok (.aload_n 0, 1) := by decide +kernel
theorem dX7_image_55 : decode cX7_image 55 = .ok (.getfield 112, 3) := by decide +kernel
theorem dX7_image_58 : decode cX7_image 58 = .ok (.putfield 22, 3) := by decide +kernel
theorem dX7_image_61 : decode cX7_image 61 = .ok (.iconst 1, 1) := by decide +kernel
theorem dX7_image_62 : decode cX7_image 62 = .ok (.ireturn, 1) := by decide +kernel
theorem dX7_restore_0 : decode cX7_restore 0 = .ok (.aload_n 0, 1) := by decide +kernel
theorem dX7_restore_1 : decode cX7_restore 1 = .ok (.getfield 22, 3) := by decide +kernel
theorem dX7_restore_4 : decode cX7_restore 4 = .ok (.ifCond .ge 6, 3) := by decide +kernel
theorem dX7_restore_7 : decode cX7_restore 7 = .ok (.bipush (-4), 2) := by decide +kernel
theorem dX7_restore_9 : decode cX7_restore 9 = .ok (.ireturn, 1) := by decide +kernel
theorem dX7_restore_10 : decode cX7_restore 10 = .ok (.iconst 0, 1) := by decide +kernel
theorem dX7_restore_11 : decode cX7_restore 11 = .ok (.istore_n 1, 1) := by decide +kernel
theorem dX7_restore_12 : decode cX7_restore 12 = .ok (.iload_n 1, 1) := by decide +kernel
theorem dX7_restore_13 : decode cX7_restore 13 = .ok (.bipush 42, 2) := by decide +kernel
theorem dX7_restore_15 : decode cX7_restore 15 = .ok (.if_icmp .ge 21, 3) := by decide +kernel
theorem dX7_restore_18 : decode cX7_restore 18 = .ok (.aload_n 0, 1) := by decide +kernel
theorem dX7_restore_19 : decode cX7_restore 19 = .ok (.getfield 7, 3) := by decide +kernel
theorem dX7_restore_22 : decode cX7_restore 22 = .ok (.iload_n 1, 1) := by decide +kernel
theorem dX7_restore_23 : decode cX7_restore 23 = .ok (.aload_n 0, 1) := by decide +kernel
theorem dX7_restore_24 : decode cX7_restore 24 = .ok (.getfield 16, 3) := by decide +kernel
theorem dX7_restore_27 : decode cX7_restore 27 = .ok (.iload_n 1, 1) := by decide +kernel
theorem dX7_restore_28 : decode cX7_restore 28 = .ok (.iaload, 1) := by decide +kernel
theorem dX7_restore_29 : decode cX7_restore 29 = .ok (.iastore, 1) := by decide +kernel
theorem dX7_restore_30 : decode cX7_restore 30 = .ok (.iinc 1 1, 3) := by decide +kernel
theorem dX7_restore_33 : decode cX7_restore 33 = .ok (.goto (-21), 3) := by decide +kernel
theorem dX7_restore_36 : decode cX7_restore 36 = .ok (.iconst 0, 1) := by decide +kernel
theorem dX7_restore_37 : decode cX7_restore 37 = .ok (.istore_n 1, 1) := by decide +kernel
theorem dX7_restore_38 : decode cX7_restore 38 = .ok (.iload_n 1, 1) := by decide +kernel
theorem dX7_restore_39 : decode cX7_restore 39 = .ok (.sipush 252, 3) := by decide +kernel
theorem dX7_restore_42 : decode cX7_restore 42 = .ok (.if_icmp .ge 21, 3) := by decide +kernel
theorem dX7_restore_45 : decode cX7_restore 45 = .ok (.aload_n 0, 1) := by decide +kernel
theorem dX7_restore_46 : decode cX7_restore 46 = .ok (.getfield 13, 3) := by decide +kernel
theorem dX7_restore_49 : decode cX7_restore 49 = .ok (.iload_n 1, 1) := by decide +kernel
theorem dX7_restore_50 : decode cX7_restore 50 = .ok (.aload_n 0, 1) := by decide +kernel
theorem dX7_restore_51 : decode cX7_restore 51 = .ok (.getfield 19, 3) := by decide +kernel
theorem dX7_restore_54 : decode cX7_restore 54 = .ok (.iload_n 1, 1) := by decide +kernel
theorem dX7_restore_55 : decode cX7_restore 55 = .ok (.iaload, 1) := by decide +kernel
theorem dX7_restore_56 : decode cX7_restore 56 = .ok (.iastore, 1) := by decide +kernel
theorem dX7_restore_57 : decode cX7_restore 57 = .ok (.iinc 1 1, 3) := by decide +kernel
theorem dX7_restore_60 : decode cX7_restore 60 = .ok (.goto (-22), 3) := by decide +kernel
theorem dX7_restore_63 : decode cX7_restore 63 = .ok (.aload_n 0, 1) := by decide +kernel
theorem dX7_restore_64 : decode cX7_restore 64 = .ok (.aload_n 0, 1) := by decide +kernel
theorem dX7_restore_65 : decode cX7_restore 65 = .ok (.getfield 22, 3) := by decide +kernel
theorem dX7_restore_68 : decode cX7_restore 68 = .ok (.putfield 112, 3) := by decide +kernel
theorem dX7_restore_71 : decode cX7_restore 71 = .ok (.iconst 1, 1) := by decide +kernel
theorem dX7_restore_72 : decode cX7_restore 72 = .ok (.ireturn, 1) := by decide +kernel
theorem dX7_isSheet_0 : decode cX7_isSheet 0 = .ok (.iload_n 0, 1) := by decide +kernel
theorem dX7_isSheet_1 : decode cX7_isSheet 1 = .ok (.i2l, 1) := by decide +kernel
theorem dX7_isSheet_2 : decode cX7_isSheet 2 = .ok (.lconst 0, 1) := by decide +kernel
theorem dX7_isSheet_3 : decode cX7_isSheet 3 = .ok (.ldc2_w 337, 3) := by decide +kernel
theorem dX7_isSheet_6 : decode cX7_isSheet 6 = .ok (.invokestatic 79, 3) := by decide +kernel
theorem dX7_isSheet_9 : decode cX7_isSheet 9 = .ok (.ireturn, 1) := by decide +kernel
theorem dX7_cut_0 : decode cX7_cut 0 = .ok (.iload_n 0, 1) := by decide +kernel
theorem dX7_cut_1 : decode cX7_cut 1 = .ok (.ifCond .ne 10, 3) := by decide +kernel
theorem dX7_cut_4 : decode cX7_cut 4 = .ok (.lload_n 1, 1) := by decide +kernel
theorem dX7_cut_5 : decode cX7_cut 5 = .ok (.l2i, 1) := by decide +kernel
theorem dX7_cut_6 : decode cX7_cut 6 = .ok (.i2b, 1) := by decide +kernel
theorem dX7_cut_7 : decode cX7_cut 7 = .ok (.i2l, 1) := by decide +kernel
theorem dX7_cut_8 : decode cX7_cut 8 = .ok (.goto 27, 3) := by decide +kernel
theorem dX7_cut_11 : decode cX7_cut 11 = .ok (.iload_n 0, 1) := by decide +kernel
theorem dX7_cut_12 : decode cX7_cut 12 = .ok (.iconst 1, 1) := by decide +kernel
theorem dX7_cut_13 : decode cX7_cut 13 = .ok (.if_icmp .ne 10, 3) := by decide +kernel
theorem dX7_cut_16 : decode cX7_cut 16 = .ok (.lload_n 1, 1) := by decide +kernel
theorem dX7_cut_17 : decode cX7_cut 17 = .ok (.l2i, 1) := by decide +kernel
theorem dX7_cut_18 : decode cX7_cut 18 = .ok (.i2s, 1) := by decide +kernel
theorem dX7_cut_19 : decode cX7_cut 19 = .ok (.i2l, 1) := by decide +kernel
theorem dX7_cut_20 : decode cX7_cut 20 = .ok (.goto 15, 3) := by decide +kernel
theorem dX7_cut_23 : decode cX7_cut 23 = .ok (.iload_n 0, 1) := by decide +kernel
theorem dX7_cut_24 : decode cX7_cut 24 = .ok (.iconst 2, 1) := by decide +kernel
theorem dX7_cut_25 : decode cX7_cut 25 = .ok (.if_icmp .ne 9, 3) := by decide +kernel
theorem dX7_cut_28 : decode cX7_cut 28 = .ok (.lload_n 1, 1) := by decide +kernel
theorem dX7_cut_29 : decode cX7_cut 29 = .ok (.l2i, 1) := by decide +kernel
theorem dX7_cut_30 : decode cX7_cut 30 = .ok (.i2l, 1) := by decide +kernel
theorem dX7_cut_31 : decode cX7_cut 31 = .ok (.goto 4, 3) := by decide +kernel
theorem dX7_cut_34 : decode cX7_cut 34 = .ok (.lload_n 1, 1) := by decide +kernel
theorem dX7_cut_35 : decode cX7_cut 35 = .ok (.lreturn, 1) := by decide +kernel
theorem dX7_found_0 : decode cX7_found 0 = .ok (.aload_n 0, 1) := by decide +kernel
theorem dX7_found_1 : decode cX7_found 1 = .ok (.getfield 29, 3) := by decide +kernel
theorem dX7_found_4 : decode cX7_found 4 = .ok (.iload_n 1, 1) := by decide +kernel
theorem dX7_found_5 : decode cX7_found 5 = .ok (.iaload, 1) := by decide +kernel
theorem dX7_found_6 : decode cX7_found 6 = .ok (.ifCond .ge 6, 3) := by decide +kernel
theorem dX7_found_9 : decode cX7_found 9 = .ok (.bipush (-11), 2) := by decide +kernel
theorem dX7_found_11 : decode cX7_found 11 = .ok (.ireturn, 1) := by decide +kernel
theorem dX7_found_12 : decode cX7_found 12 = .ok (.aload_n 0, 1) := by decide +kernel
theorem dX7_found_13 : decode cX7_found 13 = .ok (.getfield 29, 3) := by decide +kernel
theorem dX7_found_16 : decode cX7_found 16 = .ok (.iload_n 1, 1) := by decide +kernel
theorem dX7_found_17 : decode cX7_found 17 = .ok (.iaload, 1) := by decide +kernel
theorem dX7_found_18 : decode cX7_found 18 = .ok (.iload_n 2, 1) := by decide +kernel
theorem dX7_found_19 : decode cX7_found 19 = .ok (.if_icmp .eq 6, 3) := by decide +kernel
theorem dX7_found_22 : decode cX7_found 22 = .ok (.bipush (-12), 2) := by decide +kernel
theorem dX7_found_24 : decode cX7_found 24 = .ok (.ireturn, 1) := by decide +kernel
theorem dX7_found_25 : decode cX7_found 25 = .ok (.iload_n 3, 1) := by decide +kernel
theorem dX7_found_26 : decode cX7_found 26 = .ok (.ifCond .lt 16, 3) := by decide +kernel
theorem dX7_found_29 : decode cX7_found 29 = .ok (.iload 4, 2) := by decide +kernel
theorem dX7_found_31 : decode cX7_found 31 = .ok (.aload_n 0, 1) := by decide +kernel
theorem dX7_found_32 : decode cX7_found 32 = .ok (.getfield 32, 3) := by decide +kernel
theorem dX7_found_35 : decode cX7_found 35 = .ok (.iload_n 1, 1) := by decide +kernel
theorem dX7_found_36 : decode cX7_found 36 = .ok (.iaload, 1) := by decide +kernel
theorem dX7_found_37 : decode cX7_found 37 = .ok (.iload_n 3, 1) := by decide +kernel
theorem dX7_found_38 : decode cX7_found 38 = .ok (.isub, 1) := by decide +kernel
theorem dX7_found_39 : decode cX7_found 39 = .ok (.if_icmp .le 8, 3) := by decide +kernel
theorem dX7_found_42 : decode cX7_found 42 = .ok (.bipush (-13), 2) := by decide +kernel
theorem dX7_found_44 : decode cX7_found 44 = .ok (.goto 4, 3) := by decide +kernel
theorem dX7_found_47 : decode cX7_found 47 = .ok (.iconst 0, 1) := by decide +kernel
theorem dX7_found_48 : decode cX7_found 48 = .ok (.ireturn, 1) := by decide +kernel
theorem dX7_isAtRest_0 : decode cX7_isAtRest 0 = .ok (.iconst 1, 1) := by decide +kernel
theorem dX7_isAtRest_1 : decode cX7_isAtRest 1 = .ok (.istore_n 2, 1) := by decide +kernel
theorem dX7_isAtRest_2 : decode cX7_isAtRest 2 = .ok (.iconst 0, 1) := by decide +kernel
theorem dX7_isAtRest_3 : decode cX7_isAtRest 3 = .ok (.istore_n 3, 1) := by decide +kernel
theorem dX7_isAtRest_4 : decode cX7_isAtRest 4 = .ok (.iload_n 3, 1) := by decide +kernel
theorem dX7_isAtRest_5 : decode cX7_isAtRest 5 = .ok (.aload_n 0, 1) := by decide +kernel
theorem dX7_isAtRest_6 : decode cX7_isAtRest 6 = .ok (.getfield 7, 3) := by decide +kernel
theorem dX7_isAtRest_9 : decode cX7_isAtRest 9 = .ok (.iconst 0, 1) := by decide +kernel
theorem dX7_isAtRest_10 : decode cX7_isAtRest 10 = .ok (.iaload, 1) := by decide +kernel
theorem dX7_isAtRest_11 : decode cX7_isAtRest 11 = .ok (.if_icmp .ge 137, 3) := by decide +kernel
theorem dX7_isAtRest_14 : decode cX7_isAtRest 14 = .ok (.lconst 0, 1) := by decide +kernel
theorem dX7_isAtRest_15 : decode cX7_isAtRest 15 = .ok (.lstore 4, 2) := by decide +kernel
theorem dX7_isAtRest_17 : decode cX7_isAtRest 17 = .ok (.lconst 0, 1) := by decide +kernel
theorem dX7_isAtRest_18 : decode cX7_isAtRest 18 = .ok (.lstore 6, 2) := by decide +kernel
theorem dX7_isAtRest_20 : decode cX7_isAtRest 20 = .ok (.iconst 0, 1) := by decide +kernel
theorem dX7_isAtRest_21 : decode cX7_isAtRest 21 = .ok (.istore 8, 2) := by decide +kernel
theorem dX7_isAtRest_23 : decode cX7_isAtRest 23 = .ok (.iload 8, 2) := by decide +kernel
theorem dX7_isAtRest_25 : decode cX7_isAtRest 25 = .ok (.iconst 2, 1) := by decide +kernel
theorem dX7_isAtRest_26 : decode cX7_isAtRest 26 = .ok (.aload_n 0, 1) := by decide +kernel
theorem dX7_isAtRest_27 : decode cX7_isAtRest 27 = .ok (.getfield 7, 3) := by decide +kernel
theorem dX7_isAtRest_30 : decode cX7_isAtRest 30 = .ok (.iconst 1, 1) := by decide +kernel
theorem dX7_isAtRest_31 : decode cX7_isAtRest 31 = .ok (.iaload, 1) := by decide +kernel
theorem dX7_isAtRest_32 : decode cX7_isAtRest 32 = .ok (.imul, 1) := by decide +kernel
theorem dX7_isAtRest_33 : decode cX7_isAtRest 33 = .ok (.if_icmp .ge 85, 3) := by decide +kernel
theorem dX7_isAtRest_36 : decode cX7_isAtRest 36 = .ok (.lload 4, 2) := by decide +kernel
theorem dX7_isAtRest_38 : decode cX7_isAtRest 38 = .ok (.aload_n 0, 1) := by decide +kernel
theorem dX7_isAtRest_39 : decode cX7_isAtRest 39 = .ok (.iload 8, 2) := by decide +kernel
theorem dX7_isAtRest_41 : decode cX7_isAtRest 41 = .ok (.invokevirtual 98, 3) := by decide +kernel
theorem dX7_isAtRest_44 : decode cX7_isAtRest 44 = .ok (.iload_n 3, 1) := by decide +kernel
theorem dX7_isAtRest_45 : decode cX7_isAtRest 45 = .ok (.if_icmp .ne 25, 3) := by decide +kernel
theorem dX7_isAtRest_48 : decode cX7_isAtRest 48 = .ok (.aload_n 0, 1) := by decide +kernel
theorem dX7_isAtRest_49 : decode cX7_isAtRest 49 = .ok (.iload 8, 2) := by decide +kernel
theorem dX7_isAtRest_51 : decode cX7_isAtRest 51 = .ok (.invokevirtual 189, 3) := by decide +kernel
theorem dX7_isAtRest_54 : decode cX7_isAtRest 54 = .ok (.i2l, 1) := by decide +kernel
theorem dX7_isAtRest_55 : decode cX7_isAtRest 55 = .ok (.aload_n 0, 1) := by decide +kernel
theorem dX7_isAtRest_56 : decode cX7_isAtRest 56 = .ok (.getfield 35, 3) := by decide +kernel
theorem dX7_isAtRest_59 : decode cX7_isAtRest 59 = .ok (.iload_n 1, 1) := by decide +kernel
theorem dX7_isAtRest_60 : decode cX7_isAtRest 60 = .ok (.iload 8, 2) := by decide +kernel
theorem dX7_isAtRest_62 : decode cX7_isAtRest 62 = .ok (.iconst 2, 1) := by decide +kernel
theorem dX7_isAtRest_63 : decode cX7_isAtRest 63 = .ok (.idiv, 1) := by decide +kernel
theorem dX7_isAtRest_64 : decode cX7_isAtRest 64 = .ok (.iadd, 1) := by decide +kernel
theorem dX7_isAtRest_65 : decode cX7_isAtRest 65 = .ok (.laload, 1) := by decide +kernel
theorem dX7_isAtRest_66 : decode cX7_isAtRest 66 = .ok (.lmul, 1) := by decide +kernel
theorem dX7_isAtRest_67 : decode cX7_isAtRest 67 = .ok (.goto 4, 3) := by decide +kernel
theorem dX7_isAtRest_70 : decode cX7_isAtRest 70 = .ok (.lconst 0, 1) := by decide +kernel
theorem dX7_isAtRest_71 : decode cX7_isAtRest 71 = .ok (.ladd, 1) := by decide +kernel
theorem dX7_isAtRest_72 : decode cX7_isAtRest 72 = .ok (.lstore 4, 2) := by decide +kernel
theorem dX7_isAtRest_74 : decode cX7_isAtRest 74 = .ok (.lload 6, 2) := by decide +kernel
theorem dX7_isAtRest_76 : decode cX7_isAtRest 76 = .ok (.aload_n 0, 1) := by decide +kernel
theorem dX7_isAtRest_77 : decode cX7_isAtRest 77 = .ok (.iload 8, 2) := by decide +kernel
theorem dX7_isAtRest_79 : decode cX7_isAtRest 79 = .ok (.invokevirtual 98, 3) := by decide +kernel
theorem dX7_isAtRest_82 : decode cX7_isAtRest 82 = .ok (.iload_n 3, 1) := by decide +kernel
theorem dX7_isAtRest_83 : decode cX7_isAtRest 83 = .ok (.if_icmp .ne 25, 3) := by decide +kernel
theorem dX7_isAtRest_86 : decode cX7_isAtRest 86 = .ok (.aload_n 0, 1) := by decide +kernel
theorem dX7_isAtRest_87 : decode cX7_isAtRest 87 = .ok (.iload 8, 2) := by decide +kernel
theorem dX7_isAtRest_89 : decode cX7_isAtRest 89 = .ok (.invokevirtual 192, 3) := by decide +kernel
theorem dX7_isAtRest_92 : decode cX7_isAtRest 92 = .ok (.i2l, 1) := by decide +kernel
theorem dX7_isAtRest_93 : decode cX7_isAtRest 93 = .ok (.aload_n 0, 1) := by decide +kernel
theorem dX7_isAtRest_94 : decode cX7_isAtRest 94 = .ok (.getfield 35, 3) := by decide +kernel
theorem dX7_isAtRest_97 : decode cX7_isAtRest 97 = .ok (.iload_n 1, 1) := by decide +kernel
theorem dX7_isAtRest_98 : decode cX7_isAtRest 98 = .ok (.iload 8, 2) := by decide +kernel
theorem dX7_isAtRest_100 : decode cX7_isAtRest 100 = .ok (.iconst 2, 1) := by decide +kernel
theorem dX7_isAtRest_101 : decode cX7_isAtRest 101 = .ok (.idiv, 1) := by decide +kernel
theorem dX7_isAtRest_102 : decode cX7_isAtRest 102 = .ok (.iadd, 1) := by decide +kernel
theorem dX7_isAtRest_103 : decode cX7_isAtRest 103 = .ok (.laload, 1) := by decide +kernel
theorem dX7_isAtRest_104 : decode cX7_isAtRest 104 = .ok (.lmul, 1) := by decide +kernel
theorem dX7_isAtRest_105 : decode cX7_isAtRest 105 = .ok (.goto 4, 3) := by decide +kernel
theorem dX7_isAtRest_108 : decode cX7_isAtRest 108 = .ok (.lconst 0, 1) := by decide +kernel
theorem dX7_isAtRest_109 : decode cX7_isAtRest 109 = .ok (.ladd, 1) := by decide +kernel
theorem dX7_isAtRest_110 : decode cX7_isAtRest 110 = .ok (.lstore 6, 2) := by decide +kernel
theorem dX7_isAtRest_112 : decode cX7_isAtRest 112 = .ok (.iinc 8 1, 3) := by decide +kernel
theorem dX7_isAtRest_115 : decode cX7_isAtRest 115 = .ok (.goto (-92), 3) := by decide +kernel
theorem dX7_isAtRest_118 : decode cX7_isAtRest 118 = .ok (.iload_n 2, 1) := by decide +kernel
theorem dX7_isAtRest_119 : decode cX7_isAtRest 119 = .ok (.ifCond .eq 21, 3) := by decide +kernel
theorem dX7_isAtRest_122 : decode cX7_isAtRest 122 = .ok (.lload 4, 2) := by decide +kernel
theorem dX7_isAtRest_124 : decode cX7_isAtRest 124 = .ok (.lconst 0, 1) := by decide +kernel
theorem dX7_isAtRest_125 : decode cX7_isAtRest 125 = .ok (.lcmp, 1) := by decide +kernel
theorem dX7_isAtRest_126 : decode cX7_isAtRest 126 = .ok (.ifCond .ne 14, 3) := by decide +kernel
theorem dX7_isAtRest_129 : decode cX7_isAtRest 129 = .ok (.lload 6, 2) := by decide +kernel
theorem dX7_isAtRest_131 : decode cX7_isAtRest 131 = .ok (.lconst 0, 1) := by decide +kernel
theorem dX7_isAtRest_132 : decode cX7_isAtRest 132 = .ok (.lcmp, 1) := by decide +kernel
theorem dX7_isAtRest_133 : decode cX7_isAtRest 133 = .ok (.ifCond .ne 7, 3) := by decide +kernel
theorem dX7_isAtRest_136 : decode cX7_isAtRest 136 = .ok (.iconst 1, 1) := by decide +kernel
theorem dX7_isAtRest_137 : decode cX7_isAtRest 137 = .ok (.goto 4, 3) := by decide +kernel
theorem dX7_isAtRest_140 : decode cX7_isAtRest 140 = .ok (.iconst 0, 1) := by decide +kernel
theorem dX7_isAtRest_141 : decode cX7_isAtRest 141 = .ok (.istore_n 2, 1) := by decide +kernel
theorem dX7_isAtRest_142 : decode cX7_isAtRest 142 = .ok (.iinc 3 1, 3) := by decide +kernel
theorem dX7_isAtRest_145 : decode cX7_isAtRest 145 = .ok (.goto (-141), 3) := by decide +kernel
theorem dX7_isAtRest_148 : decode cX7_isAtRest 148 = .ok (.iload_n 2, 1) := by decide +kernel
theorem dX7_isAtRest_149 : decode cX7_isAtRest 149 = .ok (.ireturn, 1) := by decide +kernel
theorem dX7_isTimes_0 : decode cX7_isTimes 0 = .ok (.aload_n 0, 1) := by decide +kernel
theorem dX7_isTimes_1 : decode cX7_isTimes 1 = .ok (.invokevirtual 232, 3) := by decide +kernel
theorem dX7_isTimes_4 : decode cX7_isTimes 4 = .ok (.iconst 1, 1) := by decide +kernel
theorem dX7_isTimes_5 : decode cX7_isTimes 5 = .ok (.istore_n 2, 1) := by decide +kernel
theorem dX7_isTimes_6 : decode cX7_isTimes 6 = .ok (.iconst 1, 1) := by decide +kernel
theorem dX7_isTimes_7 : decode cX7_isTimes 7 = .ok (.istore_n 3, 1) := by decide +kernel
theorem dX7_isTimes_8 : decode cX7_isTimes 8 = .ok (.iconst 0, 1) := by decide +kernel
theorem dX7_isTimes_9 : decode cX7_isTimes 9 = .ok (.istore 4, 2) := by decide +kernel
theorem dX7_isTimes_11 : decode cX7_isTimes 11 = .ok (.iload 4, 2) := by decide +kernel
theorem dX7_isTimes_13 : decode cX7_isTimes 13 = .ok (.aload_n 0, 1) := by decide +kernel
theorem dX7_isTimes_14 : decode cX7_isTimes 14 = .ok (.getfield 7, 3) := by decide +kernel
theorem dX7_isTimes_17 : decode cX7_isTimes 17 = .ok (.iconst 1, 1) := by decide +kernel
theorem dX7_isTimes_18 : decode cX7_isTimes 18 = .ok (.iaload, 1) := by decide +kernel
theorem dX7_isTimes_19 : decode cX7_isTimes 19 = .ok (.if_icmp .ge 95, 3) := by decide +kernel
theorem dX7_isTimes_22 : decode cX7_isTimes 22 = .ok (.iload_n 2, 1) := by decide +kernel
theorem dX7_isTimes_23 : decode cX7_isTimes 23 = .ok (.ifCond .eq 21, 3) := by decide +kernel
theorem dX7_isTimes_26 : decode cX7_isTimes 26 = .ok (.aload_n 0, 1) := by decide +kernel
theorem dX7_isTimes_27 : decode cX7_isTimes 27 = .ok (.getfield 35, 3) := by decide +kernel
theorem dX7_isTimes_30 : decode cX7_isTimes 30 = .ok (.iload_n 1, 1) := by decide +kernel
theorem dX7_isTimes_31 : decode cX7_isTimes 31 = .ok (.iload 4, 2) := by decide +kernel
theorem dX7_isTimes_33 : decode cX7_isTimes 33 = .ok (.iadd, 1) := by decide +kernel
theorem dX7_isTimes_34 : decode cX7_isTimes 34 = .ok (.laload, 1) := by decide +kernel
theorem dX7_isTimes_35 : decode cX7_isTimes 35 = .ok (.lconst 0, 1) := by decide +kernel
theorem dX7_isTimes_36 : decode cX7_isTimes 36 = .ok (.lcmp, 1) := by decide +kernel
theorem dX7_isTimes_37 : decode cX7_isTimes 37 = .ok (.ifCond .ne 7, 3) := by decide +kernel
theorem dX7_isTimes_40 : decode cX7_isTimes 40 = .ok (.iconst 1, 1) := by decide +kernel
theorem dX7_isTimes_41 : decode cX7_isTimes 41 = .ok (.goto 4, 3) := by decide +kernel
theorem dX7_isTimes_44 : decode cX7_isTimes 44 = .ok (.iconst 0, 1) := by decide +kernel
theorem dX7_isTimes_45 : decode cX7_isTimes 45 = .ok (.istore_n 2, 1) := by decide +kernel
theorem dX7_isTimes_46 : decode cX7_isTimes 46 = .ok (.iconst 0, 1) := by decide +kernel
theorem dX7_isTimes_47 : decode cX7_isTimes 47 = .ok (.istore 5, 2) := by decide +kernel
theorem dX7_isTimes_49 : decode cX7_isTimes 49 = .ok (.iload 5, 2) := by decide +kernel
theorem dX7_isTimes_51 : decode cX7_isTimes 51 = .ok (.iload 4, 2) := by decide +kernel
theorem dX7_isTimes_53 : decode cX7_isTimes 53 = .ok (.if_icmp .ge 55, 3) := by decide +kernel
theorem dX7_isTimes_56 : decode cX7_isTimes 56 = .ok (.iload_n 3, 1) := by decide +kernel
theorem dX7_isTimes_57 : decode cX7_isTimes 57 = .ok (.ifCond .eq 43, 3) := by decide +kernel
theorem dX7_isTimes_60 : decode cX7_isTimes 60 = .ok (.aload_n 0, 1) := by decide +kernel
theorem dX7_isTimes_61 : decode cX7_isTimes 61 = .ok (.getfield 35, 3) := by decide +kernel
theorem dX7_isTimes_64 : decode cX7_isTimes 64 = .ok (.iload_n 1, 1) := by decide +kernel
theorem dX7_isTimes_65 : decode cX7_isTimes 65 = .ok (.iload 4, 2) := by decide +kernel
theorem dX7_isTimes_67 : decode cX7_isTimes 67 = .ok (.iadd, 1) := by decide +kernel
theorem dX7_isTimes_68 : decode cX7_isTimes 68 = .ok (.laload, 1) := by decide +kernel
theorem dX7_isTimes_69 : decode cX7_isTimes 69 = .ok (.aload_n 0, 1) := by decide +kernel
theorem dX7_isTimes_70 : decode cX7_isTimes 70 = .ok (.iload 5, 2) := by decide +kernel
theorem dX7_isTimes_72 : decode cX7_isTimes 72 = .ok (.invokevirtual 244, 3) := by decide +kernel
theorem dX7_isTimes_75 : decode cX7_isTimes 75 = .ok (.lmul, 1) := by decide +kernel
theorem dX7_isTimes_76 : decode cX7_isTimes 76 = .ok (.aload_n 0, 1) := by decide +kernel
theorem dX7_isTimes_77 : decode cX7_isTimes 77 = .ok (.getfield 35, 3) := by decide +kernel
theorem dX7_isTimes_80 : decode cX7_isTimes 80 = .ok (.iload_n 1, 1) := by decide +kernel
theorem dX7_isTimes_81 : decode cX7_isTimes 81 = .ok (.iload 5, 2) := by decide +kernel
theorem dX7_isTimes_83 : decode cX7_isTimes 83 = .ok (.iadd, 1) := by decide +kernel
theorem dX7_isTimes_84 : decode cX7_isTimes 84 = .ok (.laload, 1) := by decide +kernel
theorem dX7_isTimes_85 : decode cX7_isTimes 85 = .ok (.aload_n 0, 1) := by decide +kernel
theorem dX7_isTimes_86 : decode cX7_isTimes 86 = .ok (.iload 4, 2) := by decide +kernel
theorem dX7_isTimes_88 : decode cX7_isTimes 88 = .ok (.invokevirtual 244, 3) := by decide +kernel
theorem dX7_isTimes_91 : decode cX7_isTimes 91 = .ok (.lmul, 1) := by decide +kernel
theorem dX7_isTimes_92 : decode cX7_isTimes 92 = .ok (.lcmp, 1) := by decide +kernel
theorem dX7_isTimes_93 : decode cX7_isTimes 93 = .ok (.ifCond .ne 7, 3) := by decide +kernel
theorem dX7_isTimes_96 : decode cX7_isTimes 96 = .ok (.iconst 1, 1) := by decide +kernel
theorem dX7_isTimes_97 : decode cX7_isTimes 97 = .ok (.goto 4, 3) := by decide +kernel
theorem dX7_isTimes_100 : decode cX7_isTimes 100 = .ok (.iconst 0, 1) := by decide +kernel
theorem dX7_isTimes_101 : decode cX7_isTimes 101 = .ok (.istore_n 3, 1) := by decide +kernel
theorem dX7_isTimes_102 : decode cX7_isTimes 102 = .ok (.iinc 5 1, 3) := by decide +kernel
theorem dX7_isTimes_105 : decode cX7_isTimes 105 = .ok (.goto (-56), 3) := by decide +kernel
theorem dX7_isTimes_108 : decode cX7_isTimes 108 = .ok (.iinc 4 1, 3) := by decide +kernel
theorem dX7_isTimes_111 : decode cX7_isTimes 111 = .ok (.goto (-100), 3) := by decide +kernel
theorem dX7_isTimes_114 : decode cX7_isTimes 114 = .ok (.iconst 0, 1) := by decide +kernel
theorem dX7_isTimes_115 : decode cX7_isTimes 115 = .ok (.istore 4, 2) := by decide +kernel
theorem dX7_isTimes_117 : decode cX7_isTimes 117 = .ok (.iload 4, 2) := by decide +kernel
theorem dX7_isTimes_119 : decode cX7_isTimes 119 = .ok (.aload_n 0, 1) := by decide +kernel
theorem dX7_isTimes_120 : decode cX7_isTimes 120 = .ok (.getfield 7, 3) := by decide +kernel
theorem dX7_isTimes_123 : decode cX7_isTimes 123 = .ok (.iconst 1, 1) := by decide +kernel
theorem dX7_isTimes_124 : decode cX7_isTimes 124 = .ok (.iaload, 1) := by decide +kernel
theorem dX7_isTimes_125 : decode cX7_isTimes 125 = .ok (.if_icmp .ge 44, 3) := by decide +kernel
theorem dX7_isTimes_128 : decode cX7_isTimes 128 = .ok (.iload_n 3, 1) := by decide +kernel
theorem dX7_isTimes_129 : decode cX7_isTimes 129 = .ok (.ifCond .eq 32, 3) := by decide +kernel
theorem dX7_isTimes_132 : decode cX7_isTimes 132 = .ok (.aload_n 0, 1) := by decide +kernel
theorem dX7_isTimes_133 : decode cX7_isTimes 133 = .ok (.iload 4, 2) := by decide +kernel
theorem dX7_isTimes_135 : decode cX7_isTimes 135 = .ok (.invokevirtual 244, 3) := by decide +kernel
theorem dX7_isTimes_138 : decode cX7_isTimes 138 = .ok (.lconst 0, 1) := by decide +kernel
theorem dX7_isTimes_139 : decode cX7_isTimes 139 = .ok (.lcmp, 1) := by decide +kernel
theorem dX7_isTimes_140 : decode cX7_isTimes 140 = .ok (.ifCond .ne 17, 3) := by decide +kernel
theorem dX7_isTimes_143 : decode cX7_isTimes 143 = .ok (.aload_n 0, 1) := by decide +kernel
theorem dX7_isTimes_144 : decode cX7_isTimes 144 = .ok (.getfield 35, 3) := by decide +kernel
theorem dX7_isTimes_147 : decode cX7_isTimes 147 = .ok (.iload_n 1, 1) := by decide +kernel
theorem dX7_isTimes_148 : decode cX7_isTimes 148 = .ok (.iload 4, 2) := by decide +kernel
theorem dX7_isTimes_150 : decode cX7_isTimes 150 = .ok (.iadd, 1) := by decide +kernel
theorem dX7_isTimes_151 : decode cX7_isTimes 151 = .ok (.laload, 1) := by decide +kernel
theorem dX7_isTimes_152 : decode cX7_isTimes 152 = .ok (.lconst 0, 1) := by decide +kernel
theorem dX7_isTimes_153 : decode cX7_isTimes 153 = .ok (.lcmp, 1) := by decide +kernel
theorem dX7_isTimes_154 : decode cX7_isTimes 154 = .ok (.ifCond .ne 7, 3) := by decide +kernel
theorem dX7_isTimes_157 : decode cX7_isTimes 157 = .ok (.iconst 1, 1) := by decide +kernel
theorem dX7_isTimes_158 : decode cX7_isTimes 158 = .ok (.goto 4, 3) := by decide +kernel
theorem dX7_isTimes_161 : decode cX7_isTimes 161 = .ok (.iconst 0, 1) := by decide +kernel
theorem dX7_isTimes_162 : decode cX7_isTimes 162 = .ok (.istore_n 3, 1) := by decide +kernel
theorem dX7_isTimes_163 : decode cX7_isTimes 163 = .ok (.iinc 4 1, 3) := by decide +kernel
theorem dX7_isTimes_166 : decode cX7_isTimes 166 = .ok (.goto (-49), 3) := by decide +kernel
theorem dX7_isTimes_169 : decode cX7_isTimes 169 = .ok (.iload_n 2, 1) := by decide +kernel
theorem dX7_isTimes_170 : decode cX7_isTimes 170 = .ok (.ifCond .ne 7, 3) := by decide +kernel
theorem dX7_isTimes_173 : decode cX7_isTimes 173 = .ok (.iload_n 3, 1) := by decide +kernel
theorem dX7_isTimes_174 : decode cX7_isTimes 174 = .ok (.ifCond .eq 7, 3) := by decide +kernel
theorem dX7_isTimes_177 : decode cX7_isTimes 177 = .ok (.iconst 1, 1) := by decide +kernel
theorem dX7_isTimes_178 : decode cX7_isTimes 178 = .ok (.goto 4, 3) := by decide +kernel
theorem dX7_isTimes_181 : decode cX7_isTimes 181 = .ok (.iconst 0, 1) := by decide +kernel
theorem dX7_isTimes_182 : decode cX7_isTimes 182 = .ok (.ireturn, 1) := by decide +kernel
theorem dX7_what_0 : decode cX7_what 0 = .ok (.iload_n 1, 1) := by decide +kernel
theorem dX7_what_1 : decode cX7_what 1 = .ok (.invokestatic 339, 3) := by decide +kernel
theorem dX7_what_4 : decode cX7_what 4 = .ok (.ifCond .eq 15, 3) := by decide +kernel
theorem dX7_what_7 : decode cX7_what 7 = .ok (.iload_n 2, 1) := by decide +kernel
theorem dX7_what_8 : decode cX7_what 8 = .ok (.i2l, 1) := by decide +kernel
theorem dX7_what_9 : decode cX7_what 9 = .ok (.lconst 0, 1) := by decide +kernel
theorem dX7_what_10 : decode cX7_what 10 = .ok (.ldc2_w 337, 3) := by decide +kernel
theorem dX7_what_13 : decode cX7_what 13 = .ok (.invokestatic 79, 3) := by decide +kernel
theorem dX7_what_16 : decode cX7_what 16 = .ok (.ifCond .ne 5, 3) := by decide +kernel
theorem dX7_what_19 : decode cX7_what 19 = .ok (.iconst (-1), 1) := by decide +kernel
theorem dX7_what_20 : decode cX7_what 20 = .ok (.ireturn, 1) := by decide +kernel
theorem dX7_what_21 : decode cX7_what 21 = .ok (.aload_n 0, 1) := by decide +kernel
theorem dX7_what_22 : decode cX7_what 22 = .ok (.iload_n 1, 1) := by decide +kernel
theorem dX7_what_23 : decode cX7_what 23 = .ok (.iload_n 2, 1) := by decide +kernel
theorem dX7_what_24 : decode cX7_what 24 = .ok (.iload_n 3, 1) := by decide +kernel
theorem dX7_what_25 : decode cX7_what 25 = .ok (.aload_n 0, 1) := by decide +kernel
theorem dX7_what_26 : decode cX7_what 26 = .ok (.getfield 7, 3) := by decide +kernel
theorem dX7_what_29 : decode cX7_what 29 = .ok (.iconst 1, 1) := by decide +kernel
theorem dX7_what_30 : decode cX7_what 30 = .ok (.iaload, 1) := by decide +kernel
theorem dX7_what_31 : decode cX7_what 31 = .ok (.invokevirtual 342, 3) := by decide +kernel
theorem dX7_what_34 : decode cX7_what 34 = .ok (.istore 4, 2) := by decide +kernel
theorem dX7_what_36 : decode cX7_what 36 = .ok (.iload 4, 2) := by decide +kernel
theorem dX7_what_38 : decode cX7_what 38 = .ok (.ifCond .ge 6, 3) := by decide +kernel
theorem dX7_what_41 : decode cX7_what 41 = .ok (.iload 4, 2) := by decide +kernel
theorem dX7_what_43 : decode cX7_what 43 = .ok (.ireturn, 1) := by decide +kernel
theorem dX7_what_44 : decode cX7_what 44 = .ok (.bipush 24, 2) := by decide +kernel
theorem dX7_what_46 : decode cX7_what 46 = .ok (.iload_n 1, 1) := by decide +kernel
theorem dX7_what_47 : decode cX7_what 47 = .ok (.imul, 1) := by decide +kernel
theorem dX7_what_48 : decode cX7_what 48 = .ok (.iload_n 3, 1) := by decide +kernel
theorem dX7_what_49 : decode cX7_what 49 = .ok (.iadd, 1) := by decide +kernel
theorem dX7_what_50 : decode cX7_what 50 = .ok (.istore 5, 2) := by decide +kernel
theorem dX7_what_52 : decode cX7_what 52 = .ok (.bipush 6, 2) := by decide +kernel
theorem dX7_what_54 : decode cX7_what 54 = .ok (.istore 6, 2) := by decide +kernel
theorem dX7_what_56 : decode cX7_what 56 = .ok (.iconst 0, 1) := by decide +kernel
theorem dX7_what_57 : decode cX7_what 57 = .ok (.istore 7, 2) := by decide +kernel
theorem dX7_what_59 : decode cX7_what 59 = .ok (.iload 7, 2) := by decide +kernel
theorem dX7_what_61 : decode cX7_what 61 = .ok (.aload_n 0, 1) := by decide +kernel
theorem dX7_what_62 : decode cX7_what 62 = .ok (.getfield 7, 3) := by decide +kernel
theorem dX7_what_65 : decode cX7_what 65 = .ok (.iconst 1, 1) := by decide +kernel
theorem dX7_what_66 : decode cX7_what 66 = .ok (.iaload, 1) := by decide +kernel
theorem dX7_what_67 : decode cX7_what 67 = .ok (.if_icmp .ge 79, 3) := by decide +kernel
theorem dX7_what_70 : decode cX7_what 70 = .ok (.aload_n 0, 1) := by decide +kernel
theorem dX7_what_71 : decode cX7_what 71 = .ok (.getfield 35, 3) := by decide +kernel
theorem dX7_what_74 : decode cX7_what 74 = .ok (.iload 5, 2) := by decide +kernel
theorem dX7_what_76 : decode cX7_what 76 = .ok (.iload 7, 2) := by decide +kernel
theorem dX7_what_78 : decode cX7_what 78 = .ok (.iadd, 1) := by decide +kernel
theorem dX7_what_79 : decode cX7_what 79 = .ok (.laload, 1) := by decide +kernel
theorem dX7_what_80 : decode cX7_what 80 = .ok (.ldc2_w 345, 3) := by decide +kernel
theorem dX7_what_83 : decode cX7_what 83 = .ok (.ldc2_w 347, 3) := by decide +kernel
theorem dX7_what_86 : decode cX7_what 86 = .ok (.invokestatic 79, 3) := by decide +kernel
theorem dX7_what_89 : decode cX7_what 89 = .ok (.ifCond .ne 6, 3) := by decide +kernel
theorem dX7_what_92 : decode cX7_what 92 = .ok (.bipush (-2), 2) := by decide +kernel
theorem dX7_what_94 : decode cX7_what 94 = .ok (.ireturn, 1) := by decide +kernel
theorem dX7_what_95 : decode cX7_what 95 = .ok (.iload 6, 2) := by decide +kernel
theorem dX7_what_97 : decode cX7_what 97 = .ok (.aload_n 0, 1) := by decide +kernel
theorem dX7_what_98 : decode cX7_what 98 = .ok (.getfield 35, 3) := by decide +kernel
theorem dX7_what_101 : decode cX7_what 101 = .ok (.iload 5, 2) := by decide +kernel
theorem dX7_what_103 : decode cX7_what 103 = .ok (.iload 7, 2) := by decide +kernel
theorem dX7_what_105 : decode cX7_what 105 = .ok (.iadd, 1) := by decide +kernel
theorem dX7_what_106 : decode cX7_what 106 = .ok (.laload, 1) := by decide +kernel
theorem dX7_what_107 : decode cX7_what 107 = .ok (.lconst 0, 1) := by decide +kernel
theorem dX7_what_108 : decode cX7_what 108 = .ok (.lcmp, 1) := by decide +kernel
theorem dX7_what_109 : decode cX7_what 109 = .ok (.ifCond .ne 7, 3) := by decide +kernel
theorem dX7_what_112 : decode cX7_what 112 = .ok (.iconst 4, 1) := by decide +kernel
theorem dX7_what_113 : decode cX7_what 113 = .ok (.goto 24, 3) := by decide +kernel
theorem dX7_what_116 : decode cX7_what 116 = .ok (.aload_n 0, 1) := by decide +kernel
theorem dX7_what_117 : decode cX7_what 117 = .ok (.getfield 35, 3) := by decide +kernel
theorem dX7_what_120 : decode cX7_what 120 = .ok (.iload 5, 2) := by decide +kernel
theorem dX7_what_122 : decode cX7_what 122 = .ok (.iload 7, 2) := by decide +kernel
theorem dX7_what_124 : decode cX7_what 124 = .ok (.iadd, 1) := by decide +kernel
theorem dX7_what_125 : decode cX7_what 125 = .ok (.laload, 1) := by decide +kernel
theorem dX7_what_126 : decode cX7_what 126 = .ok (.lconst 0, 1) := by decide +kernel
theorem dX7_what_127 : decode cX7_what 127 = .ok (.lcmp, 1) := by decide +kernel
theorem dX7_what_128 : decode cX7_what 128 = .ok (.ifCond .ge 7, 3) := by decide +kernel
theorem dX7_what_131 : decode cX7_what 131 = .ok (.iconst 2, 1) := by decide +kernel
theorem dX7_what_132 : decode cX7_what 132 = .ok (.goto 5, 3) := by decide +kernel
theorem dX7_what_135 : decode cX7_what 135 = .ok (.bipush 6, 2) := by decide +kernel
theorem dX7_what_137 : decode cX7_what 137 = .ok (.iand, 1) := by decide +kernel
theorem dX7_what_138 : decode cX7_what 138 = .ok (.istore 6, 2) := by decide +kernel
theorem dX7_what_140 : decode cX7_what 140 = .ok (.iinc 7 1, 3) := by decide +kernel
theorem dX7_what_143 : decode cX7_what 143 = .ok (.goto (-84), 3) := by decide +kernel
theorem dX7_what_146 : decode cX7_what 146 = .ok (.iload 6, 2) := by decide +kernel
theorem dX7_what_148 : decode cX7_what 148 = .ok (.aload_n 0, 1) := by decide +kernel
theorem dX7_what_149 : decode cX7_what 149 = .ok (.iload 5, 2) := by decide +kernel
theorem dX7_what_151 : decode cX7_what 151 = .ok (.invokevirtual 349, 3) := by decide +kernel
theorem dX7_what_154 : decode cX7_what 154 = .ok (.ifCond .eq 7, 3) := by decide +kernel
theorem dX7_what_157 : decode cX7_what 157 = .ok (.iconst 1, 1) := by decide +kernel
theorem dX7_what_158 : decode cX7_what 158 = .ok (.goto 4, 3) := by decide +kernel
theorem dX7_what_161 : decode cX7_what 161 = .ok (.iconst 0, 1) := by decide +kernel
theorem dX7_what_162 : decode cX7_what 162 = .ok (.ior, 1) := by decide +kernel
theorem dX7_what_163 : decode cX7_what 163 = .ok (.aload_n 0, 1) := by decide +kernel
theorem dX7_what_164 : decode cX7_what 164 = .ok (.iload 5, 2) := by decide +kernel
theorem dX7_what_166 : decode cX7_what 166 = .ok (.invokevirtual 352, 3) := by decide +kernel
theorem dX7_what_169 : decode cX7_what 169 = .ok (.ifCond .eq 8, 3) := by decide +kernel
theorem dX7_what_172 : decode cX7_what 172 = .ok (.bipush 8, 2) := by decide +kernel
theorem dX7_what_174 : decode cX7_what 174 = .ok (.goto 4, 3) := by decide +kernel
theorem dX7_what_177 : decode cX7_what 177 = .ok (.iconst 0, 1) := by decide +kernel
theorem dX7_what_178 : decode cX7_what 178 = .ok (.ior, 1) := by decide +kernel
theorem dX7_what_179 : decode cX7_what 179 = .ok (.ireturn, 1) := by decide +kernel
theorem dX7_film_0 : decode cX7_film 0 = .ok (.iload_n 1, 1) := by decide +kernel
theorem dX7_film_1 : decode cX7_film 1 = .ok (.invokestatic 339, 3) := by decide +kernel
theorem dX7_film_4 : decode cX7_film 4 = .ok (.ifCond .eq 15, 3) := by decide +kernel
theorem dX7_film_7 : decode cX7_film 7 = .ok (.iload_n 2, 1) := by decide +kernel
theorem dX7_film_8 : decode cX7_film 8 = .ok (.i2l, 1) := by decide +kernel
theorem dX7_film_9 : decode cX7_film 9 = .ok (.lconst 0, 1) := by decide +kernel
theorem dX7_film_10 : decode cX7_film 10 = .ok (.ldc2_w 337, 3) := by decide +kernel
theorem dX7_film_13 : decode cX7_film 13 = .ok (.invokestatic 79, 3) := by decide +kernel
theorem dX7_film_16 : decode cX7_film 16 = .ok (.ifCond .ne 5, 3) := by decide +kernel
theorem dX7_film_19 : decode cX7_film 19 = .ok (.iconst (-1), 1) := by decide +kernel
theorem dX7_film_20 : decode cX7_film 20 = .ok (.ireturn, 1) := by decide +kernel
theorem dX7_film_21 : decode cX7_film 21 = .ok (.aload_n 0, 1) := by decide +kernel
theorem dX7_film_22 : decode cX7_film 22 = .ok (.iload_n 1, 1) := by decide +kernel
theorem dX7_film_23 : decode cX7_film 23 = .ok (.iload_n 2, 1) := by decide +kernel
theorem dX7_film_24 : decode cX7_film 24 = .ok (.iload_n 3, 1) := by decide +kernel
theorem dX7_film_25 : decode cX7_film 25 = .ok (.aload_n 0, 1) := by decide +kernel
theorem dX7_film_26 : decode cX7_film 26 = .ok (.getfield 7, 3) := by decide +kernel
theorem dX7_film_29 : decode cX7_film 29 = .ok (.iconst 1, 1) := by decide +kernel
theorem dX7_film_30 : decode cX7_film 30 = .ok (.iaload, 1) := by decide +kernel
theorem dX7_film_31 : decode cX7_film 31 = .ok (.invokevirtual 342, 3) := by decide +kernel
theorem dX7_film_34 : decode cX7_film 34 = .ok (.istore 4, 2) := by decide +kernel
theorem dX7_film_36 : decode cX7_film 36 = .ok (.iload 4, 2) := by decide +kernel
theorem dX7_film_38 : decode cX7_film 38 = .ok (.ifCond .ge 6, 3) := by decide +kernel
theorem dX7_film_41 : decode cX7_film 41 = .ok (.iload 4, 2) := by decide +kernel
theorem dX7_film_43 : decode cX7_film 43 = .ok (.ireturn, 1) := by decide +kernel
theorem dX7_film_44 : decode cX7_film 44 = .ok (.aload_n 0, 1) := by decide +kernel
theorem dX7_film_45 : decode cX7_film 45 = .ok (.invokevirtual 232, 3) := by decide +kernel
theorem dX7_film_48 : decode cX7_film 48 = .ok (.iconst 0, 1) := by decide +kernel
theorem dX7_film_49 : decode cX7_film 49 = .ok (.istore 5, 2) := by decide +kernel
theorem dX7_film_51 : decode cX7_film 51 = .ok (.iload 5, 2) := by decide +kernel
theorem dX7_film_53 : decode cX7_film 53 = .ok (.aload_n 0, 1) := by decide +kernel
theorem dX7_film_54 : decode cX7_film 54 = .ok (.getfield 7, 3) := by decide +kernel
theorem dX7_film_57 : decode cX7_film 57 = .ok (.iconst 1, 1) := by decide +kernel
theorem dX7_film_58 : decode cX7_film 58 = .ok (.iaload, 1) := by decide +kernel
theorem dX7_film_59 : decode cX7_film 59 = .ok (.if_icmp .ge 41, 3) := by decide +kernel
theorem dX7_film_62 : decode cX7_film 62 = .ok (.aload_n 0, 1) := by decide +kernel
theorem dX7_film_63 : decode cX7_film 63 = .ok (.getfield 35, 3) := by decide +kernel
theorem dX7_film_66 : decode cX7_film 66 = .ok (.bipush 24, 2) := by decide +kernel
theorem dX7_film_68 : decode cX7_film 68 = .ok (.iload_n 1, 1) := by decide +kernel
theorem dX7_film_69 : decode cX7_film 69 = .ok (.imul, 1) := by decide +kernel
theorem dX7_film_70 : decode cX7_film 70 = .ok (.iload_n 3, 1) := by decide +kernel
theorem dX7_film_71 : decode cX7_film 71 = .ok (.iadd, 1) := by decide +kernel
theorem dX7_film_72 : decode cX7_film 72 = .ok (.iload 5, 2) := by decide +kernel
theorem dX7_film_74 : decode cX7_film 74 = .ok (.iadd, 1) := by decide +kernel
theorem dX7_film_75 : decode cX7_film 75 = .ok (.aload_n 0, 1) := by decide +kernel
theorem dX7_film_76 : decode cX7_film 76 = .ok (.iload 5, 2) := by decide +kernel
theorem dX7_film_78 : decode cX7_film 78 = .ok (.invokevirtual 244, 3) := by decide +kernel
theorem dX7_film_81 : decode cX7_film 81 = .ok (.invokestatic 94, 3) := by decide +kernel
theorem dX7_film_84 : decode cX7_film 84 = .ok (.aload_n 0, 1) := by decide +kernel
theorem dX7_film_85 : decode cX7_film 85 = .ok (.getfield 198, 3) := by decide +kernel
theorem dX7_film_88 : decode cX7_film 88 = .ok (.invokestatic 94, 3) := by decide +kernel
theorem dX7_film_91 : decode cX7_film 91 = .ok (.imul, 1) := by decide +kernel
theorem dX7_film_92 : decode cX7_film 92 = .ok (.i2l, 1) := by decide +kernel
theorem dX7_film_93 : decode cX7_film 93 = .ok (.lastore, 1) := by decide +kernel
theorem dX7_film_94 : decode cX7_film 94 = .ok (.iinc 5 1, 3) := by decide +kernel
theorem dX7_film_97 : decode cX7_film 97 = .ok (.goto (-46), 3) := by decide +kernel
theorem dX7_film_100 : decode cX7_film 100 = .ok (.aload_n 0, 1) := by decide +kernel
theorem dX7_film_101 : decode cX7_film 101 = .ok (.getfield 7, 3) := by decide +kernel
theorem dX7_film_104 : decode cX7_film 104 = .ok (.iconst 1, 1) := by decide +kernel
theorem dX7_film_105 : decode cX7_film 105 = .ok (.iaload, 1) := by decide +kernel
theorem dX7_film_106 : decode cX7_film 106 = .ok (.ireturn, 1) := by decide +kernel
theorem dX7_sheet_0 : decode cX7_sheet 0 = .ok (.iload_n 1, 1) := by decide +kernel
theorem dX7_sheet_1 : decode cX7_sheet 1 = .ok (.invokestatic 339, 3) := by decide +kernel
theorem dX7_sheet_4 : decode cX7_sheet 4 = .ok (.ifCond .eq 21, 3) := by decide +kernel
theorem dX7_sheet_7 : decode cX7_sheet 7 = .ok (.iload_n 2, 1) := by decide +kernel
theorem dX7_sheet_8 : decode cX7_sheet 8 = .ok (.i2l, 1) := by decide +kernel
theorem dX7_sheet_9 : decode cX7_sheet 9 = .ok (.lconst 0, 1) := by decide +kernel
theorem dX7_sheet_10 : decode cX7_sheet 10 = .ok (.ldc2_w 337, 3) := by decide +kernel
theorem dX7_sheet_13 : decode cX7_sheet 13 = .ok (.invokestatic 79, 3) := by decide +kernel
theorem dX7_sheet_16 : decode cX7_sheet 16 = .ok (.ifCond .eq 9, 3) := by decide +kernel
theorem dX7_sheet_19 : decode cX7_sheet 19 = .ok (.iload_n 3, 1) := by decide +kernel
theorem dX7_sheet_20 : decode cX7_sheet 20 = .ok (.bipush 24, 2) := by decide +kernel
theorem dX7_sheet_22 : decode cX7_sheet 22 = .ok (.if_icmp .le 5, 3) := by decide +kernel
theorem dX7_sheet_25 : decode cX7_sheet 25 = .ok (.iconst (-1), 1) := by decide +kernel
theorem dX7_sheet_26 : decode cX7_sheet 26 = .ok (.ireturn, 1) := by decide +kernel
theorem dX7_sheet_27 : decode cX7_sheet 27 = .ok (.iload_n 3, 1) := by decide +kernel
theorem dX7_sheet_28 : decode cX7_sheet 28 = .ok (.ifCond .ge 6, 3) := by decide +kernel
theorem dX7_sheet_31 : decode cX7_sheet 31 = .ok (.bipush (-14), 2) := by decide +kernel
theorem dX7_sheet_33 : decode cX7_sheet 33 = .ok (.ireturn, 1) := by decide +kernel
theorem dX7_sheet_34 : decode cX7_sheet 34 = .ok (.aload_n 0, 1) := by decide +kernel
theorem dX7_sheet_35 : decode cX7_sheet 35 = .ok (.getfield 29, 3) := by decide +kernel
theorem dX7_sheet_38 : decode cX7_sheet 38 = .ok (.iload_n 1, 1) := by decide +kernel
theorem dX7_sheet_39 : decode cX7_sheet 39 = .ok (.iload_n 2, 1) := by decide +kernel
theorem dX7_sheet_40 : decode cX7_sheet 40 = .ok (.iastore, 1) := by decide +kernel
theorem dX7_sheet_41 : decode cX7_sheet 41 = .ok (.aload_n 0, 1) := by decide +kernel
theorem dX7_sheet_42 : decode cX7_sheet 42 = .ok (.getfield 32, 3) := by decide +kernel
theorem dX7_sheet_45 : decode cX7_sheet 45 = .ok (.iload_n 1, 1) := by decide +kernel
theorem dX7_sheet_46 : decode cX7_sheet 46 = .ok (.iload_n 3, 1) := by decide +kernel
theorem dX7_sheet_47 : decode cX7_sheet 47 = .ok (.iastore, 1) := by decide +kernel
theorem dX7_sheet_48 : decode cX7_sheet 48 = .ok (.iconst 0, 1) := by decide +kernel
theorem dX7_sheet_49 : decode cX7_sheet 49 = .ok (.istore 4, 2) := by decide +kernel
theorem dX7_sheet_51 : decode cX7_sheet 51 = .ok (.iload 4, 2) := by decide +kernel
theorem dX7_sheet_53 : decode cX7_sheet 53 = .ok (.bipush 24, 2) := by decide +kernel
theorem dX7_sheet_55 : decode cX7_sheet 55 = .ok (.if_icmp .ge 22, 3) := by decide +kernel
theorem dX7_sheet_58 : decode cX7_sheet 58 = .ok (.aload_n 0, 1) := by decide +kernel
theorem dX7_sheet_59 : decode cX7_sheet 59 = .ok (.getfield 35, 3) := by decide +kernel
theorem dX7_sheet_62 : decode cX7_sheet 62 = .ok (.bipush 24, 2) := by decide +kernel
theorem dX7_sheet_64 : decode cX7_sheet 64 = .ok (.iload_n 1, 1) := by decide +kernel
theorem dX7_sheet_65 : decode cX7_sheet 65 = .ok (.imul, 1) := by decide +kernel
theorem dX7_sheet_66 : decode cX7_sheet 66 = .ok (.iload 4, 2) := by decide +kernel
theorem dX7_sheet_68 : decode cX7_sheet 68 = .ok (.iadd, 1) := by decide +kernel
theorem dX7_sheet_69 : decode cX7_sheet 69 = .ok (.lconst 0, 1) := by decide +kernel
theorem dX7_sheet_70 : decode cX7_sheet 70 = .ok (.lastore, 1) := by decide +kernel
theorem dX7_sheet_71 : decode cX7_sheet 71 = .ok (.iinc 4 1, 3) := by decide +kernel
theorem dX7_sheet_74 : decode cX7_sheet 74 = .ok (.goto (-23), 3) := by decide +kernel
theorem dX7_sheet_77 : decode cX7_sheet 77 = .ok (.iload_n 3, 1) := by decide +kernel
theorem dX7_sheet_78 : decode cX7_sheet 78 = .ok (.ireturn, 1) := by decide +kernel
theorem dX7_drop_0 : decode cX7_drop 0 = .ok (.iload_n 1, 1) := by decide +kernel
theorem dX7_drop_1 : decode cX7_drop 1 = .ok (.invokestatic 339, 3) := by decide +kernel
theorem dX7_drop_4 : decode cX7_drop 4 = .ok (.ifCond .ne 5, 3) := by decide +kernel
theorem dX7_drop_7 : decode cX7_drop 7 = .ok (.iconst (-1), 1) := by decide +kernel
theorem dX7_drop_8 : decode cX7_drop 8 = .ok (.ireturn, 1) := by decide +kernel
theorem dX7_drop_9 : decode cX7_drop 9 = .ok (.aload_n 0, 1) := by decide +kernel
theorem dX7_drop_10 : decode cX7_drop 10 = .ok (.getfield 29, 3) := by decide +kernel
theorem dX7_drop_13 : decode cX7_drop 13 = .ok (.iload_n 1, 1) := by decide +kernel
theorem dX7_drop_14 : decode cX7_drop 14 = .ok (.iaload, 1) := by decide +kernel
theorem dX7_drop_15 : decode cX7_drop 15 = .ok (.ifCond .ge 6, 3) := by decide +kernel
theorem dX7_drop_18 : decode cX7_drop 18 = .ok (.bipush (-11), 2) := by decide +kernel
theorem dX7_drop_20 : decode cX7_drop 20 = .ok (.ireturn, 1) := by decide +kernel
theorem dX7_drop_21 : decode cX7_drop 21 = .ok (.aload_n 0, 1) := by decide +kernel
theorem dX7_drop_22 : decode cX7_drop 22 = .ok (.getfield 29, 3) := by decide +kernel
theorem dX7_drop_25 : decode cX7_drop 25 = .ok (.iload_n 1, 1) := by decide +kernel
theorem dX7_drop_26 : decode cX7_drop 26 = .ok (.iconst (-1), 1) := by decide +kernel
theorem dX7_drop_27 : decode cX7_drop 27 = .ok (.iastore, 1) := by decide +kernel
theorem dX7_drop_28 : decode cX7_drop 28 = .ok (.aload_n 0, 1) := by decide +kernel
theorem dX7_drop_29 : decode cX7_drop 29 = .ok (.getfield 32, 3) := by decide +kernel
theorem dX7_drop_32 : decode cX7_drop 32 = .ok (.iload_n 1, 1) := by decide +kernel
theorem dX7_drop_33 : decode cX7_drop 33 = .ok (.iaload, 1) := by decide +kernel
theorem dX7_drop_34 : decode cX7_drop 34 = .ok (.ireturn, 1) := by decide +kernel
theorem dX7_item_0 : decode cX7_item 0 = .ok (.iload_n 1, 1) := by decide +kernel
theorem dX7_item_1 : decode cX7_item 1 = .ok (.invokestatic 339, 3) := by decide +kernel
theorem dX7_item_4 : decode cX7_item 4 = .ok (.ifCond .eq 15, 3) := by decide +kernel
theorem dX7_item_7 : decode cX7_item 7 = .ok (.iload_n 2, 1) := by decide +kernel
theorem dX7_item_8 : decode cX7_item 8 = .ok (.i2l, 1) := by decide +kernel
theorem dX7_item_9 : decode cX7_item 9 = .ok (.lconst 0, 1) := by decide +kernel
theorem dX7_item_10 : decode cX7_item 10 = .ok (.ldc2_w 337, 3) := by decide +kernel
theorem dX7_item_13 : decode cX7_item 13 = .ok (.invokestatic 79, 3) := by decide +kernel
theorem dX7_item_16 : decode cX7_item 16 = .ok (.ifCond .ne 5, 3) := by decide +kernel
theorem dX7_item_19 : decode cX7_item 19 = .ok (.iconst (-1), 1) := by decide +kernel
theorem dX7_item_20 : decode cX7_item 20 = .ok (.ireturn, 1) := by decide +kernel
theorem dX7_item_21 : decode cX7_item 21 = .ok (.aload_n 0, 1) := by decide +kernel
theorem dX7_item_22 : decode cX7_item 22 = .ok (.iload_n 1, 1) := by decide +kernel
theorem dX7_item_23 : decode cX7_item 23 = .ok (.iload_n 2, 1) := by decide +kernel
theorem dX7_item_24 : decode cX7_item 24 = .ok (.iload_n 3, 1) := by decide +kernel
theorem dX7_item_25 : decode cX7_item 25 = .ok (.iconst 1, 1) := by decide +kernel
theorem dX7_item_26 : decode cX7_item 26 = .ok (.invokevirtual 342, 3) := by decide +kernel
theorem dX7_item_29 : decode cX7_item 29 = .ok (.istore 6, 2) := by decide +kernel
theorem dX7_item_31 : decode cX7_item 31 = .ok (.iload 6, 2) := by decide +kernel
theorem dX7_item_33 : decode cX7_item 33 = .ok (.ifCond .ge 6, 3) := by decide +kernel
theorem dX7_item_36 : decode cX7_item 36 = .ok (.iload 6, 2) := by decide +kernel
theorem dX7_item_38 : decode cX7_item 38 = .ok (.ireturn, 1) := by decide +kernel
theorem dX7_item_39 : decode cX7_item 39 = .ok (.aload_n 0, 1) := by decide +kernel
theorem dX7_item_40 : decode cX7_item 40 = .ok (.getfield 35, 3) := by decide +kernel
theorem dX7_item_43 : decode cX7_item 43 = .ok (.bipush 24, 2) := by decide +kernel
theorem dX7_item_45 : decode cX7_item 45 = .ok (.iload_n 1, 1) := by decide +kernel
theorem dX7_item_46 : decode cX7_item 46 = .ok (.imul, 1) := by decide +kernel
theorem dX7_item_47 : decode cX7_item 47 = .ok (.iload_n 3, 1) := by decide +kernel
theorem dX7_item_48 : decode cX7_item 48 = .ok (.iadd, 1) := by decide +kernel
theorem dX7_item_49 : decode cX7_item 49 = .ok (.iload_n 2, 1) := by decide +kernel
theorem dX7_item_50 : decode cX7_item 50 = .ok (.lload 4, 2) := by decide +kernel
theorem dX7_item_52 : decode cX7_item 52 = .ok (.invokestatic 355, 3) := by decide +kernel
theorem dX7_item_55 : decode cX7_item 55 = .ok (.lastore, 1) := by decide +kernel
theorem dX7_item_56 : decode cX7_item 56 = .ok (.iconst 1, 1) := by decide +kernel
theorem dX7_item_57 : decode cX7_item 57 = .ok (.ireturn, 1) := by decide +kernel
theorem dX7_copy_0 : decode cX7_copy 0 = .ok (.iload_n 1, 1) := by decide +kernel
theorem dX7_copy_1 : decode cX7_copy 1 = .ok (.invokestatic 339, 3) := by decide +kernel
theorem dX7_copy_4 : decode cX7_copy 4 = .ok (.ifCond .eq 10, 3) := by decide +kernel
theorem dX7_copy_7 : decode cX7_copy 7 = .ok (.iload_n 3, 1) := by decide +kernel
theorem dX7_copy_8 : decode cX7_copy 8 = .ok (.invokestatic 339, 3) := by decide +kernel
theorem dX7_copy_11 : decode cX7_copy 11 = .ok (.ifCond .ne 5, 3) := by decide +kernel
theorem dX7_copy_14 : decode cX7_copy 14 = .ok (.iconst (-1), 1) := by decide +kernel
theorem dX7_copy_15 : decode cX7_copy 15 = .ok (.ireturn, 1) := by decide +kernel
theorem dX7_copy_16 : decode cX7_copy 16 = .ok (.aload_n 0, 1) := by decide +kernel
theorem dX7_copy_17 : decode cX7_copy 17 = .ok (.getfield 29, 3) := by decide +kernel
theorem dX7_copy_20 : decode cX7_copy 20 = .ok (.iload_n 1, 1) := by decide +kernel
theorem dX7_copy_21 : decode cX7_copy 21 = .ok (.iaload, 1) := by decide +kernel
theorem dX7_copy_22 : decode cX7_copy 22 = .ok (.ifCond .lt 12, 3) := by decide +kernel
theorem dX7_copy_25 : decode cX7_copy 25 = .ok (.aload_n 0, 1) := by decide +kernel
theorem dX7_copy_26 : decode cX7_copy 26 = .ok (.getfield 29, 3) := by decide +kernel
theorem dX7_copy_29 : decode cX7_copy 29 = .ok (.iload_n 3, 1) := by decide +kernel
theorem dX7_copy_30 : decode cX7_copy 30 = .ok (.iaload, 1) := by decide +kernel
theorem dX7_copy_31 : decode cX7_copy 31 = .ok (.ifCond .ge 6, 3) := by decide +kernel
theorem dX7_copy_34 : decode cX7_copy 34 = .ok (.bipush (-11), 2) := by decide +kernel
theorem dX7_copy_36 : decode cX7_copy 36 = .ok (.ireturn, 1) := by decide +kernel
theorem dX7_copy_37 : decode cX7_copy 37 = .ok (.aload_n 0, 1) := by decide +kernel
theorem dX7_copy_38 : decode cX7_copy 38 = .ok (.getfield 29, 3) := by decide +kernel
theorem dX7_copy_41 : decode cX7_copy 41 = .ok (.iload_n 1, 1) := by decide +kernel
theorem dX7_copy_42 : decode cX7_copy 42 = .ok (.iaload, 1) := by decide +kernel
theorem dX7_copy_43 : decode cX7_copy 43 = .ok (.aload_n 0, 1) := by decide +kernel
theorem dX7_copy_44 : decode cX7_copy 44 = .ok (.getfield 29, 3) := by decide +kernel
theorem dX7_copy_47 : decode cX7_copy 47 = .ok (.iload_n 3, 1) := by decide +kernel
theorem dX7_copy_48 : decode cX7_copy 48 = .ok (.iaload, 1) := by decide +kernel
theorem dX7_copy_49 : decode cX7_copy 49 = .ok (.if_icmp .eq 6, 3) := by decide +kernel
theorem dX7_copy_52 : decode cX7_copy 52 = .ok (.bipush (-12), 2) := by decide +kernel
theorem dX7_copy_54 : decode cX7_copy 54 = .ok (.ireturn, 1) := by decide +kernel
theorem dX7_copy_55 : decode cX7_copy 55 = .ok (.iload 5, 2) := by decide +kernel
theorem dX7_copy_57 : decode cX7_copy 57 = .ok (.ifCond .lt 39, 3) := by decide +kernel
theorem dX7_copy_60 : decode cX7_copy 60 = .ok (.iload_n 2, 1) := by decide +kernel
theorem dX7_copy_61 : decode cX7_copy 61 = .ok (.ifCond .lt 35, 3) := by decide +kernel
theorem dX7_copy_64 : decode cX7_copy 64 = .ok (.iload 4, 2) := by decide +kernel
theorem dX7_copy_66 : decode cX7_copy 66 = .ok (.ifCond .lt 30, 3) := by decide +kernel
theorem dX7_copy_69 : decode cX7_copy 69 = .ok (.iload 5, 2) := by decide +kernel
theorem dX7_copy_71 : decode cX7_copy 71 = .ok (.aload_n 0, 1) := by decide +kernel
theorem dX7_copy_72 : decode cX7_copy 72 = .ok (.getfield 32, 3) := by decide +kernel
theorem dX7_copy_75 : decode cX7_copy 75 = .ok (.iload_n 1, 1) := by decide +kernel
theorem dX7_copy_76 : decode cX7_copy 76 = .ok (.iaload, 1) := by decide +kernel
theorem dX7_copy_77 : decode cX7_copy 77 = .ok (.iload_n 2, 1) := by decide +kernel
theorem dX7_copy_78 : decode cX7_copy 78 = .ok (.isub, 1) := by decide +kernel
theorem dX7_copy_79 : decode cX7_copy 79 = .ok (.if_icmp .gt 17, 3) := by decide +kernel
theorem dX7_copy_82 : decode cX7_copy 82 = .ok (.iload 5, 2) := by decide +kernel
theorem dX7_copy_84 : decode cX7_copy 84 = .ok (.aload_n 0, 1) := by decide +kernel
theorem dX7_copy_85 : decode cX7_copy 85 = .ok (.getfield 32, 3) := by decide +kernel
theorem dX7_copy_88 : decode cX7_copy 88 = .ok (.iload_n 3, 1) := by decide +kernel
theorem dX7_copy_89 : decode cX7_copy 89 = .ok (.iaload, 1) := by decide +kernel
theorem dX7_copy_90 : decode cX7_copy 90 = .ok (.iload 4, 2) := by decide +kernel
theorem dX7_copy_92 : decode cX7_copy 92 = .ok (.isub, 1) := by decide +kernel
theorem dX7_copy_93 : decode cX7_copy 93 = .ok (.if_icmp .le 6, 3) := by decide +kernel
theorem dX7_copy_96 : decode cX7_copy 96 = .ok (.bipush (-13), 2) := by decide +kernel
theorem dX7_copy_98 : decode cX7_copy 98 = .ok (.ireturn, 1) := by decide +kernel
theorem dX7_copy_99 : decode cX7_copy 99 = .ok (.iconst 0, 1) := by decide +kernel
theorem dX7_copy_100 : decode cX7_copy 100 = .ok (.istore 6, 2) := by decide +kernel
theorem dX7_copy_102 : decode cX7_copy 102 = .ok (.iload 6, 2) := by decide +kernel
theorem dX7_copy_104 : decode cX7_copy 104 = .ok (.iload 5, 2) := by decide +kernel
theorem dX7_copy_106 : decode cX7_copy 106 = .ok (.if_icmp .ge 30, 3) := by decide +kernel
theorem dX7_copy_109 : decode cX7_copy 109 = .ok (.aload_n 0, 1) := by decide +kernel
theorem dX7_copy_110 : decode cX7_copy 110 = .ok (.getfield 39, 3) := by decide +kernel
theorem dX7_copy_113 : decode cX7_copy 113 = .ok (.iload 6, 2) := by decide +kernel
theorem dX7_copy_115 : decode cX7_copy 115 = .ok (.aload_n 0, 1) := by decide +kernel
theorem dX7_copy_116 : decode cX7_copy 116 = .ok (.getfield 35, 3) := by decide +kernel
theorem dX7_copy_119 : decode cX7_copy 119 = .ok (.bipush 24, 2) := by decide +kernel
theorem dX7_copy_121 : decode cX7_copy 121 = .ok (.iload_n 1, 1) := by decide +kernel
theorem dX7_copy_122 : decode cX7_copy 122 = .ok (.imul, 1) := by decide +kernel
theorem dX7_copy_123 : decode cX7_copy 123 = .ok (.iload_n 2, 1) := by decide +kernel
theorem dX7_copy_124 : decode cX7_copy 124 = .ok (.iadd, 1) := by decide +kernel
theorem dX7_copy_125 : decode cX7_copy 125 = .ok (.iload 6, 2) := by decide +kernel
theorem dX7_copy_127 : decode cX7_copy 127 = .ok (.iadd, 1) := by decide +kernel
theorem dX7_copy_128 : decode cX7_copy 128 = .ok (.laload, 1) := by decide +kernel
theorem dX7_copy_129 : decode cX7_copy 129 = .ok (.lastore, 1) := by decide +kernel
theorem dX7_copy_130 : decode cX7_copy 130 = .ok (.iinc 6 1, 3) := by decide +kernel
theorem dX7_copy_133 : decode cX7_copy 133 = .ok (.goto (-31), 3) := by decide +kernel
theorem dX7_copy_136 : decode cX7_copy 136 = .ok (.iconst 0, 1) := by decide +kernel
theorem dX7_copy_137 : decode cX7_copy 137 = .ok (.istore 6, 2) := by decide +kernel
theorem dX7_copy_139 : decode cX7_copy 139 = .ok (.iload 6, 2) := by decide +kernel
theorem dX7_copy_141 : decode cX7_copy 141 = .ok (.iload 5, 2) := by decide +kernel
theorem dX7_copy_143 : decode cX7_copy 143 = .ok (.if_icmp .ge 31, 3) := by decide +kernel
theorem dX7_copy_146 : decode cX7_copy 146 = .ok (.aload_n 0, 1) := by decide +kernel
theorem dX7_copy_147 : decode cX7_copy 147 = .ok (.getfield 35, 3) := by decide +kernel
theorem dX7_copy_150 : decode cX7_copy 150 = .ok (.bipush 24, 2) := by decide +kernel
theorem dX7_copy_152 : decode cX7_copy 152 = .ok (.iload_n 3, 1) := by decide +kernel
theorem dX7_copy_153 : decode cX7_copy 153 = .ok (.imul, 1) := by decide +kernel
theorem dX7_copy_154 : decode cX7_copy 154 = .ok (.iload 4, 2) := by decide +kernel
theorem dX7_copy_156 : decode cX7_copy 156 = .ok (.iadd, 1) := by decide +kernel
theorem dX7_copy_157 : decode cX7_copy 157 = .ok (.iload 6, 2) := by decide +kernel
theorem dX7_copy_159 : decode cX7_copy 159 = .ok (.iadd, 1) := by decide +kernel
theorem dX7_copy_160 : decode cX7_copy 160 = .ok (.aload_n 0, 1) := by decide +kernel
theorem dX7_copy_161 : decode cX7_copy 161 = .ok (.getfield 39, 3) := by decide +kernel
theorem dX7_copy_164 : decode cX7_copy 164 = .ok (.iload 6, 2) := by decide +kernel
theorem dX7_copy_166 : decode cX7_copy 166 = .ok (.laload, 1) := by decide +kernel
theorem dX7_copy_167 : decode cX7_copy 167 = .ok (.lastore, 1) := by decide +kernel
theorem dX7_copy_168 : decode cX7_copy 168 = .ok (.iinc 6 1, 3) := by decide +kernel
theorem dX7_copy_171 : decode cX7_copy 171 = .ok (.goto (-32), 3) := by decide +kernel
theorem dX7_copy_174 : decode cX7_copy 174 = .ok (.iload 5, 2) := by decide +kernel
theorem dX7_copy_176 : decode cX7_copy 176 = .ok (.ireturn, 1) := by decide +kernel
theorem dJ9_abs_0f7a4_0 : decode cJ9_abs_0f7a4 0 = .ok (.iload_n 0, 1) := by decide +kernel
theorem dJ9_abs_0f7a4_1 : decode cJ9_abs_0f7a4 1 = .ok (.ifCond .ge 8, 3) := by decide +kernel
theorem dJ9_abs_0f7a4_4 : decode cJ9_abs_0f7a4 4 = .ok (.iload_n 0, 1) := by decide +kernel
theorem dJ9_abs_0f7a4_5 : decode cJ9_abs_0f7a4 5 = .ok (.ineg, 1) := by decide +kernel
theorem dJ9_abs_0f7a4_6 : decode cJ9_abs_0f7a4 6 = .ok (.goto 4, 3) := by decide +kernel
theorem dJ9_abs_0f7a4_9 : decode cJ9_abs_0f7a4 9 = .ok (.iload_n 0, 1) := by decide +kernel
theorem dJ9_abs_0f7a4_10 : decode cJ9_abs_0f7a4 10 = .ok (.ireturn, 1) := by decide +kernel
theorem dJ9_abs_067f4_0 : decode cJ9_abs_067f4 0 = .ok (.lload_n 0, 1) := by decide +kernel
theorem dJ9_abs_067f4_1 : decode cJ9_abs_067f4 1 = .ok (.lconst 0, 1) := by decide +kernel
theorem dJ9_abs_067f4_2 : decode cJ9_abs_067f4 2 = .ok (.lcmp, 1) := by decide +kernel
theorem dJ9_abs_067f4_3 : decode cJ9_abs_067f4 3 = .ok (.ifCond .ge 8, 3) := by decide +kernel
theorem dJ9_abs_067f4_6 : decode cJ9_abs_067f4 6 = .ok (.lload_n 0, 1) := by decide +kernel
theorem dJ9_abs_067f4_7 : decode cJ9_abs_067f4 7 = .ok (.lneg, 1) := by decide +kernel
theorem dJ9_abs_067f4_8 : decode cJ9_abs_067f4 8 = .ok (.goto 4, 3) := by decide +kernel
theorem dJ9_abs_067f4_11 : decode cJ9_abs_067f4 11 = .ok (.lload_n 0, 1) := by decide +kernel
theorem dJ9_abs_067f4_12 : decode cJ9_abs_067f4 12 = .ok (.lreturn, 1) := by decide +kernel
theorem dJ9_max_7cf53_0 : decode cJ9_max_7cf53 0 = .ok (.iload_n 0, 1) := by decide +kernel
theorem dJ9_max_7cf53_1 : decode cJ9_max_7cf53 1 = .ok (.iload_n 1, 1) := by decide +kernel
theorem dJ9_max_7cf53_2 : decode cJ9_max_7cf53 2 = .ok (.if_icmp .lt 7, 3) := by decide +kernel
theorem dJ9_max_7cf53_5 : decode cJ9_max_7cf53 5 = .ok (.iload_n 0, 1) := by decide +kernel
theorem dJ9_max_7cf53_6 : decode cJ9_max_7cf53 6 = .ok (.goto 4, 3) := by decide +kernel
theorem dJ9_max_7cf53_9 : decode cJ9_max_7cf53 9 = .ok (.iload_n 1, 1) := by decide +kernel
theorem dJ9_max_7cf53_10 : decode cJ9_max_7cf53 10 = .ok (.ireturn, 1) := by decide +kernel
theorem dJ9_max_f86c9_0 : decode cJ9_max_f86c9 0 = .ok (.lload_n 0, 1) := by decide +kernel
theorem dJ9_max_f86c9_1 : decode cJ9_max_f86c9 1 = .ok (.lload_n 2, 1) := by decide +kernel
theorem dJ9_max_f86c9_2 : decode cJ9_max_f86c9 2 = .ok (.lcmp, 1) := by decide +kernel
theorem dJ9_max_f86c9_3 : decode cJ9_max_f86c9 3 = .ok (.ifCond .lt 7, 3) := by decide +kernel
theorem dJ9_max_f86c9_6 : decode cJ9_max_f86c9 6 = .ok (.lload_n 0, 1) := by decide +kernel
theorem dJ9_max_f86c9_7 : decode cJ9_max_f86c9 7 = .ok (.goto 4, 3) := by decide +kernel
theorem dJ9_max_f86c9_10 : decode cJ9_max_f86c9 10 = .ok (.lload_n 2, 1) := by decide +kernel
theorem dJ9_max_f86c9_11 : decode cJ9_max_f86c9 11 = .ok (.lreturn, 1) := by decide +kernel
theorem dJ9_min_7cf53_0 : decode cJ9_min_7cf53 0 = .ok (.iload_n 0, 1) := by decide +kernel
theorem dJ9_min_7cf53_1 : decode cJ9_min_7cf53 1 = .ok (.iload_n 1, 1) := by decide +kernel
theorem dJ9_min_7cf53_2 : decode cJ9_min_7cf53 2 = .ok (.if_icmp .gt 7, 3) := by decide +kernel
theorem dJ9_min_7cf53_5 : decode cJ9_min_7cf53 5 = .ok (.iload_n 0, 1) := by decide +kernel
theorem dJ9_min_7cf53_6 : decode cJ9_min_7cf53 6 = .ok (.goto 4, 3) := by decide +kernel
theorem dJ9_min_7cf53_9 : decode cJ9_min_7cf53 9 = .ok (.iload_n 1, 1) := by decide +kernel
theorem dJ9_min_7cf53_10 : decode cJ9_min_7cf53 10 = .ok (.ireturn, 1) := by decide +kernel
theorem dJ7_fill_d0a16_0 : decode cJ7_fill_d0a16 0 = .ok (.iconst 0, 1) := by decide +kernel
theorem dJ7_fill_d0a16_1 : decode cJ7_fill_d0a16 1 = .ok (.istore_n 3, 1) := by decide +kernel
theorem dJ7_fill_d0a16_2 : decode cJ7_fill_d0a16 2 = .ok (.aload_n 0, 1) := by decide +kernel
theorem dJ7_fill_d0a16_3 : decode cJ7_fill_d0a16 3 = .ok (.arraylength, 1) := by decide +kernel
theorem dJ7_fill_d0a16_4 : decode cJ7_fill_d0a16 4 = .ok (.istore 4, 2) := by decide +kernel
theorem dJ7_fill_d0a16_6 : decode cJ7_fill_d0a16 6 = .ok (.iload_n 3, 1) := by decide +kernel
theorem dJ7_fill_d0a16_7 : decode cJ7_fill_d0a16 7 = .ok (.iload 4, 2) := by decide +kernel
theorem dJ7_fill_d0a16_9 : decode cJ7_fill_d0a16 9 = .ok (.if_icmp .ge 13, 3) := by decide +kernel
theorem dJ7_fill_d0a16_12 : decode cJ7_fill_d0a16 12 = .ok (.aload_n 0, 1) := by decide +kernel
theorem dJ7_fill_d0a16_13 : decode cJ7_fill_d0a16 13 = .ok (.iload_n 3, 1) := by decide +kernel
theorem dJ7_fill_d0a16_14 : decode cJ7_fill_d0a16 14 = .ok (.lload_n 1, 1) := by decide +kernel
theorem dJ7_fill_d0a16_15 : decode cJ7_fill_d0a16 15 = .ok (.lastore, 1) := by decide +kernel
theorem dJ7_fill_d0a16_16 : decode cJ7_fill_d0a16 16 = .ok (.iinc 3 1, 3) := by decide +kernel
theorem dJ7_fill_d0a16_19 : decode cJ7_fill_d0a16 19 = .ok (.goto (-13), 3) := by decide +kernel
theorem dJ7_fill_d0a16_22 : decode cJ7_fill_d0a16 22 = .ok (.return_, 1) := by decide +kernel
theorem dL_law_0 : decode cL_law 0 = .ok (.new 7, 3) := by decide +kernel
theorem dL_law_3 : decode cL_law 3 = .ok (.dup, 1) := by decide +kernel
theorem dL_law_4 : decode cL_law 4 = .ok (.invokespecial 9, 3) := by decide +kernel
theorem dL_law_7 : decode cL_law 7 = .ok (.astore_n 1, 1) := by decide +kernel
theorem dL_law_8 : decode cL_law 8 = .ok (.new 10, 3) := by decide +kernel
theorem dL_law_11 : decode cL_law 11 = .ok (.dup, 1) := by decide +kernel
theorem dL_law_12 : decode cL_law 12 = .ok (.invokespecial 12, 3) := by decide +kernel
theorem dL_law_15 : decode cL_law 15 = .ok (.astore_n 2, 1) := by decide +kernel
theorem dL_law_16 : decode cL_law 16 = .ok (.iconst 0, 1) := by decide +kernel
theorem dL_law_17 : decode cL_law 17 = .ok (.istore_n 3, 1) := by decide +kernel
theorem dL_law_18 : decode cL_law 18 = .ok (.iload_n 3, 1) := by decide +kernel
theorem dL_law_19 : decode cL_law 19 = .ok (.aload_n 0, 1) := by decide +kernel
theorem dL_law_20 : decode cL_law 20 = .ok (.arraylength, 1) := by decide +kernel
theorem dL_law_21 : decode cL_law 21 = .ok (.bipush 6, 2) := by decide +kernel
theorem dL_law_23 : decode cL_law 23 = .ok (.isub, 1) := by decide +kernel
theorem dL_law_24 : decode cL_law 24 = .ok (.if_icmp .gt 1258, 3) := by decide +kernel
theorem dL_law_27 : decode cL_law 27 = .ok (.aload_n 0, 1) := by decide +kernel
theorem dL_law_28 : decode cL_law 28 = .ok (.iload_n 3, 1) := by decide +kernel
theorem dL_law_29 : decode cL_law 29 = .ok (.iaload, 1) := by decide +kernel
theorem dL_law_30 : decode cL_law 30 = .ok (.bipush 63, 2) := by decide +kernel
theorem dL_law_32 : decode cL_law 32 = .ok (.iand, 1) := by decide +kernel
theorem dL_law_33 : decode cL_law 33 = .ok (.tableswitch 1243 0 32 #[147, 180, 223, 246, 279, 302, 335, 368, 401, 424, 468, 502, 536, 559, 592, 625, 648, 692, 736, 770, 824, 847, 860, 883, 896, 919, 932, 945, 988, 1031, 1074, 1097, 1180], 147) := by decide +kernel
theorem dL_law_180 : decode cL_law 180 = .ok (.aload_n 1, 1) := by decide +kernel
theorem dL_law_181 : decode cL_law 181 = .ok (.aload_n 0, 1) := by decide +kernel
theorem dL_law_182 : decode cL_law 182 = .ok (.iload_n 3, 1) := by decide +kernel
theorem dL_law_183 : decode cL_law 183 = .ok (.iconst 1, 1) := by decide +kernel
theorem dL_law_184 : decode cL_law 184 = .ok (.iadd, 1) := by decide +kernel
theorem dL_law_185 : decode cL_law 185 = .ok (.iaload, 1) := by decide +kernel
theorem dL_law_186 : decode cL_law 186 = .ok (.aload_n 0, 1) := by decide +kernel
theorem dL_law_187 : decode cL_law 187 = .ok (.iload_n 3, 1) := by decide +kernel
theorem dL_law_188 : decode cL_law 188 = .ok (.iconst 2, 1) := by decide +kernel
theorem dL_law_189 : decode cL_law 189 = .ok (.iadd, 1) := by decide +kernel
theorem dL_law_190 : decode cL_law 190 = .ok (.iaload, 1) := by decide +kernel
theorem dL_law_191 : decode cL_law 191 = .ok (.invokevirtual 13, 3) := by decide +kernel
theorem dL_law_194 : decode cL_law 194 = .ok (.aload_n 2, 1) := by decide +kernel
theorem dL_law_195 : decode cL_law 195 = .ok (.aload_n 0, 1) := by decide +kernel
theorem dL_law_196 : decode cL_law 196 = .ok (.iload_n 3, 1) := by decide +kernel
theorem dL_law_197 : decode cL_law 197 = .ok (.iconst 1, 1) := by decide +kernel
theorem dL_law_198 : decode cL_law 198 = .ok (.iadd, 1) := by decide +kernel
theorem dL_law_199 : decode cL_law 199 = .ok (.iaload, 1) := by decide +kernel
theorem dL_law_200 : decode cL_law 200 = .ok (.aload_n 0, 1) := by decide +kernel
theorem dL_law_201 : decode cL_law 201 = .ok (.iload_n 3, 1) := by decide +kernel
theorem dL_law_202 : decode cL_law 202 = .ok (.iconst 2, 1) := by decide +kernel
theorem dL_law_203 : decode cL_law 203 = .ok (.iadd, 1) := by decide +kernel
theorem dL_law_204 : decode cL_law 204 = .ok (.iaload, 1) := by decide +kernel
theorem dL_law_205 : decode cL_law 205 = .ok (.invokevirtual 17, 3) := by decide +kernel
theorem dL_law_208 : decode cL_law 208 = .ok (.if_icmp .eq 1068, 3) := by decide +kernel
theorem dL_law_211 : decode cL_law 211 = .ok (.iconst 0, 1) := by decide +kernel
theorem dL_law_212 : decode cL_law 212 = .ok (.ireturn, 1) := by decide +kernel
theorem dL_law_213 : decode cL_law 213 = .ok (.aload_n 1, 1) := by decide +kernel
theorem dL_law_214 : decode cL_law 214 = .ok (.aload_n 0, 1) := by decide +kernel
theorem dL_law_215 : decode cL_law 215 = .ok (.iload_n 3, 1) := by decide +kernel
theorem dL_law_216 : decode cL_law 216 = .ok (.iconst 1, 1) := by decide +kernel
theorem dL_law_217 : decode cL_law 217 = .ok (.iadd, 1) := by decide +kernel
theorem dL_law_218 : decode cL_law 218 = .ok (.iaload, 1) := by decide +kernel
theorem dL_law_219 : decode cL_law 219 = .ok (.aload_n 0, 1) := by decide +kernel
theorem dL_law_220 : decode cL_law 220 = .ok (.iload_n 3, 1) := by decide +kernel
theorem dL_law_221 : decode cL_law 221 = .ok (.iconst 2, 1) := by decide +kernel
theorem dL_law_222 : decode cL_law 222 = .ok (.iadd, 1) := by decide +kernel
theorem dL_law_223 : decode cL_law 223 = .ok (.iaload, 1) := by decide +kernel
theorem dL_law_224 : decode cL_law 224 = .ok (.aload_n 0, 1) := by decide +kernel
theorem dL_law_225 : decode cL_law 225 = .ok (.iload_n 3, 1) := by decide +kernel
theorem dL_law_226 : decode cL_law 226 = .ok (.iconst 3, 1) := by decide +kernel
theorem dL_law_227 : decode cL_law 227 = .ok (.iadd, 1) := by decide +kernel
theorem dL_law_228 : decode cL_law 228 = .ok (.iaload, 1) := by decide +kernel
theorem dL_law_229 : decode cL_law 229 = .ok (.invokevirtual 18, 3) := by decide +kernel
theorem dL_law_232 : decode cL_law 232 = .ok (.aload_n 2, 1) := by decide +kernel
theorem dL_law_233 : decode cL_law 233 = .ok (.aload_n 0, 1) := by decide +kernel
theorem dL_law_234 : decode cL_law 234 = .ok (.iload_n 3, 1) := by decide +kernel
theorem dL_law_235 : decode cL_law 235 = .ok (.iconst 1, 1) := by decide +kernel
theorem dL_law_236 : decode cL_law 236 = .ok (.iadd, 1) := by decide +kernel
theorem dL_law_237 : decode cL_law 237 = .ok (.iaload, 1) := by decide +kernel
theorem dL_law_238 : decode cL_law 238 = .ok (.aload_n 0, 1) := by decide +kernel
theorem dL_law_239 : decode cL_law 239 = .ok (.iload_n 3, 1) := by decide +kernel
theorem dL_law_240 : decode cL_law 240 = .ok (.iconst 2, 1) := by decide +kernel
theorem dL_law_241 : decode cL_law 241 = .ok (.iadd, 1) := by decide +kernel
theorem dL_law_242 : decode cL_law 242 = .ok (.iaload, 1) := by decide +kernel
theorem dL_law_243 : decode cL_law 243 = .ok (.aload_n 0, 1) := by decide +kernel
theorem dL_law_244 : decode cL_law 244 = .ok (.iload_n 3, 1) := by decide +kernel
theorem dL_law_245 : decode cL_law 245 = .ok (.iconst 3, 1) := by decide +kernel
theorem dL_law_246 : decode cL_law 246 = .ok (.iadd, 1) := by decide +kernel
theorem dL_law_247 : decode cL_law 247 = .ok (.iaload, 1) := by decide +kernel
theorem dL_law_248 : decode cL_law 248 = .ok (.invokevirtual 22, 3) := by decide +kernel
theorem dL_law_251 : decode cL_law 251 = .ok (.if_icmp .eq 1025, 3) := by decide +kernel
theorem dL_law_254 : decode cL_law 254 = .ok (.iconst 0, 1) := by decide +kernel
theorem dL_law_255 : decode cL_law 255 = .ok (.ireturn, 1) := by decide +kernel
theorem dL_law_256 : decode cL_law 256 = .ok (.aload_n 1, 1) := by decide +kernel
theorem dL_law_257 : decode cL_law 257 = .ok (.aload_n 0, 1) := by decide +kernel
theorem dL_law_258 : decode cL_law 258 = .ok (.iload_n 3, 1) := by decide +kernel
theorem dL_law_259 : decode cL_law 259 = .ok (.iconst 1, 1) := by decide +kernel
theorem dL_law_260 : decode cL_law 260 = .ok (.iadd, 1) := by decide +kernel
theorem dL_law_261 : decode cL_law 261 = .ok (.iaload, 1) := by decide +kernel
theorem dL_law_262 : decode cL_law 262 = .ok (.invokevirtual 23, 3) := by decide +kernel
theorem dL_law_265 : decode cL_law 265 = .ok (.aload_n 2, 1) := by decide +kernel
theorem dL_law_266 : decode cL_law 266 = .ok (.aload_n 0, 1) := by decide +kernel
theorem dL_law_267 : decode cL_law 267 = .ok (.iload_n 3, 1) := by decide +kernel
theorem dL_law_268 : decode cL_law 268 = .ok (.iconst 1, 1) := by decide +kernel
theorem dL_law_269 : decode cL_law 269 = .ok (.iadd, 1) := by decide +kernel
theorem dL_law_270 : decode cL_law 270 = .ok (.iaload, 1) := by decide +kernel
theorem dL_law_271 : decode cL_law 271 = .ok (.invokevirtual 27, 3) := by decide +kernel
theorem dL_law_274 : decode cL_law 274 = .ok (.if_icmp .eq 1002, 3) := by decide +kernel
theorem dL_law_277 : decode cL_law 277 = .ok (.iconst 0, 1) := by decide +kernel
theorem dL_law_278 : decode cL_law 278 = .ok (.ireturn, 1) := by decide +kernel
theorem dL_law_279 : decode cL_law 279 = .ok (.aload_n 1, 1) := by decide +kernel
theorem dL_law_280 : decode cL_law 280 = .ok (.aload_n 0, 1) := by decide +kernel
theorem dL_law_281 : decode cL_law 281 = .ok (.iload_n 3, 1) := by decide +kernel
theorem dL_law_282 : decode cL_law 282 = .ok (.iconst 1, 1) := by decide +kernel
theorem dL_law_283 : decode cL_law 283 = .ok (.iadd, 1) := by decide +kernel
theorem dL_law_284 : decode cL_law 284 = .ok (.iaload, 1) := by decide +kernel
theorem dL_law_285 : decode cL_law 285 = .ok (.aload_n 0, 1) := by decide +kernel
theorem dL_law_286 : decode cL_law 286 = .ok (.iload_n 3, 1) := by decide +kernel
theorem dL_law_287 : decode cL_law 287 = .ok (.iconst 2, 1) := by decide +kernel
theorem dL_law_288 : decode cL_law 288 = .ok (.iadd, 1) := by decide +kernel
theorem dL_law_289 : decode cL_law 289 = .ok (.iaload, 1) := by decide +kernel
theorem dL_law_290 : decode cL_law 290 = .ok (.invokevirtual 28, 3) := by decide +kernel
theorem dL_law_293 : decode cL_law 293 = .ok (.aload_n 2, 1) := by decide +kernel
theorem dL_law_294 : decode cL_law 294 = .ok (.aload_n 0, 1) := by decide +kernel
theorem dL_law_295 : decode cL_law 295 = .ok (.iload_n 3, 1) := by decide +kernel
theorem dL_law_296 : decode cL_law 296 = .ok (.iconst 1, 1) := by decide +kernel
theorem dL_law_297 : decode cL_law 297 = .ok (.iadd, 1) := by decide +kernel
theorem dL_law_298 : decode cL_law 298 = .ok (.iaload, 1) := by decide +kernel
theorem dL_law_299 : decode cL_law 299 = .ok (.aload_n 0, 1) := by decide +kernel
theorem dL_law_300 : decode cL_law 300 = .ok (.iload_n 3, 1) := by decide +kernel
theorem dL_law_301 : decode cL_law 301 = .ok (.iconst 2, 1) := by decide +kernel
theorem dL_law_302 : decode cL_law 302 = .ok (.iadd, 1) := by decide +kernel
theorem dL_law_303 : decode cL_law 303 = .ok (.iaload, 1) := by decide +kernel
theorem dL_law_304 : decode cL_law 304 = .ok (.invokevirtual 31, 3) := by decide +kernel
theorem dL_law_307 : decode cL_law 307 = .ok (.if_icmp .eq 969, 3) := by decide +kernel
theorem dL_law_310 : decode cL_law 310 = .ok (.iconst 0, 1) := by decide +kernel
theorem dL_law_311 : decode cL_law 311 = .ok (.ireturn, 1) := by decide +kernel
theorem dL_law_312 : decode cL_law 312 = .ok (.aload_n 1, 1) := by decide +kernel
theorem dL_law_313 : decode cL_law 313 = .ok (.aload_n 0, 1) := by decide +kernel
theorem dL_law_314 : decode cL_law 314 = .ok (.iload_n 3, 1) := by decide +kernel
theorem dL_law_315 : decode cL_law 315 = .ok (.iconst 1, 1) := by decide +kernel
theorem dL_law_316 : decode cL_law 316 = .ok (.iadd, 1) := by decide +kernel
theorem dL_law_317 : decode cL_law 317 = .ok (.iaload, 1) := by decide +kernel
theorem dL_law_318 : decode cL_law 318 = .ok (.invokevirtual 32, 3) := by decide +kernel
theorem dL_law_321 : decode cL_law 321 = .ok (.aload_n 2, 1) := by decide +kernel
theorem dL_law_322 : decode cL_law 322 = .ok (.aload_n 0, 1) := by decide +kernel
theorem dL_law_323 : decode cL_law 323 = .ok (.iload_n 3, 1) := by decide +kernel
theorem dL_law_324 : decode cL_law 324 = .ok (.iconst 1, 1) := by decide +kernel
theorem dL_law_325 : decode cL_law 325 = .ok (.iadd, 1) := by decide +kernel
theorem dL_law_326 : decode cL_law 326 = .ok (.iaload, 1) := by decide +kernel
theorem dL_law_327 : decode cL_law 327 = .ok (.invokevirtual 35, 3) := by decide +kernel
theorem dL_law_330 : decode cL_law 330 = .ok (.if_icmp .eq 946, 3) := by decide +kernel
theorem dL_law_333 : decode cL_law 333 = .ok (.iconst 0, 1) := by decide +kernel
theorem dL_law_334 : decode cL_law 334 = .ok (.ireturn, 1) := by decide +kernel
theorem dL_law_335 : decode cL_law 335 = .ok (.aload_n 1, 1) := by decide +kernel
theorem dL_law_336 : decode cL_law 336 = .ok (.aload_n 0, 1) := by decide +kernel
theorem dL_law_337 : decode cL_law 337 = .ok (.iload_n 3, 1) := by decide +kernel
theorem dL_law_338 : decode cL_law 338 = .ok (.iconst 1, 1) := by decide +kernel
theorem dL_law_339 : decode cL_law 339 = .ok (.iadd, 1) := by decide +kernel
theorem dL_law_340 : decode cL_law 340 = .ok (.iaload, 1) := by decide +kernel
theorem dL_law_341 : decode cL_law 341 = .ok (.aload_n 0, 1) := by decide +kernel
theorem dL_law_342 : decode cL_law 342 = .ok (.iload_n 3, 1) := by decide +kernel
theorem dL_law_343 : decode cL_law 343 = .ok (.iconst 2, 1) := by decide +kernel
theorem dL_law_344 : decode cL_law 344 = .ok (.iadd, 1) := by decide +kernel
theorem dL_law_345 : decode cL_law 345 = .ok (.iaload, 1) := by decide +kernel
theorem dL_law_346 : decode cL_law 346 = .ok (.invokevirtual 36, 3) := by decide +kernel
theorem dL_law_349 : decode cL_law 349 = .ok (.aload_n 2, 1) := by decide +kernel
theorem dL_law_350 : decode cL_law 350 = .ok (.aload_n 0, 1) := by decide +kernel
theorem dL_law_351 : decode cL_law 351 = .ok (.iload_n 3, 1) := by decide +kernel
theorem dL_law_352 : decode cL_law 352 = .ok (.iconst 1, 1) := by decide +kernel
theorem dL_law_353 : decode cL_law 353 = .ok (.iadd, 1) := by decide +kernel
theorem dL_law_354 : decode cL_law 354 = .ok (.iaload, 1) := by decide +kernel
theorem dL_law_355 : decode cL_law 355 = .ok (.aload_n 0, 1) := by decide +kernel
theorem dL_law_356 : decode cL_law 356 = .ok (.iload_n 3, 1) := by decide +kernel
theorem dL_law_357 : decode cL_law 357 = .ok (.iconst 2, 1) := by decide +kernel
theorem dL_law_358 : decode cL_law 358 = .ok (.iadd, 1) := by decide +kernel
theorem dL_law_359 : decode cL_law 359 = .ok (.iaload, 1) := by decide +kernel
theorem dL_law_360 : decode cL_law 360 = .ok (.invokevirtual 39, 3) := by decide +kernel
theorem dL_law_363 : decode cL_law 363 = .ok (.if_icmp .eq 913, 3) := by decide +kernel
theorem dL_law_366 : decode cL_law 366 = .ok (.iconst 0, 1) := by decide +kernel
theorem dL_law_367 : decode cL_law 367 = .ok (.ireturn, 1) := by decide +kernel
theorem dL_law_368 : decode cL_law 368 = .ok (.aload_n 1, 1) := by decide +kernel
theorem dL_law_369 : decode cL_law 369 = .ok (.aload_n 0, 1) := by decide +kernel
theorem dL_law_370 : decode cL_law 370 = .ok (.iload_n 3, 1) := by decide +kernel
theorem dL_law_371 : decode cL_law 371 = .ok (.iconst 1, 1) := by decide +kernel
theorem dL_law_372 : decode cL_law 372 = .ok (.iadd, 1) := by decide +kernel
theorem dL_law_373 : decode cL_law 373 = .ok (.iaload, 1) := by decide +kernel
theorem dL_law_374 : decode cL_law 374 = .ok (.aload_n 0, 1) := by decide +kernel
theorem dL_law_375 : decode cL_law 375 = .ok (.iload_n 3, 1) := by decide +kernel
theorem dL_law_376 : decode cL_law 376 = .ok (.iconst 2, 1) := by decide +kernel
theorem dL_law_377 : decode cL_law 377 = .ok (.iadd, 1) := by decide +kernel
theorem dL_law_378 : decode cL_law 378 = .ok (.iaload, 1) := by decide +kernel
theorem dL_law_379 : decode cL_law 379 = .ok (.invokevirtual 40, 3) := by decide +kernel
theorem dL_law_382 : decode cL_law 382 = .ok (.aload_n 2, 1) := by decide +kernel
theorem dL_law_383 : decode cL_law 383 = .ok (.aload_n 0, 1) := by decide +kernel
theorem dL_law_384 : decode cL_law 384 = .ok (.iload_n 3, 1) := by decide +kernel
theorem dL_law_385 : decode cL_law 385 = .ok (.iconst 1, 1) := by decide +kernel
theorem dL_law_386 : decode cL_law 386 = .ok (.iadd, 1) := by decide +kernel
theorem dL_law_387 : decode cL_law 387 = .ok (.iaload, 1) := by decide +kernel
theorem dL_law_388 : decode cL_law 388 = .ok (.aload_n 0, 1) := by decide +kernel
theorem dL_law_389 : decode cL_law 389 = .ok (.iload_n 3, 1) := by decide +kernel
theorem dL_law_390 : decode cL_law 390 = .ok (.iconst 2, 1) := by decide +kernel
theorem dL_law_391 : decode cL_law 391 = .ok (.iadd, 1) := by decide +kernel
theorem dL_law_392 : decode cL_law 392 = .ok (.iaload, 1) := by decide +kernel
theorem dL_law_393 : decode cL_law 393 = .ok (.invokevirtual 43, 3) := by decide +kernel
theorem dL_law_396 : decode cL_law 396 = .ok (.if_icmp .eq 880, 3) := by decide +kernel
theorem dL_law_399 : decode cL_law 399 = .ok (.iconst 0, 1) := by decide +kernel
theorem dL_law_400 : decode cL_law 400 = .ok (.ireturn, 1) := by decide +kernel
theorem dL_law_401 : decode cL_law 401 = .ok (.aload_n 1, 1) := by decide +kernel
theorem dL_law_402 : decode cL_law 402 = .ok (.aload_n 0, 1) := by decide +kernel
theorem dL_law_403 : decode cL_law 403 = .ok (.iload_n 3, 1) := by decide +kernel
theorem dL_law_404 : decode cL_law 404 = .ok (.iconst 1, 1) := by decide +kernel
theorem dL_law_405 : decode cL_law 405 = .ok (.iadd, 1) := by decide +kernel
theorem dL_law_406 : decode cL_law 406 = .ok (.iaload, 1) := by decide +kernel
theorem dL_law_407 : decode cL_law 407 = .ok (.aload_n 0, 1) := by decide +kernel
theorem dL_law_408 : decode cL_law 408 = .ok (.iload_n 3, 1) := by decide +kernel
theorem dL_law_409 : decode cL_law 409 = .ok (.iconst 2, 1) := by decide +kernel
theorem dL_law_410 : decode cL_law 410 = .ok (.iadd, 1) := by decide +kernel
theorem dL_law_411 : decode cL_law 411 = .ok (.iaload, 1) := by decide +kernel
theorem dL_law_412 : decode cL_law 412 = .ok (.invokevirtual 44, 3) := by decide +kernel
theorem dL_law_415 : decode cL_law 415 = .ok (.aload_n 2, 1) := by decide +kernel
theorem dL_law_416 : decode cL_law 416 = .ok (.aload_n 0, 1) := by decide +kernel
theorem dL_law_417 : decode cL_law 417 = .ok (.iload_n 3, 1) := by decide +kernel
theorem dL_law_418 : decode cL_law 418 = .ok (.iconst 1, 1) := by decide +kernel
theorem dL_law_419 : decode cL_law 419 = .ok (.iadd, 1) := by decide +kernel
theorem dL_law_420 : decode cL_law 420 = .ok (.iaload, 1) := by decide +kernel
theorem dL_law_421 : decode cL_law 421 = .ok (.aload_n 0, 1) := by decide +kernel
theorem dL_law_422 : decode cL_law 422 = .ok (.iload_n 3, 1) := by decide +kernel
theorem dL_law_423 : decode cL_law 423 = .ok (.iconst 2, 1) := by decide +kernel
theorem dL_law_424 : decode cL_law 424 = .ok (.iadd, 1) := by decide +kernel
theorem dL_law_425 : decode cL_law 425 = .ok (.iaload, 1) := by decide +kernel
theorem dL_law_426 : decode cL_law 426 = .ok (.invokevirtual 47, 3) := by decide +kernel
theorem dL_law_429 : decode cL_law 429 = .ok (.if_icmp .eq 847, 3) := by decide +kernel
theorem dL_law_432 : decode cL_law 432 = .ok (.iconst 0, 1) := by decide +kernel
theorem dL_law_433 : decode cL_law 433 = .ok (.ireturn, 1) := by decide +kernel
theorem dL_law_434 : decode cL_law 434 = .ok (.aload_n 1, 1) := by decide +kernel
theorem dL_law_435 : decode cL_law 435 = .ok (.aload_n 0, 1) := by decide +kernel
theorem dL_law_436 : decode cL_law 436 = .ok (.iload_n 3, 1) := by decide +kernel
theorem dL_law_437 : decode cL_law 437 = .ok (.iconst 1, 1) := by decide +kernel
theorem dL_law_438 : decode cL_law 438 = .ok (.iadd, 1) := by decide +kernel
theorem dL_law_439 : decode cL_law 439 = .ok (.iaload, 1) := by decide +kernel
theorem dL_law_440 : decode cL_law 440 = .ok (.invokevirtual 48, 3) := by decide +kernel
theorem dL_law_443 : decode cL_law 443 = .ok (.aload_n 2, 1) := by decide +kernel
theorem dL_law_444 : decode cL_law 444 = .ok (.aload_n 0, 1) := by decide +kernel
theorem dL_law_445 : decode cL_law 445 = .ok (.iload_n 3, 1) := by decide +kernel
theorem dL_law_446 : decode cL_law 446 = .ok (.iconst 1, 1) := by decide +kernel
theorem dL_law_447 : decode cL_law 447 = .ok (.iadd, 1) := by decide +kernel
theorem dL_law_448 : decode cL_law 448 = .ok (.iaload, 1) := by decide +kernel
theorem dL_law_449 : decode cL_law 449 = .ok (.invokevirtual 51, 3) := by decide +kernel
theorem dL_law_452 : decode cL_law 452 = .ok (.if_icmp .eq 824, 3) := by decide +kernel
theorem dL_law_455 : decode cL_law 455 = .ok (.iconst 0, 1) := by decide +kernel
theorem dL_law_456 : decode cL_law 456 = .ok (.ireturn, 1) := by decide +kernel
theorem dL_law_457 : decode cL_law 457 = .ok (.aload_n 1, 1) := by decide +kernel
theorem dL_law_458 : decode cL_law 458 = .ok (.aload_n 0, 1) := by decide +kernel
theorem dL_law_459 : decode cL_law 459 = .ok (.iload_n 3, 1) := by decide +kernel
theorem dL_law_460 : decode cL_law 460 = .ok (.iconst 1, 1) := by decide +kernel
theorem dL_law_461 : decode cL_law 461 = .ok (.iadd, 1) := by decide +kernel
theorem dL_law_462 : decode cL_law 462 = .ok (.iaload, 1) := by decide +kernel
theorem dL_law_463 : decode cL_law 463 = .ok (.aload_n 0, 1) := by decide +kernel
theorem dL_law_464 : decode cL_law 464 = .ok (.iload_n 3, 1) := by decide +kernel
theorem dL_law_465 : decode cL_law 465 = .ok (.iconst 2, 1) := by decide +kernel
theorem dL_law_466 : decode cL_law 466 = .ok (.iadd, 1) := by decide +kernel
theorem dL_law_467 : decode cL_law 467 = .ok (.iaload, 1) := by decide +kernel
theorem dL_law_468 : decode cL_law 468 = .ok (.aload_n 0, 1) := by decide +kernel
theorem dL_law_469 : decode cL_law 469 = .ok (.iload_n 3, 1) := by decide +kernel
theorem dL_law_470 : decode cL_law 470 = .ok (.iconst 3, 1) := by decide +kernel
theorem dL_law_471 : decode cL_law 471 = .ok (.iadd, 1) := by decide +kernel
theorem dL_law_472 : decode cL_law 472 = .ok (.iaload, 1) := by decide +kernel
theorem dL_law_473 : decode cL_law 473 = .ok (.invokevirtual 52, 3) := by decide +kernel
theorem dL_law_476 : decode cL_law 476 = .ok (.aload_n 2, 1) := by decide +kernel
theorem dL_law_477 : decode cL_law 477 = .ok (.aload_n 0, 1) := by decide +kernel
theorem dL_law_478 : decode cL_law 478 = .ok (.iload_n 3, 1) := by decide +kernel
theorem dL_law_479 : decode cL_law 479 = .ok (.iconst 1, 1) := by decide +kernel
theorem dL_law_480 : decode cL_law 480 = .ok (.iadd, 1) := by decide +kernel
theorem dL_law_481 : decode cL_law 481 = .ok (.iaload, 1) := by decide +kernel
theorem dL_law_482 : decode cL_law 482 = .ok (.aload_n 0, 1) := by decide +kernel
theorem dL_law_483 : decode cL_law 483 = .ok (.iload_n 3, 1) := by decide +kernel
theorem dL_law_484 : decode cL_law 484 = .ok (.iconst 2, 1) := by decide +kernel
theorem dL_law_485 : decode cL_law 485 = .ok (.iadd, 1) := by decide +kernel
theorem dL_law_486 : decode cL_law 486 = .ok (.iaload, 1) := by decide +kernel
theorem dL_law_487 : decode cL_law 487 = .ok (.aload_n 0, 1) := by decide +kernel
theorem dL_law_488 : decode cL_law 488 = .ok (.iload_n 3, 1) := by decide +kernel
theorem dL_law_489 : decode cL_law 489 = .ok (.iconst 3, 1) := by decide +kernel
theorem dL_law_490 : decode cL_law 490 = .ok (.iadd, 1) := by decide +kernel
theorem dL_law_491 : decode cL_law 491 = .ok (.iaload, 1) := by decide +kernel
theorem dL_law_492 : decode cL_law 492 = .ok (.invokevirtual 56, 3) := by decide +kernel
theorem dL_law_495 : decode cL_law 495 = .ok (.lcmp, 1) := by decide +kernel
theorem dL_law_496 : decode cL_law 496 = .ok (.ifCond .eq 780, 3) := by decide +kernel
theorem dL_law_499 : decode cL_law 499 = .ok (.iconst 0, 1) := by decide +kernel
theorem dL_law_500 : decode cL_law 500 = .ok (.ireturn, 1) := by decide +kernel
theorem dL_law_501 : decode cL_law 501 = .ok (.aload_n 1, 1) := by decide +kernel
theorem dL_law_502 : decode cL_law 502 = .ok (.aload_n 0, 1) := by decide +kernel
theorem dL_law_503 : decode cL_law 503 = .ok (.iload_n 3, 1) := by decide +kernel
theorem dL_law_504 : decode cL_law 504 = .ok (.iconst 1, 1) := by decide +kernel
theorem dL_law_505 : decode cL_law 505 = .ok (.iadd, 1) := by decide +kernel
theorem dL_law_506 : decode cL_law 506 = .ok (.iaload, 1) := by decide +kernel
theorem dL_law_507 : decode cL_law 507 = .ok (.aload_n 0, 1) := by decide +kernel
theorem dL_law_508 : decode cL_law 508 = .ok (.iload_n 3, 1) := by decide +kernel
theorem dL_law_509 : decode cL_law 509 = .ok (.iconst 2, 1) := by decide +kernel
theorem dL_law_510 : decode cL_law 510 = .ok (.iadd, 1) := by decide +kernel
theorem dL_law_511 : decode cL_law 511 = .ok (.iaload, 1) := by decide +kernel
theorem dL_law_512 : decode cL_law 512 = .ok (.invokevirtual 57, 3) := by decide +kernel
theorem dL_law_515 : decode cL_law 515 = .ok (.aload_n 2, 1) := by decide +kernel
theorem dL_law_516 : decode cL_law 516 = .ok (.aload_n 0, 1) := by decide +kernel
theorem dL_law_517 : decode cL_law 517 = .ok (.iload_n 3, 1) := by decide +kernel
theorem dL_law_518 : decode cL_law 518 = .ok (.iconst 1, 1) := by decide +kernel
theorem dL_law_519 : decode cL_law 519 = .ok (.iadd, 1) := by decide +kernel
theorem dL_law_520 : decode cL_law 520 = .ok (.iaload, 1) := by decide +kernel
theorem dL_law_521 : decode cL_law 521 = .ok (.aload_n 0, 1) := by decide +kernel
theorem dL_law_522 : decode cL_law 522 = .ok (.iload_n 3, 1) := by decide +kernel
theorem dL_law_523 : decode cL_law 523 = .ok (.iconst 2, 1) := by decide +kernel
theorem dL_law_524 : decode cL_law 524 = .ok (.iadd, 1) := by decide +kernel
theorem dL_law_525 : decode cL_law 525 = .ok (.iaload, 1) := by decide +kernel
theorem dL_law_526 : decode cL_law 526 = .ok (.invokevirtual 61, 3) := by decide +kernel
theorem dL_law_529 : decode cL_law 529 = .ok (.lcmp, 1) := by decide +kernel
theorem dL_law_530 : decode cL_law 530 = .ok (.ifCond .eq 746, 3) := by decide +kernel
theorem dL_law_533 : decode cL_law 533 = .ok (.iconst 0, 1) := by decide +kernel
theorem dL_law_534 : decode cL_law 534 = .ok (.ireturn, 1) := by decide +kernel
theorem dL_law_535 : decode cL_law 535 = .ok (.aload_n 1, 1) := by decide +kernel
theorem dL_law_536 : decode cL_law 536 = .ok (.aload_n 0, 1) := by decide +kernel
theorem dL_law_537 : decode cL_law 537 = .ok (.iload_n 3, 1) := by decide +kernel
theorem dL_law_538 : decode cL_law 538 = .ok (.iconst 1, 1) := by decide +kernel
theorem dL_law_539 : decode cL_law 539 = .ok (.iadd, 1) := by decide +kernel
theorem dL_law_540 : decode cL_law 540 = .ok (.iaload, 1) := by decide +kernel
theorem dL_law_541 : decode cL_law 541 = .ok (.aload_n 0, 1) := by decide +kernel
theorem dL_law_542 : decode cL_law 542 = .ok (.iload_n 3, 1) := by decide +kernel
theorem dL_law_543 : decode cL_law 543 = .ok (.iconst 2, 1) := by decide +kernel
theorem dL_law_544 : decode cL_law 544 = .ok (.iadd, 1) := by decide +kernel
theorem dL_law_545 : decode cL_law 545 = .ok (.iaload, 1) := by decide +kernel
theorem dL_law_546 : decode cL_law 546 = .ok (.invokevirtual 62, 3) := by decide +kernel
theorem dL_law_549 : decode cL_law 549 = .ok (.aload_n 2, 1) := by decide +kernel
theorem dL_law_550 : decode cL_law 550 = .ok (.aload_n 0, 1) := by decide +kernel
theorem dL_law_551 : decode cL_law 551 = .ok (.iload_n 3, 1) := by decide +kernel
theorem dL_law_552 : decode cL_law 552 = .ok (.iconst 1, 1) := by decide +kernel
theorem dL_law_553 : decode cL_law 553 = .ok (.iadd, 1) := by decide +kernel
theorem dL_law_554 : decode cL_law 554 = .ok (.iaload, 1) := by decide +kernel
theorem dL_law_555 : decode cL_law 555 = .ok (.aload_n 0, 1) := by decide +kernel
theorem dL_law_556 : decode cL_law 556 = .ok (.iload_n 3, 1) := by decide +kernel
theorem dL_law_557 : decode cL_law 557 = .ok (.iconst 2, 1) := by decide +kernel
theorem dL_law_558 : decode cL_law 558 = .ok (.iadd, 1) := by decide +kernel
theorem dL_law_559 : decode cL_law 559 = .ok (.iaload, 1) := by decide +kernel
theorem dL_law_560 : decode cL_law 560 = .ok (.invokevirtual 65, 3) := by decide +kernel
theorem dL_law_563 : decode cL_law 563 = .ok (.lcmp, 1) := by decide +kernel
theorem dL_law_564 : decode cL_law 564 = .ok (.ifCond .eq 712, 3) := by decide +kernel
theorem dL_law_567 : decode cL_law 567 = .ok (.iconst 0, 1) := by decide +kernel
theorem dL_law_568 : decode cL_law 568 = .ok (.ireturn, 1) := by decide +kernel
theorem dL_law_569 : decode cL_law 569 = .ok (.aload_n 1, 1) := by decide +kernel
theorem dL_law_570 : decode cL_law 570 = .ok (.aload_n 0, 1) := by decide +kernel
theorem dL_law_571 : decode cL_law 571 = .ok (.iload_n 3, 1) := by decide +kernel
theorem dL_law_572 : decode cL_law 572 = .ok (.iconst 1, 1) := by decide +kernel
theorem dL_law_573 : decode cL_law 573 = .ok (.iadd, 1) := by decide +kernel
theorem dL_law_574 : decode cL_law 574 = .ok (.iaload, 1) := by decide +kernel
theorem dL_law_575 : decode cL_law 575 = .ok (.invokevirtual 66, 3) := by decide +kernel
theorem dL_law_578 : decode cL_law 578 = .ok (.aload_n 2, 1) := by decide +kernel
theorem dL_law_579 : decode cL_law 579 = .ok (.aload_n 0, 1) := by decide +kernel
theorem dL_law_580 : decode cL_law 580 = .ok (.iload_n 3, 1) := by decide +kernel
theorem dL_law_581 : decode cL_law 581 = .ok (.iconst 1, 1) := by decide +kernel
theorem dL_law_582 : decode cL_law 582 = .ok (.iadd, 1) := by decide +kernel
theorem dL_law_583 : decode cL_law 583 = .ok (.iaload, 1) := by decide +kernel
theorem dL_law_584 : decode cL_law 584 = .ok (.invokevirtual 69, 3) := by decide +kernel
theorem dL_law_587 : decode cL_law 587 = .ok (.if_icmp .eq 689, 3) := by decide +kernel
theorem dL_law_590 : decode cL_law 590 = .ok (.iconst 0, 1) := by decide +kernel
theorem dL_law_591 : decode cL_law 591 = .ok (.ireturn, 1) := by decide +kernel
theorem dL_law_592 : decode cL_law 592 = .ok (.aload_n 1, 1) := by decide +kernel
theorem dL_law_593 : decode cL_law 593 = .ok (.aload_n 0, 1) := by decide +kernel
theorem dL_law_594 : decode cL_law 594 = .ok (.iload_n 3, 1) := by decide +kernel
theorem dL_law_595 : decode cL_law 595 = .ok (.iconst 1, 1) := by decide +kernel
theorem dL_law_596 : decode cL_law 596 = .ok (.iadd, 1) := by decide +kernel
theorem dL_law_597 : decode cL_law 597 = .ok (.iaload, 1) := by decide +kernel
theorem dL_law_598 : decode cL_law 598 = .ok (.aload_n 0, 1) := by decide +kernel
theorem dL_law_599 : decode cL_law 599 = .ok (.iload_n 3, 1) := by decide +kernel
theorem dL_law_600 : decode cL_law 600 = .ok (.iconst 2, 1) := by decide +kernel
theorem dL_law_601 : decode cL_law 601 = .ok (.iadd, 1) := by decide +kernel
theorem dL_law_602 : decode cL_law 602 = .ok (.iaload, 1) := by decide +kernel
theorem dL_law_603 : decode cL_law 603 = .ok (.invokevirtual 70, 3) := by decide +kernel
theorem dL_law_606 : decode cL_law 606 = .ok (.aload_n 2, 1) := by decide +kernel
theorem dL_law_607 : decode cL_law 607 = .ok (.aload_n 0, 1) := by decide +kernel
theorem dL_law_608 : decode cL_law 608 = .ok (.iload_n 3, 1) := by decide +kernel
theorem dL_law_609 : decode cL_law 609 = .ok (.iconst 1, 1) := by decide +kernel
theorem dL_law_610 : decode cL_law 610 = .ok (.iadd, 1) := by decide +kernel
theorem dL_law_611 : decode cL_law 611 = .ok (.iaload, 1) := by decide +kernel
theorem dL_law_612 : decode cL_law 612 = .ok (.aload_n 0, 1) := by decide +kernel
theorem dL_law_613 : decode cL_law 613 = .ok (.iload_n 3, 1) := by decide +kernel
theorem dL_law_614 : decode cL_law 614 = .ok (.iconst 2, 1) := by decide +kernel
theorem dL_law_615 : decode cL_law 615 = .ok (.iadd, 1) := by decide +kernel
theorem dL_law_616 : decode cL_law 616 = .ok (.iaload, 1) := by decide +kernel
theorem dL_law_617 : decode cL_law 617 = .ok (.invokevirtual 73, 3) := by decide +kernel
theorem dL_law_620 : decode cL_law 620 = .ok (.if_icmp .eq 656, 3) := by decide +kernel
theorem dL_law_623 : decode cL_law 623 = .ok (.iconst 0, 1) := by decide +kernel
theorem dL_law_624 : decode cL_law 624 = .ok (.ireturn, 1) := by decide +kernel
theorem dL_law_625 : decode cL_law 625 = .ok (.aload_n 1, 1) := by decide +kernel
theorem dL_law_626 : decode cL_law 626 = .ok (.aload_n 0, 1) := by decide +kernel
theorem dL_law_627 : decode cL_law 627 = .ok (.iload_n 3, 1) := by decide +kernel
theorem dL_law_628 : decode cL_law 628 = .ok (.iconst 1, 1) := by decide +kernel
theorem dL_law_629 : decode cL_law 629 = .ok (.iadd, 1) := by decide +kernel
theorem dL_law_630 : decode cL_law 630 = .ok (.iaload, 1) := by decide +kernel
theorem dL_law_631 : decode cL_law 631 = .ok (.aload_n 0, 1) := by decide +kernel
theorem dL_law_632 : decode cL_law 632 = .ok (.iload_n 3, 1) := by decide +kernel
theorem dL_law_633 : decode cL_law 633 = .ok (.iconst 2, 1) := by decide +kernel
theorem dL_law_634 : decode cL_law 634 = .ok (.iadd, 1) := by decide +kernel
theorem dL_law_635 : decode cL_law 635 = .ok (.iaload, 1) := by decide +kernel
theorem dL_law_636 : decode cL_law 636 = .ok (.invokevirtual 74, 3) := by decide +kernel
theorem dL_law_639 : decode cL_law 639 = .ok (.aload_n 2, 1) := by decide +kernel
theorem dL_law_640 : decode cL_law 640 = .ok (.aload_n 0, 1) := by decide +kernel
theorem dL_law_641 : decode cL_law 641 = .ok (.iload_n 3, 1) := by decide +kernel
theorem dL_law_642 : decode cL_law 642 = .ok (.iconst 1, 1) := by decide +kernel
theorem dL_law_643 : decode cL_law 643 = .ok (.iadd, 1) := by decide +kernel
theorem dL_law_644 : decode cL_law 644 = .ok (.iaload, 1) := by decide +kernel
theorem dL_law_645 : decode cL_law 645 = .ok (.aload_n 0, 1) := by decide +kernel
theorem dL_law_646 : decode cL_law 646 = .ok (.iload_n 3, 1) := by decide +kernel
theorem dL_law_647 : decode cL_law 647 = .ok (.iconst 2, 1) := by decide +kernel
theorem dL_law_648 : decode cL_law 648 = .ok (.iadd, 1) := by decide +kernel
theorem dL_law_649 : decode cL_law 649 = .ok (.iaload, 1) := by decide +kernel
theorem dL_law_650 : decode cL_law 650 = .ok (.invokevirtual 77, 3) := by decide +kernel
theorem dL_law_653 : decode cL_law 653 = .ok (.if_icmp .eq 623, 3) := by decide +kernel
theorem dL_law_656 : decode cL_law 656 = .ok (.iconst 0, 1) := by decide +kernel
theorem dL_law_657 : decode cL_law 657 = .ok (.ireturn, 1) := by decide +kernel
theorem dL_law_658 : decode cL_law 658 = .ok (.aload_n 1, 1) := by decide +kernel
theorem dL_law_659 : decode cL_law 659 = .ok (.aload_n 0, 1) := by decide +kernel
theorem dL_law_660 : decode cL_law 660 = .ok (.iload_n 3, 1) := by decide +kernel
theorem dL_law_661 : decode cL_law 661 = .ok (.iconst 1, 1) := by decide +kernel
theorem dL_law_662 : decode cL_law 662 = .ok (.iadd, 1) := by decide +kernel
theorem dL_law_663 : decode cL_law 663 = .ok (.iaload, 1) := by decide +kernel
theorem dL_law_664 : decode cL_law 664 = .ok (.invokevirtual 78, 3) := by decide +kernel
theorem dL_law_667 : decode cL_law 667 = .ok (.aload_n 2, 1) := by decide +kernel
theorem dL_law_668 : decode cL_law 668 = .ok (.aload_n 0, 1) := by decide +kernel
theorem dL_law_669 : decode cL_law 669 = .ok (.iload_n 3, 1) := by decide +kernel
theorem dL_law_670 : decode cL_law 670 = .ok (.iconst 1, 1) := by decide +kernel
theorem dL_law_671 : decode cL_law 671 = .ok (.iadd, 1) := by decide +kernel
theorem dL_law_672 : decode cL_law 672 = .ok (.iaload, 1) := by decide +kernel
theorem dL_law_673 : decode cL_law 673 = .ok (.invokevirtual 81, 3) := by decide +kernel
theorem dL_law_676 : decode cL_law 676 = .ok (.if_icmp .eq 600, 3) := by decide +kernel
theorem dL_law_679 : decode cL_law 679 = .ok (.iconst 0, 1) := by decide +kernel
theorem dL_law_680 : decode cL_law 680 = .ok (.ireturn, 1) := by decide +kernel
theorem dL_law_681 : decode cL_law 681 = .ok (.aload_n 1, 1) := by decide +kernel
theorem dL_law_682 : decode cL_law 682 = .ok (.aload_n 0, 1) := by decide +kernel
theorem dL_law_683 : decode cL_law 683 = .ok (.iload_n 3, 1) := by decide +kernel
theorem dL_law_684 : decode cL_law 684 = .ok (.iconst 1, 1) := by decide +kernel
theorem dL_law_685 : decode cL_law 685 = .ok (.iadd, 1) := by decide +kernel
theorem dL_law_686 : decode cL_law 686 = .ok (.iaload, 1) := by decide +kernel
theorem dL_law_687 : decode cL_law 687 = .ok (.aload_n 0, 1) := by decide +kernel
theorem dL_law_688 : decode cL_law 688 = .ok (.iload_n 3, 1) := by decide +kernel
theorem dL_law_689 : decode cL_law 689 = .ok (.iconst 2, 1) := by decide +kernel
theorem dL_law_690 : decode cL_law 690 = .ok (.iadd, 1) := by decide +kernel
theorem dL_law_691 : decode cL_law 691 = .ok (.iaload, 1) := by decide +kernel
theorem dL_law_692 : decode cL_law 692 = .ok (.aload_n 0, 1) := by decide +kernel
theorem dL_law_693 : decode cL_law 693 = .ok (.iload_n 3, 1) := by decide +kernel
theorem dL_law_694 : decode cL_law 694 = .ok (.iconst 3, 1) := by decide +kernel
theorem dL_law_695 : decode cL_law 695 = .ok (.iadd, 1) := by decide +kernel
theorem dL_law_696 : decode cL_law 696 = .ok (.iaload, 1) := by decide +kernel
theorem dL_law_697 : decode cL_law 697 = .ok (.invokevirtual 82, 3) := by decide +kernel
theorem dL_law_700 : decode cL_law 700 = .ok (.aload_n 2, 1) := by decide +kernel
theorem dL_law_701 : decode cL_law 701 = .ok (.aload_n 0, 1) := by decide +kernel
theorem dL_law_702 : decode cL_law 702 = .ok (.iload_n 3, 1) := by decide +kernel
theorem dL_law_703 : decode cL_law 703 = .ok (.iconst 1, 1) := by decide +kernel
theorem dL_law_704 : decode cL_law 704 = .ok (.iadd, 1) := by decide +kernel
theorem dL_law_705 : decode cL_law 705 = .ok (.iaload, 1) := by decide +kernel
theorem dL_law_706 : decode cL_law 706 = .ok (.aload_n 0, 1) := by decide +kernel
theorem dL_law_707 : decode cL_law 707 = .ok (.iload_n 3, 1) := by decide +kernel
theorem dL_law_708 : decode cL_law 708 = .ok (.iconst 2, 1) := by decide +kernel
theorem dL_law_709 : decode cL_law 709 = .ok (.iadd, 1) := by decide +kernel
theorem dL_law_710 : decode cL_law 710 = .ok (.iaload, 1) := by decide +kernel
theorem dL_law_711 : decode cL_law 711 = .ok (.aload_n 0, 1) := by decide +kernel
theorem dL_law_712 : decode cL_law 712 = .ok (.iload_n 3, 1) := by decide +kernel
theorem dL_law_713 : decode cL_law 713 = .ok (.iconst 3, 1) := by decide +kernel
theorem dL_law_714 : decode cL_law 714 = .ok (.iadd, 1) := by decide +kernel
theorem dL_law_715 : decode cL_law 715 = .ok (.iaload, 1) := by decide +kernel
theorem dL_law_716 : decode cL_law 716 = .ok (.invokevirtual 85, 3) := by decide +kernel
theorem dL_law_719 : decode cL_law 719 = .ok (.lcmp, 1) := by decide +kernel
theorem dL_law_720 : decode cL_law 720 = .ok (.ifCond .eq 556, 3) := by decide +kernel
theorem dL_law_723 : decode cL_law 723 = .ok (.iconst 0, 1) := by decide +kernel
theorem dL_law_724 : decode cL_law 724 = .ok (.ireturn, 1) := by decide +kernel
theorem dL_law_725 : decode cL_law 725 = .ok (.aload_n 1, 1) := by decide +kernel
theorem dL_law_726 : decode cL_law 726 = .ok (.aload_n 0, 1) := by decide +kernel
theorem dL_law_727 : decode cL_law 727 = .ok (.iload_n 3, 1) := by decide +kernel
theorem dL_law_728 : decode cL_law 728 = .ok (.iconst 1, 1) := by decide +kernel
theorem dL_law_729 : decode cL_law 729 = .ok (.iadd, 1) := by decide +kernel
theorem dL_law_730 : decode cL_law 730 = .ok (.iaload, 1) := by decide +kernel
theorem dL_law_731 : decode cL_law 731 = .ok (.aload_n 0, 1) := by decide +kernel
theorem dL_law_732 : decode cL_law 732 = .ok (.iload_n 3, 1) := by decide +kernel
theorem dL_law_733 : decode cL_law 733 = .ok (.iconst 2, 1) := by decide +kernel
theorem dL_law_734 : decode cL_law 734 = .ok (.iadd, 1) := by decide +kernel
theorem dL_law_735 : decode cL_law 735 = .ok (.iaload, 1) := by decide +kernel
theorem dL_law_736 : decode cL_law 736 = .ok (.aload_n 0, 1) := by decide +kernel
theorem dL_law_737 : decode cL_law 737 = .ok (.iload_n 3, 1) := by decide +kernel
theorem dL_law_738 : decode cL_law 738 = .ok (.iconst 3, 1) := by decide +kernel
theorem dL_law_739 : decode cL_law 739 = .ok (.iadd, 1) := by decide +kernel
theorem dL_law_740 : decode cL_law 740 = .ok (.iaload, 1) := by decide +kernel
theorem dL_law_741 : decode cL_law 741 = .ok (.invokevirtual 86, 3) := by decide +kernel
theorem dL_law_744 : decode cL_law 744 = .ok (.aload_n 2, 1) := by decide +kernel
theorem dL_law_745 : decode cL_law 745 = .ok (.aload_n 0, 1) := by decide +kernel
theorem dL_law_746 : decode cL_law 746 = .ok (.iload_n 3, 1) := by decide +kernel
theorem dL_law_747 : decode cL_law 747 = .ok (.iconst 1, 1) := by decide +kernel
theorem dL_law_748 : decode cL_law 748 = .ok (.iadd, 1) := by decide +kernel
theorem dL_law_749 : decode cL_law 749 = .ok (.iaload, 1) := by decide +kernel
theorem dL_law_750 : decode cL_law 750 = .ok (.aload_n 0, 1) := by decide +kernel
theorem dL_law_751 : decode cL_law 751 = .ok (.iload_n 3, 1) := by decide +kernel
theorem dL_law_752 : decode cL_law 752 = .ok (.iconst 2, 1) := by decide +kernel
theorem dL_law_753 : decode cL_law 753 = .ok (.iadd, 1) := by decide +kernel
theorem dL_law_754 : decode cL_law 754 = .ok (.iaload, 1) := by decide +kernel
theorem dL_law_755 : decode cL_law 755 = .ok (.aload_n 0, 1) := by decide +kernel
theorem dL_law_756 : decode cL_law 756 = .ok (.iload_n 3, 1) := by decide +kernel
theorem dL_law_757 : decode cL_law 757 = .ok (.iconst 3, 1) := by decide +kernel
theorem dL_law_758 : decode cL_law 758 = .ok (.iadd, 1) := by decide +kernel
theorem dL_law_759 : decode cL_law 759 = .ok (.iaload, 1) := by decide +kernel
theorem dL_law_760 : decode cL_law 760 = .ok (.invokevirtual 89, 3) := by decide +kernel
theorem dL_law_763 : decode cL_law 763 = .ok (.lcmp, 1) := by decide +kernel
theorem dL_law_764 : decode cL_law 764 = .ok (.ifCond .eq 512, 3) := by decide +kernel
theorem dL_law_767 : decode cL_law 767 = .ok (.iconst 0, 1) := by decide +kernel
theorem dL_law_768 : decode cL_law 768 = .ok (.ireturn, 1) := by decide +kernel
theorem dL_law_769 : decode cL_law 769 = .ok (.aload_n 1, 1) := by decide +kernel
theorem dL_law_770 : decode cL_law 770 = .ok (.aload_n 0, 1) := by decide +kernel
theorem dL_law_771 : decode cL_law 771 = .ok (.iload_n 3, 1) := by decide +kernel
theorem dL_law_772 : decode cL_law 772 = .ok (.iconst 1, 1) := by decide +kernel
theorem dL_law_773 : decode cL_law 773 = .ok (.iadd, 1) := by decide +kernel
theorem dL_law_774 : decode cL_law 774 = .ok (.iaload, 1) := by decide +kernel
theorem dL_law_775 : decode cL_law 775 = .ok (.aload_n 0, 1) := by decide +kernel
theorem dL_law_776 : decode cL_law 776 = .ok (.iload_n 3, 1) := by decide +kernel
theorem dL_law_777 : decode cL_law 777 = .ok (.iconst 2, 1) := by decide +kernel
theorem dL_law_778 : decode cL_law 778 = .ok (.iadd, 1) := by decide +kernel
theorem dL_law_779 : decode cL_law 779 = .ok (.iaload, 1) := by decide +kernel
theorem dL_law_780 : decode cL_law 780 = .ok (.invokevirtual 90, 3) := by decide +kernel
theorem dL_law_783 : decode cL_law 783 = .ok (.aload_n 2, 1) := by decide +kernel
theorem dL_law_784 : decode cL_law 784 = .ok (.aload_n 0, 1) := by decide +kernel
theorem dL_law_785 : decode cL_law 785 = .ok (.iload_n 3, 1) := by decide +kernel
theorem dL_law_786 : decode cL_law 786 = .ok (.iconst 1, 1) := by decide +kernel
theorem dL_law_787 : decode cL_law 787 = .ok (.iadd, 1) := by decide +kernel
theorem dL_law_788 : decode cL_law 788 = .ok (.iaload, 1) := by decide +kernel
theorem dL_law_789 : decode cL_law 789 = .ok (.aload_n 0, 1) := by decide +kernel
theorem dL_law_790 : decode cL_law 790 = .ok (.iload_n 3, 1) := by decide +kernel
theorem dL_law_791 : decode cL_law 791 = .ok (.iconst 2, 1) := by decide +kernel
theorem dL_law_792 : decode cL_law 792 = .ok (.iadd, 1) := by decide +kernel
theorem dL_law_793 : decode cL_law 793 = .ok (.iaload, 1) := by decide +kernel
theorem dL_law_794 : decode cL_law 794 = .ok (.invokevirtual 93, 3) := by decide +kernel
theorem dL_law_797 : decode cL_law 797 = .ok (.lcmp, 1) := by decide +kernel
theorem dL_law_798 : decode cL_law 798 = .ok (.ifCond .eq 478, 3) := by decide +kernel
theorem dL_law_801 : decode cL_law 801 = .ok (.iconst 0, 1) := by decide +kernel
theorem dL_law_802 : decode cL_law 802 = .ok (.ireturn, 1) := by decide +kernel
theorem dL_law_803 : decode cL_law 803 = .ok (.aload_n 1, 1) := by decide +kernel
theorem dL_law_804 : decode cL_law 804 = .ok (.aload_n 0, 1) := by decide +kernel
theorem dL_law_805 : decode cL_law 805 = .ok (.iload_n 3, 1) := by decide +kernel
theorem dL_law_806 : decode cL_law 806 = .ok (.iconst 1, 1) := by decide +kernel
theorem dL_law_807 : decode cL_law 807 = .ok (.iadd, 1) := by decide +kernel
theorem dL_law_808 : decode cL_law 808 = .ok (.iaload, 1) := by decide +kernel
theorem dL_law_809 : decode cL_law 809 = .ok (.aload_n 0, 1) := by decide +kernel
theorem dL_law_810 : decode cL_law 810 = .ok (.iload_n 3, 1) := by decide +kernel
theorem dL_law_811 : decode cL_law 811 = .ok (.iconst 2, 1) := by decide +kernel
theorem dL_law_812 : decode cL_law 812 = .ok (.iadd, 1) := by decide +kernel
theorem dL_law_813 : decode cL_law 813 = .ok (.iaload, 1) := by decide +kernel
theorem dL_law_814 : decode cL_law 814 = .ok (.aload_n 0, 1) := by decide +kernel
theorem dL_law_815 : decode cL_law 815 = .ok (.iload_n 3, 1) := by decide +kernel
theorem dL_law_816 : decode cL_law 816 = .ok (.iconst 3, 1) := by decide +kernel
theorem dL_law_817 : decode cL_law 817 = .ok (.iadd, 1) := by decide +kernel
theorem dL_law_818 : decode cL_law 818 = .ok (.iaload, 1) := by decide +kernel
theorem dL_law_819 : decode cL_law 819 = .ok (.aload_n 0, 1) := by decide +kernel
theorem dL_law_820 : decode cL_law 820 = .ok (.iload_n 3, 1) := by decide +kernel
theorem dL_law_821 : decode cL_law 821 = .ok (.iconst 4, 1) := by decide +kernel
theorem dL_law_822 : decode cL_law 822 = .ok (.iadd, 1) := by decide +kernel
theorem dL_law_823 : decode cL_law 823 = .ok (.iaload, 1) := by decide +kernel
theorem dL_law_824 : decode cL_law 824 = .ok (.invokevirtual 94, 3) := by decide +kernel
theorem dL_law_827 : decode cL_law 827 = .ok (.aload_n 2, 1) := by decide +kernel
theorem dL_law_828 : decode cL_law 828 = .ok (.aload_n 0, 1) := by decide +kernel
theorem dL_law_829 : decode cL_law 829 = .ok (.iload_n 3, 1) := by decide +kernel
theorem dL_law_830 : decode cL_law 830 = .ok (.iconst 1, 1) := by decide +kernel
theorem dL_law_831 : decode cL_law 831 = .ok (.iadd, 1) := by decide +kernel
theorem dL_law_832 : decode cL_law 832 = .ok (.iaload, 1) := by decide +kernel
theorem dL_law_833 : decode cL_law 833 = .ok (.aload_n 0, 1) := by decide +kernel
theorem dL_law_834 : decode cL_law 834 = .ok (.iload_n 3, 1) := by decide +kernel
theorem dL_law_835 : decode cL_law 835 = .ok (.iconst 2, 1) := by decide +kernel
theorem dL_law_836 : decode cL_law 836 = .ok (.iadd, 1) := by decide +kernel
theorem dL_law_837 : decode cL_law 837 = .ok (.iaload, 1) := by decide +kernel
theorem dL_law_838 : decode cL_law 838 = .ok (.aload_n 0, 1) := by decide +kernel
theorem dL_law_839 : decode cL_law 839 = .ok (.iload_n 3, 1) := by decide +kernel
theorem dL_law_840 : decode cL_law 840 = .ok (.iconst 3, 1) := by decide +kernel
theorem dL_law_841 : decode cL_law 841 = .ok (.iadd, 1) := by decide +kernel
theorem dL_law_842 : decode cL_law 842 = .ok (.iaload, 1) := by decide +kernel
theorem dL_law_843 : decode cL_law 843 = .ok (.aload_n 0, 1) := by decide +kernel
theorem dL_law_844 : decode cL_law 844 = .ok (.iload_n 3, 1) := by decide +kernel
theorem dL_law_845 : decode cL_law 845 = .ok (.iconst 4, 1) := by decide +kernel
theorem dL_law_846 : decode cL_law 846 = .ok (.iadd, 1) := by decide +kernel
theorem dL_law_847 : decode cL_law 847 = .ok (.iaload, 1) := by decide +kernel
theorem dL_law_848 : decode cL_law 848 = .ok (.invokevirtual 98, 3) := by decide +kernel
theorem dL_law_851 : decode cL_law 851 = .ok (.lcmp, 1) := by decide +kernel
theorem dL_law_852 : decode cL_law 852 = .ok (.ifCond .eq 424, 3) := by decide +kernel
theorem dL_law_855 : decode cL_law 855 = .ok (.iconst 0, 1) := by decide +kernel
theorem dL_law_856 : decode cL_law 856 = .ok (.ireturn, 1) := by decide +kernel
theorem dL_law_857 : decode cL_law 857 = .ok (.aload_n 1, 1) := by decide +kernel
theorem dL_law_858 : decode cL_law 858 = .ok (.aload_n 0, 1) := by decide +kernel
theorem dL_law_859 : decode cL_law 859 = .ok (.iload_n 3, 1) := by decide +kernel
theorem dL_law_860 : decode cL_law 860 = .ok (.iconst 1, 1) := by decide +kernel
theorem dL_law_861 : decode cL_law 861 = .ok (.iadd, 1) := by decide +kernel
theorem dL_law_862 : decode cL_law 862 = .ok (.iaload, 1) := by decide +kernel
theorem dL_law_863 : decode cL_law 863 = .ok (.invokevirtual 99, 3) := by decide +kernel
theorem dL_law_866 : decode cL_law 866 = .ok (.aload_n 2, 1) := by decide +kernel
theorem dL_law_867 : decode cL_law 867 = .ok (.aload_n 0, 1) := by decide +kernel
theorem dL_law_868 : decode cL_law 868 = .ok (.iload_n 3, 1) := by decide +kernel
theorem dL_law_869 : decode cL_law 869 = .ok (.iconst 1, 1) := by decide +kernel
theorem dL_law_870 : decode cL_law 870 = .ok (.iadd, 1) := by decide +kernel
theorem dL_law_871 : decode cL_law 871 = .ok (.iaload, 1) := by decide +kernel
theorem dL_law_872 : decode cL_law 872 = .ok (.invokevirtual 102, 3) := by decide +kernel
theorem dL_law_875 : decode cL_law 875 = .ok (.if_icmp .eq 401, 3) := by decide +kernel
theorem dL_law_878 : decode cL_law 878 = .ok (.iconst 0, 1) := by decide +kernel
theorem dL_law_879 : decode cL_law 879 = .ok (.ireturn, 1) := by decide +kernel
theorem dL_law_880 : decode cL_law 880 = .ok (.aload_n 1, 1) := by decide +kernel
theorem dL_law_881 : decode cL_law 881 = .ok (.invokevirtual 103, 3) := by decide +kernel
theorem dL_law_884 : decode cL_law 884 = .ok (.aload_n 2, 1) := by decide +kernel
theorem dL_law_885 : decode cL_law 885 = .ok (.invokevirtual 107, 3) := by decide +kernel
theorem dL_law_888 : decode cL_law 888 = .ok (.if_icmp .eq 388, 3) := by decide +kernel
theorem dL_law_891 : decode cL_law 891 = .ok (.iconst 0, 1) := by decide +kernel
theorem dL_law_892 : decode cL_law 892 = .ok (.ireturn, 1) := by decide +kernel
theorem dL_law_893 : decode cL_law 893 = .ok (.aload_n 1, 1) := by decide +kernel
theorem dL_law_894 : decode cL_law 894 = .ok (.aload_n 0, 1) := by decide +kernel
theorem dL_law_895 : decode cL_law 895 = .ok (.iload_n 3, 1) := by decide +kernel
theorem dL_law_896 : decode cL_law 896 = .ok (.iconst 1, 1) := by decide +kernel
theorem dL_law_897 : decode cL_law 897 = .ok (.iadd, 1) := by decide +kernel
theorem dL_law_898 : decode cL_law 898 = .ok (.iaload, 1) := by decide +kernel
theorem dL_law_899 : decode cL_law 899 = .ok (.invokevirtual 108, 3) := by decide +kernel
theorem dL_law_902 : decode cL_law 902 = .ok (.aload_n 2, 1) := by decide +kernel
theorem dL_law_903 : decode cL_law 903 = .ok (.aload_n 0, 1) := by decide +kernel
theorem dL_law_904 : decode cL_law 904 = .ok (.iload_n 3, 1) := by decide +kernel
theorem dL_law_905 : decode cL_law 905 = .ok (.iconst 1, 1) := by decide +kernel
theorem dL_law_906 : decode cL_law 906 = .ok (.iadd, 1) := by decide +kernel
theorem dL_law_907 : decode cL_law 907 = .ok (.iaload, 1) := by decide +kernel
theorem dL_law_908 : decode cL_law 908 = .ok (.invokevirtual 111, 3) := by decide +kernel
theorem dL_law_911 : decode cL_law 911 = .ok (.if_icmp .eq 365, 3) := by decide +kernel
theorem dL_law_914 : decode cL_law 914 = .ok (.iconst 0, 1) := by decide +kernel
theorem dL_law_915 : decode cL_law 915 = .ok (.ireturn, 1) := by decide +kernel
theorem dL_law_916 : decode cL_law 916 = .ok (.aload_n 1, 1) := by decide +kernel
theorem dL_law_917 : decode cL_law 917 = .ok (.invokevirtual 112, 3) := by decide +kernel
theorem dL_law_920 : decode cL_law 920 = .ok (.aload_n 2, 1) := by decide +kernel
theorem dL_law_921 : decode cL_law 921 = .ok (.invokevirtual 115, 3) := by decide +kernel
theorem dL_law_924 : decode cL_law 924 = .ok (.if_icmp .eq 352, 3) := by decide +kernel
theorem dL_law_927 : decode cL_law 927 = .ok (.iconst 0, 1) := by decide +kernel
theorem dL_law_928 : decode cL_law 928 = .ok (.ireturn, 1) := by decide +kernel
theorem dL_law_929 : decode cL_law 929 = .ok (.aload_n 1, 1) := by decide +kernel
theorem dL_law_930 : decode cL_law 930 = .ok (.aload_n 0, 1) := by decide +kernel
theorem dL_law_931 : decode cL_law 931 = .ok (.iload_n 3, 1) := by decide +kernel
theorem dL_law_932 : decode cL_law 932 = .ok (.iconst 1, 1) := by decide +kernel
theorem dL_law_933 : decode cL_law 933 = .ok (.iadd, 1) := by decide +kernel
theorem dL_law_934 : decode cL_law 934 = .ok (.iaload, 1) := by decide +kernel
theorem dL_law_935 : decode cL_law 935 = .ok (.invokevirtual 116, 3) := by decide +kernel
theorem dL_law_938 : decode cL_law 938 = .ok (.aload_n 2, 1) := by decide +kernel
theorem dL_law_939 : decode cL_law 939 = .ok (.aload_n 0, 1) := by decide +kernel
theorem dL_law_940 : decode cL_law 940 = .ok (.iload_n 3, 1) := by decide +kernel
theorem dL_law_941 : decode cL_law 941 = .ok (.iconst 1, 1) := by decide +kernel
theorem dL_law_942 : decode cL_law 942 = .ok (.iadd, 1) := by decide +kernel
theorem dL_law_943 : decode cL_law 943 = .ok (.iaload, 1) := by decide +kernel
theorem dL_law_944 : decode cL_law 944 = .ok (.invokevirtual 119, 3) := by decide +kernel
theorem dL_law_947 : decode cL_law 947 = .ok (.if_icmp .eq 329, 3) := by decide +kernel
theorem dL_law_950 : decode cL_law 950 = .ok (.iconst 0, 1) := by decide +kernel
theorem dL_law_951 : decode cL_law 951 = .ok (.ireturn, 1) := by decide +kernel
theorem dL_law_952 : decode cL_law 952 = .ok (.aload_n 1, 1) := by decide +kernel
theorem dL_law_953 : decode cL_law 953 = .ok (.invokevirtual 120, 3) := by decide +kernel
theorem dL_law_956 : decode cL_law 956 = .ok (.aload_n 2, 1) := by decide +kernel
theorem dL_law_957 : decode cL_law 957 = .ok (.invokevirtual 123, 3) := by decide +kernel
theorem dL_law_960 : decode cL_law 960 = .ok (.if_icmp .eq 316, 3) := by decide +kernel
theorem dL_law_963 : decode cL_law 963 = .ok (.iconst 0, 1) := by decide +kernel
theorem dL_law_964 : decode cL_law 964 = .ok (.ireturn, 1) := by decide +kernel
theorem dL_law_965 : decode cL_law 965 = .ok (.aload_n 1, 1) := by decide +kernel
theorem dL_law_966 : decode cL_law 966 = .ok (.invokevirtual 124, 3) := by decide +kernel
theorem dL_law_969 : decode cL_law 969 = .ok (.aload_n 2, 1) := by decide +kernel
theorem dL_law_970 : decode cL_law 970 = .ok (.invokevirtual 127, 3) := by decide +kernel
theorem dL_law_973 : decode cL_law 973 = .ok (.if_icmp .eq 303, 3) := by decide +kernel
theorem dL_law_976 : decode cL_law 976 = .ok (.iconst 0, 1) := by decide +kernel
theorem dL_law_977 : decode cL_law 977 = .ok (.ireturn, 1) := by decide +kernel
theorem dL_law_978 : decode cL_law 978 = .ok (.aload_n 1, 1) := by decide +kernel
theorem dL_law_979 : decode cL_law 979 = .ok (.aload_n 0, 1) := by decide +kernel
theorem dL_law_980 : decode cL_law 980 = .ok (.iload_n 3, 1) := by decide +kernel
theorem dL_law_981 : decode cL_law 981 = .ok (.iconst 1, 1) := by decide +kernel
theorem dL_law_982 : decode cL_law 982 = .ok (.iadd, 1) := by decide +kernel
theorem dL_law_983 : decode cL_law 983 = .ok (.iaload, 1) := by decide +kernel
theorem dL_law_984 : decode cL_law 984 = .ok (.aload_n 0, 1) := by decide +kernel
theorem dL_law_985 : decode cL_law 985 = .ok (.iload_n 3, 1) := by decide +kernel
theorem dL_law_986 : decode cL_law 986 = .ok (.iconst 2, 1) := by decide +kernel
theorem dL_law_987 : decode cL_law 987 = .ok (.iadd, 1) := by decide +kernel
theorem dL_law_988 : decode cL_law 988 = .ok (.iaload, 1) := by decide +kernel
theorem dL_law_989 : decode cL_law 989 = .ok (.aload_n 0, 1) := by decide +kernel
theorem dL_law_990 : decode cL_law 990 = .ok (.iload_n 3, 1) := by decide +kernel
theorem dL_law_991 : decode cL_law 991 = .ok (.iconst 3, 1) := by decide +kernel
theorem dL_law_992 : decode cL_law 992 = .ok (.iadd, 1) := by decide +kernel
theorem dL_law_993 : decode cL_law 993 = .ok (.iaload, 1) := by decide +kernel
theorem dL_law_994 : decode cL_law 994 = .ok (.invokevirtual 128, 3) := by decide +kernel
theorem dL_law_997 : decode cL_law 997 = .ok (.aload_n 2, 1) := by decide +kernel
theorem dL_law_998 : decode cL_law 998 = .ok (.aload_n 0, 1) := by decide +kernel
theorem dL_law_999 : decode cL_law 999 = .ok (.iload_n 3, 1) := by decide +kernel
theorem dL_law_1000 : decode cL_law 1000 = .ok (.iconst 1, 1) := by decide +kernel
theorem dL_law_1001 : decode cL_law 1001 = .ok (.iadd, 1) := by decide +kernel
theorem dL_law_1002 : decode cL_law 1002 = .ok (.iaload, 1) := by decide +kernel
theorem dL_law_1003 : decode cL_law 1003 = .ok (.aload_n 0, 1) := by decide +kernel
theorem dL_law_1004 : decode cL_law 1004 = .ok (.iload_n 3, 1) := by decide +kernel
theorem dL_law_1005 : decode cL_law 1005 = .ok (.iconst 2, 1) := by decide +kernel
theorem dL_law_1006 : decode cL_law 1006 = .ok (.iadd, 1) := by decide +kernel
theorem dL_law_1007 : decode cL_law 1007 = .ok (.iaload, 1) := by decide +kernel
theorem dL_law_1008 : decode cL_law 1008 = .ok (.aload_n 0, 1) := by decide +kernel
theorem dL_law_1009 : decode cL_law 1009 = .ok (.iload_n 3, 1) := by decide +kernel
theorem dL_law_1010 : decode cL_law 1010 = .ok (.iconst 3, 1) := by decide +kernel
theorem dL_law_1011 : decode cL_law 1011 = .ok (.iadd, 1) := by decide +kernel
theorem dL_law_1012 : decode cL_law 1012 = .ok (.iaload, 1) := by decide +kernel
theorem dL_law_1013 : decode cL_law 1013 = .ok (.invokevirtual 131, 3) := by decide +kernel
theorem dL_law_1016 : decode cL_law 1016 = .ok (.if_icmp .eq 260, 3) := by decide +kernel
theorem dL_law_1019 : decode cL_law 1019 = .ok (.iconst 0, 1) := by decide +kernel
theorem dL_law_1020 : decode cL_law 1020 = .ok (.ireturn, 1) := by decide +kernel
theorem dL_law_1021 : decode cL_law 1021 = .ok (.aload_n 1, 1) := by decide +kernel
theorem dL_law_1022 : decode cL_law 1022 = .ok (.aload_n 0, 1) := by decide +kernel
theorem dL_law_1023 : decode cL_law 1023 = .ok (.iload_n 3, 1) := by decide +kernel
theorem dL_law_1024 : decode cL_law 1024 = .ok (.iconst 1, 1) := by decide +kernel
theorem dL_law_1025 : decode cL_law 1025 = .ok (.iadd, 1) := by decide +kernel
theorem dL_law_1026 : decode cL_law 1026 = .ok (.iaload, 1) := by decide +kernel
theorem dL_law_1027 : decode cL_law 1027 = .ok (.aload_n 0, 1) := by decide +kernel
theorem dL_law_1028 : decode cL_law 1028 = .ok (.iload_n 3, 1) := by decide +kernel
theorem dL_law_1029 : decode cL_law 1029 = .ok (.iconst 2, 1) := by decide +kernel
theorem dL_law_1030 : decode cL_law 1030 = .ok (.iadd, 1) := by decide +kernel
theorem dL_law_1031 : decode cL_law 1031 = .ok (.iaload, 1) := by decide +kernel
theorem dL_law_1032 : decode cL_law 1032 = .ok (.aload_n 0, 1) := by decide +kernel
theorem dL_law_1033 : decode cL_law 1033 = .ok (.iload_n 3, 1) := by decide +kernel
theorem dL_law_1034 : decode cL_law 1034 = .ok (.iconst 3, 1) := by decide +kernel
theorem dL_law_1035 : decode cL_law 1035 = .ok (.iadd, 1) := by decide +kernel
theorem dL_law_1036 : decode cL_law 1036 = .ok (.iaload, 1) := by decide +kernel
theorem dL_law_1037 : decode cL_law 1037 = .ok (.invokevirtual 132, 3) := by decide +kernel
theorem dL_law_1040 : decode cL_law 1040 = .ok (.aload_n 2, 1) := by decide +kernel
theorem dL_law_1041 : decode cL_law 1041 = .ok (.aload_n 0, 1) := by decide +kernel
theorem dL_law_1042 : decode cL_law 1042 = .ok (.iload_n 3, 1) := by decide +kernel
theorem dL_law_1043 : decode cL_law 1043 = .ok (.iconst 1, 1) := by decide +kernel
theorem dL_law_1044 : decode cL_law 1044 = .ok (.iadd, 1) := by decide +kernel
theorem dL_law_1045 : decode cL_law 1045 = .ok (.iaload, 1) := by decide +kernel
theorem dL_law_1046 : decode cL_law 1046 = .ok (.aload_n 0, 1) := by decide +kernel
theorem dL_law_1047 : decode cL_law 1047 = .ok (.iload_n 3, 1) := by decide +kernel
theorem dL_law_1048 : decode cL_law 1048 = .ok (.iconst 2, 1) := by decide +kernel
theorem dL_law_1049 : decode cL_law 1049 = .ok (.iadd, 1) := by decide +kernel
theorem dL_law_1050 : decode cL_law 1050 = .ok (.iaload, 1) := by decide +kernel
theorem dL_law_1051 : decode cL_law 1051 = .ok (.aload_n 0, 1) := by decide +kernel
theorem dL_law_1052 : decode cL_law 1052 = .ok (.iload_n 3, 1) := by decide +kernel
theorem dL_law_1053 : decode cL_law 1053 = .ok (.iconst 3, 1) := by decide +kernel
theorem dL_law_1054 : decode cL_law 1054 = .ok (.iadd, 1) := by decide +kernel
theorem dL_law_1055 : decode cL_law 1055 = .ok (.iaload, 1) := by decide +kernel
theorem dL_law_1056 : decode cL_law 1056 = .ok (.invokevirtual 135, 3) := by decide +kernel
theorem dL_law_1059 : decode cL_law 1059 = .ok (.if_icmp .eq 217, 3) := by decide +kernel
theorem dL_law_1062 : decode cL_law 1062 = .ok (.iconst 0, 1) := by decide +kernel
theorem dL_law_1063 : decode cL_law 1063 = .ok (.ireturn, 1) := by decide +kernel
theorem dL_law_1064 : decode cL_law 1064 = .ok (.aload_n 1, 1) := by decide +kernel
theorem dL_law_1065 : decode cL_law 1065 = .ok (.aload_n 0, 1) := by decide +kernel
theorem dL_law_1066 : decode cL_law 1066 = .ok (.iload_n 3, 1) := by decide +kernel
theorem dL_law_1067 : decode cL_law 1067 = .ok (.iconst 1, 1) := by decide +kernel
theorem dL_law_1068 : decode cL_law 1068 = .ok (.iadd, 1) := by decide +kernel
theorem dL_law_1069 : decode cL_law 1069 = .ok (.iaload, 1) := by decide +kernel
theorem dL_law_1070 : decode cL_law 1070 = .ok (.aload_n 0, 1) := by decide +kernel
theorem dL_law_1071 : decode cL_law 1071 = .ok (.iload_n 3, 1) := by decide +kernel
theorem dL_law_1072 : decode cL_law 1072 = .ok (.iconst 2, 1) := by decide +kernel
theorem dL_law_1073 : decode cL_law 1073 = .ok (.iadd, 1) := by decide +kernel
theorem dL_law_1074 : decode cL_law 1074 = .ok (.iaload, 1) := by decide +kernel
theorem dL_law_1075 : decode cL_law 1075 = .ok (.aload_n 0, 1) := by decide +kernel
theorem dL_law_1076 : decode cL_law 1076 = .ok (.iload_n 3, 1) := by decide +kernel
theorem dL_law_1077 : decode cL_law 1077 = .ok (.iconst 3, 1) := by decide +kernel
theorem dL_law_1078 : decode cL_law 1078 = .ok (.iadd, 1) := by decide +kernel
theorem dL_law_1079 : decode cL_law 1079 = .ok (.iaload, 1) := by decide +kernel
theorem dL_law_1080 : decode cL_law 1080 = .ok (.invokevirtual 136, 3) := by decide +kernel
theorem dL_law_1083 : decode cL_law 1083 = .ok (.aload_n 2, 1) := by decide +kernel
theorem dL_law_1084 : decode cL_law 1084 = .ok (.aload_n 0, 1) := by decide +kernel
theorem dL_law_1085 : decode cL_law 1085 = .ok (.iload_n 3, 1) := by decide +kernel
theorem dL_law_1086 : decode cL_law 1086 = .ok (.iconst 1, 1) := by decide +kernel
theorem dL_law_1087 : decode cL_law 1087 = .ok (.iadd, 1) := by decide +kernel
theorem dL_law_1088 : decode cL_law 1088 = .ok (.iaload, 1) := by decide +kernel
theorem dL_law_1089 : decode cL_law 1089 = .ok (.aload_n 0, 1) := by decide +kernel
theorem dL_law_1090 : decode cL_law 1090 = .ok (.iload_n 3, 1) := by decide +kernel
theorem dL_law_1091 : decode cL_law 1091 = .ok (.iconst 2, 1) := by decide +kernel
theorem dL_law_1092 : decode cL_law 1092 = .ok (.iadd, 1) := by decide +kernel
theorem dL_law_1093 : decode cL_law 1093 = .ok (.iaload, 1) := by decide +kernel
theorem dL_law_1094 : decode cL_law 1094 = .ok (.aload_n 0, 1) := by decide +kernel
theorem dL_law_1095 : decode cL_law 1095 = .ok (.iload_n 3, 1) := by decide +kernel
theorem dL_law_1096 : decode cL_law 1096 = .ok (.iconst 3, 1) := by decide +kernel
theorem dL_law_1097 : decode cL_law 1097 = .ok (.iadd, 1) := by decide +kernel
theorem dL_law_1098 : decode cL_law 1098 = .ok (.iaload, 1) := by decide +kernel
theorem dL_law_1099 : decode cL_law 1099 = .ok (.invokevirtual 139, 3) := by decide +kernel
theorem dL_law_1102 : decode cL_law 1102 = .ok (.if_icmp .eq 174, 3) := by decide +kernel
theorem dL_law_1105 : decode cL_law 1105 = .ok (.iconst 0, 1) := by decide +kernel
theorem dL_law_1106 : decode cL_law 1106 = .ok (.ireturn, 1) := by decide +kernel
theorem dL_law_1107 : decode cL_law 1107 = .ok (.aload_n 1, 1) := by decide +kernel
theorem dL_law_1108 : decode cL_law 1108 = .ok (.aload_n 0, 1) := by decide +kernel
theorem dL_law_1109 : decode cL_law 1109 = .ok (.iload_n 3, 1) := by decide +kernel
theorem dL_law_1110 : decode cL_law 1110 = .ok (.iconst 1, 1) := by decide +kernel
theorem dL_law_1111 : decode cL_law 1111 = .ok (.iadd, 1) := by decide +kernel
theorem dL_law_1112 : decode cL_law 1112 = .ok (.iaload, 1) := by decide +kernel
theorem dL_law_1113 : decode cL_law 1113 = .ok (.invokevirtual 140, 3) := by decide +kernel
theorem dL_law_1116 : decode cL_law 1116 = .ok (.aload_n 2, 1) := by decide +kernel
theorem dL_law_1117 : decode cL_law 1117 = .ok (.aload_n 0, 1) := by decide +kernel
theorem dL_law_1118 : decode cL_law 1118 = .ok (.iload_n 3, 1) := by decide +kernel
theorem dL_law_1119 : decode cL_law 1119 = .ok (.iconst 1, 1) := by decide +kernel
theorem dL_law_1120 : decode cL_law 1120 = .ok (.iadd, 1) := by decide +kernel
theorem dL_law_1121 : decode cL_law 1121 = .ok (.iaload, 1) := by decide +kernel
theorem dL_law_1122 : decode cL_law 1122 = .ok (.invokevirtual 143, 3) := by decide +kernel
theorem dL_law_1125 : decode cL_law 1125 = .ok (.if_icmp .eq 151, 3) := by decide +kernel
theorem dL_law_1128 : decode cL_law 1128 = .ok (.iconst 0, 1) := by decide +kernel
theorem dL_law_1129 : decode cL_law 1129 = .ok (.ireturn, 1) := by decide +kernel
theorem dL_law_1130 : decode cL_law 1130 = .ok (.aload_n 1, 1) := by decide +kernel
theorem dL_law_1131 : decode cL_law 1131 = .ok (.aload_n 0, 1) := by decide +kernel
theorem dL_law_1132 : decode cL_law 1132 = .ok (.iload_n 3, 1) := by decide +kernel
theorem dL_law_1133 : decode cL_law 1133 = .ok (.iconst 1, 1) := by decide +kernel
theorem dL_law_1134 : decode cL_law 1134 = .ok (.iadd, 1) := by decide +kernel
theorem dL_law_1135 : decode cL_law 1135 = .ok (.iaload, 1) := by decide +kernel
theorem dL_law_1136 : decode cL_law 1136 = .ok (.aload_n 0, 1) := by decide +kernel
theorem dL_law_1137 : decode cL_law 1137 = .ok (.iload_n 3, 1) := by decide +kernel
theorem dL_law_1138 : decode cL_law 1138 = .ok (.iconst 2, 1) := by decide +kernel
theorem dL_law_1139 : decode cL_law 1139 = .ok (.iadd, 1) := by decide +kernel
theorem dL_law_1140 : decode cL_law 1140 = .ok (.iaload, 1) := by decide +kernel
theorem dL_law_1141 : decode cL_law 1141 = .ok (.aload_n 0, 1) := by decide +kernel
theorem dL_law_1142 : decode cL_law 1142 = .ok (.iload_n 3, 1) := by decide +kernel
theorem dL_law_1143 : decode cL_law 1143 = .ok (.iconst 3, 1) := by decide +kernel
theorem dL_law_1144 : decode cL_law 1144 = .ok (.iadd, 1) := by decide +kernel
theorem dL_law_1145 : decode cL_law 1145 = .ok (.iaload, 1) := by decide +kernel
theorem dL_law_1146 : decode cL_law 1146 = .ok (.aload_n 0, 1) := by decide +kernel
theorem dL_law_1147 : decode cL_law 1147 = .ok (.iload_n 3, 1) := by decide +kernel
theorem dL_law_1148 : decode cL_law 1148 = .ok (.iconst 4, 1) := by decide +kernel
theorem dL_law_1149 : decode cL_law 1149 = .ok (.iadd, 1) := by decide +kernel
theorem dL_law_1150 : decode cL_law 1150 = .ok (.iaload, 1) := by decide +kernel
theorem dL_law_1151 : decode cL_law 1151 = .ok (.i2l, 1) := by decide +kernel
theorem dL_law_1152 : decode cL_law 1152 = .ok (.bipush 32, 2) := by decide +kernel
theorem dL_law_1154 : decode cL_law 1154 = .ok (.lshl, 1) := by decide +kernel
theorem dL_law_1155 : decode cL_law 1155 = .ok (.aload_n 0, 1) := by decide +kernel
theorem dL_law_1156 : decode cL_law 1156 = .ok (.iload_n 3, 1) := by decide +kernel
theorem dL_law_1157 : decode cL_law 1157 = .ok (.iconst 5, 1) := by decide +kernel
theorem dL_law_1158 : decode cL_law 1158 = .ok (.iadd, 1) := by decide +kernel
theorem dL_law_1159 : decode cL_law 1159 = .ok (.iaload, 1) := by decide +kernel
theorem dL_law_1160 : decode cL_law 1160 = .ok (.i2l, 1) := by decide +kernel
theorem dL_law_1161 : decode cL_law 1161 = .ok (.ldc2_w 144, 3) := by decide +kernel
theorem dL_law_1164 : decode cL_law 1164 = .ok (.land, 1) := by decide +kernel
theorem dL_law_1165 : decode cL_law 1165 = .ok (.lor, 1) := by decide +kernel
theorem dL_law_1166 : decode cL_law 1166 = .ok (.invokevirtual 146, 3) := by decide +kernel
theorem dL_law_1169 : decode cL_law 1169 = .ok (.aload_n 2, 1) := by decide +kernel
theorem dL_law_1170 : decode cL_law 1170 = .ok (.aload_n 0, 1) := by decide +kernel
theorem dL_law_1171 : decode cL_law 1171 = .ok (.iload_n 3, 1) := by decide +kernel
theorem dL_law_1172 : decode cL_law 1172 = .ok (.iconst 1, 1) := by decide +kernel
theorem dL_law_1173 : decode cL_law 1173 = .ok (.iadd, 1) := by decide +kernel
theorem dL_law_1174 : decode cL_law 1174 = .ok (.iaload, 1) := by decide +kernel
theorem dL_law_1175 : decode cL_law 1175 = .ok (.aload_n 0, 1) := by decide +kernel
theorem dL_law_1176 : decode cL_law 1176 = .ok (.iload_n 3, 1) := by decide +kernel
theorem dL_law_1177 : decode cL_law 1177 = .ok (.iconst 2, 1) := by decide +kernel
theorem dL_law_1178 : decode cL_law 1178 = .ok (.iadd, 1) := by decide +kernel
theorem dL_law_1179 : decode cL_law 1179 = .ok (.iaload, 1) := by decide +kernel
theorem dL_law_1180 : decode cL_law 1180 = .ok (.aload_n 0, 1) := by decide +kernel
theorem dL_law_1181 : decode cL_law 1181 = .ok (.iload_n 3, 1) := by decide +kernel
theorem dL_law_1182 : decode cL_law 1182 = .ok (.iconst 3, 1) := by decide +kernel
theorem dL_law_1183 : decode cL_law 1183 = .ok (.iadd, 1) := by decide +kernel
theorem dL_law_1184 : decode cL_law 1184 = .ok (.iaload, 1) := by decide +kernel
theorem dL_law_1185 : decode cL_law 1185 = .ok (.aload_n 0, 1) := by decide +kernel
theorem dL_law_1186 : decode cL_law 1186 = .ok (.iload_n 3, 1) := by decide +kernel
theorem dL_law_1187 : decode cL_law 1187 = .ok (.iconst 4, 1) := by decide +kernel
theorem dL_law_1188 : decode cL_law 1188 = .ok (.iadd, 1) := by decide +kernel
theorem dL_law_1189 : decode cL_law 1189 = .ok (.iaload, 1) := by decide +kernel
theorem dL_law_1190 : decode cL_law 1190 = .ok (.i2l, 1) := by decide +kernel
theorem dL_law_1191 : decode cL_law 1191 = .ok (.bipush 32, 2) := by decide +kernel
theorem dL_law_1193 : decode cL_law 1193 = .ok (.lshl, 1) := by decide +kernel
theorem dL_law_1194 : decode cL_law 1194 = .ok (.aload_n 0, 1) := by decide +kernel
theorem dL_law_1195 : decode cL_law 1195 = .ok (.iload_n 3, 1) := by decide +kernel
theorem dL_law_1196 : decode cL_law 1196 = .ok (.iconst 5, 1) := by decide +kernel
theorem dL_law_1197 : decode cL_law 1197 = .ok (.iadd, 1) := by decide +kernel
theorem dL_law_1198 : decode cL_law 1198 = .ok (.iaload, 1) := by decide +kernel
theorem dL_law_1199 : decode cL_law 1199 = .ok (.i2l, 1) := by decide +kernel
theorem dL_law_1200 : decode cL_law 1200 = .ok (.ldc2_w 144, 3) := by decide +kernel
theorem dL_law_1203 : decode cL_law 1203 = .ok (.land, 1) := by decide +kernel
theorem dL_law_1204 : decode cL_law 1204 = .ok (.lor, 1) := by decide +kernel
theorem dL_law_1205 : decode cL_law 1205 = .ok (.invokevirtual 150, 3) := by decide +kernel
theorem dL_law_1208 : decode cL_law 1208 = .ok (.if_icmp .eq 68, 3) := by decide +kernel
theorem dL_law_1211 : decode cL_law 1211 = .ok (.iconst 0, 1) := by decide +kernel
theorem dL_law_1212 : decode cL_law 1212 = .ok (.ireturn, 1) := by decide +kernel
theorem dL_law_1213 : decode cL_law 1213 = .ok (.aload_n 1, 1) := by decide +kernel
theorem dL_law_1214 : decode cL_law 1214 = .ok (.aload_n 0, 1) := by decide +kernel
theorem dL_law_1215 : decode cL_law 1215 = .ok (.iload_n 3, 1) := by decide +kernel
theorem dL_law_1216 : decode cL_law 1216 = .ok (.iconst 1, 1) := by decide +kernel
theorem dL_law_1217 : decode cL_law 1217 = .ok (.iadd, 1) := by decide +kernel
theorem dL_law_1218 : decode cL_law 1218 = .ok (.iaload, 1) := by decide +kernel
theorem dL_law_1219 : decode cL_law 1219 = .ok (.aload_n 0, 1) := by decide +kernel
theorem dL_law_1220 : decode cL_law 1220 = .ok (.iload_n 3, 1) := by decide +kernel
theorem dL_law_1221 : decode cL_law 1221 = .ok (.iconst 2, 1) := by decide +kernel
theorem dL_law_1222 : decode cL_law 1222 = .ok (.iadd, 1) := by decide +kernel
theorem dL_law_1223 : decode cL_law 1223 = .ok (.iaload, 1) := by decide +kernel
theorem dL_law_1224 : decode cL_law 1224 = .ok (.aload_n 0, 1) := by decide +kernel
theorem dL_law_1225 : decode cL_law 1225 = .ok (.iload_n 3, 1) := by decide +kernel
theorem dL_law_1226 : decode cL_law 1226 = .ok (.iconst 3, 1) := by decide +kernel
theorem dL_law_1227 : decode cL_law 1227 = .ok (.iadd, 1) := by decide +kernel
theorem dL_law_1228 : decode cL_law 1228 = .ok (.iaload, 1) := by decide +kernel
theorem dL_law_1229 : decode cL_law 1229 = .ok (.aload_n 0, 1) := by decide +kernel
theorem dL_law_1230 : decode cL_law 1230 = .ok (.iload_n 3, 1) := by decide +kernel
theorem dL_law_1231 : decode cL_law 1231 = .ok (.iconst 4, 1) := by decide +kernel
theorem dL_law_1232 : decode cL_law 1232 = .ok (.iadd, 1) := by decide +kernel
theorem dL_law_1233 : decode cL_law 1233 = .ok (.iaload, 1) := by decide +kernel
theorem dL_law_1234 : decode cL_law 1234 = .ok (.aload_n 0, 1) := by decide +kernel
theorem dL_law_1235 : decode cL_law 1235 = .ok (.iload_n 3, 1) := by decide +kernel
theorem dL_law_1236 : decode cL_law 1236 = .ok (.iconst 5, 1) := by decide +kernel
theorem dL_law_1237 : decode cL_law 1237 = .ok (.iadd, 1) := by decide +kernel
theorem dL_law_1238 : decode cL_law 1238 = .ok (.iaload, 1) := by decide +kernel
theorem dL_law_1239 : decode cL_law 1239 = .ok (.invokevirtual 151, 3) := by decide +kernel
theorem dL_law_1242 : decode cL_law 1242 = .ok (.aload_n 2, 1) := by decide +kernel
theorem dL_law_1243 : decode cL_law 1243 = .ok (.aload_n 0, 1) := by decide +kernel
theorem dL_law_1244 : decode cL_law 1244 = .ok (.iload_n 3, 1) := by decide +kernel
theorem dL_law_1245 : decode cL_law 1245 = .ok (.iconst 1, 1) := by decide +kernel
theorem dL_law_1246 : decode cL_law 1246 = .ok (.iadd, 1) := by decide +kernel
theorem dL_law_1247 : decode cL_law 1247 = .ok (.iaload, 1) := by decide +kernel
theorem dL_law_1248 : decode cL_law 1248 = .ok (.aload_n 0, 1) := by decide +kernel
theorem dL_law_1249 : decode cL_law 1249 = .ok (.iload_n 3, 1) := by decide +kernel
theorem dL_law_1250 : decode cL_law 1250 = .ok (.iconst 2, 1) := by decide +kernel
theorem dL_law_1251 : decode cL_law 1251 = .ok (.iadd, 1) := by decide +kernel
theorem dL_law_1252 : decode cL_law 1252 = .ok (.iaload, 1) := by decide +kernel
theorem dL_law_1253 : decode cL_law 1253 = .ok (.aload_n 0, 1) := by decide +kernel
theorem dL_law_1254 : decode cL_law 1254 = .ok (.iload_n 3, 1) := by decide +kernel
theorem dL_law_1255 : decode cL_law 1255 = .ok (.iconst 3, 1) := by decide +kernel
theorem dL_law_1256 : decode cL_law 1256 = .ok (.iadd, 1) := by decide +kernel
theorem dL_law_1257 : decode cL_law 1257 = .ok (.iaload, 1) := by decide +kernel
theorem dL_law_1258 : decode cL_law 1258 = .ok (.aload_n 0, 1) := by decide +kernel
theorem dL_law_1259 : decode cL_law 1259 = .ok (.iload_n 3, 1) := by decide +kernel
theorem dL_law_1260 : decode cL_law 1260 = .ok (.iconst 4, 1) := by decide +kernel
theorem dL_law_1261 : decode cL_law 1261 = .ok (.iadd, 1) := by decide +kernel
theorem dL_law_1262 : decode cL_law 1262 = .ok (.iaload, 1) := by decide +kernel
theorem dL_law_1263 : decode cL_law 1263 = .ok (.aload_n 0, 1) := by decide +kernel
theorem dL_law_1264 : decode cL_law 1264 = .ok (.iload_n 3, 1) := by decide +kernel
theorem dL_law_1265 : decode cL_law 1265 = .ok (.iconst 5, 1) := by decide +kernel
theorem dL_law_1266 : decode cL_law 1266 = .ok (.iadd, 1) := by decide +kernel
theorem dL_law_1267 : decode cL_law 1267 = .ok (.iaload, 1) := by decide +kernel
theorem dL_law_1268 : decode cL_law 1268 = .ok (.invokevirtual 155, 3) := by decide +kernel
theorem dL_law_1271 : decode cL_law 1271 = .ok (.if_icmp .eq 5, 3) := by decide +kernel
theorem dL_law_1274 : decode cL_law 1274 = .ok (.iconst 0, 1) := by decide +kernel
theorem dL_law_1275 : decode cL_law 1275 = .ok (.ireturn, 1) := by decide +kernel
theorem dL_law_1276 : decode cL_law 1276 = .ok (.iinc 3 6, 3) := by decide +kernel
theorem dL_law_1279 : decode cL_law 1279 = .ok (.goto (-1261), 3) := by decide +kernel
theorem dL_law_1282 : decode cL_law 1282 = .ok (.iconst 1, 1) := by decide +kernel
theorem dL_law_1283 : decode cL_law 1283 = .ok (.ireturn, 1) := by decide +kernel
