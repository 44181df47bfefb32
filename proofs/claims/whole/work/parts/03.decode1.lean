theorem dX6_corner_36 : decode cX6_corner 36 = .ok (.iload 4, 2) := by decide +kernel
theorem dX6_corner_38 : decode cX6_corner 38 = .ok (.invokestatic 167, 3) := by decide +kernel
theorem dX6_corner_41 : decode cX6_corner 41 = .ok (.ifCond .ne 7, 3) := by decide +kernel
theorem dX6_corner_44 : decode cX6_corner 44 = .ok (.ldc2_w 170, 3) := by decide +kernel
theorem dX6_corner_47 : decode cX6_corner 47 = .ok (.lreturn, 1) := by decide +kernel
theorem dX6_corner_48 : decode cX6_corner 48 = .ok (.aload_n 0, 1) := by decide +kernel
theorem dX6_corner_49 : decode cX6_corner 49 = .ok (.invokevirtual 122, 3) := by decide +kernel
theorem dX6_corner_52 : decode cX6_corner 52 = .ok (.lconst 0, 1) := by decide +kernel
theorem dX6_corner_53 : decode cX6_corner 53 = .ok (.lstore 5, 2) := by decide +kernel
theorem dX6_corner_55 : decode cX6_corner 55 = .ok (.iconst 0, 1) := by decide +kernel
theorem dX6_corner_56 : decode cX6_corner 56 = .ok (.istore 7, 2) := by decide +kernel
theorem dX6_corner_58 : decode cX6_corner 58 = .ok (.iload 7, 2) := by decide +kernel
theorem dX6_corner_60 : decode cX6_corner 60 = .ok (.iconst 2, 1) := by decide +kernel
theorem dX6_corner_61 : decode cX6_corner 61 = .ok (.aload_n 0, 1) := by decide +kernel
theorem dX6_corner_62 : decode cX6_corner 62 = .ok (.getfield 12, 3) := by decide +kernel
theorem dX6_corner_65 : decode cX6_corner 65 = .ok (.getfield 90, 3) := by decide +kernel
theorem dX6_corner_68 : decode cX6_corner 68 = .ok (.imul, 1) := by decide +kernel
theorem dX6_corner_69 : decode cX6_corner 69 = .ok (.if_icmp .ge 80, 3) := by decide +kernel
theorem dX6_corner_72 : decode cX6_corner 72 = .ok (.aload_n 0, 1) := by decide +kernel
theorem dX6_corner_73 : decode cX6_corner 73 = .ok (.getfield 12, 3) := by decide +kernel
theorem dX6_corner_76 : decode cX6_corner 76 = .ok (.iload 7, 2) := by decide +kernel
theorem dX6_corner_78 : decode cX6_corner 78 = .ok (.invokevirtual 239, 3) := by decide +kernel
theorem dX6_corner_81 : decode cX6_corner 81 = .ok (.iload_n 1, 1) := by decide +kernel
theorem dX6_corner_82 : decode cX6_corner 82 = .ok (.if_icmp .ne 61, 3) := by decide +kernel
theorem dX6_corner_85 : decode cX6_corner 85 = .ok (.aload_n 0, 1) := by decide +kernel
theorem dX6_corner_86 : decode cX6_corner 86 = .ok (.getfield 42, 3) := by decide +kernel
theorem dX6_corner_89 : decode cX6_corner 89 = .ok (.getfield 242, 3) := by decide +kernel
theorem dX6_corner_92 : decode cX6_corner 92 = .ok (.iload 7, 2) := by decide +kernel
theorem dX6_corner_94 : decode cX6_corner 94 = .ok (.iaload, 1) := by decide +kernel
theorem dX6_corner_95 : decode cX6_corner 95 = .ok (.iload_n 2, 1) := by decide +kernel
theorem dX6_corner_96 : decode cX6_corner 96 = .ok (.if_icmp .ge 47, 3) := by decide +kernel
theorem dX6_corner_99 : decode cX6_corner 99 = .ok (.lload 5, 2) := by decide +kernel
theorem dX6_corner_101 : decode cX6_corner 101 = .ok (.aload_n 0, 1) := by decide +kernel
theorem dX6_corner_102 : decode cX6_corner 102 = .ok (.getfield 35, 3) := by decide +kernel
theorem dX6_corner_105 : decode cX6_corner 105 = .ok (.getfield 184, 3) := by decide +kernel
theorem dX6_corner_108 : decode cX6_corner 108 = .ok (.iload 7, 2) := by decide +kernel
theorem dX6_corner_110 : decode cX6_corner 110 = .ok (.iconst 2, 1) := by decide +kernel
theorem dX6_corner_111 : decode cX6_corner 111 = .ok (.idiv, 1) := by decide +kernel
theorem dX6_corner_112 : decode cX6_corner 112 = .ok (.laload, 1) := by decide +kernel
theorem dX6_corner_113 : decode cX6_corner 113 = .ok (.iload_n 3, 1) := by decide +kernel
theorem dX6_corner_114 : decode cX6_corner 114 = .ok (.ifCond .ne 15, 3) := by decide +kernel
theorem dX6_corner_117 : decode cX6_corner 117 = .ok (.aload_n 0, 1) := by decide +kernel
theorem dX6_corner_118 : decode cX6_corner 118 = .ok (.getfield 12, 3) := by decide +kernel
theorem dX6_corner_121 : decode cX6_corner 121 = .ok (.iload 7, 2) := by decide +kernel
theorem dX6_corner_123 : decode cX6_corner 123 = .ok (.invokevirtual 245, 3) := by decide +kernel
theorem dX6_corner_126 : decode cX6_corner 126 = .ok (.goto 12, 3) := by decide +kernel
theorem dX6_corner_129 : decode cX6_corner 129 = .ok (.aload_n 0, 1) := by decide +kernel
theorem dX6_corner_130 : decode cX6_corner 130 = .ok (.getfield 12, 3) := by decide +kernel
theorem dX6_corner_133 : decode cX6_corner 133 = .ok (.iload 7, 2) := by decide +kernel
theorem dX6_corner_135 : decode cX6_corner 135 = .ok (.invokevirtual 248, 3) := by decide +kernel
theorem dX6_corner_138 : decode cX6_corner 138 = .ok (.i2l, 1) := by decide +kernel
theorem dX6_corner_139 : decode cX6_corner 139 = .ok (.lmul, 1) := by decide +kernel
theorem dX6_corner_140 : decode cX6_corner 140 = .ok (.ladd, 1) := by decide +kernel
theorem dX6_corner_141 : decode cX6_corner 141 = .ok (.lstore 5, 2) := by decide +kernel
theorem dX6_corner_143 : decode cX6_corner 143 = .ok (.iinc 7 1, 3) := by decide +kernel
theorem dX6_corner_146 : decode cX6_corner 146 = .ok (.goto (-88), 3) := by decide +kernel
theorem dX6_corner_149 : decode cX6_corner 149 = .ok (.lload 5, 2) := by decide +kernel
theorem dX6_corner_151 : decode cX6_corner 151 = .ok (.aload_n 0, 1) := by decide +kernel
theorem dX6_corner_152 : decode cX6_corner 152 = .ok (.getfield 35, 3) := by decide +kernel
theorem dX6_corner_155 : decode cX6_corner 155 = .ok (.getfield 176, 3) := by decide +kernel
theorem dX6_corner_158 : decode cX6_corner 158 = .ok (.iload 4, 2) := by decide +kernel
theorem dX6_corner_160 : decode cX6_corner 160 = .ok (.invokestatic 180, 3) := by decide +kernel
theorem dX6_corner_163 : decode cX6_corner 163 = .ok (.lreturn, 1) := by decide +kernel
theorem dX6_type_0 : decode cX6_type 0 = .ok (.iload_n 1, 1) := by decide +kernel
theorem dX6_type_1 : decode cX6_type 1 = .ok (.bipush 32, 2) := by decide +kernel
theorem dX6_type_3 : decode cX6_type 3 = .ok (.if_icmp .lt 9, 3) := by decide +kernel
theorem dX6_type_6 : decode cX6_type 6 = .ok (.iload_n 1, 1) := by decide +kernel
theorem dX6_type_7 : decode cX6_type 7 = .ok (.bipush 126, 2) := by decide +kernel
theorem dX6_type_9 : decode cX6_type 9 = .ok (.if_icmp .le 5, 3) := by decide +kernel
theorem dX6_type_12 : decode cX6_type 12 = .ok (.iconst (-1), 1) := by decide +kernel
theorem dX6_type_13 : decode cX6_type 13 = .ok (.ireturn, 1) := by decide +kernel
theorem dX6_type_14 : decode cX6_type 14 = .ok (.aload_n 0, 1) := by decide +kernel
theorem dX6_type_15 : decode cX6_type 15 = .ok (.getfield 49, 3) := by decide +kernel
theorem dX6_type_18 : decode cX6_type 18 = .ok (.iload_n 1, 1) := by decide +kernel
theorem dX6_type_19 : decode cX6_type 19 = .ok (.invokevirtual 251, 3) := by decide +kernel
theorem dX6_type_22 : decode cX6_type 22 = .ok (.ifCond .eq 13, 3) := by decide +kernel
theorem dX6_type_25 : decode cX6_type 25 = .ok (.aload_n 0, 1) := by decide +kernel
theorem dX6_type_26 : decode cX6_type 26 = .ok (.getfield 49, 3) := by decide +kernel
theorem dX6_type_29 : decode cX6_type 29 = .ok (.getfield 254, 3) := by decide +kernel
theorem dX6_type_32 : decode cX6_type 32 = .ok (.goto 5, 3) := by decide +kernel
theorem dX6_type_35 : decode cX6_type 35 = .ok (.bipush (-3), 2) := by decide +kernel
theorem dX6_type_37 : decode cX6_type 37 = .ok (.ireturn, 1) := by decide +kernel
theorem dX6_read_0 : decode cX6_read 0 = .ok (.aload_n 0, 1) := by decide +kernel
theorem dX6_read_1 : decode cX6_read 1 = .ok (.getfield 49, 3) := by decide +kernel
theorem dX6_read_4 : decode cX6_read 4 = .ok (.aload_n 0, 1) := by decide +kernel
theorem dX6_read_5 : decode cX6_read 5 = .ok (.getfield 16, 3) := by decide +kernel
theorem dX6_read_8 : decode cX6_read 8 = .ok (.invokevirtual 257, 3) := by decide +kernel
theorem dX6_read_11 : decode cX6_read 11 = .ok (.istore_n 1, 1) := by decide +kernel
theorem dX6_read_12 : decode cX6_read 12 = .ok (.aload_n 0, 1) := by decide +kernel
theorem dX6_read_13 : decode cX6_read 13 = .ok (.getfield 49, 3) := by decide +kernel
theorem dX6_read_16 : decode cX6_read 16 = .ok (.iconst 0, 1) := by decide +kernel
theorem dX6_read_17 : decode cX6_read 17 = .ok (.putfield 254, 3) := by decide +kernel
theorem dX6_read_20 : decode cX6_read 20 = .ok (.iload_n 1, 1) := by decide +kernel
theorem dX6_read_21 : decode cX6_read 21 = .ok (.ifCond .ne 14, 3) := by decide +kernel
theorem dX6_read_24 : decode cX6_read 24 = .ok (.bipush (-20), 2) := by decide +kernel
theorem dX6_read_26 : decode cX6_read 26 = .ok (.aload_n 0, 1) := by decide +kernel
theorem dX6_read_27 : decode cX6_read 27 = .ok (.getfield 49, 3) := by decide +kernel
theorem dX6_read_30 : decode cX6_read 30 = .ok (.getfield 261, 3) := by decide +kernel
theorem dX6_read_33 : decode cX6_read 33 = .ok (.isub, 1) := by decide +kernel
theorem dX6_read_34 : decode cX6_read 34 = .ok (.ireturn, 1) := by decide +kernel
theorem dX6_read_35 : decode cX6_read 35 = .ok (.aload_n 0, 1) := by decide +kernel
theorem dX6_read_36 : decode cX6_read 36 = .ok (.invokevirtual 64, 3) := by decide +kernel
theorem dX6_read_39 : decode cX6_read 39 = .ok (.aload_n 0, 1) := by decide +kernel
theorem dX6_read_40 : decode cX6_read 40 = .ok (.getfield 12, 3) := by decide +kernel
theorem dX6_read_43 : decode cX6_read 43 = .ok (.aload_n 0, 1) := by decide +kernel
theorem dX6_read_44 : decode cX6_read 44 = .ok (.getfield 16, 3) := by decide +kernel
theorem dX6_read_47 : decode cX6_read 47 = .ok (.invokevirtual 264, 3) := by decide +kernel
theorem dX6_read_50 : decode cX6_read 50 = .ok (.aload_n 0, 1) := by decide +kernel
theorem dX6_read_51 : decode cX6_read 51 = .ok (.getfield 12, 3) := by decide +kernel
theorem dX6_read_54 : decode cX6_read 54 = .ok (.getfield 90, 3) := by decide +kernel
theorem dX6_read_57 : decode cX6_read 57 = .ok (.ireturn, 1) := by decide +kernel
theorem dX6_drift_0 : decode cX6_drift 0 = .ok (.iload_n 1, 1) := by decide +kernel
theorem dX6_drift_1 : decode cX6_drift 1 = .ok (.iconst 1, 1) := by decide +kernel
theorem dX6_drift_2 : decode cX6_drift 2 = .ok (.if_icmp .lt 9, 3) := by decide +kernel
theorem dX6_drift_5 : decode cX6_drift 5 = .ok (.iload_n 1, 1) := by decide +kernel
theorem dX6_drift_6 : decode cX6_drift 6 = .ok (.bipush 40, 2) := by decide +kernel
theorem dX6_drift_8 : decode cX6_drift 8 = .ok (.if_icmp .le 5, 3) := by decide +kernel
theorem dX6_drift_11 : decode cX6_drift 11 = .ok (.iconst (-1), 1) := by decide +kernel
theorem dX6_drift_12 : decode cX6_drift 12 = .ok (.ireturn, 1) := by decide +kernel
theorem dX6_drift_13 : decode cX6_drift 13 = .ok (.iconst 0, 1) := by decide +kernel
theorem dX6_drift_14 : decode cX6_drift 14 = .ok (.istore_n 2, 1) := by decide +kernel
theorem dX6_drift_15 : decode cX6_drift 15 = .ok (.iload_n 2, 1) := by decide +kernel
theorem dX6_drift_16 : decode cX6_drift 16 = .ok (.iload_n 1, 1) := by decide +kernel
theorem dX6_drift_17 : decode cX6_drift 17 = .ok (.if_icmp .ge 17, 3) := by decide +kernel
theorem dX6_drift_20 : decode cX6_drift 20 = .ok (.aload_n 0, 1) := by decide +kernel
theorem dX6_drift_21 : decode cX6_drift 21 = .ok (.invokevirtual 64, 3) := by decide +kernel
theorem dX6_drift_24 : decode cX6_drift 24 = .ok (.aload_n 0, 1) := by decide +kernel
theorem dX6_drift_25 : decode cX6_drift 25 = .ok (.invokevirtual 268, 3) := by decide +kernel
theorem dX6_drift_28 : decode cX6_drift 28 = .ok (.iinc 2 1, 3) := by decide +kernel
theorem dX6_drift_31 : decode cX6_drift 31 = .ok (.goto (-16), 3) := by decide +kernel
theorem dX6_drift_34 : decode cX6_drift 34 = .ok (.aload_n 0, 1) := by decide +kernel
theorem dX6_drift_35 : decode cX6_drift 35 = .ok (.getfield 12, 3) := by decide +kernel
theorem dX6_drift_38 : decode cX6_drift 38 = .ok (.getfield 90, 3) := by decide +kernel
theorem dX6_drift_41 : decode cX6_drift 41 = .ok (.ireturn, 1) := by decide +kernel
theorem dX6_undo_0 : decode cX6_undo 0 = .ok (.aload_n 0, 1) := by decide +kernel
theorem dX6_undo_1 : decode cX6_undo 1 = .ok (.getfield 25, 3) := by decide +kernel
theorem dX6_undo_4 : decode cX6_undo 4 = .ok (.getfield 164, 3) := by decide +kernel
theorem dX6_undo_7 : decode cX6_undo 7 = .ok (.ifCond .ne 6, 3) := by decide +kernel
theorem dX6_undo_10 : decode cX6_undo 10 = .ok (.bipush (-4), 2) := by decide +kernel
theorem dX6_undo_12 : decode cX6_undo 12 = .ok (.ireturn, 1) := by decide +kernel
theorem dX6_undo_13 : decode cX6_undo 13 = .ok (.aload_n 0, 1) := by decide +kernel
theorem dX6_undo_14 : decode cX6_undo 14 = .ok (.getfield 25, 3) := by decide +kernel
theorem dX6_undo_17 : decode cX6_undo 17 = .ok (.aload_n 0, 1) := by decide +kernel
theorem dX6_undo_18 : decode cX6_undo 18 = .ok (.getfield 12, 3) := by decide +kernel
theorem dX6_undo_21 : decode cX6_undo 21 = .ok (.invokevirtual 271, 3) := by decide +kernel
theorem dX6_undo_24 : decode cX6_undo 24 = .ok (.aload_n 0, 1) := by decide +kernel
theorem dX6_undo_25 : decode cX6_undo 25 = .ok (.iconst 0, 1) := by decide +kernel
theorem dX6_undo_26 : decode cX6_undo 26 = .ok (.putfield 274, 3) := by decide +kernel
theorem dX6_undo_29 : decode cX6_undo 29 = .ok (.aload_n 0, 1) := by decide +kernel
theorem dX6_undo_30 : decode cX6_undo 30 = .ok (.getfield 25, 3) := by decide +kernel
theorem dX6_undo_33 : decode cX6_undo 33 = .ok (.getfield 164, 3) := by decide +kernel
theorem dX6_undo_36 : decode cX6_undo 36 = .ok (.ireturn, 1) := by decide +kernel
theorem dX6_seed_0 : decode cX6_seed 0 = .ok (.iload_n 1, 1) := by decide +kernel
theorem dX6_seed_1 : decode cX6_seed 1 = .ok (.ifCond .ge 5, 3) := by decide +kernel
theorem dX6_seed_4 : decode cX6_seed 4 = .ok (.iconst (-1), 1) := by decide +kernel
theorem dX6_seed_5 : decode cX6_seed 5 = .ok (.ireturn, 1) := by decide +kernel
theorem dX6_seed_6 : decode cX6_seed 6 = .ok (.aload_n 0, 1) := by decide +kernel
theorem dX6_seed_7 : decode cX6_seed 7 = .ok (.getfield 12, 3) := by decide +kernel
theorem dX6_seed_10 : decode cX6_seed 10 = .ok (.getfield 278, 3) := by decide +kernel
theorem dX6_seed_13 : decode cX6_seed 13 = .ok (.istore_n 2, 1) := by decide +kernel
theorem dX6_seed_14 : decode cX6_seed 14 = .ok (.aload_n 0, 1) := by decide +kernel
theorem dX6_seed_15 : decode cX6_seed 15 = .ok (.getfield 12, 3) := by decide +kernel
theorem dX6_seed_18 : decode cX6_seed 18 = .ok (.iload_n 1, 1) := by decide +kernel
theorem dX6_seed_19 : decode cX6_seed 19 = .ok (.putfield 278, 3) := by decide +kernel
theorem dX6_seed_22 : decode cX6_seed 22 = .ok (.iload_n 2, 1) := by decide +kernel
theorem dX6_seed_23 : decode cX6_seed 23 = .ok (.ireturn, 1) := by decide +kernel
theorem dX6_image_0 : decode cX6_image 0 = .ok (.aload_n 0, 1) := by decide +kernel
theorem dX6_image_1 : decode cX6_image 1 = .ok (.getfield 19, 3) := by decide +kernel
theorem dX6_image_4 : decode cX6_image 4 = .ok (.aload_n 0, 1) := by decide +kernel
theorem dX6_image_5 : decode cX6_image 5 = .ok (.getfield 12, 3) := by decide +kernel
theorem dX6_image_8 : decode cX6_image 8 = .ok (.invokevirtual 281, 3) := by decide +kernel
theorem dX6_image_11 : decode cX6_image 11 = .ok (.aload_n 0, 1) := by decide +kernel
theorem dX6_image_12 : decode cX6_image 12 = .ok (.getfield 29, 3) := by decide +kernel
theorem dX6_image_15 : decode cX6_image 15 = .ok (.aload_n 0, 1) := by decide +kernel
theorem dX6_image_16 : decode cX6_image 16 = .ok (.getfield 25, 3) := by decide +kernel
theorem dX6_image_19 : decode cX6_image 19 = .ok (.invokevirtual 284, 3) := by decide +kernel
theorem dX6_image_22 : decode cX6_image 22 = .ok (.aload_n 0, 1) := by decide +kernel
theorem dX6_image_23 : decode cX6_image 23 = .ok (.iconst 1, 1) := by decide +kernel
theorem dX6_image_24 : decode cX6_image 24 = .ok (.putfield 287, 3) := by decide +kernel
theorem dX6_image_27 : decode cX6_image 27 = .ok (.iconst 1, 1) := by decide +kernel
theorem dX6_image_28 : decode cX6_image 28 = .ok (.ireturn, 1) := by decide +kernel
theorem dX6_restore_0 : decode cX6_restore 0 = .ok (.aload_n 0, 1) := by decide +kernel
theorem dX6_restore_1 : decode cX6_restore 1 = .ok (.getfield 287, 3) := by decide +kernel
theorem dX6_restore_4 : decode cX6_restore 4 = .ok (.ifCond .ne 6, 3) := by decide +kernel
theorem dX6_restore_7 : decode cX6_restore 7 = .ok (.bipush (-4), 2) := by decide +kernel
theorem dX6_restore_9 : decode cX6_restore 9 = .ok (.ireturn, 1) := by decide +kernel
theorem dX6_restore_10 : decode cX6_restore 10 = .ok (.aload_n 0, 1) := by decide +kernel
theorem dX6_restore_11 : decode cX6_restore 11 = .ok (.getfield 12, 3) := by decide +kernel
theorem dX6_restore_14 : decode cX6_restore 14 = .ok (.aload_n 0, 1) := by decide +kernel
theorem dX6_restore_15 : decode cX6_restore 15 = .ok (.getfield 19, 3) := by decide +kernel
theorem dX6_restore_18 : decode cX6_restore 18 = .ok (.invokevirtual 281, 3) := by decide +kernel
theorem dX6_restore_21 : decode cX6_restore 21 = .ok (.aload_n 0, 1) := by decide +kernel
theorem dX6_restore_22 : decode cX6_restore 22 = .ok (.getfield 25, 3) := by decide +kernel
theorem dX6_restore_25 : decode cX6_restore 25 = .ok (.aload_n 0, 1) := by decide +kernel
theorem dX6_restore_26 : decode cX6_restore 26 = .ok (.getfield 29, 3) := by decide +kernel
theorem dX6_restore_29 : decode cX6_restore 29 = .ok (.invokevirtual 284, 3) := by decide +kernel
theorem dX6_restore_32 : decode cX6_restore 32 = .ok (.aload_n 0, 1) := by decide +kernel
theorem dX6_restore_33 : decode cX6_restore 33 = .ok (.iconst 0, 1) := by decide +kernel
theorem dX6_restore_34 : decode cX6_restore 34 = .ok (.putfield 274, 3) := by decide +kernel
theorem dX6_restore_37 : decode cX6_restore 37 = .ok (.iconst 1, 1) := by decide +kernel
theorem dX6_restore_38 : decode cX6_restore 38 = .ok (.ireturn, 1) := by decide +kernel
theorem dX6_what_0 : decode cX6_what 0 = .ok (.aload_n 0, 1) := by decide +kernel
theorem dX6_what_1 : decode cX6_what 1 = .ok (.iload_n 1, 1) := by decide +kernel
theorem dX6_what_2 : decode cX6_what 2 = .ok (.iload_n 2, 1) := by decide +kernel
theorem dX6_what_3 : decode cX6_what 3 = .ok (.invokevirtual 290, 3) := by decide +kernel
theorem dX6_what_6 : decode cX6_what 6 = .ok (.istore 4, 2) := by decide +kernel
theorem dX6_what_8 : decode cX6_what 8 = .ok (.iload 4, 2) := by decide +kernel
theorem dX6_what_10 : decode cX6_what 10 = .ok (.ifCond .eq 6, 3) := by decide +kernel
theorem dX6_what_13 : decode cX6_what 13 = .ok (.iload 4, 2) := by decide +kernel
theorem dX6_what_15 : decode cX6_what 15 = .ok (.ireturn, 1) := by decide +kernel
theorem dX6_what_16 : decode cX6_what 16 = .ok (.aload_n 0, 1) := by decide +kernel
theorem dX6_what_17 : decode cX6_what 17 = .ok (.getfield 55, 3) := by decide +kernel
theorem dX6_what_20 : decode cX6_what 20 = .ok (.iload_n 1, 1) := by decide +kernel
theorem dX6_what_21 : decode cX6_what 21 = .ok (.aaload, 1) := by decide +kernel
theorem dX6_what_22 : decode cX6_what 22 = .ok (.astore 5, 2) := by decide +kernel
theorem dX6_what_24 : decode cX6_what 24 = .ok (.aload 5, 2) := by decide +kernel
theorem dX6_what_26 : decode cX6_what 26 = .ok (.iload_n 3, 1) := by decide +kernel
theorem dX6_what_27 : decode cX6_what 27 = .ok (.aload_n 0, 1) := by decide +kernel
theorem dX6_what_28 : decode cX6_what 28 = .ok (.getfield 12, 3) := by decide +kernel
theorem dX6_what_31 : decode cX6_what 31 = .ok (.getfield 90, 3) := by decide +kernel
theorem dX6_what_34 : decode cX6_what 34 = .ok (.invokevirtual 293, 3) := by decide +kernel
theorem dX6_what_37 : decode cX6_what 37 = .ok (.ifCond .ne 6, 3) := by decide +kernel
theorem dX6_what_40 : decode cX6_what 40 = .ok (.bipush (-13), 2) := by decide +kernel
theorem dX6_what_42 : decode cX6_what 42 = .ok (.ireturn, 1) := by decide +kernel
theorem dX6_what_43 : decode cX6_what 43 = .ok (.aload 5, 2) := by decide +kernel
theorem dX6_what_45 : decode cX6_what 45 = .ok (.iload_n 3, 1) := by decide +kernel
theorem dX6_what_46 : decode cX6_what 46 = .ok (.aload_n 0, 1) := by decide +kernel
theorem dX6_what_47 : decode cX6_what 47 = .ok (.getfield 12, 3) := by decide +kernel
theorem dX6_what_50 : decode cX6_what 50 = .ok (.getfield 90, 3) := by decide +kernel
theorem dX6_what_53 : decode cX6_what 53 = .ok (.invokevirtual 297, 3) := by decide +kernel
theorem dX6_what_56 : decode cX6_what 56 = .ok (.ifCond .ne 6, 3) := by decide +kernel
theorem dX6_what_59 : decode cX6_what 59 = .ok (.bipush (-2), 2) := by decide +kernel
theorem dX6_what_61 : decode cX6_what 61 = .ok (.ireturn, 1) := by decide +kernel
theorem dX6_what_62 : decode cX6_what 62 = .ok (.aload_n 0, 1) := by decide +kernel
theorem dX6_what_63 : decode cX6_what 63 = .ok (.invokevirtual 122, 3) := by decide +kernel
theorem dX6_what_66 : decode cX6_what 66 = .ok (.aload_n 0, 1) := by decide +kernel
theorem dX6_what_67 : decode cX6_what 67 = .ok (.aload 5, 2) := by decide +kernel
theorem dX6_what_69 : decode cX6_what 69 = .ok (.getfield 300, 3) := by decide +kernel
theorem dX6_what_72 : decode cX6_what 72 = .ok (.iload_n 3, 1) := by decide +kernel
theorem dX6_what_73 : decode cX6_what 73 = .ok (.invokevirtual 303, 3) := by decide +kernel
theorem dX6_what_76 : decode cX6_what 76 = .ok (.ireturn, 1) := by decide +kernel
theorem dX6_film_0 : decode cX6_film 0 = .ok (.aload_n 0, 1) := by decide +kernel
theorem dX6_film_1 : decode cX6_film 1 = .ok (.iload_n 1, 1) := by decide +kernel
theorem dX6_film_2 : decode cX6_film 2 = .ok (.iload_n 2, 1) := by decide +kernel
theorem dX6_film_3 : decode cX6_film 3 = .ok (.invokevirtual 290, 3) := by decide +kernel
theorem dX6_film_6 : decode cX6_film 6 = .ok (.istore 4, 2) := by decide +kernel
theorem dX6_film_8 : decode cX6_film 8 = .ok (.iload 4, 2) := by decide +kernel
theorem dX6_film_10 : decode cX6_film 10 = .ok (.ifCond .eq 6, 3) := by decide +kernel
theorem dX6_film_13 : decode cX6_film 13 = .ok (.iload 4, 2) := by decide +kernel
theorem dX6_film_15 : decode cX6_film 15 = .ok (.ireturn, 1) := by decide +kernel
theorem dX6_film_16 : decode cX6_film 16 = .ok (.aload_n 0, 1) := by decide +kernel
theorem dX6_film_17 : decode cX6_film 17 = .ok (.getfield 55, 3) := by decide +kernel
theorem dX6_film_20 : decode cX6_film 20 = .ok (.iload_n 1, 1) := by decide +kernel
theorem dX6_film_21 : decode cX6_film 21 = .ok (.aaload, 1) := by decide +kernel
theorem dX6_film_22 : decode cX6_film 22 = .ok (.astore 5, 2) := by decide +kernel
theorem dX6_film_24 : decode cX6_film 24 = .ok (.aload 5, 2) := by decide +kernel
theorem dX6_film_26 : decode cX6_film 26 = .ok (.iload_n 3, 1) := by decide +kernel
theorem dX6_film_27 : decode cX6_film 27 = .ok (.aload_n 0, 1) := by decide +kernel
theorem dX6_film_28 : decode cX6_film 28 = .ok (.getfield 12, 3) := by decide +kernel
theorem dX6_film_31 : decode cX6_film 31 = .ok (.getfield 90, 3) := by decide +kernel
theorem dX6_film_34 : decode cX6_film 34 = .ok (.invokevirtual 293, 3) := by decide +kernel
theorem dX6_film_37 : decode cX6_film 37 = .ok (.ifCond .ne 6, 3) := by decide +kernel
theorem dX6_film_40 : decode cX6_film 40 = .ok (.bipush (-13), 2) := by decide +kernel
theorem dX6_film_42 : decode cX6_film 42 = .ok (.ireturn, 1) := by decide +kernel
theorem dX6_film_43 : decode cX6_film 43 = .ok (.aload_n 0, 1) := by decide +kernel
theorem dX6_film_44 : decode cX6_film 44 = .ok (.invokevirtual 122, 3) := by decide +kernel
theorem dX6_film_47 : decode cX6_film 47 = .ok (.iconst 0, 1) := by decide +kernel
theorem dX6_film_48 : decode cX6_film 48 = .ok (.istore 6, 2) := by decide +kernel
theorem dX6_film_50 : decode cX6_film 50 = .ok (.iload 6, 2) := by decide +kernel
theorem dX6_film_52 : decode cX6_film 52 = .ok (.aload_n 0, 1) := by decide +kernel
theorem dX6_film_53 : decode cX6_film 53 = .ok (.getfield 12, 3) := by decide +kernel
theorem dX6_film_56 : decode cX6_film 56 = .ok (.getfield 90, 3) := by decide +kernel
theorem dX6_film_59 : decode cX6_film 59 = .ok (.if_icmp .ge 29, 3) := by decide +kernel
theorem dX6_film_62 : decode cX6_film 62 = .ok (.aload 5, 2) := by decide +kernel
theorem dX6_film_64 : decode cX6_film 64 = .ok (.getfield 300, 3) := by decide +kernel
theorem dX6_film_67 : decode cX6_film 67 = .ok (.iload_n 3, 1) := by decide +kernel
theorem dX6_film_68 : decode cX6_film 68 = .ok (.iload 6, 2) := by decide +kernel
theorem dX6_film_70 : decode cX6_film 70 = .ok (.iadd, 1) := by decide +kernel
theorem dX6_film_71 : decode cX6_film 71 = .ok (.aload_n 0, 1) := by decide +kernel
theorem dX6_film_72 : decode cX6_film 72 = .ok (.getfield 35, 3) := by decide +kernel
theorem dX6_film_75 : decode cX6_film 75 = .ok (.iload 6, 2) := by decide +kernel
theorem dX6_film_77 : decode cX6_film 77 = .ok (.invokevirtual 307, 3) := by decide +kernel
theorem dX6_film_80 : decode cX6_film 80 = .ok (.i2l, 1) := by decide +kernel
theorem dX6_film_81 : decode cX6_film 81 = .ok (.lastore, 1) := by decide +kernel
theorem dX6_film_82 : decode cX6_film 82 = .ok (.iinc 6 1, 3) := by decide +kernel
theorem dX6_film_85 : decode cX6_film 85 = .ok (.goto (-35), 3) := by decide +kernel
theorem dX6_film_88 : decode cX6_film 88 = .ok (.aload_n 0, 1) := by decide +kernel
theorem dX6_film_89 : decode cX6_film 89 = .ok (.getfield 12, 3) := by decide +kernel
theorem dX6_film_92 : decode cX6_film 92 = .ok (.getfield 90, 3) := by decide +kernel
theorem dX6_film_95 : decode cX6_film 95 = .ok (.ireturn, 1) := by decide +kernel
theorem dX6_sheet_0 : decode cX6_sheet 0 = .ok (.iload_n 1, 1) := by decide +kernel
theorem dX6_sheet_1 : decode cX6_sheet 1 = .ok (.invokestatic 310, 3) := by decide +kernel
theorem dX6_sheet_4 : decode cX6_sheet 4 = .ok (.ifCond .eq 16, 3) := by decide +kernel
theorem dX6_sheet_7 : decode cX6_sheet 7 = .ok (.iload_n 2, 1) := by decide +kernel
theorem dX6_sheet_8 : decode cX6_sheet 8 = .ok (.invokestatic 313, 3) := by decide +kernel
theorem dX6_sheet_11 : decode cX6_sheet 11 = .ok (.ifCond .eq 9, 3) := by decide +kernel
theorem dX6_sheet_14 : decode cX6_sheet 14 = .ok (.iload_n 3, 1) := by decide +kernel
theorem dX6_sheet_15 : decode cX6_sheet 15 = .ok (.bipush 24, 2) := by decide +kernel
theorem dX6_sheet_17 : decode cX6_sheet 17 = .ok (.if_icmp .le 5, 3) := by decide +kernel
theorem dX6_sheet_20 : decode cX6_sheet 20 = .ok (.iconst (-1), 1) := by decide +kernel
theorem dX6_sheet_21 : decode cX6_sheet 21 = .ok (.ireturn, 1) := by decide +kernel
theorem dX6_sheet_22 : decode cX6_sheet 22 = .ok (.iload_n 3, 1) := by decide +kernel
theorem dX6_sheet_23 : decode cX6_sheet 23 = .ok (.ifCond .ge 6, 3) := by decide +kernel
theorem dX6_sheet_26 : decode cX6_sheet 26 = .ok (.bipush (-14), 2) := by decide +kernel
theorem dX6_sheet_28 : decode cX6_sheet 28 = .ok (.ireturn, 1) := by decide +kernel
theorem dX6_sheet_29 : decode cX6_sheet 29 = .ok (.aload_n 0, 1) := by decide +kernel
theorem dX6_sheet_30 : decode cX6_sheet 30 = .ok (.getfield 55, 3) := by decide +kernel
theorem dX6_sheet_33 : decode cX6_sheet 33 = .ok (.iload_n 1, 1) := by decide +kernel
theorem dX6_sheet_34 : decode cX6_sheet 34 = .ok (.aaload, 1) := by decide +kernel
theorem dX6_sheet_35 : decode cX6_sheet 35 = .ok (.iload_n 2, 1) := by decide +kernel
theorem dX6_sheet_36 : decode cX6_sheet 36 = .ok (.iload_n 3, 1) := by decide +kernel
theorem dX6_sheet_37 : decode cX6_sheet 37 = .ok (.invokevirtual 316, 3) := by decide +kernel
theorem dX6_sheet_40 : decode cX6_sheet 40 = .ok (.iload_n 3, 1) := by decide +kernel
theorem dX6_sheet_41 : decode cX6_sheet 41 = .ok (.ireturn, 1) := by decide +kernel
theorem dX6_drop_0 : decode cX6_drop 0 = .ok (.iload_n 1, 1) := by decide +kernel
theorem dX6_drop_1 : decode cX6_drop 1 = .ok (.invokestatic 310, 3) := by decide +kernel
theorem dX6_drop_4 : decode cX6_drop 4 = .ok (.ifCond .ne 5, 3) := by decide +kernel
theorem dX6_drop_7 : decode cX6_drop 7 = .ok (.iconst (-1), 1) := by decide +kernel
theorem dX6_drop_8 : decode cX6_drop 8 = .ok (.ireturn, 1) := by decide +kernel
theorem dX6_drop_9 : decode cX6_drop 9 = .ok (.aload_n 0, 1) := by decide +kernel
theorem dX6_drop_10 : decode cX6_drop 10 = .ok (.getfield 55, 3) := by decide +kernel
theorem dX6_drop_13 : decode cX6_drop 13 = .ok (.iload_n 1, 1) := by decide +kernel
theorem dX6_drop_14 : decode cX6_drop 14 = .ok (.aaload, 1) := by decide +kernel
theorem dX6_drop_15 : decode cX6_drop 15 = .ok (.getfield 320, 3) := by decide +kernel
theorem dX6_drop_18 : decode cX6_drop 18 = .ok (.ifCond .ne 6, 3) := by decide +kernel
theorem dX6_drop_21 : decode cX6_drop 21 = .ok (.bipush (-11), 2) := by decide +kernel
theorem dX6_drop_23 : decode cX6_drop 23 = .ok (.ireturn, 1) := by decide +kernel
theorem dX6_drop_24 : decode cX6_drop 24 = .ok (.aload_n 0, 1) := by decide +kernel
theorem dX6_drop_25 : decode cX6_drop 25 = .ok (.getfield 55, 3) := by decide +kernel
theorem dX6_drop_28 : decode cX6_drop 28 = .ok (.iload_n 1, 1) := by decide +kernel
theorem dX6_drop_29 : decode cX6_drop 29 = .ok (.aaload, 1) := by decide +kernel
theorem dX6_drop_30 : decode cX6_drop 30 = .ok (.iconst 0, 1) := by decide +kernel
theorem dX6_drop_31 : decode cX6_drop 31 = .ok (.putfield 320, 3) := by decide +kernel
theorem dX6_drop_34 : decode cX6_drop 34 = .ok (.aload_n 0, 1) := by decide +kernel
theorem dX6_drop_35 : decode cX6_drop 35 = .ok (.getfield 55, 3) := by decide +kernel
theorem dX6_drop_38 : decode cX6_drop 38 = .ok (.iload_n 1, 1) := by decide +kernel
theorem dX6_drop_39 : decode cX6_drop 39 = .ok (.aaload, 1) := by decide +kernel
theorem dX6_drop_40 : decode cX6_drop 40 = .ok (.getfield 323, 3) := by decide +kernel
theorem dX6_drop_43 : decode cX6_drop 43 = .ok (.ireturn, 1) := by decide +kernel
theorem dX6_item_0 : decode cX6_item 0 = .ok (.aload_n 0, 1) := by decide +kernel
theorem dX6_item_1 : decode cX6_item 1 = .ok (.iload_n 1, 1) := by decide +kernel
theorem dX6_item_2 : decode cX6_item 2 = .ok (.iload_n 2, 1) := by decide +kernel
theorem dX6_item_3 : decode cX6_item 3 = .ok (.invokevirtual 290, 3) := by decide +kernel
theorem dX6_item_6 : decode cX6_item 6 = .ok (.istore 6, 2) := by decide +kernel
theorem dX6_item_8 : decode cX6_item 8 = .ok (.iload 6, 2) := by decide +kernel
theorem dX6_item_10 : decode cX6_item 10 = .ok (.ifCond .eq 6, 3) := by decide +kernel
theorem dX6_item_13 : decode cX6_item 13 = .ok (.iload 6, 2) := by decide +kernel
theorem dX6_item_15 : decode cX6_item 15 = .ok (.ireturn, 1) := by decide +kernel
theorem dX6_item_16 : decode cX6_item 16 = .ok (.aload_n 0, 1) := by decide +kernel
theorem dX6_item_17 : decode cX6_item 17 = .ok (.getfield 55, 3) := by decide +kernel
theorem dX6_item_20 : decode cX6_item 20 = .ok (.iload_n 1, 1) := by decide +kernel
theorem dX6_item_21 : decode cX6_item 21 = .ok (.aaload, 1) := by decide +kernel
theorem dX6_item_22 : decode cX6_item 22 = .ok (.iload_n 3, 1) := by decide +kernel
theorem dX6_item_23 : decode cX6_item 23 = .ok (.iconst 1, 1) := by decide +kernel
theorem dX6_item_24 : decode cX6_item 24 = .ok (.invokevirtual 293, 3) := by decide +kernel
theorem dX6_item_27 : decode cX6_item 27 = .ok (.ifCond .ne 6, 3) := by decide +kernel
theorem dX6_item_30 : decode cX6_item 30 = .ok (.bipush (-13), 2) := by decide +kernel
theorem dX6_item_32 : decode cX6_item 32 = .ok (.ireturn, 1) := by decide +kernel
theorem dX6_item_33 : decode cX6_item 33 = .ok (.aload_n 0, 1) := by decide +kernel
theorem dX6_item_34 : decode cX6_item 34 = .ok (.getfield 55, 3) := by decide +kernel
theorem dX6_item_37 : decode cX6_item 37 = .ok (.iload_n 1, 1) := by decide +kernel
theorem dX6_item_38 : decode cX6_item 38 = .ok (.aaload, 1) := by decide +kernel
theorem dX6_item_39 : decode cX6_item 39 = .ok (.getfield 300, 3) := by decide +kernel
theorem dX6_item_42 : decode cX6_item 42 = .ok (.iload_n 3, 1) := by decide +kernel
theorem dX6_item_43 : decode cX6_item 43 = .ok (.iload_n 2, 1) := by decide +kernel
theorem dX6_item_44 : decode cX6_item 44 = .ok (.lload 4, 2) := by decide +kernel
theorem dX6_item_46 : decode cX6_item 46 = .ok (.invokestatic 324, 3) := by decide +kernel
theorem dX6_item_49 : decode cX6_item 49 = .ok (.lastore, 1) := by decide +kernel
theorem dX6_item_50 : decode cX6_item 50 = .ok (.iconst 1, 1) := by decide +kernel
theorem dX6_item_51 : decode cX6_item 51 = .ok (.ireturn, 1) := by decide +kernel
theorem dX6_copy_0 : decode cX6_copy 0 = .ok (.iload_n 1, 1) := by decide +kernel
theorem dX6_copy_1 : decode cX6_copy 1 = .ok (.invokestatic 310, 3) := by decide +kernel
theorem dX6_copy_4 : decode cX6_copy 4 = .ok (.ifCond .eq 10, 3) := by decide +kernel
theorem dX6_copy_7 : decode cX6_copy 7 = .ok (.iload_n 3, 1) := by decide +kernel
theorem dX6_copy_8 : decode cX6_copy 8 = .ok (.invokestatic 310, 3) := by decide +kernel
theorem dX6_copy_11 : decode cX6_copy 11 = .ok (.ifCond .ne 5, 3) := by decide +kernel
theorem dX6_copy_14 : decode cX6_copy 14 = .ok (.iconst (-1), 1) := by decide +kernel
theorem dX6_copy_15 : decode cX6_copy 15 = .ok (.ireturn, 1) := by decide +kernel
theorem dX6_copy_16 : decode cX6_copy 16 = .ok (.aload_n 0, 1) := by decide +kernel
theorem dX6_copy_17 : decode cX6_copy 17 = .ok (.getfield 55, 3) := by decide +kernel
theorem dX6_copy_20 : decode cX6_copy 20 = .ok (.iload_n 1, 1) := by decide +kernel
theorem dX6_copy_21 : decode cX6_copy 21 = .ok (.aaload, 1) := by decide +kernel
theorem dX6_copy_22 : decode cX6_copy 22 = .ok (.astore 6, 2) := by decide +kernel
theorem dX6_copy_24 : decode cX6_copy 24 = .ok (.aload_n 0, 1) := by decide +kernel
theorem dX6_copy_25 : decode cX6_copy 25 = .ok (.getfield 55, 3) := by decide +kernel
theorem dX6_copy_28 : decode cX6_copy 28 = .ok (.iload_n 3, 1) := by decide +kernel
theorem dX6_copy_29 : decode cX6_copy 29 = .ok (.aaload, 1) := by decide +kernel
theorem dX6_copy_30 : decode cX6_copy 30 = .ok (.astore 7, 2) := by decide +kernel
theorem dX6_copy_32 : decode cX6_copy 32 = .ok (.aload 6, 2) := by decide +kernel
theorem dX6_copy_34 : decode cX6_copy 34 = .ok (.getfield 320, 3) := by decide +kernel
theorem dX6_copy_37 : decode cX6_copy 37 = .ok (.ifCond .eq 11, 3) := by decide +kernel
theorem dX6_copy_40 : decode cX6_copy 40 = .ok (.aload 7, 2) := by decide +kernel
theorem dX6_copy_42 : decode cX6_copy 42 = .ok (.getfield 320, 3) := by decide +kernel
theorem dX6_copy_45 : decode cX6_copy 45 = .ok (.ifCond .ne 6, 3) := by decide +kernel
theorem dX6_copy_48 : decode cX6_copy 48 = .ok (.bipush (-11), 2) := by decide +kernel
theorem dX6_copy_50 : decode cX6_copy 50 = .ok (.ireturn, 1) := by decide +kernel
theorem dX6_copy_51 : decode cX6_copy 51 = .ok (.aload 6, 2) := by decide +kernel
theorem dX6_copy_53 : decode cX6_copy 53 = .ok (.getfield 328, 3) := by decide +kernel
theorem dX6_copy_56 : decode cX6_copy 56 = .ok (.aload 7, 2) := by decide +kernel
theorem dX6_copy_58 : decode cX6_copy 58 = .ok (.getfield 328, 3) := by decide +kernel
theorem dX6_copy_61 : decode cX6_copy 61 = .ok (.if_icmp .eq 6, 3) := by decide +kernel
theorem dX6_copy_64 : decode cX6_copy 64 = .ok (.bipush (-12), 2) := by decide +kernel
theorem dX6_copy_66 : decode cX6_copy 66 = .ok (.ireturn, 1) := by decide +kernel
theorem dX6_copy_67 : decode cX6_copy 67 = .ok (.aload 6, 2) := by decide +kernel
theorem dX6_copy_69 : decode cX6_copy 69 = .ok (.iload_n 2, 1) := by decide +kernel
theorem dX6_copy_70 : decode cX6_copy 70 = .ok (.iload 5, 2) := by decide +kernel
theorem dX6_copy_72 : decode cX6_copy 72 = .ok (.invokevirtual 293, 3) := by decide +kernel
theorem dX6_copy_75 : decode cX6_copy 75 = .ok (.ifCond .eq 15, 3) := by decide +kernel
theorem dX6_copy_78 : decode cX6_copy 78 = .ok (.aload 7, 2) := by decide +kernel
theorem dX6_copy_80 : decode cX6_copy 80 = .ok (.iload 4, 2) := by decide +kernel
theorem dX6_copy_82 : decode cX6_copy 82 = .ok (.iload 5, 2) := by decide +kernel
theorem dX6_copy_84 : decode cX6_copy 84 = .ok (.invokevirtual 293, 3) := by decide +kernel
theorem dX6_copy_87 : decode cX6_copy 87 = .ok (.ifCond .ne 6, 3) := by decide +kernel
theorem dX6_copy_90 : decode cX6_copy 90 = .ok (.bipush (-13), 2) := by decide +kernel
theorem dX6_copy_92 : decode cX6_copy 92 = .ok (.ireturn, 1) := by decide +kernel
theorem dX6_copy_93 : decode cX6_copy 93 = .ok (.aload 6, 2) := by decide +kernel
theorem dX6_copy_95 : decode cX6_copy 95 = .ok (.getfield 300, 3) := by decide +kernel
theorem dX6_copy_98 : decode cX6_copy 98 = .ok (.iload_n 2, 1) := by decide +kernel
theorem dX6_copy_99 : decode cX6_copy 99 = .ok (.aload 7, 2) := by decide +kernel
theorem dX6_copy_101 : decode cX6_copy 101 = .ok (.getfield 300, 3) := by decide +kernel
theorem dX6_copy_104 : decode cX6_copy 104 = .ok (.iload 4, 2) := by decide +kernel
theorem dX6_copy_106 : decode cX6_copy 106 = .ok (.iload 5, 2) := by decide +kernel
theorem dX6_copy_108 : decode cX6_copy 108 = .ok (.invokestatic 331, 3) := by decide +kernel
theorem dX6_copy_111 : decode cX6_copy 111 = .ok (.iload 5, 2) := by decide +kernel
theorem dX6_copy_113 : decode cX6_copy 113 = .ok (.ireturn, 1) := by decide +kernel
theorem dX6_startStep_0 : decode cX6_startStep 0 = .ok (.aload_n 0, 1) := by decide +kernel
theorem dX6_startStep_1 : decode cX6_startStep 1 = .ok (.getfield 25, 3) := by decide +kernel
theorem dX6_startStep_4 : decode cX6_startStep 4 = .ok (.aload_n 0, 1) := by decide +kernel
theorem dX6_startStep_5 : decode cX6_startStep 5 = .ok (.getfield 12, 3) := by decide +kernel
theorem dX6_startStep_8 : decode cX6_startStep 8 = .ok (.invokevirtual 337, 3) := by decide +kernel
theorem dX6_startStep_11 : decode cX6_startStep 11 = .ok (.aload_n 0, 1) := by decide +kernel
theorem dX6_startStep_12 : decode cX6_startStep 12 = .ok (.iconst 0, 1) := by decide +kernel
theorem dX6_startStep_13 : decode cX6_startStep 13 = .ok (.putfield 274, 3) := by decide +kernel
theorem dX6_startStep_16 : decode cX6_startStep 16 = .ok (.return_, 1) := by decide +kernel
theorem dX6_settle_0 : decode cX6_settle 0 = .ok (.aload_n 0, 1) := by decide +kernel
theorem dX6_settle_1 : decode cX6_settle 1 = .ok (.getfield 274, 3) := by decide +kernel
theorem dX6_settle_4 : decode cX6_settle 4 = .ok (.ifCond .eq 4, 3) := by decide +kernel
theorem dX6_settle_7 : decode cX6_settle 7 = .ok (.return_, 1) := by decide +kernel
theorem dX6_settle_8 : decode cX6_settle 8 = .ok (.aload_n 0, 1) := by decide +kernel
theorem dX6_settle_9 : decode cX6_settle 9 = .ok (.getfield 35, 3) := by decide +kernel
theorem dX6_settle_12 : decode cX6_settle 12 = .ok (.aload_n 0, 1) := by decide +kernel
theorem dX6_settle_13 : decode cX6_settle 13 = .ok (.getfield 12, 3) := by decide +kernel
theorem dX6_settle_16 : decode cX6_settle 16 = .ok (.invokevirtual 340, 3) := by decide +kernel
theorem dX6_settle_19 : decode cX6_settle 19 = .ok (.aload_n 0, 1) := by decide +kernel
theorem dX6_settle_20 : decode cX6_settle 20 = .ok (.getfield 42, 3) := by decide +kernel
theorem dX6_settle_23 : decode cX6_settle 23 = .ok (.aload_n 0, 1) := by decide +kernel
theorem dX6_settle_24 : decode cX6_settle 24 = .ok (.getfield 12, 3) := by decide +kernel
theorem dX6_settle_27 : decode cX6_settle 27 = .ok (.invokevirtual 343, 3) := by decide +kernel
theorem dX6_settle_30 : decode cX6_settle 30 = .ok (.aload_n 0, 1) := by decide +kernel
theorem dX6_settle_31 : decode cX6_settle 31 = .ok (.getfield 42, 3) := by decide +kernel
theorem dX6_settle_34 : decode cX6_settle 34 = .ok (.aload_n 0, 1) := by decide +kernel
theorem dX6_settle_35 : decode cX6_settle 35 = .ok (.getfield 12, 3) := by decide +kernel
theorem dX6_settle_38 : decode cX6_settle 38 = .ok (.aload_n 0, 1) := by decide +kernel
theorem dX6_settle_39 : decode cX6_settle 39 = .ok (.getfield 35, 3) := by decide +kernel
theorem dX6_settle_42 : decode cX6_settle 42 = .ok (.getfield 184, 3) := by decide +kernel
theorem dX6_settle_45 : decode cX6_settle 45 = .ok (.invokevirtual 346, 3) := by decide +kernel
theorem dX6_settle_48 : decode cX6_settle 48 = .ok (.aload_n 0, 1) := by decide +kernel
theorem dX6_settle_49 : decode cX6_settle 49 = .ok (.iconst 1, 1) := by decide +kernel
theorem dX6_settle_50 : decode cX6_settle 50 = .ok (.putfield 274, 3) := by decide +kernel
theorem dX6_settle_53 : decode cX6_settle 53 = .ok (.return_, 1) := by decide +kernel
theorem dX6_driftOnce_0 : decode cX6_driftOnce 0 = .ok (.aload_n 0, 1) := by decide +kernel
theorem dX6_driftOnce_1 : decode cX6_driftOnce 1 = .ok (.getfield 12, 3) := by decide +kernel
theorem dX6_driftOnce_4 : decode cX6_driftOnce 4 = .ok (.aload_n 0, 1) := by decide +kernel
theorem dX6_driftOnce_5 : decode cX6_driftOnce 5 = .ok (.getfield 12, 3) := by decide +kernel
theorem dX6_driftOnce_8 : decode cX6_driftOnce 8 = .ok (.getfield 278, 3) := by decide +kernel
theorem dX6_driftOnce_11 : decode cX6_driftOnce 11 = .ok (.i2l, 1) := by decide +kernel
theorem dX6_driftOnce_12 : decode cX6_driftOnce 12 = .ok (.ldc2_w 350, 3) := by decide +kernel
theorem dX6_driftOnce_15 : decode cX6_driftOnce 15 = .ok (.lmul, 1) := by decide +kernel
theorem dX6_driftOnce_16 : decode cX6_driftOnce 16 = .ok (.ldc2_w 352, 3) := by decide +kernel
theorem dX6_driftOnce_19 : decode cX6_driftOnce 19 = .ok (.ladd, 1) := by decide +kernel
theorem dX6_driftOnce_20 : decode cX6_driftOnce 20 = .ok (.ldc2_w 354, 3) := by decide +kernel
theorem dX6_driftOnce_23 : decode cX6_driftOnce 23 = .ok (.land, 1) := by decide +kernel
theorem dX6_driftOnce_24 : decode cX6_driftOnce 24 = .ok (.l2i, 1) := by decide +kernel
theorem dX6_driftOnce_25 : decode cX6_driftOnce 25 = .ok (.putfield 278, 3) := by decide +kernel
theorem dX6_driftOnce_28 : decode cX6_driftOnce 28 = .ok (.aload_n 0, 1) := by decide +kernel
theorem dX6_driftOnce_29 : decode cX6_driftOnce 29 = .ok (.getfield 12, 3) := by decide +kernel
theorem dX6_driftOnce_32 : decode cX6_driftOnce 32 = .ok (.getfield 278, 3) := by decide +kernel
theorem dX6_driftOnce_35 : decode cX6_driftOnce 35 = .ok (.ldc_w 356, 3) := by decide +kernel
theorem dX6_driftOnce_38 : decode cX6_driftOnce 38 = .ok (.idiv, 1) := by decide +kernel
theorem dX6_driftOnce_39 : decode cX6_driftOnce 39 = .ok (.istore_n 1, 1) := by decide +kernel
theorem dX6_driftOnce_40 : decode cX6_driftOnce 40 = .ok (.iload_n 1, 1) := by decide +kernel
theorem dX6_driftOnce_41 : decode cX6_driftOnce 41 = .ok (.bipush 8, 2) := by decide +kernel
theorem dX6_driftOnce_43 : decode cX6_driftOnce 43 = .ok (.idiv, 1) := by decide +kernel
theorem dX6_driftOnce_44 : decode cX6_driftOnce 44 = .ok (.bipush 6, 2) := by decide +kernel
theorem dX6_driftOnce_46 : decode cX6_driftOnce 46 = .ok (.irem, 1) := by decide +kernel
theorem dX6_driftOnce_47 : decode cX6_driftOnce 47 = .ok (.istore_n 2, 1) := by decide +kernel
theorem dX6_driftOnce_48 : decode cX6_driftOnce 48 = .ok (.iload_n 1, 1) := by decide +kernel
theorem dX6_driftOnce_49 : decode cX6_driftOnce 49 = .ok (.bipush 64, 2) := by decide +kernel
theorem dX6_driftOnce_51 : decode cX6_driftOnce 51 = .ok (.idiv, 1) := by decide +kernel
theorem dX6_driftOnce_52 : decode cX6_driftOnce 52 = .ok (.bipush 6, 2) := by decide +kernel
theorem dX6_driftOnce_54 : decode cX6_driftOnce 54 = .ok (.irem, 1) := by decide +kernel
theorem dX6_driftOnce_55 : decode cX6_driftOnce 55 = .ok (.istore_n 3, 1) := by decide +kernel
theorem dX6_driftOnce_56 : decode cX6_driftOnce 56 = .ok (.iload_n 1, 1) := by decide +kernel
theorem dX6_driftOnce_57 : decode cX6_driftOnce 57 = .ok (.sipush 512, 3) := by decide +kernel
theorem dX6_driftOnce_60 : decode cX6_driftOnce 60 = .ok (.idiv, 1) := by decide +kernel
theorem dX6_driftOnce_61 : decode cX6_driftOnce 61 = .ok (.bipush 6, 2) := by decide +kernel
theorem dX6_driftOnce_63 : decode cX6_driftOnce 63 = .ok (.irem, 1) := by decide +kernel
theorem dX6_driftOnce_64 : decode cX6_driftOnce 64 = .ok (.istore 4, 2) := by decide +kernel
theorem dX6_driftOnce_66 : decode cX6_driftOnce 66 = .ok (.iload_n 1, 1) := by decide +kernel
theorem dX6_driftOnce_67 : decode cX6_driftOnce 67 = .ok (.bipush 8, 2) := by decide +kernel
theorem dX6_driftOnce_69 : decode cX6_driftOnce 69 = .ok (.irem, 1) := by decide +kernel
theorem dX6_driftOnce_70 : decode cX6_driftOnce 70 = .ok (.tableswitch 156 0 7 #[46, 156, 156, 156, 156, 71, 99, 121], 46) := by decide +kernel
theorem dX6_driftOnce_116 : decode cX6_driftOnce 116 = .ok (.aload_n 0, 1) := by decide +kernel
theorem dX6_driftOnce_117 : decode cX6_driftOnce 117 = .ok (.getfield 12, 3) := by decide +kernel
theorem dX6_driftOnce_120 : decode cX6_driftOnce 120 = .ok (.iload_n 2, 1) := by decide +kernel
theorem dX6_driftOnce_121 : decode cX6_driftOnce 121 = .ok (.iload_n 3, 1) := by decide +kernel
theorem dX6_driftOnce_122 : decode cX6_driftOnce 122 = .ok (.invokevirtual 60, 3) := by decide +kernel
theorem dX6_driftOnce_125 : decode cX6_driftOnce 125 = .ok (.ifCond .ne 123, 3) := by decide +kernel
theorem dX6_driftOnce_128 : decode cX6_driftOnce 128 = .ok (.aload_n 0, 1) := by decide +kernel
theorem dX6_driftOnce_129 : decode cX6_driftOnce 129 = .ok (.getfield 12, 3) := by decide +kernel
theorem dX6_driftOnce_132 : decode cX6_driftOnce 132 = .ok (.iload_n 2, 1) := by decide +kernel
theorem dX6_driftOnce_133 : decode cX6_driftOnce 133 = .ok (.iload_n 3, 1) := by decide +kernel
theorem dX6_driftOnce_134 : decode cX6_driftOnce 134 = .ok (.invokevirtual 67, 3) := by decide +kernel
theorem dX6_driftOnce_137 : decode cX6_driftOnce 137 = .ok (.pop, 1) := by decide +kernel
theorem dX6_driftOnce_138 : decode cX6_driftOnce 138 = .ok (.goto 110, 3) := by decide +kernel
theorem dX6_driftOnce_141 : decode cX6_driftOnce 141 = .ok (.aload_n 0, 1) := by decide +kernel
theorem dX6_driftOnce_142 : decode cX6_driftOnce 142 = .ok (.getfield 12, 3) := by decide +kernel
theorem dX6_driftOnce_145 : decode cX6_driftOnce 145 = .ok (.iload_n 2, 1) := by decide +kernel
theorem dX6_driftOnce_146 : decode cX6_driftOnce 146 = .ok (.iload_n 3, 1) := by decide +kernel
theorem dX6_driftOnce_147 : decode cX6_driftOnce 147 = .ok (.iload 4, 2) := by decide +kernel
theorem dX6_driftOnce_149 : decode cX6_driftOnce 149 = .ok (.invokevirtual 70, 3) := by decide +kernel
theorem dX6_driftOnce_152 : decode cX6_driftOnce 152 = .ok (.ifCond .ne 96, 3) := by decide +kernel
theorem dX6_driftOnce_155 : decode cX6_driftOnce 155 = .ok (.aload_n 0, 1) := by decide +kernel
theorem dX6_driftOnce_156 : decode cX6_driftOnce 156 = .ok (.getfield 12, 3) := by decide +kernel
theorem dX6_driftOnce_159 : decode cX6_driftOnce 159 = .ok (.iload_n 2, 1) := by decide +kernel
theorem dX6_driftOnce_160 : decode cX6_driftOnce 160 = .ok (.iload_n 3, 1) := by decide +kernel
theorem dX6_driftOnce_161 : decode cX6_driftOnce 161 = .ok (.iload 4, 2) := by decide +kernel
theorem dX6_driftOnce_163 : decode cX6_driftOnce 163 = .ok (.invokevirtual 74, 3) := by decide +kernel
theorem dX6_driftOnce_166 : decode cX6_driftOnce 166 = .ok (.goto 82, 3) := by decide +kernel
theorem dX6_driftOnce_169 : decode cX6_driftOnce 169 = .ok (.aload_n 0, 1) := by decide +kernel
theorem dX6_driftOnce_170 : decode cX6_driftOnce 170 = .ok (.getfield 12, 3) := by decide +kernel
theorem dX6_driftOnce_173 : decode cX6_driftOnce 173 = .ok (.iload_n 2, 1) := by decide +kernel
theorem dX6_driftOnce_174 : decode cX6_driftOnce 174 = .ok (.invokevirtual 100, 3) := by decide +kernel
theorem dX6_driftOnce_177 : decode cX6_driftOnce 177 = .ok (.ifCond .eq 71, 3) := by decide +kernel
theorem dX6_driftOnce_180 : decode cX6_driftOnce 180 = .ok (.aload_n 0, 1) := by decide +kernel
theorem dX6_driftOnce_181 : decode cX6_driftOnce 181 = .ok (.getfield 12, 3) := by decide +kernel
theorem dX6_driftOnce_184 : decode cX6_driftOnce 184 = .ok (.iload_n 2, 1) := by decide +kernel
theorem dX6_driftOnce_185 : decode cX6_driftOnce 185 = .ok (.invokevirtual 103, 3) := by decide +kernel
theorem dX6_driftOnce_188 : decode cX6_driftOnce 188 = .ok (.goto 60, 3) := by decide +kernel
theorem dX6_driftOnce_191 : decode cX6_driftOnce 191 = .ok (.aload_n 0, 1) := by decide +kernel
theorem dX6_driftOnce_192 : decode cX6_driftOnce 192 = .ok (.getfield 12, 3) := by decide +kernel
theorem dX6_driftOnce_195 : decode cX6_driftOnce 195 = .ok (.iload_n 2, 1) := by decide +kernel
theorem dX6_driftOnce_196 : decode cX6_driftOnce 196 = .ok (.iload_n 3, 1) := by decide +kernel
theorem dX6_driftOnce_197 : decode cX6_driftOnce 197 = .ok (.iload 4, 2) := by decide +kernel
theorem dX6_driftOnce_199 : decode cX6_driftOnce 199 = .ok (.iadd, 1) := by decide +kernel
theorem dX6_driftOnce_200 : decode cX6_driftOnce 200 = .ok (.iconst 5, 1) := by decide +kernel
theorem dX6_driftOnce_201 : decode cX6_driftOnce 201 = .ok (.isub, 1) := by decide +kernel
theorem dX6_driftOnce_202 : decode cX6_driftOnce 202 = .ok (.invokevirtual 106, 3) := by decide +kernel
theorem dX6_driftOnce_205 : decode cX6_driftOnce 205 = .ok (.ifCond .ne 43, 3) := by decide +kernel
theorem dX6_driftOnce_208 : decode cX6_driftOnce 208 = .ok (.aload_n 0, 1) := by decide +kernel
theorem dX6_driftOnce_209 : decode cX6_driftOnce 209 = .ok (.getfield 12, 3) := by decide +kernel
theorem dX6_driftOnce_212 : decode cX6_driftOnce 212 = .ok (.getfield 109, 3) := by decide +kernel
theorem dX6_driftOnce_215 : decode cX6_driftOnce 215 = .ok (.iload_n 2, 1) := by decide +kernel
theorem dX6_driftOnce_216 : decode cX6_driftOnce 216 = .ok (.iload_n 3, 1) := by decide +kernel
theorem dX6_driftOnce_217 : decode cX6_driftOnce 217 = .ok (.iload 4, 2) := by decide +kernel
theorem dX6_driftOnce_219 : decode cX6_driftOnce 219 = .ok (.iadd, 1) := by decide +kernel
theorem dX6_driftOnce_220 : decode cX6_driftOnce 220 = .ok (.iconst 5, 1) := by decide +kernel
theorem dX6_driftOnce_221 : decode cX6_driftOnce 221 = .ok (.isub, 1) := by decide +kernel
theorem dX6_driftOnce_222 : decode cX6_driftOnce 222 = .ok (.iastore, 1) := by decide +kernel
theorem dX6_driftOnce_223 : decode cX6_driftOnce 223 = .ok (.goto 25, 3) := by decide +kernel
theorem dX6_driftOnce_226 : decode cX6_driftOnce 226 = .ok (.aload_n 0, 1) := by decide +kernel
theorem dX6_driftOnce_227 : decode cX6_driftOnce 227 = .ok (.getfield 12, 3) := by decide +kernel
theorem dX6_driftOnce_230 : decode cX6_driftOnce 230 = .ok (.iload_n 2, 1) := by decide +kernel
theorem dX6_driftOnce_231 : decode cX6_driftOnce 231 = .ok (.iload_n 3, 1) := by decide +kernel
theorem dX6_driftOnce_232 : decode cX6_driftOnce 232 = .ok (.invokevirtual 94, 3) := by decide +kernel
theorem dX6_driftOnce_235 : decode cX6_driftOnce 235 = .ok (.ifCond .ne 13, 3) := by decide +kernel
theorem dX6_driftOnce_238 : decode cX6_driftOnce 238 = .ok (.aload_n 0, 1) := by decide +kernel
theorem dX6_driftOnce_239 : decode cX6_driftOnce 239 = .ok (.getfield 12, 3) := by decide +kernel
theorem dX6_driftOnce_242 : decode cX6_driftOnce 242 = .ok (.iload_n 2, 1) := by decide +kernel
theorem dX6_driftOnce_243 : decode cX6_driftOnce 243 = .ok (.iload_n 3, 1) := by decide +kernel
theorem dX6_driftOnce_244 : decode cX6_driftOnce 244 = .ok (.invokevirtual 97, 3) := by decide +kernel
theorem dX6_driftOnce_247 : decode cX6_driftOnce 247 = .ok (.pop, 1) := by decide +kernel
theorem dX6_driftOnce_248 : decode cX6_driftOnce 248 = .ok (.return_, 1) := by decide +kernel
theorem dX6_isStiff_0 : decode cX6_isStiff 0 = .ok (.aload_n 0, 1) := by decide +kernel
theorem dX6_isStiff_1 : decode cX6_isStiff 1 = .ok (.getfield 12, 3) := by decide +kernel
theorem dX6_isStiff_4 : decode cX6_isStiff 4 = .ok (.getfield 141, 3) := by decide +kernel
theorem dX6_isStiff_7 : decode cX6_isStiff 7 = .ok (.iconst 2, 1) := by decide +kernel
theorem dX6_isStiff_8 : decode cX6_isStiff 8 = .ok (.if_icmp .lt 36, 3) := by decide +kernel
theorem dX6_isStiff_11 : decode cX6_isStiff 11 = .ok (.aload_n 0, 1) := by decide +kernel
theorem dX6_isStiff_12 : decode cX6_isStiff 12 = .ok (.getfield 12, 3) := by decide +kernel
theorem dX6_isStiff_15 : decode cX6_isStiff 15 = .ok (.getfield 90, 3) := by decide +kernel
theorem dX6_isStiff_18 : decode cX6_isStiff 18 = .ok (.aload_n 0, 1) := by decide +kernel
theorem dX6_isStiff_19 : decode cX6_isStiff 19 = .ok (.getfield 35, 3) := by decide +kernel
theorem dX6_isStiff_22 : decode cX6_isStiff 22 = .ok (.getfield 144, 3) := by decide +kernel
theorem dX6_isStiff_25 : decode cX6_isStiff 25 = .ok (.isub, 1) := by decide +kernel
theorem dX6_isStiff_26 : decode cX6_isStiff 26 = .ok (.iconst 2, 1) := by decide +kernel
theorem dX6_isStiff_27 : decode cX6_isStiff 27 = .ok (.aload_n 0, 1) := by decide +kernel
theorem dX6_isStiff_28 : decode cX6_isStiff 28 = .ok (.getfield 12, 3) := by decide +kernel
theorem dX6_isStiff_31 : decode cX6_isStiff 31 = .ok (.getfield 141, 3) := by decide +kernel
theorem dX6_isStiff_34 : decode cX6_isStiff 34 = .ok (.imul, 1) := by decide +kernel
theorem dX6_isStiff_35 : decode cX6_isStiff 35 = .ok (.iconst 3, 1) := by decide +kernel
theorem dX6_isStiff_36 : decode cX6_isStiff 36 = .ok (.isub, 1) := by decide +kernel
theorem dX6_isStiff_37 : decode cX6_isStiff 37 = .ok (.if_icmp .ne 7, 3) := by decide +kernel
theorem dX6_isStiff_40 : decode cX6_isStiff 40 = .ok (.iconst 1, 1) := by decide +kernel
theorem dX6_isStiff_41 : decode cX6_isStiff 41 = .ok (.goto 4, 3) := by decide +kernel
theorem dX6_isStiff_44 : decode cX6_isStiff 44 = .ok (.iconst 0, 1) := by decide +kernel
theorem dX6_isStiff_45 : decode cX6_isStiff 45 = .ok (.ireturn, 1) := by decide +kernel
theorem dX6_stiffTenths_0 : decode cX6_stiffTenths 0 = .ok (.bipush 10, 2) := by decide +kernel
theorem dX6_stiffTenths_2 : decode cX6_stiffTenths 2 = .ok (.iload_n 1, 1) := by decide +kernel
theorem dX6_stiffTenths_3 : decode cX6_stiffTenths 3 = .ok (.isub, 1) := by decide +kernel
theorem dX6_stiffTenths_4 : decode cX6_stiffTenths 4 = .ok (.istore_n 2, 1) := by decide +kernel
theorem dX6_stiffTenths_5 : decode cX6_stiffTenths 5 = .ok (.aload_n 0, 1) := by decide +kernel
theorem dX6_stiffTenths_6 : decode cX6_stiffTenths 6 = .ok (.getfield 12, 3) := by decide +kernel
theorem dX6_stiffTenths_9 : decode cX6_stiffTenths 9 = .ok (.getfield 90, 3) := by decide +kernel
theorem dX6_stiffTenths_12 : decode cX6_stiffTenths 12 = .ok (.istore_n 3, 1) := by decide +kernel
theorem dX6_stiffTenths_13 : decode cX6_stiffTenths 13 = .ok (.iload_n 2, 1) := by decide +kernel
theorem dX6_stiffTenths_14 : decode cX6_stiffTenths 14 = .ok (.i2l, 1) := by decide +kernel
theorem dX6_stiffTenths_15 : decode cX6_stiffTenths 15 = .ok (.iload_n 3, 1) := by decide +kernel
theorem dX6_stiffTenths_16 : decode cX6_stiffTenths 16 = .ok (.invokestatic 193, 3) := by decide +kernel
theorem dX6_stiffTenths_19 : decode cX6_stiffTenths 19 = .ok (.lstore 4, 2) := by decide +kernel
theorem dX6_stiffTenths_21 : decode cX6_stiffTenths 21 = .ok (.aload_n 0, 1) := by decide +kernel
theorem dX6_stiffTenths_22 : decode cX6_stiffTenths 22 = .ok (.getfield 35, 3) := by decide +kernel
theorem dX6_stiffTenths_25 : decode cX6_stiffTenths 25 = .ok (.getfield 144, 3) := by decide +kernel
theorem dX6_stiffTenths_28 : decode cX6_stiffTenths 28 = .ok (.iconst 1, 1) := by decide +kernel
theorem dX6_stiffTenths_29 : decode cX6_stiffTenths 29 = .ok (.if_icmp .lt 32, 3) := by decide +kernel
theorem dX6_stiffTenths_32 : decode cX6_stiffTenths 32 = .ok (.iload_n 3, 1) := by decide +kernel
theorem dX6_stiffTenths_33 : decode cX6_stiffTenths 33 = .ok (.iconst 1, 1) := by decide +kernel
theorem dX6_stiffTenths_34 : decode cX6_stiffTenths 34 = .ok (.if_icmp .lt 27, 3) := by decide +kernel
theorem dX6_stiffTenths_37 : decode cX6_stiffTenths 37 = .ok (.lload 4, 2) := by decide +kernel
theorem dX6_stiffTenths_39 : decode cX6_stiffTenths 39 = .ok (.aload_n 0, 1) := by decide +kernel
theorem dX6_stiffTenths_40 : decode cX6_stiffTenths 40 = .ok (.getfield 35, 3) := by decide +kernel
theorem dX6_stiffTenths_43 : decode cX6_stiffTenths 43 = .ok (.invokevirtual 357, 3) := by decide +kernel
theorem dX6_stiffTenths_46 : decode cX6_stiffTenths 46 = .ok (.iload_n 1, 1) := by decide +kernel
theorem dX6_stiffTenths_47 : decode cX6_stiffTenths 47 = .ok (.i2l, 1) := by decide +kernel
theorem dX6_stiffTenths_48 : decode cX6_stiffTenths 48 = .ok (.lmul, 1) := by decide +kernel
theorem dX6_stiffTenths_49 : decode cX6_stiffTenths 49 = .ok (.iload_n 2, 1) := by decide +kernel
theorem dX6_stiffTenths_50 : decode cX6_stiffTenths 50 = .ok (.i2l, 1) := by decide +kernel
theorem dX6_stiffTenths_51 : decode cX6_stiffTenths 51 = .ok (.iload_n 3, 1) := by decide +kernel
theorem dX6_stiffTenths_52 : decode cX6_stiffTenths 52 = .ok (.iconst 1, 1) := by decide +kernel
theorem dX6_stiffTenths_53 : decode cX6_stiffTenths 53 = .ok (.isub, 1) := by decide +kernel
theorem dX6_stiffTenths_54 : decode cX6_stiffTenths 54 = .ok (.invokestatic 193, 3) := by decide +kernel
theorem dX6_stiffTenths_57 : decode cX6_stiffTenths 57 = .ok (.lmul, 1) := by decide +kernel
theorem dX6_stiffTenths_58 : decode cX6_stiffTenths 58 = .ok (.ladd, 1) := by decide +kernel
theorem dX6_stiffTenths_59 : decode cX6_stiffTenths 59 = .ok (.lstore 4, 2) := by decide +kernel
theorem dX6_stiffTenths_61 : decode cX6_stiffTenths 61 = .ok (.aload_n 0, 1) := by decide +kernel
theorem dX6_stiffTenths_62 : decode cX6_stiffTenths 62 = .ok (.getfield 35, 3) := by decide +kernel
theorem dX6_stiffTenths_65 : decode cX6_stiffTenths 65 = .ok (.getfield 144, 3) := by decide +kernel
theorem dX6_stiffTenths_68 : decode cX6_stiffTenths 68 = .ok (.iconst 2, 1) := by decide +kernel
theorem dX6_stiffTenths_69 : decode cX6_stiffTenths 69 = .ok (.if_icmp .lt 35, 3) := by decide +kernel
theorem dX6_stiffTenths_72 : decode cX6_stiffTenths 72 = .ok (.iload_n 3, 1) := by decide +kernel
theorem dX6_stiffTenths_73 : decode cX6_stiffTenths 73 = .ok (.iconst 2, 1) := by decide +kernel
theorem dX6_stiffTenths_74 : decode cX6_stiffTenths 74 = .ok (.if_icmp .lt 30, 3) := by decide +kernel
theorem dX6_stiffTenths_77 : decode cX6_stiffTenths 77 = .ok (.lload 4, 2) := by decide +kernel
theorem dX6_stiffTenths_79 : decode cX6_stiffTenths 79 = .ok (.aload_n 0, 1) := by decide +kernel
theorem dX6_stiffTenths_80 : decode cX6_stiffTenths 80 = .ok (.getfield 35, 3) := by decide +kernel
theorem dX6_stiffTenths_83 : decode cX6_stiffTenths 83 = .ok (.invokevirtual 361, 3) := by decide +kernel
theorem dX6_stiffTenths_86 : decode cX6_stiffTenths 86 = .ok (.iload_n 1, 1) := by decide +kernel
theorem dX6_stiffTenths_87 : decode cX6_stiffTenths 87 = .ok (.i2l, 1) := by decide +kernel
theorem dX6_stiffTenths_88 : decode cX6_stiffTenths 88 = .ok (.lmul, 1) := by decide +kernel
theorem dX6_stiffTenths_89 : decode cX6_stiffTenths 89 = .ok (.iload_n 1, 1) := by decide +kernel
theorem dX6_stiffTenths_90 : decode cX6_stiffTenths 90 = .ok (.i2l, 1) := by decide +kernel
theorem dX6_stiffTenths_91 : decode cX6_stiffTenths 91 = .ok (.lmul, 1) := by decide +kernel
theorem dX6_stiffTenths_92 : decode cX6_stiffTenths 92 = .ok (.iload_n 2, 1) := by decide +kernel
theorem dX6_stiffTenths_93 : decode cX6_stiffTenths 93 = .ok (.i2l, 1) := by decide +kernel
theorem dX6_stiffTenths_94 : decode cX6_stiffTenths 94 = .ok (.iload_n 3, 1) := by decide +kernel
theorem dX6_stiffTenths_95 : decode cX6_stiffTenths 95 = .ok (.iconst 2, 1) := by decide +kernel
theorem dX6_stiffTenths_96 : decode cX6_stiffTenths 96 = .ok (.isub, 1) := by decide +kernel
theorem dX6_stiffTenths_97 : decode cX6_stiffTenths 97 = .ok (.invokestatic 193, 3) := by decide +kernel
theorem dX6_stiffTenths_100 : decode cX6_stiffTenths 100 = .ok (.lmul, 1) := by decide +kernel
theorem dX6_stiffTenths_101 : decode cX6_stiffTenths 101 = .ok (.ladd, 1) := by decide +kernel
theorem dX6_stiffTenths_102 : decode cX6_stiffTenths 102 = .ok (.lstore 4, 2) := by decide +kernel
theorem dX6_stiffTenths_104 : decode cX6_stiffTenths 104 = .ok (.lload 4, 2) := by decide +kernel
theorem dX6_stiffTenths_106 : decode cX6_stiffTenths 106 = .ok (.lreturn, 1) := by decide +kernel
theorem dX6_kindOf_0 : decode cX6_kindOf 0 = .ok (.iconst 1, 1) := by decide +kernel
theorem dX6_kindOf_1 : decode cX6_kindOf 1 = .ok (.istore_n 3, 1) := by decide +kernel
theorem dX6_kindOf_2 : decode cX6_kindOf 2 = .ok (.iconst 1, 1) := by decide +kernel
theorem dX6_kindOf_3 : decode cX6_kindOf 3 = .ok (.istore 4, 2) := by decide +kernel
theorem dX6_kindOf_5 : decode cX6_kindOf 5 = .ok (.iconst 0, 1) := by decide +kernel
theorem dX6_kindOf_6 : decode cX6_kindOf 6 = .ok (.istore 5, 2) := by decide +kernel
theorem dX6_kindOf_8 : decode cX6_kindOf 8 = .ok (.iload 5, 2) := by decide +kernel
theorem dX6_kindOf_10 : decode cX6_kindOf 10 = .ok (.aload_n 0, 1) := by decide +kernel
theorem dX6_kindOf_11 : decode cX6_kindOf 11 = .ok (.getfield 12, 3) := by decide +kernel
theorem dX6_kindOf_14 : decode cX6_kindOf 14 = .ok (.getfield 90, 3) := by decide +kernel
theorem dX6_kindOf_17 : decode cX6_kindOf 17 = .ok (.if_icmp .ge 53, 3) := by decide +kernel
theorem dX6_kindOf_20 : decode cX6_kindOf 20 = .ok (.iload_n 3, 1) := by decide +kernel
theorem dX6_kindOf_21 : decode cX6_kindOf 21 = .ok (.ifCond .eq 18, 3) := by decide +kernel
theorem dX6_kindOf_24 : decode cX6_kindOf 24 = .ok (.aload_n 1, 1) := by decide +kernel
theorem dX6_kindOf_25 : decode cX6_kindOf 25 = .ok (.iload_n 2, 1) := by decide +kernel
theorem dX6_kindOf_26 : decode cX6_kindOf 26 = .ok (.iload 5, 2) := by decide +kernel
theorem dX6_kindOf_28 : decode cX6_kindOf 28 = .ok (.iadd, 1) := by decide +kernel
theorem dX6_kindOf_29 : decode cX6_kindOf 29 = .ok (.laload, 1) := by decide +kernel
theorem dX6_kindOf_30 : decode cX6_kindOf 30 = .ok (.lconst 0, 1) := by decide +kernel
theorem dX6_kindOf_31 : decode cX6_kindOf 31 = .ok (.lcmp, 1) := by decide +kernel
theorem dX6_kindOf_32 : decode cX6_kindOf 32 = .ok (.ifCond .eq 7, 3) := by decide +kernel
theorem dX6_kindOf_35 : decode cX6_kindOf 35 = .ok (.iconst 1, 1) := by decide +kernel
theorem dX6_kindOf_36 : decode cX6_kindOf 36 = .ok (.goto 4, 3) := by decide +kernel
theorem dX6_kindOf_39 : decode cX6_kindOf 39 = .ok (.iconst 0, 1) := by decide +kernel
theorem dX6_kindOf_40 : decode cX6_kindOf 40 = .ok (.istore_n 3, 1) := by decide +kernel
theorem dX6_kindOf_41 : decode cX6_kindOf 41 = .ok (.iload 4, 2) := by decide +kernel
theorem dX6_kindOf_43 : decode cX6_kindOf 43 = .ok (.ifCond .eq 18, 3) := by decide +kernel
theorem dX6_kindOf_46 : decode cX6_kindOf 46 = .ok (.aload_n 1, 1) := by decide +kernel
theorem dX6_kindOf_47 : decode cX6_kindOf 47 = .ok (.iload_n 2, 1) := by decide +kernel
theorem dX6_kindOf_48 : decode cX6_kindOf 48 = .ok (.iload 5, 2) := by decide +kernel
theorem dX6_kindOf_50 : decode cX6_kindOf 50 = .ok (.iadd, 1) := by decide +kernel
theorem dX6_kindOf_51 : decode cX6_kindOf 51 = .ok (.laload, 1) := by decide +kernel
theorem dX6_kindOf_52 : decode cX6_kindOf 52 = .ok (.lconst 0, 1) := by decide +kernel
theorem dX6_kindOf_53 : decode cX6_kindOf 53 = .ok (.lcmp, 1) := by decide +kernel
theorem dX6_kindOf_54 : decode cX6_kindOf 54 = .ok (.ifCond .lt 7, 3) := by decide +kernel
theorem dX6_kindOf_57 : decode cX6_kindOf 57 = .ok (.iconst 1, 1) := by decide +kernel
theorem dX6_kindOf_58 : decode cX6_kindOf 58 = .ok (.goto 4, 3) := by decide +kernel
theorem dX6_kindOf_61 : decode cX6_kindOf 61 = .ok (.iconst 0, 1) := by decide +kernel
theorem dX6_kindOf_62 : decode cX6_kindOf 62 = .ok (.istore 4, 2) := by decide +kernel
theorem dX6_kindOf_64 : decode cX6_kindOf 64 = .ok (.iinc 5 1, 3) := by decide +kernel
theorem dX6_kindOf_67 : decode cX6_kindOf 67 = .ok (.goto (-59), 3) := by decide +kernel
theorem dX6_kindOf_70 : decode cX6_kindOf 70 = .ok (.aload_n 0, 1) := by decide +kernel
theorem dX6_kindOf_71 : decode cX6_kindOf 71 = .ok (.aload_n 1, 1) := by decide +kernel
theorem dX6_kindOf_72 : decode cX6_kindOf 72 = .ok (.iload_n 2, 1) := by decide +kernel
theorem dX6_kindOf_73 : decode cX6_kindOf 73 = .ok (.invokevirtual 364, 3) := by decide +kernel
theorem dX6_kindOf_76 : decode cX6_kindOf 76 = .ok (.invokestatic 134, 3) := by decide +kernel
theorem dX6_kindOf_79 : decode cX6_kindOf 79 = .ok (.iconst 2, 1) := by decide +kernel
theorem dX6_kindOf_80 : decode cX6_kindOf 80 = .ok (.iload_n 3, 1) := by decide +kernel
theorem dX6_kindOf_81 : decode cX6_kindOf 81 = .ok (.invokestatic 134, 3) := by decide +kernel
theorem dX6_kindOf_84 : decode cX6_kindOf 84 = .ok (.imul, 1) := by decide +kernel
theorem dX6_kindOf_85 : decode cX6_kindOf 85 = .ok (.iadd, 1) := by decide +kernel
theorem dX6_kindOf_86 : decode cX6_kindOf 86 = .ok (.iconst 4, 1) := by decide +kernel
theorem dX6_kindOf_87 : decode cX6_kindOf 87 = .ok (.iload 4, 2) := by decide +kernel
theorem dX6_kindOf_89 : decode cX6_kindOf 89 = .ok (.invokestatic 134, 3) := by decide +kernel
theorem dX6_kindOf_92 : decode cX6_kindOf 92 = .ok (.imul, 1) := by decide +kernel
theorem dX6_kindOf_93 : decode cX6_kindOf 93 = .ok (.iadd, 1) := by decide +kernel
theorem dX6_kindOf_94 : decode cX6_kindOf 94 = .ok (.bipush 8, 2) := by decide +kernel
theorem dX6_kindOf_96 : decode cX6_kindOf 96 = .ok (.aload_n 0, 1) := by decide +kernel
theorem dX6_kindOf_97 : decode cX6_kindOf 97 = .ok (.getfield 35, 3) := by decide +kernel
theorem dX6_kindOf_100 : decode cX6_kindOf 100 = .ok (.aload_n 1, 1) := by decide +kernel
theorem dX6_kindOf_101 : decode cX6_kindOf 101 = .ok (.iload_n 2, 1) := by decide +kernel
theorem dX6_kindOf_102 : decode cX6_kindOf 102 = .ok (.invokevirtual 368, 3) := by decide +kernel
theorem dX6_kindOf_105 : decode cX6_kindOf 105 = .ok (.invokestatic 134, 3) := by decide +kernel
theorem dX6_kindOf_108 : decode cX6_kindOf 108 = .ok (.imul, 1) := by decide +kernel
theorem dX6_kindOf_109 : decode cX6_kindOf 109 = .ok (.iadd, 1) := by decide +kernel
theorem dX6_kindOf_110 : decode cX6_kindOf 110 = .ok (.ireturn, 1) := by decide +kernel
theorem dX6_isAtRest_0 : decode cX6_isAtRest 0 = .ok (.iconst 0, 1) := by decide +kernel
theorem dX6_isAtRest_1 : decode cX6_isAtRest 1 = .ok (.istore_n 3, 1) := by decide +kernel
theorem dX6_isAtRest_2 : decode cX6_isAtRest 2 = .ok (.iload_n 3, 1) := by decide +kernel
theorem dX6_isAtRest_3 : decode cX6_isAtRest 3 = .ok (.aload_n 0, 1) := by decide +kernel
theorem dX6_isAtRest_4 : decode cX6_isAtRest 4 = .ok (.getfield 12, 3) := by decide +kernel
theorem dX6_isAtRest_7 : decode cX6_isAtRest 7 = .ok (.getfield 141, 3) := by decide +kernel
theorem dX6_isAtRest_10 : decode cX6_isAtRest 10 = .ok (.if_icmp .ge 115, 3) := by decide +kernel
theorem dX6_isAtRest_13 : decode cX6_isAtRest 13 = .ok (.lconst 0, 1) := by decide +kernel
theorem dX6_isAtRest_14 : decode cX6_isAtRest 14 = .ok (.lstore 4, 2) := by decide +kernel
theorem dX6_isAtRest_16 : decode cX6_isAtRest 16 = .ok (.lconst 0, 1) := by decide +kernel
theorem dX6_isAtRest_17 : decode cX6_isAtRest 17 = .ok (.lstore 6, 2) := by decide +kernel
theorem dX6_isAtRest_19 : decode cX6_isAtRest 19 = .ok (.iconst 0, 1) := by decide +kernel
theorem dX6_isAtRest_20 : decode cX6_isAtRest 20 = .ok (.istore 8, 2) := by decide +kernel
theorem dX6_isAtRest_22 : decode cX6_isAtRest 22 = .ok (.iload 8, 2) := by decide +kernel
theorem dX6_isAtRest_24 : decode cX6_isAtRest 24 = .ok (.iconst 2, 1) := by decide +kernel
theorem dX6_isAtRest_25 : decode cX6_isAtRest 25 = .ok (.aload_n 0, 1) := by decide +kernel
theorem dX6_isAtRest_26 : decode cX6_isAtRest 26 = .ok (.getfield 12, 3) := by decide +kernel
theorem dX6_isAtRest_29 : decode cX6_isAtRest 29 = .ok (.getfield 90, 3) := by decide +kernel
theorem dX6_isAtRest_32 : decode cX6_isAtRest 32 = .ok (.imul, 1) := by decide +kernel
theorem dX6_isAtRest_33 : decode cX6_isAtRest 33 = .ok (.if_icmp .ge 70, 3) := by decide +kernel
theorem dX6_isAtRest_36 : decode cX6_isAtRest 36 = .ok (.aload_n 0, 1) := by decide +kernel
theorem dX6_isAtRest_37 : decode cX6_isAtRest 37 = .ok (.getfield 12, 3) := by decide +kernel
theorem dX6_isAtRest_40 : decode cX6_isAtRest 40 = .ok (.iload 8, 2) := by decide +kernel
theorem dX6_isAtRest_42 : decode cX6_isAtRest 42 = .ok (.invokevirtual 239, 3) := by decide +kernel
theorem dX6_isAtRest_45 : decode cX6_isAtRest 45 = .ok (.iload_n 3, 1) := by decide +kernel
theorem dX6_isAtRest_46 : decode cX6_isAtRest 46 = .ok (.if_icmp .ne 51, 3) := by decide +kernel
theorem dX6_isAtRest_49 : decode cX6_isAtRest 49 = .ok (.lload 4, 2) := by decide +kernel
theorem dX6_isAtRest_51 : decode cX6_isAtRest 51 = .ok (.aload_n 1, 1) := by decide +kernel
theorem dX6_isAtRest_52 : decode cX6_isAtRest 52 = .ok (.iload_n 2, 1) := by decide +kernel
theorem dX6_isAtRest_53 : decode cX6_isAtRest 53 = .ok (.iload 8, 2) := by decide +kernel
theorem dX6_isAtRest_55 : decode cX6_isAtRest 55 = .ok (.iconst 2, 1) := by decide +kernel
theorem dX6_isAtRest_56 : decode cX6_isAtRest 56 = .ok (.idiv, 1) := by decide +kernel
theorem dX6_isAtRest_57 : decode cX6_isAtRest 57 = .ok (.iadd, 1) := by decide +kernel
theorem dX6_isAtRest_58 : decode cX6_isAtRest 58 = .ok (.laload, 1) := by decide +kernel
theorem dX6_isAtRest_59 : decode cX6_isAtRest 59 = .ok (.aload_n 0, 1) := by decide +kernel
theorem dX6_isAtRest_60 : decode cX6_isAtRest 60 = .ok (.getfield 12, 3) := by decide +kernel
theorem dX6_isAtRest_63 : decode cX6_isAtRest 63 = .ok (.iload 8, 2) := by decide +kernel
theorem dX6_isAtRest_65 : decode cX6_isAtRest 65 = .ok (.invokevirtual 245, 3) := by decide +kernel
theorem dX6_isAtRest_68 : decode cX6_isAtRest 68 = .ok (.i2l, 1) := by decide +kernel
theorem dX6_isAtRest_69 : decode cX6_isAtRest 69 = .ok (.lmul, 1) := by decide +kernel
theorem dX6_isAtRest_70 : decode cX6_isAtRest 70 = .ok (.ladd, 1) := by decide +kernel
theorem dX6_isAtRest_71 : decode cX6_isAtRest 71 = .ok (.lstore 4, 2) := by decide +kernel
theorem dX6_isAtRest_73 : decode cX6_isAtRest 73 = .ok (.lload 6, 2) := by decide +kernel
theorem dX6_isAtRest_75 : decode cX6_isAtRest 75 = .ok (.aload_n 1, 1) := by decide +kernel
theorem dX6_isAtRest_76 : decode cX6_isAtRest 76 = .ok (.iload_n 2, 1) := by decide +kernel
theorem dX6_isAtRest_77 : decode cX6_isAtRest 77 = .ok (.iload 8, 2) := by decide +kernel
theorem dX6_isAtRest_79 : decode cX6_isAtRest 79 = .ok (.iconst 2, 1) := by decide +kernel
theorem dX6_isAtRest_80 : decode cX6_isAtRest 80 = .ok (.idiv, 1) := by decide +kernel
theorem dX6_isAtRest_81 : decode cX6_isAtRest 81 = .ok (.iadd, 1) := by decide +kernel
theorem dX6_isAtRest_82 : decode cX6_isAtRest 82 = .ok (.laload, 1) := by decide +kernel
theorem dX6_isAtRest_83 : decode cX6_isAtRest 83 = .ok (.aload_n 0, 1) := by decide +kernel
theorem dX6_isAtRest_84 : decode cX6_isAtRest 84 = .ok (.getfield 12, 3) := by decide +kernel
theorem dX6_isAtRest_87 : decode cX6_isAtRest 87 = .ok (.iload 8, 2) := by decide +kernel
theorem dX6_isAtRest_89 : decode cX6_isAtRest 89 = .ok (.invokevirtual 248, 3) := by decide +kernel
theorem dX6_isAtRest_92 : decode cX6_isAtRest 92 = .ok (.i2l, 1) := by decide +kernel
theorem dX6_isAtRest_93 : decode cX6_isAtRest 93 = .ok (.lmul, 1) := by decide +kernel
theorem dX6_isAtRest_94 : decode cX6_isAtRest 94 = .ok (.ladd, 1) := by decide +kernel
theorem dX6_isAtRest_95 : decode cX6_isAtRest 95 = .ok (.lstore 6, 2) := by decide +kernel
theorem dX6_isAtRest_97 : decode cX6_isAtRest 97 = .ok (.iinc 8 1, 3) := by decide +kernel
theorem dX6_isAtRest_100 : decode cX6_isAtRest 100 = .ok (.goto (-78), 3) := by decide +kernel
theorem dX6_isAtRest_103 : decode cX6_isAtRest 103 = .ok (.lload 4, 2) := by decide +kernel
theorem dX6_isAtRest_105 : decode cX6_isAtRest 105 = .ok (.lconst 0, 1) := by decide +kernel
theorem dX6_isAtRest_106 : decode cX6_isAtRest 106 = .ok (.lcmp, 1) := by decide +kernel
theorem dX6_isAtRest_107 : decode cX6_isAtRest 107 = .ok (.ifCond .ne 10, 3) := by decide +kernel
theorem dX6_isAtRest_110 : decode cX6_isAtRest 110 = .ok (.lload 6, 2) := by decide +kernel
theorem dX6_isAtRest_112 : decode cX6_isAtRest 112 = .ok (.lconst 0, 1) := by decide +kernel
theorem dX6_isAtRest_113 : decode cX6_isAtRest 113 = .ok (.lcmp, 1) := by decide +kernel
theorem dX6_isAtRest_114 : decode cX6_isAtRest 114 = .ok (.ifCond .eq 5, 3) := by decide +kernel
theorem dX6_isAtRest_117 : decode cX6_isAtRest 117 = .ok (.iconst 0, 1) := by decide +kernel
theorem dX6_isAtRest_118 : decode cX6_isAtRest 118 = .ok (.ireturn, 1) := by decide +kernel
theorem dX6_isAtRest_119 : decode cX6_isAtRest 119 = .ok (.iinc 3 1, 3) := by decide +kernel
theorem dX6_isAtRest_122 : decode cX6_isAtRest 122 = .ok (.goto (-120), 3) := by decide +kernel
theorem dX6_isAtRest_125 : decode cX6_isAtRest 125 = .ok (.iconst 1, 1) := by decide +kernel
theorem dX6_isAtRest_126 : decode cX6_isAtRest 126 = .ok (.ireturn, 1) := by decide +kernel
theorem dX6_refuseRow_0 : decode cX6_refuseRow 0 = .ok (.iload_n 1, 1) := by decide +kernel
theorem dX6_refuseRow_1 : decode cX6_refuseRow 1 = .ok (.invokestatic 310, 3) := by decide +kernel
theorem dX6_refuseRow_4 : decode cX6_refuseRow 4 = .ok (.ifCond .eq 10, 3) := by decide +kernel
theorem dX6_refuseRow_7 : decode cX6_refuseRow 7 = .ok (.iload_n 2, 1) := by decide +kernel
theorem dX6_refuseRow_8 : decode cX6_refuseRow 8 = .ok (.invokestatic 313, 3) := by decide +kernel
theorem dX6_refuseRow_11 : decode cX6_refuseRow 11 = .ok (.ifCond .ne 5, 3) := by decide +kernel
theorem dX6_refuseRow_14 : decode cX6_refuseRow 14 = .ok (.iconst (-1), 1) := by decide +kernel
theorem dX6_refuseRow_15 : decode cX6_refuseRow 15 = .ok (.ireturn, 1) := by decide +kernel
theorem dX6_refuseRow_16 : decode cX6_refuseRow 16 = .ok (.aload_n 0, 1) := by decide +kernel
theorem dX6_refuseRow_17 : decode cX6_refuseRow 17 = .ok (.getfield 55, 3) := by decide +kernel
theorem dX6_refuseRow_20 : decode cX6_refuseRow 20 = .ok (.iload_n 1, 1) := by decide +kernel
theorem dX6_refuseRow_21 : decode cX6_refuseRow 21 = .ok (.aaload, 1) := by decide +kernel
theorem dX6_refuseRow_22 : decode cX6_refuseRow 22 = .ok (.getfield 320, 3) := by decide +kernel
theorem dX6_refuseRow_25 : decode cX6_refuseRow 25 = .ok (.ifCond .ne 6, 3) := by decide +kernel
theorem dX6_refuseRow_28 : decode cX6_refuseRow 28 = .ok (.bipush (-11), 2) := by decide +kernel
theorem dX6_refuseRow_30 : decode cX6_refuseRow 30 = .ok (.ireturn, 1) := by decide +kernel
theorem dX6_refuseRow_31 : decode cX6_refuseRow 31 = .ok (.aload_n 0, 1) := by decide +kernel
theorem dX6_refuseRow_32 : decode cX6_refuseRow 32 = .ok (.getfield 55, 3) := by decide +kernel
theorem dX6_refuseRow_35 : decode cX6_refuseRow 35 = .ok (.iload_n 1, 1) := by decide +kernel
theorem dX6_refuseRow_36 : decode cX6_refuseRow 36 = .ok (.aaload, 1) := by decide +kernel
theorem dX6_refuseRow_37 : decode cX6_refuseRow 37 = .ok (.getfield 328, 3) := by decide +kernel
theorem dX6_refuseRow_40 : decode cX6_refuseRow 40 = .ok (.iload_n 2, 1) := by decide +kernel
theorem dX6_refuseRow_41 : decode cX6_refuseRow 41 = .ok (.if_icmp .ne 7, 3) := by decide +kernel
theorem dX6_refuseRow_44 : decode cX6_refuseRow 44 = .ok (.iconst 0, 1) := by decide +kernel
theorem dX6_refuseRow_45 : decode cX6_refuseRow 45 = .ok (.goto 5, 3) := by decide +kernel
theorem dX6_refuseRow_48 : decode cX6_refuseRow 48 = .ok (.bipush (-12), 2) := by decide +kernel
theorem dX6_refuseRow_50 : decode cX6_refuseRow 50 = .ok (.ireturn, 1) := by decide +kernel
theorem dX6_isSheet_0 : decode cX6_isSheet 0 = .ok (.iload_n 0, 1) := by decide +kernel
theorem dX6_isSheet_1 : decode cX6_isSheet 1 = .ok (.ifCond .lt 12, 3) := by decide +kernel
theorem dX6_isSheet_4 : decode cX6_isSheet 4 = .ok (.iload_n 0, 1) := by decide +kernel
theorem dX6_isSheet_5 : decode cX6_isSheet 5 = .ok (.iconst 4, 1) := by decide +kernel
theorem dX6_isSheet_6 : decode cX6_isSheet 6 = .ok (.if_icmp .ge 7, 3) := by decide +kernel
theorem dX6_isSheet_9 : decode cX6_isSheet 9 = .ok (.iconst 1, 1) := by decide +kernel
theorem dX6_isSheet_10 : decode cX6_isSheet 10 = .ok (.goto 4, 3) := by decide +kernel
theorem dX6_isSheet_13 : decode cX6_isSheet 13 = .ok (.iconst 0, 1) := by decide +kernel
theorem dX6_isSheet_14 : decode cX6_isSheet 14 = .ok (.ireturn, 1) := by decide +kernel
theorem dX6_isLane_0 : decode cX6_isLane 0 = .ok (.iload_n 0, 1) := by decide +kernel
theorem dX6_isLane_1 : decode cX6_isLane 1 = .ok (.ifCond .lt 12, 3) := by decide +kernel
theorem dX6_isLane_4 : decode cX6_isLane 4 = .ok (.iload_n 0, 1) := by decide +kernel
theorem dX6_isLane_5 : decode cX6_isLane 5 = .ok (.iconst 4, 1) := by decide +kernel
theorem dX6_isLane_6 : decode cX6_isLane 6 = .ok (.if_icmp .ge 7, 3) := by decide +kernel
theorem dX6_isLane_9 : decode cX6_isLane 9 = .ok (.iconst 1, 1) := by decide +kernel
theorem dX6_isLane_10 : decode cX6_isLane 10 = .ok (.goto 4, 3) := by decide +kernel
theorem dX6_isLane_13 : decode cX6_isLane 13 = .ok (.iconst 0, 1) := by decide +kernel
theorem dX6_isLane_14 : decode cX6_isLane 14 = .ok (.ireturn, 1) := by decide +kernel
theorem dX6_isPart_0 : decode cX6_isPart 0 = .ok (.iload_n 0, 1) := by decide +kernel
theorem dX6_isPart_1 : decode cX6_isPart 1 = .ok (.ifCond .lt 12, 3) := by decide +kernel
theorem dX6_isPart_4 : decode cX6_isPart 4 = .ok (.iload_n 0, 1) := by decide +kernel
theorem dX6_isPart_5 : decode cX6_isPart 5 = .ok (.iconst 2, 1) := by decide +kernel
theorem dX6_isPart_6 : decode cX6_isPart 6 = .ok (.if_icmp .gt 7, 3) := by decide +kernel
theorem dX6_isPart_9 : decode cX6_isPart 9 = .ok (.iconst 1, 1) := by decide +kernel
theorem dX6_isPart_10 : decode cX6_isPart 10 = .ok (.goto 4, 3) := by decide +kernel
theorem dX6_isPart_13 : decode cX6_isPart 13 = .ok (.iconst 0, 1) := by decide +kernel
theorem dX6_isPart_14 : decode cX6_isPart 14 = .ok (.ireturn, 1) := by decide +kernel
theorem dX6_asBit_0 : decode cX6_asBit 0 = .ok (.iload_n 0, 1) := by decide +kernel
theorem dX6_asBit_1 : decode cX6_asBit 1 = .ok (.ifCond .eq 7, 3) := by decide +kernel
theorem dX6_asBit_4 : decode cX6_asBit 4 = .ok (.iconst 1, 1) := by decide +kernel
theorem dX6_asBit_5 : decode cX6_asBit 5 = .ok (.goto 4, 3) := by decide +kernel
theorem dX6_asBit_8 : decode cX6_asBit 8 = .ok (.iconst 0, 1) := by decide +kernel
theorem dX6_asBit_9 : decode cX6_asBit 9 = .ok (.ireturn, 1) := by decide +kernel
theorem dX6_narrowed_0 : decode cX6_narrowed 0 = .ok (.iload_n 0, 1) := by decide +kernel
theorem dX6_narrowed_1 : decode cX6_narrowed 1 = .ok (.tableswitch 41 0 2 #[27, 32, 37], 27) := by decide +kernel
theorem dX6_narrowed_28 : decode cX6_narrowed 28 = .ok (.lload_n 1, 1) := by decide +kernel
theorem dX6_narrowed_29 : decode cX6_narrowed 29 = .ok (.l2i, 1) := by decide +kernel
theorem dX6_narrowed_30 : decode cX6_narrowed 30 = .ok (.i2b, 1) := by decide +kernel
theorem dX6_narrowed_31 : decode cX6_narrowed 31 = .ok (.i2l, 1) := by decide +kernel
theorem dX6_narrowed_32 : decode cX6_narrowed 32 = .ok (.lreturn, 1) := by decide +kernel
theorem dX6_narrowed_33 : decode cX6_narrowed 33 = .ok (.lload_n 1, 1) := by decide +kernel
theorem dX6_narrowed_34 : decode cX6_narrowed 34 = .ok (.l2i, 1) := by decide +kernel
theorem dX6_narrowed_35 : decode cX6_narrowed 35 = .ok (.i2s, 1) := by decide +kernel
theorem dX6_narrowed_36 : decode cX6_narrowed 36 = .ok (.i2l, 1) := by decide +kernel
theorem dX6_narrowed_37 : decode cX6_narrowed 37 = .ok (.lreturn, 1) := by decide +kernel
theorem dX6_narrowed_38 : decode cX6_narrowed 38 = .ok (.lload_n 1, 1) := by decide +kernel
theorem dX6_narrowed_39 : decode cX6_narrowed 39 = .ok (.l2i, 1) := by decide +kernel
theorem dX6_narrowed_40 : decode cX6_narrowed 40 = .ok (.i2l, 1) := by decide +kernel
theorem dX6_narrowed_41 : decode cX6_narrowed 41 = .ok (.lreturn, 1) := by decide +kernel
theorem dX6_narrowed_42 : decode cX6_narrowed 42 = .ok (.lload_n 1, 1) := by decide +kernel
theorem dX6_narrowed_43 : decode cX6_narrowed 43 = .ok (.lreturn, 1) := by decide +kernel
theorem dX6_power_0 : decode cX6_power 0 = .ok (.lconst 1, 1) := by decide +kernel
theorem dX6_power_1 : decode cX6_power 1 = .ok (.lstore_n 3, 1) := by decide +kernel
theorem dX6_power_2 : decode cX6_power 2 = .ok (.iconst 0, 1) := by decide +kernel
theorem dX6_power_3 : decode cX6_power 3 = .ok (.istore 5, 2) := by decide +kernel
theorem dX6_power_5 : decode cX6_power 5 = .ok (.iload 5, 2) := by decide +kernel
theorem dX6_power_7 : decode cX6_power 7 = .ok (.iload_n 2, 1) := by decide +kernel
theorem dX6_power_8 : decode cX6_power 8 = .ok (.if_icmp .ge 13, 3) := by decide +kernel
theorem dX6_power_11 : decode cX6_power 11 = .ok (.lload_n 3, 1) := by decide +kernel
theorem dX6_power_12 : decode cX6_power 12 = .ok (.lload_n 0, 1) := by decide +kernel
theorem dX6_power_13 : decode cX6_power 13 = .ok (.lmul, 1) := by decide +kernel
theorem dX6_power_14 : decode cX6_power 14 = .ok (.lstore_n 3, 1) := by decide +kernel
theorem dX6_power_15 : decode cX6_power 15 = .ok (.iinc 5 1, 3) := by decide +kernel
theorem dX6_power_18 : decode cX6_power 18 = .ok (.goto (-13), 3) := by decide +kernel
theorem dX6_power_21 : decode cX6_power 21 = .ok (.lload_n 3, 1) := by decide +kernel
theorem dX6_power_22 : decode cX6_power 22 = .ok (.lreturn, 1) := by decide +kernel
theorem dX6_partOf_0 : decode cX6_partOf 0 = .ok (.lload_n 0, 1) := by decide +kernel
theorem dX6_partOf_1 : decode cX6_partOf 1 = .ok (.lconst 0, 1) := by decide +kernel
theorem dX6_partOf_2 : decode cX6_partOf 2 = .ok (.lcmp, 1) := by decide +kernel
theorem dX6_partOf_3 : decode cX6_partOf 3 = .ok (.ifCond .eq 9, 3) := by decide +kernel
theorem dX6_partOf_6 : decode cX6_partOf 6 = .ok (.lload_n 2, 1) := by decide +kernel
theorem dX6_partOf_7 : decode cX6_partOf 7 = .ok (.lconst 0, 1) := by decide +kernel
theorem dX6_partOf_8 : decode cX6_partOf 8 = .ok (.lcmp, 1) := by decide +kernel
theorem dX6_partOf_9 : decode cX6_partOf 9 = .ok (.ifCond .ne 15, 3) := by decide +kernel
theorem dX6_partOf_12 : decode cX6_partOf 12 = .ok (.iload 4, 2) := by decide +kernel
theorem dX6_partOf_14 : decode cX6_partOf 14 = .ok (.iconst 1, 1) := by decide +kernel
theorem dX6_partOf_15 : decode cX6_partOf 15 = .ok (.if_icmp .ne 7, 3) := by decide +kernel
theorem dX6_partOf_18 : decode cX6_partOf 18 = .ok (.lconst 1, 1) := by decide +kernel
theorem dX6_partOf_19 : decode cX6_partOf 19 = .ok (.goto 4, 3) := by decide +kernel
theorem dX6_partOf_22 : decode cX6_partOf 22 = .ok (.lconst 0, 1) := by decide +kernel
theorem dX6_partOf_23 : decode cX6_partOf 23 = .ok (.lreturn, 1) := by decide +kernel
theorem dX6_partOf_24 : decode cX6_partOf 24 = .ok (.iload 4, 2) := by decide +kernel
theorem dX6_partOf_26 : decode cX6_partOf 26 = .ok (.iconst 2, 1) := by decide +kernel
theorem dX6_partOf_27 : decode cX6_partOf 27 = .ok (.if_icmp .ne 36, 3) := by decide +kernel
theorem dX6_partOf_30 : decode cX6_partOf 30 = .ok (.lload_n 0, 1) := by decide +kernel
theorem dX6_partOf_31 : decode cX6_partOf 31 = .ok (.lconst 0, 1) := by decide +kernel
theorem dX6_partOf_32 : decode cX6_partOf 32 = .ok (.lcmp, 1) := by decide +kernel
theorem dX6_partOf_33 : decode cX6_partOf 33 = .ok (.ifCond .ge 7, 3) := by decide +kernel
theorem dX6_partOf_36 : decode cX6_partOf 36 = .ok (.iconst 1, 1) := by decide +kernel
theorem dX6_partOf_37 : decode cX6_partOf 37 = .ok (.goto 4, 3) := by decide +kernel
theorem dX6_partOf_40 : decode cX6_partOf 40 = .ok (.iconst 0, 1) := by decide +kernel
theorem dX6_partOf_41 : decode cX6_partOf 41 = .ok (.lload_n 2, 1) := by decide +kernel
theorem dX6_partOf_42 : decode cX6_partOf 42 = .ok (.lconst 0, 1) := by decide +kernel
theorem dX6_partOf_43 : decode cX6_partOf 43 = .ok (.lcmp, 1) := by decide +kernel
theorem dX6_partOf_44 : decode cX6_partOf 44 = .ok (.ifCond .ge 7, 3) := by decide +kernel
theorem dX6_partOf_47 : decode cX6_partOf 47 = .ok (.iconst 1, 1) := by decide +kernel
theorem dX6_partOf_48 : decode cX6_partOf 48 = .ok (.goto 4, 3) := by decide +kernel
theorem dX6_partOf_51 : decode cX6_partOf 51 = .ok (.iconst 0, 1) := by decide +kernel
theorem dX6_partOf_52 : decode cX6_partOf 52 = .ok (.if_icmp .ne 7, 3) := by decide +kernel
theorem dX6_partOf_55 : decode cX6_partOf 55 = .ok (.lconst 1, 1) := by decide +kernel
theorem dX6_partOf_56 : decode cX6_partOf 56 = .ok (.goto 6, 3) := by decide +kernel
theorem dX6_partOf_59 : decode cX6_partOf 59 = .ok (.ldc2_w 371, 3) := by decide +kernel
theorem dX6_partOf_62 : decode cX6_partOf 62 = .ok (.lreturn, 1) := by decide +kernel
theorem dX6_partOf_63 : decode cX6_partOf 63 = .ok (.lload_n 0, 1) := by decide +kernel
theorem dX6_partOf_64 : decode cX6_partOf 64 = .ok (.invokestatic 373, 3) := by decide +kernel
theorem dX6_partOf_67 : decode cX6_partOf 67 = .ok (.lload_n 2, 1) := by decide +kernel
theorem dX6_partOf_68 : decode cX6_partOf 68 = .ok (.invokestatic 373, 3) := by decide +kernel
theorem dX6_partOf_71 : decode cX6_partOf 71 = .ok (.invokestatic 376, 3) := by decide +kernel
theorem dX6_partOf_74 : decode cX6_partOf 74 = .ok (.lstore 5, 2) := by decide +kernel
theorem dX6_partOf_76 : decode cX6_partOf 76 = .ok (.iload 4, 2) := by decide +kernel
theorem dX6_partOf_78 : decode cX6_partOf 78 = .ok (.ifCond .ne 7, 3) := by decide +kernel
theorem dX6_partOf_81 : decode cX6_partOf 81 = .ok (.lload_n 0, 1) := by decide +kernel
theorem dX6_partOf_82 : decode cX6_partOf 82 = .ok (.goto 4, 3) := by decide +kernel
theorem dX6_partOf_85 : decode cX6_partOf 85 = .ok (.lload_n 2, 1) := by decide +kernel
theorem dX6_partOf_86 : decode cX6_partOf 86 = .ok (.invokestatic 373, 3) := by decide +kernel
theorem dX6_partOf_89 : decode cX6_partOf 89 = .ok (.lload 5, 2) := by decide +kernel
theorem dX6_partOf_91 : decode cX6_partOf 91 = .ok (.ldiv, 1) := by decide +kernel
theorem dX6_partOf_92 : decode cX6_partOf 92 = .ok (.lreturn, 1) := by decide +kernel
theorem dX6_commonDivisor_0 : decode cX6_commonDivisor 0 = .ok (.iconst 0, 1) := by decide +kernel
theorem dX6_commonDivisor_1 : decode cX6_commonDivisor 1 = .ok (.istore 4, 2) := by decide +kernel
theorem dX6_commonDivisor_3 : decode cX6_commonDivisor 3 = .ok (.iload 4, 2) := by decide +kernel
theorem dX6_commonDivisor_5 : decode cX6_commonDivisor 5 = .ok (.sipush 200, 3) := by decide +kernel
theorem dX6_commonDivisor_8 : decode cX6_commonDivisor 8 = .ok (.if_icmp .ge 25, 3) := by decide +kernel
theorem dX6_commonDivisor_11 : decode cX6_commonDivisor 11 = .ok (.lload_n 2, 1) := by decide +kernel
theorem dX6_commonDivisor_12 : decode cX6_commonDivisor 12 = .ok (.lconst 0, 1) := by decide +kernel
theorem dX6_commonDivisor_13 : decode cX6_commonDivisor 13 = .ok (.lcmp, 1) := by decide +kernel
theorem dX6_commonDivisor_14 : decode cX6_commonDivisor 14 = .ok (.ifCond .eq 19, 3) := by decide +kernel
theorem dX6_commonDivisor_17 : decode cX6_commonDivisor 17 = .ok (.lload_n 0, 1) := by decide +kernel
theorem dX6_commonDivisor_18 : decode cX6_commonDivisor 18 = .ok (.lload_n 2, 1) := by decide +kernel
theorem dX6_commonDivisor_19 : decode cX6_commonDivisor 19 = .ok (.lrem, 1) := by decide +kernel
theorem dX6_commonDivisor_20 : decode cX6_commonDivisor 20 = .ok (.lstore 5, 2) := by decide +kernel
theorem dX6_commonDivisor_22 : decode cX6_commonDivisor 22 = .ok (.lload_n 2, 1) := by decide +kernel
theorem dX6_commonDivisor_23 : decode cX6_commonDivisor 23 = .ok (.lstore_n 0, 1) := by decide +kernel
theorem dX6_commonDivisor_24 : decode cX6_commonDivisor 24 = .ok (.lload 5, 2) := by decide +kernel
theorem dX6_commonDivisor_26 : decode cX6_commonDivisor 26 = .ok (.lstore_n 2, 1) := by decide +kernel
theorem dX6_commonDivisor_27 : decode cX6_commonDivisor 27 = .ok (.iinc 4 1, 3) := by decide +kernel
theorem dX6_commonDivisor_30 : decode cX6_commonDivisor 30 = .ok (.goto (-27), 3) := by decide +kernel
theorem dX6_commonDivisor_33 : decode cX6_commonDivisor 33 = .ok (.lload_n 0, 1) := by decide +kernel
theorem dX6_commonDivisor_34 : decode cX6_commonDivisor 34 = .ok (.lconst 1, 1) := by decide +kernel
theorem dX6_commonDivisor_35 : decode cX6_commonDivisor 35 = .ok (.invokestatic 380, 3) := by decide +kernel
theorem dX6_commonDivisor_38 : decode cX6_commonDivisor 38 = .ok (.lreturn, 1) := by decide +kernel
theorem dX7_init_0 : decode cX7_init 0 = .ok (.aload_n 0, 1) := by decide +kernel
theorem dX7_init_1 : decode cX7_init 1 = .ok (.invokespecial 1, 3) := by decide +kernel
theorem dX7_init_4 : decode cX7_init 4 = .ok (.aload_n 0, 1) := by decide +kernel
theorem dX7_init_5 : decode cX7_init 5 = .ok (.bipush 42, 2) := by decide +kernel
theorem dX7_init_7 : decode cX7_init 7 = .ok (.newarray .int, 2) := by decide +kernel
theorem dX7_init_9 : decode cX7_init 9 = .ok (.putfield 7, 3) := by decide +kernel
theorem dX7_init_12 : decode cX7_init 12 = .ok (.aload_n 0, 1) := by decide +kernel
theorem dX7_init_13 : decode cX7_init 13 = .ok (.sipush 252, 3) := by decide +kernel
theorem dX7_init_16 : decode cX7_init 16 = .ok (.newarray .int, 2) := by decide +kernel
theorem dX7_init_18 : decode cX7_init 18 = .ok (.putfield 13, 3) := by decide +kernel
theorem dX7_init_21 : decode cX7_init 21 = .ok (.aload_n 0, 1) := by decide +kernel
theorem dX7_init_22 : decode cX7_init 22 = .ok (.bipush 42, 2) := by decide +kernel
theorem dX7_init_24 : decode cX7_init 24 = .ok (.newarray .int, 2) := by decide +kernel
theorem dX7_init_26 : decode cX7_init 26 = .ok (.putfield 16, 3) := by decide +kernel
theorem dX7_init_29 : decode cX7_init 29 = .ok (.aload_n 0, 1) := by decide +kernel
theorem dX7_init_30 : decode cX7_init 30 = .ok (.sipush 252, 3) := by decide +kernel
theorem dX7_init_33 : decode cX7_init 33 = .ok (.newarray .int, 2) := by decide +kernel
theorem dX7_init_35 : decode cX7_init 35 = .ok (.putfield 19, 3) := by decide +kernel
theorem dX7_init_38 : decode cX7_init 38 = .ok (.aload_n 0, 1) := by decide +kernel
theorem dX7_init_39 : decode cX7_init 39 = .ok (.iconst (-1), 1) := by decide +kernel
theorem dX7_init_40 : decode cX7_init 40 = .ok (.putfield 22, 3) := by decide +kernel
theorem dX7_init_43 : decode cX7_init 43 = .ok (.aload_n 0, 1) := by decide +kernel
theorem dX7_init_44 : decode cX7_init 44 = .ok (.bipush 60, 2) := by decide +kernel
theorem dX7_init_46 : decode cX7_init 46 = .ok (.newarray .int, 2) := by decide +kernel
theorem dX7_init_48 : decode cX7_init 48 = .ok (.putfield 26, 3) := by decide +kernel
theorem dX7_init_51 : decode cX7_init 51 = .ok (.aload_n 0, 1) := by decide +kernel
theorem dX7_init_52 : decode cX7_init 52 = .ok (.iconst 4, 1) := by decide +kernel
theorem dX7_init_53 : decode cX7_init 53 = .ok (.newarray .int, 2) := by decide +kernel
theorem dX7_init_55 : decode cX7_init 55 = .ok (.putfield 29, 3) := by decide +kernel
theorem dX7_init_58 : decode cX7_init 58 = .ok (.aload_n 0, 1) := by decide +kernel
theorem dX7_init_59 : decode cX7_init 59 = .ok (.iconst 4, 1) := by decide +kernel
theorem dX7_init_60 : decode cX7_init 60 = .ok (.newarray .int, 2) := by decide +kernel
theorem dX7_init_62 : decode cX7_init 62 = .ok (.putfield 32, 3) := by decide +kernel
theorem dX7_init_65 : decode cX7_init 65 = .ok (.aload_n 0, 1) := by decide +kernel
theorem dX7_init_66 : decode cX7_init 66 = .ok (.bipush 96, 2) := by decide +kernel
theorem dX7_init_68 : decode cX7_init 68 = .ok (.newarray .long, 2) := by decide +kernel
theorem dX7_init_70 : decode cX7_init 70 = .ok (.putfield 35, 3) := by decide +kernel
theorem dX7_init_73 : decode cX7_init 73 = .ok (.aload_n 0, 1) := by decide +kernel
theorem dX7_init_74 : decode cX7_init 74 = .ok (.bipush 24, 2) := by decide +kernel
theorem dX7_init_76 : decode cX7_init 76 = .ok (.newarray .long, 2) := by decide +kernel
theorem dX7_init_78 : decode cX7_init 78 = .ok (.putfield 39, 3) := by decide +kernel
theorem dX7_init_81 : decode cX7_init 81 = .ok (.aload_n 0, 1) := by decide +kernel
theorem dX7_init_82 : decode cX7_init 82 = .ok (.bipush 42, 2) := by decide +kernel
theorem dX7_init_84 : decode cX7_init 84 = .ok (.newarray .int, 2) := by decide +kernel
theorem dX7_init_86 : decode cX7_init 86 = .ok (.putfield 42, 3) := by decide +kernel
theorem dX7_init_89 : decode cX7_init 89 = .ok (.aload_n 0, 1) := by decide +kernel
theorem dX7_init_90 : decode cX7_init 90 = .ok (.bipush 42, 2) := by decide +kernel
theorem dX7_init_92 : decode cX7_init 92 = .ok (.newarray .int, 2) := by decide +kernel
theorem dX7_init_94 : decode cX7_init 94 = .ok (.putfield 45, 3) := by decide +kernel
theorem dX7_init_97 : decode cX7_init 97 = .ok (.aload_n 0, 1) := by decide +kernel
theorem dX7_init_98 : decode cX7_init 98 = .ok (.bipush 108, 2) := by decide +kernel
theorem dX7_init_100 : decode cX7_init 100 = .ok (.newarray .long, 2) := by decide +kernel
theorem dX7_init_102 : decode cX7_init 102 = .ok (.putfield 48, 3) := by decide +kernel
theorem dX7_init_105 : decode cX7_init 105 = .ok (.aload_n 0, 1) := by decide +kernel
theorem dX7_init_106 : decode cX7_init 106 = .ok (.bipush 12, 2) := by decide +kernel
theorem dX7_init_108 : decode cX7_init 108 = .ok (.newarray .int, 2) := by decide +kernel
theorem dX7_init_110 : decode cX7_init 110 = .ok (.putfield 51, 3) := by decide +kernel
theorem dX7_init_113 : decode cX7_init 113 = .ok (.aload_n 0, 1) := by decide +kernel
theorem dX7_init_114 : decode cX7_init 114 = .ok (.bipush 18, 2) := by decide +kernel
theorem dX7_init_116 : decode cX7_init 116 = .ok (.newarray .int, 2) := by decide +kernel
theorem dX7_init_118 : decode cX7_init 118 = .ok (.putfield 54, 3) := by decide +kernel
theorem dX7_init_121 : decode cX7_init 121 = .ok (.aload_n 0, 1) := by decide +kernel
theorem dX7_init_122 : decode cX7_init 122 = .ok (.bipush 18, 2) := by decide +kernel
theorem dX7_init_124 : decode cX7_init 124 = .ok (.newarray .long, 2) := by decide +kernel
theorem dX7_init_126 : decode cX7_init 126 = .ok (.putfield 57, 3) := by decide +kernel
theorem dX7_init_129 : decode cX7_init 129 = .ok (.aload_n 0, 1) := by decide +kernel
theorem dX7_init_130 : decode cX7_init 130 = .ok (.bipush 18, 2) := by decide +kernel
theorem dX7_init_132 : decode cX7_init 132 = .ok (.newarray .long, 2) := by decide +kernel
theorem dX7_init_134 : decode cX7_init 134 = .ok (.putfield 60, 3) := by decide +kernel
theorem dX7_init_137 : decode cX7_init 137 = .ok (.aload_n 0, 1) := by decide +kernel
theorem dX7_init_138 : decode cX7_init 138 = .ok (.bipush 18, 2) := by decide +kernel
theorem dX7_init_140 : decode cX7_init 140 = .ok (.newarray .long, 2) := by decide +kernel
theorem dX7_init_142 : decode cX7_init 142 = .ok (.putfield 63, 3) := by decide +kernel
theorem dX7_init_145 : decode cX7_init 145 = .ok (.aload_n 0, 1) := by decide +kernel
theorem dX7_init_146 : decode cX7_init 146 = .ok (.bipush 18, 2) := by decide +kernel
theorem dX7_init_148 : decode cX7_init 148 = .ok (.newarray .long, 2) := by decide +kernel
theorem dX7_init_150 : decode cX7_init 150 = .ok (.putfield 66, 3) := by decide +kernel
theorem dX7_init_153 : decode cX7_init 153 = .ok (.aload_n 0, 1) := by decide +kernel
theorem dX7_init_154 : decode cX7_init 154 = .ok (.bipush 18, 2) := by decide +kernel
theorem dX7_init_156 : decode cX7_init 156 = .ok (.newarray .long, 2) := by decide +kernel
theorem dX7_init_158 : decode cX7_init 158 = .ok (.putfield 69, 3) := by decide +kernel
theorem dX7_init_161 : decode cX7_init 161 = .ok (.aload_n 0, 1) := by decide +kernel
theorem dX7_init_162 : decode cX7_init 162 = .ok (.bipush 18, 2) := by decide +kernel
theorem dX7_init_164 : decode cX7_init 164 = .ok (.newarray .boolean, 2) := by decide +kernel
theorem dX7_init_166 : decode cX7_init 166 = .ok (.putfield 72, 3) := by decide +kernel
theorem dX7_init_169 : decode cX7_init 169 = .ok (.aload_n 0, 1) := by decide +kernel
theorem dX7_init_170 : decode cX7_init 170 = .ok (.bipush 42, 2) := by decide +kernel
theorem dX7_init_172 : decode cX7_init 172 = .ok (.newarray .int, 2) := by decide +kernel
theorem dX7_init_174 : decode cX7_init 174 = .ok (.putfield 76, 3) := by decide +kernel
theorem dX7_init_177 : decode cX7_init 177 = .ok (.aload_n 0, 1) := by decide +kernel
theorem dX7_init_178 : decode cX7_init 178 = .ok (.getfield 7, 3) := by decide +kernel
theorem dX7_init_181 : decode cX7_init 181 = .ok (.iconst 2, 1) := by decide +kernel
theorem dX7_init_182 : decode cX7_init 182 = .ok (.iconst 1, 1) := by decide +kernel
theorem dX7_init_183 : decode cX7_init 183 = .ok (.iastore, 1) := by decide +kernel
theorem dX7_init_184 : decode cX7_init 184 = .ok (.aload_n 0, 1) := by decide +kernel
theorem dX7_init_185 : decode cX7_init 185 = .ok (.getfield 7, 3) := by decide +kernel
theorem dX7_init_188 : decode cX7_init 188 = .ok (.bipush 33, 2) := by decide +kernel
theorem dX7_init_190 : decode cX7_init 190 = .ok (.iconst 1, 1) := by decide +kernel
theorem dX7_init_191 : decode cX7_init 191 = .ok (.iastore, 1) := by decide +kernel
theorem dX7_init_192 : decode cX7_init 192 = .ok (.iconst 0, 1) := by decide +kernel
theorem dX7_init_193 : decode cX7_init 193 = .ok (.istore_n 1, 1) := by decide +kernel
theorem dX7_init_194 : decode cX7_init 194 = .ok (.iload_n 1, 1) := by decide +kernel
theorem dX7_init_195 : decode cX7_init 195 = .ok (.iconst 4, 1) := by decide +kernel
theorem dX7_init_196 : decode cX7_init 196 = .ok (.if_icmp .ge 16, 3) := by decide +kernel
theorem dX7_init_199 : decode cX7_init 199 = .ok (.aload_n 0, 1) := by decide +kernel
theorem dX7_init_200 : decode cX7_init 200 = .ok (.getfield 29, 3) := by decide +kernel
theorem dX7_init_203 : decode cX7_init 203 = .ok (.iload_n 1, 1) := by decide +kernel
theorem dX7_init_204 : decode cX7_init 204 = .ok (.iconst (-1), 1) := by decide +kernel
theorem dX7_init_205 : decode cX7_init 205 = .ok (.iastore, 1) := by decide +kernel
theorem dX7_init_206 : decode cX7_init 206 = .ok (.iinc 1 1, 3) := by decide +kernel
theorem dX7_init_209 : decode cX7_init 209 = .ok (.goto (-15), 3) := by decide +kernel
theorem dX7_init_212 : decode cX7_init 212 = .ok (.return_, 1) := by decide +kernel
theorem dX7_in_0 : decode cX7_in 0 = .ok (.lload_n 0, 1) := by decide +kernel
theorem dX7_in_1 : decode cX7_in 1 = .ok (.lload_n 2, 1) := by decide +kernel
theorem dX7_in_2 : decode cX7_in 2 = .ok (.lcmp, 1) := by decide +kernel
theorem dX7_in_3 : decode cX7_in 3 = .ok (.ifCond .lt 14, 3) := by decide +kernel
theorem dX7_in_6 : decode cX7_in 6 = .ok (.lload_n 0, 1) := by decide +kernel
theorem dX7_in_7 : decode cX7_in 7 = .ok (.lload 4, 2) := by decide +kernel
theorem dX7_in_9 : decode cX7_in 9 = .ok (.lcmp, 1) := by decide +kernel
theorem dX7_in_10 : decode cX7_in 10 = .ok (.ifCond .gt 7, 3) := by decide +kernel
theorem dX7_in_13 : decode cX7_in 13 = .ok (.iconst 1, 1) := by decide +kernel
theorem dX7_in_14 : decode cX7_in 14 = .ok (.goto 4, 3) := by decide +kernel
theorem dX7_in_17 : decode cX7_in 17 = .ok (.iconst 0, 1) := by decide +kernel
theorem dX7_in_18 : decode cX7_in 18 = .ok (.ireturn, 1) := by decide +kernel
theorem dX7_x_0 : decode cX7_x 0 = .ok (.aload_n 0, 1) := by decide +kernel
theorem dX7_x_1 : decode cX7_x 1 = .ok (.getfield 7, 3) := by decide +kernel
theorem dX7_x_4 : decode cX7_x 4 = .ok (.iconst 3, 1) := by decide +kernel
theorem dX7_x_5 : decode cX7_x 5 = .ok (.iconst 2, 1) := by decide +kernel
theorem dX7_x_6 : decode cX7_x 6 = .ok (.iload_n 1, 1) := by decide +kernel
theorem dX7_x_7 : decode cX7_x 7 = .ok (.imul, 1) := by decide +kernel
theorem dX7_x_8 : decode cX7_x 8 = .ok (.iadd, 1) := by decide +kernel
theorem dX7_x_9 : decode cX7_x 9 = .ok (.iaload, 1) := by decide +kernel
theorem dX7_x_10 : decode cX7_x 10 = .ok (.ireturn, 1) := by decide +kernel
theorem dX7_y_0 : decode cX7_y 0 = .ok (.aload_n 0, 1) := by decide +kernel
theorem dX7_y_1 : decode cX7_y 1 = .ok (.getfield 7, 3) := by decide +kernel
theorem dX7_y_4 : decode cX7_y 4 = .ok (.iconst 3, 1) := by decide +kernel
theorem dX7_y_5 : decode cX7_y 5 = .ok (.iconst 2, 1) := by decide +kernel
theorem dX7_y_6 : decode cX7_y 6 = .ok (.iload_n 1, 1) := by decide +kernel
theorem dX7_y_7 : decode cX7_y 7 = .ok (.imul, 1) := by decide +kernel
theorem dX7_y_8 : decode cX7_y 8 = .ok (.iadd, 1) := by decide +kernel
theorem dX7_y_9 : decode cX7_y 9 = .ok (.iconst 1, 1) := by decide +kernel
theorem dX7_y_10 : decode cX7_y 10 = .ok (.iadd, 1) := by decide +kernel
theorem dX7_y_11 : decode cX7_y 11 = .ok (.iaload, 1) := by decide +kernel
theorem dX7_y_12 : decode cX7_y 12 = .ok (.ireturn, 1) := by decide +kernel
theorem dX7_isJoint_0 : decode cX7_isJoint 0 = .ok (.iload_n 1, 1) := by decide +kernel
theorem dX7_isJoint_1 : decode cX7_isJoint 1 = .ok (.i2l, 1) := by decide +kernel
theorem dX7_isJoint_2 : decode cX7_isJoint 2 = .ok (.lconst 0, 1) := by decide +kernel
theorem dX7_isJoint_3 : decode cX7_isJoint 3 = .ok (.aload_n 0, 1) := by decide +kernel
theorem dX7_isJoint_4 : decode cX7_isJoint 4 = .ok (.getfield 7, 3) := by decide +kernel
theorem dX7_isJoint_7 : decode cX7_isJoint 7 = .ok (.iconst 0, 1) := by decide +kernel
theorem dX7_isJoint_8 : decode cX7_isJoint 8 = .ok (.iaload, 1) := by decide +kernel
theorem dX7_isJoint_9 : decode cX7_isJoint 9 = .ok (.iconst 1, 1) := by decide +kernel
theorem dX7_isJoint_10 : decode cX7_isJoint 10 = .ok (.isub, 1) := by decide +kernel
theorem dX7_isJoint_11 : decode cX7_isJoint 11 = .ok (.i2l, 1) := by decide +kernel
theorem dX7_isJoint_12 : decode cX7_isJoint 12 = .ok (.invokestatic 79, 3) := by decide +kernel
theorem dX7_isJoint_15 : decode cX7_isJoint 15 = .ok (.ireturn, 1) := by decide +kernel
theorem dX7_isBar_0 : decode cX7_isBar 0 = .ok (.iload_n 1, 1) := by decide +kernel
theorem dX7_isBar_1 : decode cX7_isBar 1 = .ok (.i2l, 1) := by decide +kernel
theorem dX7_isBar_2 : decode cX7_isBar 2 = .ok (.lconst 0, 1) := by decide +kernel
theorem dX7_isBar_3 : decode cX7_isBar 3 = .ok (.aload_n 0, 1) := by decide +kernel
theorem dX7_isBar_4 : decode cX7_isBar 4 = .ok (.getfield 7, 3) := by decide +kernel
theorem dX7_isBar_7 : decode cX7_isBar 7 = .ok (.iconst 1, 1) := by decide +kernel
theorem dX7_isBar_8 : decode cX7_isBar 8 = .ok (.iaload, 1) := by decide +kernel
theorem dX7_isBar_9 : decode cX7_isBar 9 = .ok (.iconst 1, 1) := by decide +kernel
theorem dX7_isBar_10 : decode cX7_isBar 10 = .ok (.isub, 1) := by decide +kernel
theorem dX7_isBar_11 : decode cX7_isBar 11 = .ok (.i2l, 1) := by decide +kernel
theorem dX7_isBar_12 : decode cX7_isBar 12 = .ok (.invokestatic 79, 3) := by decide +kernel
theorem dX7_isBar_15 : decode cX7_isBar 15 = .ok (.ireturn, 1) := by decide +kernel
theorem dX7_from_0 : decode cX7_from 0 = .ok (.aload_n 0, 1) := by decide +kernel
theorem dX7_from_1 : decode cX7_from 1 = .ok (.getfield 7, 3) := by decide +kernel
theorem dX7_from_4 : decode cX7_from 4 = .ok (.bipush 15, 2) := by decide +kernel
theorem dX7_from_6 : decode cX7_from 6 = .ok (.iload_n 1, 1) := by decide +kernel
theorem dX7_from_7 : decode cX7_from 7 = .ok (.iadd, 1) := by decide +kernel
theorem dX7_from_8 : decode cX7_from 8 = .ok (.iaload, 1) := by decide +kernel
theorem dX7_from_9 : decode cX7_from 9 = .ok (.ireturn, 1) := by decide +kernel
theorem dX7_to_0 : decode cX7_to 0 = .ok (.aload_n 0, 1) := by decide +kernel
theorem dX7_to_1 : decode cX7_to 1 = .ok (.getfield 7, 3) := by decide +kernel
theorem dX7_to_4 : decode cX7_to 4 = .ok (.bipush 15, 2) := by decide +kernel
theorem dX7_to_6 : decode cX7_to 6 = .ok (.iload_n 1, 1) := by decide +kernel
theorem dX7_to_7 : decode cX7_to 7 = .ok (.iconst 2, 1) := by decide +kernel
theorem dX7_to_8 : decode cX7_to 8 = .ok (.irem, 1) := by decide +kernel
theorem dX7_to_9 : decode cX7_to 9 = .ok (.ifCond .ne 9, 3) := by decide +kernel
theorem dX7_to_12 : decode cX7_to 12 = .ok (.iload_n 1, 1) := by decide +kernel
theorem dX7_to_13 : decode cX7_to 13 = .ok (.iconst 1, 1) := by decide +kernel
theorem dX7_to_14 : decode cX7_to 14 = .ok (.iadd, 1) := by decide +kernel
theorem dX7_to_15 : decode cX7_to 15 = .ok (.goto 6, 3) := by decide +kernel
theorem dX7_to_18 : decode cX7_to 18 = .ok (.iload_n 1, 1) := by decide +kernel
theorem dX7_to_19 : decode cX7_to 19 = .ok (.iconst 1, 1) := by decide +kernel
theorem dX7_to_20 : decode cX7_to 20 = .ok (.isub, 1) := by decide +kernel
theorem dX7_to_21 : decode cX7_to 21 = .ok (.iadd, 1) := by decide +kernel
theorem dX7_to_22 : decode cX7_to 22 = .ok (.iaload, 1) := by decide +kernel
theorem dX7_to_23 : decode cX7_to 23 = .ok (.ireturn, 1) := by decide +kernel
theorem dX7_back_0 : decode cX7_back 0 = .ok (.iload_n 0, 1) := by decide +kernel
theorem dX7_back_1 : decode cX7_back 1 = .ok (.iconst 2, 1) := by decide +kernel
theorem dX7_back_2 : decode cX7_back 2 = .ok (.irem, 1) := by decide +kernel
theorem dX7_back_3 : decode cX7_back 3 = .ok (.ifCond .ne 9, 3) := by decide +kernel
theorem dX7_back_6 : decode cX7_back 6 = .ok (.iload_n 0, 1) := by decide +kernel
theorem dX7_back_7 : decode cX7_back 7 = .ok (.iconst 1, 1) := by decide +kernel
theorem dX7_back_8 : decode cX7_back 8 = .ok (.iadd, 1) := by decide +kernel
theorem dX7_back_9 : decode cX7_back 9 = .ok (.goto 6, 3) := by decide +kernel
theorem dX7_back_12 : decode cX7_back 12 = .ok (.iload_n 0, 1) := by decide +kernel
theorem dX7_back_13 : decode cX7_back 13 = .ok (.iconst 1, 1) := by decide +kernel
theorem dX7_back_14 : decode cX7_back 14 = .ok (.isub, 1) := by decide +kernel
theorem dX7_back_15 : decode cX7_back 15 = .ok (.ireturn, 1) := by decide +kernel
theorem dX7_turn_0 : decode cX7_turn 0 = .ok (.aload_n 0, 1) := by decide +kernel
theorem dX7_turn_1 : decode cX7_turn 1 = .ok (.iload_n 2, 1) := by decide +kernel
theorem dX7_turn_2 : decode cX7_turn 2 = .ok (.invokevirtual 83, 3) := by decide +kernel
theorem dX7_turn_5 : decode cX7_turn 5 = .ok (.aload_n 0, 1) := by decide +kernel
theorem dX7_turn_6 : decode cX7_turn 6 = .ok (.iload_n 1, 1) := by decide +kernel
theorem dX7_turn_7 : decode cX7_turn 7 = .ok (.invokevirtual 83, 3) := by decide +kernel
theorem dX7_turn_10 : decode cX7_turn 10 = .ok (.isub, 1) := by decide +kernel
theorem dX7_turn_11 : decode cX7_turn 11 = .ok (.aload_n 0, 1) := by decide +kernel
theorem dX7_turn_12 : decode cX7_turn 12 = .ok (.iload_n 3, 1) := by decide +kernel
theorem dX7_turn_13 : decode cX7_turn 13 = .ok (.invokevirtual 87, 3) := by decide +kernel
theorem dX7_turn_16 : decode cX7_turn 16 = .ok (.aload_n 0, 1) := by decide +kernel
theorem dX7_turn_17 : decode cX7_turn 17 = .ok (.iload_n 1, 1) := by decide +kernel
theorem dX7_turn_18 : decode cX7_turn 18 = .ok (.invokevirtual 87, 3) := by decide +kernel
theorem dX7_turn_21 : decode cX7_turn 21 = .ok (.isub, 1) := by decide +kernel
theorem dX7_turn_22 : decode cX7_turn 22 = .ok (.imul, 1) := by decide +kernel
theorem dX7_turn_23 : decode cX7_turn 23 = .ok (.aload_n 0, 1) := by decide +kernel
theorem dX7_turn_24 : decode cX7_turn 24 = .ok (.iload_n 2, 1) := by decide +kernel
theorem dX7_turn_25 : decode cX7_turn 25 = .ok (.invokevirtual 87, 3) := by decide +kernel
theorem dX7_turn_28 : decode cX7_turn 28 = .ok (.aload_n 0, 1) := by decide +kernel
theorem dX7_turn_29 : decode cX7_turn 29 = .ok (.iload_n 1, 1) := by decide +kernel
theorem dX7_turn_30 : decode cX7_turn 30 = .ok (.invokevirtual 87, 3) := by decide +kernel
theorem dX7_turn_33 : decode cX7_turn 33 = .ok (.isub, 1) := by decide +kernel
theorem dX7_turn_34 : decode cX7_turn 34 = .ok (.aload_n 0, 1) := by decide +kernel
theorem dX7_turn_35 : decode cX7_turn 35 = .ok (.iload_n 3, 1) := by decide +kernel
theorem dX7_turn_36 : decode cX7_turn 36 = .ok (.invokevirtual 83, 3) := by decide +kernel
theorem dX7_turn_39 : decode cX7_turn 39 = .ok (.aload_n 0, 1) := by decide +kernel
theorem dX7_turn_40 : decode cX7_turn 40 = .ok (.iload_n 1, 1) := by decide +kernel
theorem dX7_turn_41 : decode cX7_turn 41 = .ok (.invokevirtual 83, 3) := by decide +kernel
theorem dX7_turn_44 : decode cX7_turn 44 = .ok (.isub, 1) := by decide +kernel
theorem dX7_turn_45 : decode cX7_turn 45 = .ok (.imul, 1) := by decide +kernel
theorem dX7_turn_46 : decode cX7_turn 46 = .ok (.isub, 1) := by decide +kernel
theorem dX7_turn_47 : decode cX7_turn 47 = .ok (.ireturn, 1) := by decide +kernel
theorem dX7_isOver_0 : decode cX7_isOver 0 = .ok (.aload_n 0, 1) := by decide +kernel
theorem dX7_isOver_1 : decode cX7_isOver 1 = .ok (.iload_n 1, 1) := by decide +kernel
theorem dX7_isOver_2 : decode cX7_isOver 2 = .ok (.invokevirtual 83, 3) := by decide +kernel
theorem dX7_isOver_5 : decode cX7_isOver 5 = .ok (.aload_n 0, 1) := by decide +kernel
theorem dX7_isOver_6 : decode cX7_isOver 6 = .ok (.iload_n 3, 1) := by decide +kernel
theorem dX7_isOver_7 : decode cX7_isOver 7 = .ok (.invokevirtual 83, 3) := by decide +kernel
theorem dX7_isOver_10 : decode cX7_isOver 10 = .ok (.isub, 1) := by decide +kernel
theorem dX7_isOver_11 : decode cX7_isOver 11 = .ok (.aload_n 0, 1) := by decide +kernel
theorem dX7_isOver_12 : decode cX7_isOver 12 = .ok (.iload_n 2, 1) := by decide +kernel
theorem dX7_isOver_13 : decode cX7_isOver 13 = .ok (.invokevirtual 83, 3) := by decide +kernel
theorem dX7_isOver_16 : decode cX7_isOver 16 = .ok (.aload_n 0, 1) := by decide +kernel
theorem dX7_isOver_17 : decode cX7_isOver 17 = .ok (.iload_n 3, 1) := by decide +kernel
theorem dX7_isOver_18 : decode cX7_isOver 18 = .ok (.invokevirtual 83, 3) := by decide +kernel
theorem dX7_isOver_21 : decode cX7_isOver 21 = .ok (.isub, 1) := by decide +kernel
theorem dX7_isOver_22 : decode cX7_isOver 22 = .ok (.imul, 1) := by decide +kernel
theorem dX7_isOver_23 : decode cX7_isOver 23 = .ok (.aload_n 0, 1) := by decide +kernel
theorem dX7_isOver_24 : decode cX7_isOver 24 = .ok (.iload_n 1, 1) := by decide +kernel
theorem dX7_isOver_25 : decode cX7_isOver 25 = .ok (.invokevirtual 87, 3) := by decide +kernel
theorem dX7_isOver_28 : decode cX7_isOver 28 = .ok (.aload_n 0, 1) := by decide +kernel
theorem dX7_isOver_29 : decode cX7_isOver 29 = .ok (.iload_n 3, 1) := by decide +kernel
theorem dX7_isOver_30 : decode cX7_isOver 30 = .ok (.invokevirtual 87, 3) := by decide +kernel
theorem dX7_isOver_33 : decode cX7_isOver 33 = .ok (.isub, 1) := by decide +kernel
theorem dX7_isOver_34 : decode cX7_isOver 34 = .ok (.aload_n 0, 1) := by decide +kernel
theorem dX7_isOver_35 : decode cX7_isOver 35 = .ok (.iload_n 2, 1) := by decide +kernel
theorem dX7_isOver_36 : decode cX7_isOver 36 = .ok (.invokevirtual 87, 3) := by decide +kernel
theorem dX7_isOver_39 : decode cX7_isOver 39 = .ok (.aload_n 0, 1) := by decide +kernel
theorem dX7_isOver_40 : decode cX7_isOver 40 = .ok (.iload_n 3, 1) := by decide +kernel
theorem dX7_isOver_41 : decode cX7_isOver 41 = .ok (.invokevirtual 87, 3) := by decide +kernel
theorem dX7_isOver_44 : decode cX7_isOver 44 = .ok (.isub, 1) := by decide +kernel
theorem dX7_isOver_45 : decode cX7_isOver 45 = .ok (.imul, 1) := by decide +kernel
theorem dX7_isOver_46 : decode cX7_isOver 46 = .ok (.iadd, 1) := by decide +kernel
theorem dX7_isOver_47 : decode cX7_isOver 47 = .ok (.istore 4, 2) := by decide +kernel
theorem dX7_isOver_49 : decode cX7_isOver 49 = .ok (.iload_n 3, 1) := by decide +kernel
theorem dX7_isOver_50 : decode cX7_isOver 50 = .ok (.iload_n 1, 1) := by decide +kernel
theorem dX7_isOver_51 : decode cX7_isOver 51 = .ok (.if_icmp .eq 27, 3) := by decide +kernel
theorem dX7_isOver_54 : decode cX7_isOver 54 = .ok (.iload_n 3, 1) := by decide +kernel
theorem dX7_isOver_55 : decode cX7_isOver 55 = .ok (.iload_n 2, 1) := by decide +kernel
theorem dX7_isOver_56 : decode cX7_isOver 56 = .ok (.if_icmp .eq 22, 3) := by decide +kernel
theorem dX7_isOver_59 : decode cX7_isOver 59 = .ok (.aload_n 0, 1) := by decide +kernel
theorem dX7_isOver_60 : decode cX7_isOver 60 = .ok (.iload_n 1, 1) := by decide +kernel
theorem dX7_isOver_61 : decode cX7_isOver 61 = .ok (.iload_n 2, 1) := by decide +kernel
theorem dX7_isOver_62 : decode cX7_isOver 62 = .ok (.iload_n 3, 1) := by decide +kernel
theorem dX7_isOver_63 : decode cX7_isOver 63 = .ok (.invokevirtual 90, 3) := by decide +kernel
theorem dX7_isOver_66 : decode cX7_isOver 66 = .ok (.ifCond .ne 12, 3) := by decide +kernel
theorem dX7_isOver_69 : decode cX7_isOver 69 = .ok (.iload 4, 2) := by decide +kernel
theorem dX7_isOver_71 : decode cX7_isOver 71 = .ok (.ifCond .ge 7, 3) := by decide +kernel
theorem dX7_isOver_74 : decode cX7_isOver 74 = .ok (.iconst 1, 1) := by decide +kernel
theorem dX7_isOver_75 : decode cX7_isOver 75 = .ok (.goto 4, 3) := by decide +kernel
theorem dX7_isOver_78 : decode cX7_isOver 78 = .ok (.iconst 0, 1) := by decide +kernel
theorem dX7_isOver_79 : decode cX7_isOver 79 = .ok (.ireturn, 1) := by decide +kernel
theorem dX7_sign_0 : decode cX7_sign 0 = .ok (.lload_n 0, 1) := by decide +kernel
theorem dX7_sign_1 : decode cX7_sign 1 = .ok (.lconst 0, 1) := by decide +kernel
theorem dX7_sign_2 : decode cX7_sign 2 = .ok (.lcmp, 1) := by decide +kernel
theorem dX7_sign_3 : decode cX7_sign 3 = .ok (.ifCond .ge 7, 3) := by decide +kernel
theorem dX7_sign_6 : decode cX7_sign 6 = .ok (.iconst (-1), 1) := by decide +kernel
theorem dX7_sign_7 : decode cX7_sign 7 = .ok (.goto 14, 3) := by decide +kernel
theorem dX7_sign_10 : decode cX7_sign 10 = .ok (.lload_n 0, 1) := by decide +kernel
theorem dX7_sign_11 : decode cX7_sign 11 = .ok (.lconst 0, 1) := by decide +kernel
theorem dX7_sign_12 : decode cX7_sign 12 = .ok (.lcmp, 1) := by decide +kernel
theorem dX7_sign_13 : decode cX7_sign 13 = .ok (.ifCond .le 7, 3) := by decide +kernel
theorem dX7_sign_16 : decode cX7_sign 16 = .ok (.iconst 1, 1) := by decide +kernel
theorem dX7_sign_17 : decode cX7_sign 17 = .ok (.goto 4, 3) := by decide +kernel
theorem dX7_sign_20 : decode cX7_sign 20 = .ok (.iconst 0, 1) := by decide +kernel
theorem dX7_sign_21 : decode cX7_sign 21 = .ok (.ireturn, 1) := by decide +kernel
theorem dX7_doCross_0 : decode cX7_doCross 0 = .ok (.aload_n 0, 1) := by decide +kernel
theorem dX7_doCross_1 : decode cX7_doCross 1 = .ok (.iload_n 1, 1) := by decide +kernel
theorem dX7_doCross_2 : decode cX7_doCross 2 = .ok (.iload_n 2, 1) := by decide +kernel
theorem dX7_doCross_3 : decode cX7_doCross 3 = .ok (.iload_n 3, 1) := by decide +kernel
theorem dX7_doCross_4 : decode cX7_doCross 4 = .ok (.invokevirtual 90, 3) := by decide +kernel
theorem dX7_doCross_7 : decode cX7_doCross 7 = .ok (.i2l, 1) := by decide +kernel
theorem dX7_doCross_8 : decode cX7_doCross 8 = .ok (.invokestatic 94, 3) := by decide +kernel
theorem dX7_doCross_11 : decode cX7_doCross 11 = .ok (.aload_n 0, 1) := by decide +kernel
theorem dX7_doCross_12 : decode cX7_doCross 12 = .ok (.iload_n 1, 1) := by decide +kernel
theorem dX7_doCross_13 : decode cX7_doCross 13 = .ok (.iload_n 2, 1) := by decide +kernel
theorem dX7_doCross_14 : decode cX7_doCross 14 = .ok (.iload 4, 2) := by decide +kernel
theorem dX7_doCross_16 : decode cX7_doCross 16 = .ok (.invokevirtual 90, 3) := by decide +kernel
theorem dX7_doCross_19 : decode cX7_doCross 19 = .ok (.i2l, 1) := by decide +kernel
theorem dX7_doCross_20 : decode cX7_doCross 20 = .ok (.invokestatic 94, 3) := by decide +kernel
theorem dX7_doCross_23 : decode cX7_doCross 23 = .ok (.imul, 1) := by decide +kernel
theorem dX7_doCross_24 : decode cX7_doCross 24 = .ok (.ifCond .ge 35, 3) := by decide +kernel
theorem dX7_doCross_27 : decode cX7_doCross 27 = .ok (.aload_n 0, 1) := by decide +kernel
theorem dX7_doCross_28 : decode cX7_doCross 28 = .ok (.iload_n 3, 1) := by decide +kernel
theorem dX7_doCross_29 : decode cX7_doCross 29 = .ok (.iload 4, 2) := by decide +kernel
theorem dX7_doCross_31 : decode cX7_doCross 31 = .ok (.iload_n 1, 1) := by decide +kernel
theorem dX7_doCross_32 : decode cX7_doCross 32 = .ok (.invokevirtual 90, 3) := by decide +kernel
theorem dX7_doCross_35 : decode cX7_doCross 35 = .ok (.i2l, 1) := by decide +kernel
theorem dX7_doCross_36 : decode cX7_doCross 36 = .ok (.invokestatic 94, 3) := by decide +kernel
theorem dX7_doCross_39 : decode cX7_doCross 39 = .ok (.aload_n 0, 1) := by decide +kernel
theorem dX7_doCross_40 : decode cX7_doCross 40 = .ok (.iload_n 3, 1) := by decide +kernel
theorem dX7_doCross_41 : decode cX7_doCross 41 = .ok (.iload 4, 2) := by decide +kernel
theorem dX7_doCross_43 : decode cX7_doCross 43 = .ok (.iload_n 2, 1) := by decide +kernel
theorem dX7_doCross_44 : decode cX7_doCross 44 = .ok (.invokevirtual 90, 3) := by decide +kernel
theorem dX7_doCross_47 : decode cX7_doCross 47 = .ok (.i2l, 1) := by decide +kernel
theorem dX7_doCross_48 : decode cX7_doCross 48 = .ok (.invokestatic 94, 3) := by decide +kernel
theorem dX7_doCross_51 : decode cX7_doCross 51 = .ok (.imul, 1) := by decide +kernel
theorem dX7_doCross_52 : decode cX7_doCross 52 = .ok (.ifCond .ge 7, 3) := by decide +kernel
theorem dX7_doCross_55 : decode cX7_doCross 55 = .ok (.iconst 1, 1) := by decide +kernel
theorem dX7_doCross_56 : decode cX7_doCross 56 = .ok (.goto 4, 3) := by decide +kernel
theorem dX7_doCross_59 : decode cX7_doCross 59 = .ok (.iconst 0, 1) := by decide +kernel
theorem dX7_doCross_60 : decode cX7_doCross 60 = .ok (.ireturn, 1) := by decide +kernel
theorem dX7_isPlain_0 : decode cX7_isPlain 0 = .ok (.iconst 1, 1) := by decide +kernel
theorem dX7_isPlain_1 : decode cX7_isPlain 1 = .ok (.istore_n 1, 1) := by decide +kernel
theorem dX7_isPlain_2 : decode cX7_isPlain 2 = .ok (.iconst 0, 1) := by decide +kernel
theorem dX7_isPlain_3 : decode cX7_isPlain 3 = .ok (.istore_n 2, 1) := by decide +kernel
theorem dX7_isPlain_4 : decode cX7_isPlain 4 = .ok (.iload_n 2, 1) := by decide +kernel
theorem dX7_isPlain_5 : decode cX7_isPlain 5 = .ok (.aload_n 0, 1) := by decide +kernel
theorem dX7_isPlain_6 : decode cX7_isPlain 6 = .ok (.getfield 7, 3) := by decide +kernel
theorem dX7_isPlain_9 : decode cX7_isPlain 9 = .ok (.iconst 1, 1) := by decide +kernel
theorem dX7_isPlain_10 : decode cX7_isPlain 10 = .ok (.iaload, 1) := by decide +kernel
theorem dX7_isPlain_11 : decode cX7_isPlain 11 = .ok (.if_icmp .ge 117, 3) := by decide +kernel
theorem dX7_isPlain_14 : decode cX7_isPlain 14 = .ok (.iconst 0, 1) := by decide +kernel
theorem dX7_isPlain_15 : decode cX7_isPlain 15 = .ok (.istore_n 3, 1) := by decide +kernel
theorem dX7_isPlain_16 : decode cX7_isPlain 16 = .ok (.iload_n 3, 1) := by decide +kernel
theorem dX7_isPlain_17 : decode cX7_isPlain 17 = .ok (.aload_n 0, 1) := by decide +kernel
theorem dX7_isPlain_18 : decode cX7_isPlain 18 = .ok (.getfield 7, 3) := by decide +kernel
theorem dX7_isPlain_21 : decode cX7_isPlain 21 = .ok (.iconst 0, 1) := by decide +kernel
theorem dX7_isPlain_22 : decode cX7_isPlain 22 = .ok (.iaload, 1) := by decide +kernel
theorem dX7_isPlain_23 : decode cX7_isPlain 23 = .ok (.if_icmp .ge 41, 3) := by decide +kernel
theorem dX7_isPlain_26 : decode cX7_isPlain 26 = .ok (.iload_n 1, 1) := by decide +kernel
theorem dX7_isPlain_27 : decode cX7_isPlain 27 = .ok (.ifCond .eq 29, 3) := by decide +kernel
theorem dX7_isPlain_30 : decode cX7_isPlain 30 = .ok (.aload_n 0, 1) := by decide +kernel
theorem dX7_isPlain_31 : decode cX7_isPlain 31 = .ok (.aload_n 0, 1) := by decide +kernel
theorem dX7_isPlain_32 : decode cX7_isPlain 32 = .ok (.iconst 2, 1) := by decide +kernel
theorem dX7_isPlain_33 : decode cX7_isPlain 33 = .ok (.iload_n 2, 1) := by decide +kernel
theorem dX7_isPlain_34 : decode cX7_isPlain 34 = .ok (.imul, 1) := by decide +kernel
theorem dX7_isPlain_35 : decode cX7_isPlain 35 = .ok (.invokevirtual 98, 3) := by decide +kernel
theorem dX7_isPlain_38 : decode cX7_isPlain 38 = .ok (.aload_n 0, 1) := by decide +kernel
theorem dX7_isPlain_39 : decode cX7_isPlain 39 = .ok (.iconst 2, 1) := by decide +kernel
theorem dX7_isPlain_40 : decode cX7_isPlain 40 = .ok (.iload_n 2, 1) := by decide +kernel
theorem dX7_isPlain_41 : decode cX7_isPlain 41 = .ok (.imul, 1) := by decide +kernel
theorem dX7_isPlain_42 : decode cX7_isPlain 42 = .ok (.invokevirtual 101, 3) := by decide +kernel
theorem dX7_isPlain_45 : decode cX7_isPlain 45 = .ok (.iload_n 3, 1) := by decide +kernel
theorem dX7_isPlain_46 : decode cX7_isPlain 46 = .ok (.invokevirtual 104, 3) := by decide +kernel
theorem dX7_isPlain_49 : decode cX7_isPlain 49 = .ok (.ifCond .ne 7, 3) := by decide +kernel
theorem dX7_isPlain_52 : decode cX7_isPlain 52 = .ok (.iconst 1, 1) := by decide +kernel
theorem dX7_isPlain_53 : decode cX7_isPlain 53 = .ok (.goto 4, 3) := by decide +kernel
theorem dX7_isPlain_56 : decode cX7_isPlain 56 = .ok (.iconst 0, 1) := by decide +kernel
theorem dX7_isPlain_57 : decode cX7_isPlain 57 = .ok (.istore_n 1, 1) := by decide +kernel
theorem dX7_isPlain_58 : decode cX7_isPlain 58 = .ok (.iinc 3 1, 3) := by decide +kernel
theorem dX7_isPlain_61 : decode cX7_isPlain 61 = .ok (.goto (-45), 3) := by decide +kernel
theorem dX7_isPlain_64 : decode cX7_isPlain 64 = .ok (.iconst 0, 1) := by decide +kernel
theorem dX7_isPlain_65 : decode cX7_isPlain 65 = .ok (.istore_n 3, 1) := by decide +kernel
theorem dX7_isPlain_66 : decode cX7_isPlain 66 = .ok (.iload_n 3, 1) := by decide +kernel
theorem dX7_isPlain_67 : decode cX7_isPlain 67 = .ok (.iload_n 2, 1) := by decide +kernel
theorem dX7_isPlain_68 : decode cX7_isPlain 68 = .ok (.if_icmp .ge 54, 3) := by decide +kernel
theorem dX7_isPlain_71 : decode cX7_isPlain 71 = .ok (.iload_n 1, 1) := by decide +kernel
theorem dX7_isPlain_72 : decode cX7_isPlain 72 = .ok (.ifCond .eq 42, 3) := by decide +kernel
theorem dX7_isPlain_75 : decode cX7_isPlain 75 = .ok (.aload_n 0, 1) := by decide +kernel
theorem dX7_isPlain_76 : decode cX7_isPlain 76 = .ok (.aload_n 0, 1) := by decide +kernel
theorem dX7_isPlain_77 : decode cX7_isPlain 77 = .ok (.iconst 2, 1) := by decide +kernel
theorem dX7_isPlain_78 : decode cX7_isPlain 78 = .ok (.iload_n 2, 1) := by decide +kernel
theorem dX7_isPlain_79 : decode cX7_isPlain 79 = .ok (.imul, 1) := by decide +kernel
theorem dX7_isPlain_80 : decode cX7_isPlain 80 = .ok (.invokevirtual 98, 3) := by decide +kernel
theorem dX7_isPlain_83 : decode cX7_isPlain 83 = .ok (.aload_n 0, 1) := by decide +kernel
theorem dX7_isPlain_84 : decode cX7_isPlain 84 = .ok (.iconst 2, 1) := by decide +kernel
theorem dX7_isPlain_85 : decode cX7_isPlain 85 = .ok (.iload_n 2, 1) := by decide +kernel
theorem dX7_isPlain_86 : decode cX7_isPlain 86 = .ok (.imul, 1) := by decide +kernel
theorem dX7_isPlain_87 : decode cX7_isPlain 87 = .ok (.invokevirtual 101, 3) := by decide +kernel
theorem dX7_isPlain_90 : decode cX7_isPlain 90 = .ok (.aload_n 0, 1) := by decide +kernel
theorem dX7_isPlain_91 : decode cX7_isPlain 91 = .ok (.iconst 2, 1) := by decide +kernel
theorem dX7_isPlain_92 : decode cX7_isPlain 92 = .ok (.iload_n 3, 1) := by decide +kernel
theorem dX7_isPlain_93 : decode cX7_isPlain 93 = .ok (.imul, 1) := by decide +kernel
theorem dX7_isPlain_94 : decode cX7_isPlain 94 = .ok (.invokevirtual 98, 3) := by decide +kernel
theorem dX7_isPlain_97 : decode cX7_isPlain 97 = .ok (.aload_n 0, 1) := by decide +kernel
theorem dX7_isPlain_98 : decode cX7_isPlain 98 = .ok (.iconst 2, 1) := by decide +kernel
theorem dX7_isPlain_99 : decode cX7_isPlain 99 = .ok (.iload_n 3, 1) := by decide +kernel
theorem dX7_isPlain_100 : decode cX7_isPlain 100 = .ok (.imul, 1) := by decide +kernel
theorem dX7_isPlain_101 : decode cX7_isPlain 101 = .ok (.invokevirtual 101, 3) := by decide +kernel
theorem dX7_isPlain_104 : decode cX7_isPlain 104 = .ok (.invokevirtual 108, 3) := by decide +kernel
theorem dX7_isPlain_107 : decode cX7_isPlain 107 = .ok (.ifCond .ne 7, 3) := by decide +kernel
theorem dX7_isPlain_110 : decode cX7_isPlain 110 = .ok (.iconst 1, 1) := by decide +kernel
theorem dX7_isPlain_111 : decode cX7_isPlain 111 = .ok (.goto 4, 3) := by decide +kernel
theorem dX7_isPlain_114 : decode cX7_isPlain 114 = .ok (.iconst 0, 1) := by decide +kernel
theorem dX7_isPlain_115 : decode cX7_isPlain 115 = .ok (.istore_n 1, 1) := by decide +kernel
theorem dX7_isPlain_116 : decode cX7_isPlain 116 = .ok (.iinc 3 1, 3) := by decide +kernel
theorem dX7_isPlain_119 : decode cX7_isPlain 119 = .ok (.goto (-53), 3) := by decide +kernel
theorem dX7_isPlain_122 : decode cX7_isPlain 122 = .ok (.iinc 2 1, 3) := by decide +kernel
theorem dX7_isPlain_125 : decode cX7_isPlain 125 = .ok (.goto (-121), 3) := by decide +kernel
theorem dX7_isPlain_128 : decode cX7_isPlain 128 = .ok (.iload_n 1, 1) := by decide +kernel
theorem dX7_isPlain_129 : decode cX7_isPlain 129 = .ok (.ireturn, 1) := by decide +kernel
theorem dX7_find_0 : decode cX7_find 0 = .ok (.bipush (-4), 2) := by decide +kernel
theorem dX7_find_2 : decode cX7_find 2 = .ok (.istore_n 3, 1) := by decide +kernel
theorem dX7_find_3 : decode cX7_find 3 = .ok (.iconst 0, 1) := by decide +kernel
theorem dX7_find_4 : decode cX7_find 4 = .ok (.istore 4, 2) := by decide +kernel
theorem dX7_find_6 : decode cX7_find 6 = .ok (.iload 4, 2) := by decide +kernel
theorem dX7_find_8 : decode cX7_find 8 = .ok (.aload_n 0, 1) := by decide +kernel
theorem dX7_find_9 : decode cX7_find 9 = .ok (.getfield 7, 3) := by decide +kernel
theorem dX7_find_12 : decode cX7_find 12 = .ok (.iconst 0, 1) := by decide +kernel
theorem dX7_find_13 : decode cX7_find 13 = .ok (.iaload, 1) := by decide +kernel
theorem dX7_find_14 : decode cX7_find 14 = .ok (.if_icmp .ge 36, 3) := by decide +kernel
theorem dX7_find_17 : decode cX7_find 17 = .ok (.aload_n 0, 1) := by decide +kernel
theorem dX7_find_18 : decode cX7_find 18 = .ok (.iload 4, 2) := by decide +kernel
theorem dX7_find_20 : decode cX7_find 20 = .ok (.invokevirtual 83, 3) := by decide +kernel
theorem dX7_find_23 : decode cX7_find 23 = .ok (.iload_n 1, 1) := by decide +kernel
theorem dX7_find_24 : decode cX7_find 24 = .ok (.if_icmp .ne 18, 3) := by decide +kernel
theorem dX7_find_27 : decode cX7_find 27 = .ok (.aload_n 0, 1) := by decide +kernel
theorem dX7_find_28 : decode cX7_find 28 = .ok (.iload 4, 2) := by decide +kernel
theorem dX7_find_30 : decode cX7_find 30 = .ok (.invokevirtual 87, 3) := by decide +kernel
theorem dX7_find_33 : decode cX7_find 33 = .ok (.iload_n 2, 1) := by decide +kernel
theorem dX7_find_34 : decode cX7_find 34 = .ok (.if_icmp .ne 8, 3) := by decide +kernel
theorem dX7_find_37 : decode cX7_find 37 = .ok (.iload 4, 2) := by decide +kernel
theorem dX7_find_39 : decode cX7_find 39 = .ok (.goto 4, 3) := by decide +kernel
theorem dX7_find_42 : decode cX7_find 42 = .ok (.iload_n 3, 1) := by decide +kernel
theorem dX7_find_43 : decode cX7_find 43 = .ok (.istore_n 3, 1) := by decide +kernel
theorem dX7_find_44 : decode cX7_find 44 = .ok (.iinc 4 1, 3) := by decide +kernel
theorem dX7_find_47 : decode cX7_find 47 = .ok (.goto (-41), 3) := by decide +kernel
theorem dX7_find_50 : decode cX7_find 50 = .ok (.iload_n 3, 1) := by decide +kernel
theorem dX7_find_51 : decode cX7_find 51 = .ok (.ireturn, 1) := by decide +kernel
theorem dX7_findBar_0 : decode cX7_findBar 0 = .ok (.bipush (-4), 2) := by decide +kernel
theorem dX7_findBar_2 : decode cX7_findBar 2 = .ok (.istore_n 3, 1) := by decide +kernel
theorem dX7_findBar_3 : decode cX7_findBar 3 = .ok (.iconst 0, 1) := by decide +kernel
theorem dX7_findBar_4 : decode cX7_findBar 4 = .ok (.istore 4, 2) := by decide +kernel
theorem dX7_findBar_6 : decode cX7_findBar 6 = .ok (.iload 4, 2) := by decide +kernel
theorem dX7_findBar_8 : decode cX7_findBar 8 = .ok (.aload_n 0, 1) := by decide +kernel
theorem dX7_findBar_9 : decode cX7_findBar 9 = .ok (.getfield 7, 3) := by decide +kernel
theorem dX7_findBar_12 : decode cX7_findBar 12 = .ok (.iconst 1, 1) := by decide +kernel
theorem dX7_findBar_13 : decode cX7_findBar 13 = .ok (.iaload, 1) := by decide +kernel
theorem dX7_findBar_14 : decode cX7_findBar 14 = .ok (.if_icmp .ge 76, 3) := by decide +kernel
theorem dX7_findBar_17 : decode cX7_findBar 17 = .ok (.aload_n 0, 1) := by decide +kernel
theorem dX7_findBar_18 : decode cX7_findBar 18 = .ok (.iconst 2, 1) := by decide +kernel
theorem dX7_findBar_19 : decode cX7_findBar 19 = .ok (.iload 4, 2) := by decide +kernel
theorem dX7_findBar_21 : decode cX7_findBar 21 = .ok (.imul, 1) := by decide +kernel
theorem dX7_findBar_22 : decode cX7_findBar 22 = .ok (.invokevirtual 98, 3) := by decide +kernel
theorem dX7_findBar_25 : decode cX7_findBar 25 = .ok (.iload_n 1, 1) := by decide +kernel
theorem dX7_findBar_26 : decode cX7_findBar 26 = .ok (.if_icmp .ne 15, 3) := by decide +kernel
theorem dX7_findBar_29 : decode cX7_findBar 29 = .ok (.aload_n 0, 1) := by decide +kernel
theorem dX7_findBar_30 : decode cX7_findBar 30 = .ok (.iconst 2, 1) := by decide +kernel
theorem dX7_findBar_31 : decode cX7_findBar 31 = .ok (.iload 4, 2) := by decide +kernel
theorem dX7_findBar_33 : decode cX7_findBar 33 = .ok (.imul, 1) := by decide +kernel
theorem dX7_findBar_34 : decode cX7_findBar 34 = .ok (.invokevirtual 101, 3) := by decide +kernel
theorem dX7_findBar_37 : decode cX7_findBar 37 = .ok (.iload_n 2, 1) := by decide +kernel
theorem dX7_findBar_38 : decode cX7_findBar 38 = .ok (.if_icmp .eq 27, 3) := by decide +kernel
theorem dX7_findBar_41 : decode cX7_findBar 41 = .ok (.aload_n 0, 1) := by decide +kernel
theorem dX7_findBar_42 : decode cX7_findBar 42 = .ok (.iconst 2, 1) := by decide +kernel
theorem dX7_findBar_43 : decode cX7_findBar 43 = .ok (.iload 4, 2) := by decide +kernel
theorem dX7_findBar_45 : decode cX7_findBar 45 = .ok (.imul, 1) := by decide +kernel
theorem dX7_findBar_46 : decode cX7_findBar 46 = .ok (.invokevirtual 98, 3) := by decide +kernel
theorem dX7_findBar_49 : decode cX7_findBar 49 = .ok (.iload_n 2, 1) := by decide +kernel
theorem dX7_findBar_50 : decode cX7_findBar 50 = .ok (.if_icmp .ne 19, 3) := by decide +kernel
theorem dX7_findBar_53 : decode cX7_findBar 53 = .ok (.aload_n 0, 1) := by decide +kernel
theorem dX7_findBar_54 : decode cX7_findBar 54 = .ok (.iconst 2, 1) := by decide +kernel
theorem dX7_findBar_55 : decode cX7_findBar 55 = .ok (.iload 4, 2) := by decide +kernel
theorem dX7_findBar_57 : decode cX7_findBar 57 = .ok (.imul, 1) := by decide +kernel
theorem dX7_findBar_58 : decode cX7_findBar 58 = .ok (.invokevirtual 101, 3) := by decide +kernel
theorem dX7_findBar_61 : decode cX7_findBar 61 = .ok (.iload_n 1, 1) := by decide +kernel
theorem dX7_findBar_62 : decode cX7_findBar 62 = .ok (.if_icmp .ne 7, 3) := by decide +kernel
theorem dX7_findBar_65 : decode cX7_findBar 65 = .ok (.iconst 1, 1) := by decide +kernel
theorem dX7_findBar_66 : decode cX7_findBar 66 = .ok (.goto 4, 3) := by decide +kernel
theorem dX7_findBar_69 : decode cX7_findBar 69 = .ok (.iconst 0, 1) := by decide +kernel
theorem dX7_findBar_70 : decode cX7_findBar 70 = .ok (.istore 5, 2) := by decide +kernel
theorem dX7_findBar_72 : decode cX7_findBar 72 = .ok (.iload 5, 2) := by decide +kernel
theorem dX7_findBar_74 : decode cX7_findBar 74 = .ok (.ifCond .eq 8, 3) := by decide +kernel
theorem dX7_findBar_77 : decode cX7_findBar 77 = .ok (.iload 4, 2) := by decide +kernel
theorem dX7_findBar_79 : decode cX7_findBar 79 = .ok (.goto 4, 3) := by decide +kernel
theorem dX7_findBar_82 : decode cX7_findBar 82 = .ok (.iload_n 3, 1) := by decide +kernel
theorem dX7_findBar_83 : decode cX7_findBar 83 = .ok (.istore_n 3, 1) := by decide +kernel
theorem dX7_findBar_84 : decode cX7_findBar 84 = .ok (.iinc 4 1, 3) := by decide +kernel
theorem dX7_findBar_87 : decode cX7_findBar 87 = .ok (.goto (-81), 3) := by decide +kernel
theorem dX7_findBar_90 : decode cX7_findBar 90 = .ok (.iload_n 3, 1) := by decide +kernel
theorem dX7_findBar_91 : decode cX7_findBar 91 = .ok (.ireturn, 1) := by decide +kernel
theorem dX7_notes_0 : decode cX7_notes 0 = .ok (.aload_n 0, 1) := by decide +kernel
theorem dX7_notes_1 : decode cX7_notes 1 = .ok (.getfield 112, 3) := by decide +kernel
theorem dX7_notes_4 : decode cX7_notes 4 = .ok (.bipush 6, 2) := by decide +kernel
theorem dX7_notes_6 : decode cX7_notes 6 = .ok (.if_icmp .ne 38, 3) := by decide +kernel
theorem dX7_notes_9 : decode cX7_notes 9 = .ok (.iconst 0, 1) := by decide +kernel
theorem dX7_notes_10 : decode cX7_notes 10 = .ok (.istore_n 1, 1) := by decide +kernel
theorem dX7_notes_11 : decode cX7_notes 11 = .ok (.iload_n 1, 1) := by decide +kernel
theorem dX7_notes_12 : decode cX7_notes 12 = .ok (.sipush 210, 3) := by decide +kernel
theorem dX7_notes_15 : decode cX7_notes 15 = .ok (.if_icmp .ge 24, 3) := by decide +kernel
theorem dX7_notes_18 : decode cX7_notes 18 = .ok (.aload_n 0, 1) := by decide +kernel
theorem dX7_notes_19 : decode cX7_notes 19 = .ok (.getfield 13, 3) := by decide +kernel
theorem dX7_notes_22 : decode cX7_notes 22 = .ok (.iload_n 1, 1) := by decide +kernel
theorem dX7_notes_23 : decode cX7_notes 23 = .ok (.aload_n 0, 1) := by decide +kernel
theorem dX7_notes_24 : decode cX7_notes 24 = .ok (.getfield 13, 3) := by decide +kernel
theorem dX7_notes_27 : decode cX7_notes 27 = .ok (.iload_n 1, 1) := by decide +kernel
theorem dX7_notes_28 : decode cX7_notes 28 = .ok (.bipush 42, 2) := by decide +kernel
theorem dX7_notes_30 : decode cX7_notes 30 = .ok (.iadd, 1) := by decide +kernel
theorem dX7_notes_31 : decode cX7_notes 31 = .ok (.iaload, 1) := by decide +kernel
theorem dX7_notes_32 : decode cX7_notes 32 = .ok (.iastore, 1) := by decide +kernel
theorem dX7_notes_33 : decode cX7_notes 33 = .ok (.iinc 1 1, 3) := by decide +kernel
theorem dX7_notes_36 : decode cX7_notes 36 = .ok (.goto (-25), 3) := by decide +kernel
theorem dX7_notes_39 : decode cX7_notes 39 = .ok (.aload_n 0, 1) := by decide +kernel
theorem dX7_notes_40 : decode cX7_notes 40 = .ok (.iconst 5, 1) := by decide +kernel
theorem dX7_notes_41 : decode cX7_notes 41 = .ok (.putfield 112, 3) := by decide +kernel
theorem dX7_notes_44 : decode cX7_notes 44 = .ok (.iconst 0, 1) := by decide +kernel
theorem dX7_notes_45 : decode cX7_notes 45 = .ok (.istore_n 1, 1) := by decide +kernel
theorem dX7_notes_46 : decode cX7_notes 46 = .ok (.iload_n 1, 1) := by decide +kernel
theorem dX7_notes_47 : decode cX7_notes 47 = .ok (.bipush 42, 2) := by decide +kernel
theorem dX7_notes_49 : decode cX7_notes 49 = .ok (.if_icmp .ge 29, 3) := by decide +kernel
theorem dX7_notes_52 : decode cX7_notes 52 = .ok (.aload_n 0, 1) := by decide +kernel
theorem dX7_notes_53 : decode cX7_notes 53 = .ok (.getfield 13, 3) := by decide +kernel
theorem dX7_notes_56 : decode cX7_notes 56 = .ok (.bipush 42, 2) := by decide +kernel
theorem dX7_notes_58 : decode cX7_notes 58 = .ok (.aload_n 0, 1) := by decide +kernel
theorem dX7_notes_59 : decode cX7_notes 59 = .ok (.getfield 112, 3) := by decide +kernel
theorem dX7_notes_62 : decode cX7_notes 62 = .ok (.imul, 1) := by decide +kernel
theorem dX7_notes_63 : decode cX7_notes 63 = .ok (.iload_n 1, 1) := by decide +kernel
theorem dX7_notes_64 : decode cX7_notes 64 = .ok (.iadd, 1) := by decide +kernel
theorem dX7_notes_65 : decode cX7_notes 65 = .ok (.aload_n 0, 1) := by decide +kernel
theorem dX7_notes_66 : decode cX7_notes 66 = .ok (.getfield 7, 3) := by decide +kernel
theorem dX7_notes_69 : decode cX7_notes 69 = .ok (.iload_n 1, 1) := by decide +kernel
theorem dX7_notes_70 : decode cX7_notes 70 = .ok (.iaload, 1) := by decide +kernel
theorem dX7_notes_71 : decode cX7_notes 71 = .ok (.iastore, 1) := by decide +kernel
theorem dX7_notes_72 : decode cX7_notes 72 = .ok (.iinc 1 1, 3) := by decide +kernel
theorem dX7_notes_75 : decode cX7_notes 75 = .ok (.goto (-29), 3) := by decide +kernel
theorem dX7_notes_78 : decode cX7_notes 78 = .ok (.aload_n 0, 1) := by decide +kernel
theorem dX7_notes_79 : decode cX7_notes 79 = .ok (.dup, 1) := by decide +kernel
theorem dX7_notes_80 : decode cX7_notes 80 = .ok (.getfield 112, 3) := by decide +kernel
theorem dX7_notes_83 : decode cX7_notes 83 = .ok (.iconst 1, 1) := by decide +kernel
theorem dX7_notes_84 : decode cX7_notes 84 = .ok (.iadd, 1) := by decide +kernel
theorem dX7_notes_85 : decode cX7_notes 85 = .ok (.putfield 112, 3) := by decide +kernel
theorem dX7_notes_88 : decode cX7_notes 88 = .ok (.return_, 1) := by decide +kernel
theorem dX7_holds_0 : decode cX7_holds 0 = .ok (.iconst 0, 1) := by decide +kernel
theorem dX7_holds_1 : decode cX7_holds 1 = .ok (.istore_n 1, 1) := by decide +kernel
theorem dX7_holds_2 : decode cX7_holds 2 = .ok (.iload_n 1, 1) := by decide +kernel
theorem dX7_holds_3 : decode cX7_holds 3 = .ok (.bipush 42, 2) := by decide +kernel
theorem dX7_holds_5 : decode cX7_holds 5 = .ok (.if_icmp .ge 21, 3) := by decide +kernel
theorem dX7_holds_8 : decode cX7_holds 8 = .ok (.aload_n 0, 1) := by decide +kernel
theorem dX7_holds_9 : decode cX7_holds 9 = .ok (.getfield 42, 3) := by decide +kernel
theorem dX7_holds_12 : decode cX7_holds 12 = .ok (.iload_n 1, 1) := by decide +kernel
theorem dX7_holds_13 : decode cX7_holds 13 = .ok (.aload_n 0, 1) := by decide +kernel
theorem dX7_holds_14 : decode cX7_holds 14 = .ok (.getfield 7, 3) := by decide +kernel
theorem dX7_holds_17 : decode cX7_holds 17 = .ok (.iload_n 1, 1) := by decide +kernel
theorem dX7_holds_18 : decode cX7_holds 18 = .ok (.iaload, 1) := by decide +kernel
theorem dX7_holds_19 : decode cX7_holds 19 = .ok (.iastore, 1) := by decide +kernel
theorem dX7_holds_20 : decode cX7_holds 20 = .ok (.iinc 1 1, 3) := by decide +kernel
theorem dX7_holds_23 : decode cX7_holds 23 = .ok (.goto (-21), 3) := by decide +kernel
theorem dX7_holds_26 : decode cX7_holds 26 = .ok (.return_, 1) := by decide +kernel
theorem dX7_takesBack_0 : decode cX7_takesBack 0 = .ok (.iconst 0, 1) := by decide +kernel
theorem dX7_takesBack_1 : decode cX7_takesBack 1 = .ok (.istore_n 1, 1) := by decide +kernel
theorem dX7_takesBack_2 : decode cX7_takesBack 2 = .ok (.iload_n 1, 1) := by decide +kernel
theorem dX7_takesBack_3 : decode cX7_takesBack 3 = .ok (.bipush 42, 2) := by decide +kernel
theorem dX7_takesBack_5 : decode cX7_takesBack 5 = .ok (.if_icmp .ge 21, 3) := by decide +kernel
theorem dX7_takesBack_8 : decode cX7_takesBack 8 = .ok (.aload_n 0, 1) := by decide +kernel
theorem dX7_takesBack_9 : decode cX7_takesBack 9 = .ok (.getfield 7, 3) := by decide +kernel
theorem dX7_takesBack_12 : decode cX7_takesBack 12 = .ok (.iload_n 1, 1) := by decide +kernel
theorem dX7_takesBack_13 : decode cX7_takesBack 13 = .ok (.aload_n 0, 1) := by decide +kernel
theorem dX7_takesBack_14 : decode cX7_takesBack 14 = .ok (.getfield 42, 3) := by decide +kernel
theorem dX7_takesBack_17 : decode cX7_takesBack 17 = .ok (.iload_n 1, 1) := by decide +kernel
theorem dX7_takesBack_18 : decode cX7_takesBack 18 = .ok (.iaload, 1) := by decide +kernel
theorem dX7_takesBack_19 : decode cX7_takesBack 19 = .ok (.iastore, 1) := by decide +kernel
theorem dX7_takesBack_20 : decode cX7_takesBack 20 = .ok (.iinc 1 1, 3) := by decide +kernel
theorem dX7_takesBack_23 : decode cX7_takesBack 23 = .ok (.goto (-21), 3) := by decide +kernel
theorem dX7_takesBack_26 : decode cX7_takesBack 26 = .ok (.return_, 1) := by decide +kernel
theorem dX7_isPlace_0 : decode cX7_isPlace 0 = .ok (.iload_n 0, 1) := by decide +kernel
theorem dX7_isPlace_1 : decode cX7_isPlace 1 = .ok (.i2l, 1) := by decide +kernel
theorem dX7_isPlace_2 : decode cX7_isPlace 2 = .ok (.lconst 0, 1) := by decide +kernel
theorem dX7_isPlace_3 : decode cX7_isPlace 3 = .ok (.ldc2_w 115, 3) := by decide +kernel
theorem dX7_isPlace_6 : decode cX7_isPlace 6 = .ok (.invokestatic 79, 3) := by decide +kernel
theorem dX7_isPlace_9 : decode cX7_isPlace 9 = .ok (.ifCond .eq 19, 3) := by decide +kernel
theorem dX7_isPlace_12 : decode cX7_isPlace 12 = .ok (.iload_n 1, 1) := by decide +kernel
theorem dX7_isPlace_13 : decode cX7_isPlace 13 = .ok (.i2l, 1) := by decide +kernel
theorem dX7_isPlace_14 : decode cX7_isPlace 14 = .ok (.lconst 0, 1) := by decide +kernel
theorem dX7_isPlace_15 : decode cX7_isPlace 15 = .ok (.ldc2_w 115, 3) := by decide +kernel
theorem dX7_isPlace_18 : decode cX7_isPlace 18 = .ok (.invokestatic 79, 3) := by decide +kernel
theorem dX7_isPlace_21 : decode cX7_isPlace 21 = .ok (.ifCond .eq 7, 3) := by decide +kernel
theorem dX7_isPlace_24 : decode cX7_isPlace 24 = .ok (.iconst 1, 1) := by decide +kernel
theorem dX7_isPlace_25 : decode cX7_isPlace 25 = .ok (.goto 4, 3) := by decide +kernel
theorem dX7_isPlace_28 : decode cX7_isPlace 28 = .ok (.iconst 0, 1) := by decide +kernel
theorem dX7_isPlace_29 : decode cX7_isPlace 29 = .ok (.ireturn, 1) := by decide +kernel
theorem dX7_joins_0 : decode cX7_joins 0 = .ok (.iload_n 1, 1) := by decide +kernel
theorem dX7_joins_1 : decode cX7_joins 1 = .ok (.iload_n 2, 1) := by decide +kernel
theorem dX7_joins_2 : decode cX7_joins 2 = .ok (.invokestatic 117, 3) := by decide +kernel
theorem dX7_joins_5 : decode cX7_joins 5 = .ok (.ifCond .ne 5, 3) := by decide +kernel
theorem dX7_joins_8 : decode cX7_joins 8 = .ok (.iconst (-1), 1) := by decide +kernel
theorem dX7_joins_9 : decode cX7_joins 9 = .ok (.ireturn, 1) := by decide +kernel
theorem dX7_joins_10 : decode cX7_joins 10 = .ok (.aload_n 0, 1) := by decide +kernel
theorem dX7_joins_11 : decode cX7_joins 11 = .ok (.iload_n 1, 1) := by decide +kernel
theorem dX7_joins_12 : decode cX7_joins 12 = .ok (.iload_n 2, 1) := by decide +kernel
theorem dX7_joins_13 : decode cX7_joins 13 = .ok (.invokevirtual 121, 3) := by decide +kernel
theorem dX7_joins_16 : decode cX7_joins 16 = .ok (.ifCond .lt 6, 3) := by decide +kernel
theorem dX7_joins_19 : decode cX7_joins 19 = .ok (.bipush (-2), 2) := by decide +kernel
theorem dX7_joins_21 : decode cX7_joins 21 = .ok (.ireturn, 1) := by decide +kernel
theorem dX7_joins_22 : decode cX7_joins 22 = .ok (.aload_n 0, 1) := by decide +kernel
theorem dX7_joins_23 : decode cX7_joins 23 = .ok (.getfield 7, 3) := by decide +kernel
theorem dX7_joins_26 : decode cX7_joins 26 = .ok (.iconst 0, 1) := by decide +kernel
theorem dX7_joins_27 : decode cX7_joins 27 = .ok (.iaload, 1) := by decide +kernel
theorem dX7_joins_28 : decode cX7_joins 28 = .ok (.istore_n 3, 1) := by decide +kernel
theorem dX7_joins_29 : decode cX7_joins 29 = .ok (.iload_n 3, 1) := by decide +kernel
theorem dX7_joins_30 : decode cX7_joins 30 = .ok (.bipush 6, 2) := by decide +kernel
theorem dX7_joins_32 : decode cX7_joins 32 = .ok (.if_icmp .ne 20, 3) := by decide +kernel
theorem dX7_joins_35 : decode cX7_joins 35 = .ok (.aload_n 0, 1) := by decide +kernel
theorem dX7_joins_36 : decode cX7_joins 36 = .ok (.iload_n 1, 1) := by decide +kernel
theorem dX7_joins_37 : decode cX7_joins 37 = .ok (.iload_n 2, 1) := by decide +kernel
theorem dX7_joins_38 : decode cX7_joins 38 = .ok (.invokevirtual 125, 3) := by decide +kernel
theorem dX7_joins_41 : decode cX7_joins 41 = .ok (.ifCond .eq 8, 3) := by decide +kernel
theorem dX7_joins_44 : decode cX7_joins 44 = .ok (.bipush (-2), 2) := by decide +kernel
theorem dX7_joins_46 : decode cX7_joins 46 = .ok (.goto 5, 3) := by decide +kernel
theorem dX7_joins_49 : decode cX7_joins 49 = .ok (.bipush (-3), 2) := by decide +kernel
theorem dX7_joins_51 : decode cX7_joins 51 = .ok (.ireturn, 1) := by decide +kernel
theorem dX7_joins_52 : decode cX7_joins 52 = .ok (.aload_n 0, 1) := by decide +kernel
theorem dX7_joins_53 : decode cX7_joins 53 = .ok (.iload_n 1, 1) := by decide +kernel
theorem dX7_joins_54 : decode cX7_joins 54 = .ok (.iload_n 2, 1) := by decide +kernel
theorem dX7_joins_55 : decode cX7_joins 55 = .ok (.invokevirtual 125, 3) := by decide +kernel
theorem dX7_joins_58 : decode cX7_joins 58 = .ok (.ifCond .eq 6, 3) := by decide +kernel
theorem dX7_joins_61 : decode cX7_joins 61 = .ok (.bipush (-2), 2) := by decide +kernel
theorem dX7_joins_63 : decode cX7_joins 63 = .ok (.ireturn, 1) := by decide +kernel
theorem dX7_joins_64 : decode cX7_joins 64 = .ok (.aload_n 0, 1) := by decide +kernel
theorem dX7_joins_65 : decode cX7_joins 65 = .ok (.getfield 7, 3) := by decide +kernel
theorem dX7_joins_68 : decode cX7_joins 68 = .ok (.iconst 3, 1) := by decide +kernel
theorem dX7_joins_69 : decode cX7_joins 69 = .ok (.iconst 2, 1) := by decide +kernel
theorem dX7_joins_70 : decode cX7_joins 70 = .ok (.iload_n 3, 1) := by decide +kernel
theorem dX7_joins_71 : decode cX7_joins 71 = .ok (.imul, 1) := by decide +kernel
theorem dX7_joins_72 : decode cX7_joins 72 = .ok (.iadd, 1) := by decide +kernel
theorem dX7_joins_73 : decode cX7_joins 73 = .ok (.iload_n 1, 1) := by decide +kernel
theorem dX7_joins_74 : decode cX7_joins 74 = .ok (.iastore, 1) := by decide +kernel
theorem dX7_joins_75 : decode cX7_joins 75 = .ok (.aload_n 0, 1) := by decide +kernel
theorem dX7_joins_76 : decode cX7_joins 76 = .ok (.getfield 7, 3) := by decide +kernel
theorem dX7_joins_79 : decode cX7_joins 79 = .ok (.iconst 3, 1) := by decide +kernel
theorem dX7_joins_80 : decode cX7_joins 80 = .ok (.iconst 2, 1) := by decide +kernel
theorem dX7_joins_81 : decode cX7_joins 81 = .ok (.iload_n 3, 1) := by decide +kernel
theorem dX7_joins_82 : decode cX7_joins 82 = .ok (.imul, 1) := by decide +kernel
theorem dX7_joins_83 : decode cX7_joins 83 = .ok (.iadd, 1) := by decide +kernel
theorem dX7_joins_84 : decode cX7_joins 84 = .ok (.iconst 1, 1) := by decide +kernel
theorem dX7_joins_85 : decode cX7_joins 85 = .ok (.iadd, 1) := by decide +kernel
theorem dX7_joins_86 : decode cX7_joins 86 = .ok (.iload_n 2, 1) := by decide +kernel
theorem dX7_joins_87 : decode cX7_joins 87 = .ok (.iastore, 1) := by decide +kernel
theorem dX7_joins_88 : decode cX7_joins 88 = .ok (.aload_n 0, 1) := by decide +kernel
theorem dX7_joins_89 : decode cX7_joins 89 = .ok (.getfield 7, 3) := by decide +kernel
theorem dX7_joins_92 : decode cX7_joins 92 = .ok (.iconst 0, 1) := by decide +kernel
theorem dX7_joins_93 : decode cX7_joins 93 = .ok (.dup2, 1) := by decide +kernel
theorem dX7_joins_94 : decode cX7_joins 94 = .ok (.iaload, 1) := by decide +kernel
theorem dX7_joins_95 : decode cX7_joins 95 = .ok (.iconst 1, 1) := by decide +kernel
theorem dX7_joins_96 : decode cX7_joins 96 = .ok (.iadd, 1) := by decide +kernel
theorem dX7_joins_97 : decode cX7_joins 97 = .ok (.iastore, 1) := by decide +kernel
theorem dX7_joins_98 : decode cX7_joins 98 = .ok (.iload_n 3, 1) := by decide +kernel
theorem dX7_joins_99 : decode cX7_joins 99 = .ok (.ireturn, 1) := by decide +kernel
theorem dX7_isUnder_0 : decode cX7_isUnder 0 = .ok (.iconst 0, 1) := by decide +kernel
theorem dX7_isUnder_1 : decode cX7_isUnder 1 = .ok (.istore_n 3, 1) := by decide +kernel
theorem dX7_isUnder_2 : decode cX7_isUnder 2 = .ok (.iconst 0, 1) := by decide +kernel
theorem dX7_isUnder_3 : decode cX7_isUnder 3 = .ok (.istore 4, 2) := by decide +kernel
theorem dX7_isUnder_5 : decode cX7_isUnder 5 = .ok (.iload 4, 2) := by decide +kernel
theorem dX7_isUnder_7 : decode cX7_isUnder 7 = .ok (.aload_n 0, 1) := by decide +kernel
theorem dX7_isUnder_8 : decode cX7_isUnder 8 = .ok (.getfield 7, 3) := by decide +kernel
theorem dX7_isUnder_11 : decode cX7_isUnder 11 = .ok (.iconst 1, 1) := by decide +kernel
theorem dX7_isUnder_12 : decode cX7_isUnder 12 = .ok (.iaload, 1) := by decide +kernel
theorem dX7_isUnder_13 : decode cX7_isUnder 13 = .ok (.if_icmp .ge 133, 3) := by decide +kernel
theorem dX7_isUnder_16 : decode cX7_isUnder 16 = .ok (.aload_n 0, 1) := by decide +kernel
theorem dX7_isUnder_17 : decode cX7_isUnder 17 = .ok (.iconst 2, 1) := by decide +kernel
theorem dX7_isUnder_18 : decode cX7_isUnder 18 = .ok (.iload 4, 2) := by decide +kernel
theorem dX7_isUnder_20 : decode cX7_isUnder 20 = .ok (.imul, 1) := by decide +kernel
theorem dX7_isUnder_21 : decode cX7_isUnder 21 = .ok (.invokevirtual 98, 3) := by decide +kernel
theorem dX7_isUnder_24 : decode cX7_isUnder 24 = .ok (.istore 5, 2) := by decide +kernel
theorem dX7_isUnder_26 : decode cX7_isUnder 26 = .ok (.aload_n 0, 1) := by decide +kernel
theorem dX7_isUnder_27 : decode cX7_isUnder 27 = .ok (.iconst 2, 1) := by decide +kernel
theorem dX7_isUnder_28 : decode cX7_isUnder 28 = .ok (.iload 4, 2) := by decide +kernel
theorem dX7_isUnder_30 : decode cX7_isUnder 30 = .ok (.imul, 1) := by decide +kernel
theorem dX7_isUnder_31 : decode cX7_isUnder 31 = .ok (.invokevirtual 101, 3) := by decide +kernel
theorem dX7_isUnder_34 : decode cX7_isUnder 34 = .ok (.istore 6, 2) := by decide +kernel
theorem dX7_isUnder_36 : decode cX7_isUnder 36 = .ok (.aload_n 0, 1) := by decide +kernel
theorem dX7_isUnder_37 : decode cX7_isUnder 37 = .ok (.iload 6, 2) := by decide +kernel
theorem dX7_isUnder_39 : decode cX7_isUnder 39 = .ok (.invokevirtual 83, 3) := by decide +kernel
theorem dX7_isUnder_42 : decode cX7_isUnder 42 = .ok (.aload_n 0, 1) := by decide +kernel
theorem dX7_isUnder_43 : decode cX7_isUnder 43 = .ok (.iload 5, 2) := by decide +kernel
theorem dX7_isUnder_45 : decode cX7_isUnder 45 = .ok (.invokevirtual 83, 3) := by decide +kernel
theorem dX7_isUnder_48 : decode cX7_isUnder 48 = .ok (.isub, 1) := by decide +kernel
theorem dX7_isUnder_49 : decode cX7_isUnder 49 = .ok (.iload_n 2, 1) := by decide +kernel
theorem dX7_isUnder_50 : decode cX7_isUnder 50 = .ok (.aload_n 0, 1) := by decide +kernel
theorem dX7_isUnder_51 : decode cX7_isUnder 51 = .ok (.iload 5, 2) := by decide +kernel
theorem dX7_isUnder_53 : decode cX7_isUnder 53 = .ok (.invokevirtual 87, 3) := by decide +kernel
theorem dX7_isUnder_56 : decode cX7_isUnder 56 = .ok (.isub, 1) := by decide +kernel
theorem dX7_isUnder_57 : decode cX7_isUnder 57 = .ok (.imul, 1) := by decide +kernel
theorem dX7_isUnder_58 : decode cX7_isUnder 58 = .ok (.aload_n 0, 1) := by decide +kernel
theorem dX7_isUnder_59 : decode cX7_isUnder 59 = .ok (.iload 6, 2) := by decide +kernel
theorem dX7_isUnder_61 : decode cX7_isUnder 61 = .ok (.invokevirtual 87, 3) := by decide +kernel
theorem dX7_isUnder_64 : decode cX7_isUnder 64 = .ok (.aload_n 0, 1) := by decide +kernel
theorem dX7_isUnder_65 : decode cX7_isUnder 65 = .ok (.iload 5, 2) := by decide +kernel
theorem dX7_isUnder_67 : decode cX7_isUnder 67 = .ok (.invokevirtual 87, 3) := by decide +kernel
theorem dX7_isUnder_70 : decode cX7_isUnder 70 = .ok (.isub, 1) := by decide +kernel
theorem dX7_isUnder_71 : decode cX7_isUnder 71 = .ok (.iload_n 1, 1) := by decide +kernel
theorem dX7_isUnder_72 : decode cX7_isUnder 72 = .ok (.aload_n 0, 1) := by decide +kernel
theorem dX7_isUnder_73 : decode cX7_isUnder 73 = .ok (.iload 5, 2) := by decide +kernel
theorem dX7_isUnder_75 : decode cX7_isUnder 75 = .ok (.invokevirtual 83, 3) := by decide +kernel
theorem dX7_isUnder_78 : decode cX7_isUnder 78 = .ok (.isub, 1) := by decide +kernel
theorem dX7_isUnder_79 : decode cX7_isUnder 79 = .ok (.imul, 1) := by decide +kernel
theorem dX7_isUnder_80 : decode cX7_isUnder 80 = .ok (.isub, 1) := by decide +kernel
theorem dX7_isUnder_81 : decode cX7_isUnder 81 = .ok (.istore 7, 2) := by decide +kernel
theorem dX7_isUnder_83 : decode cX7_isUnder 83 = .ok (.aload_n 0, 1) := by decide +kernel
theorem dX7_isUnder_84 : decode cX7_isUnder 84 = .ok (.iload 5, 2) := by decide +kernel
theorem dX7_isUnder_86 : decode cX7_isUnder 86 = .ok (.invokevirtual 83, 3) := by decide +kernel
theorem dX7_isUnder_89 : decode cX7_isUnder 89 = .ok (.iload_n 1, 1) := by decide +kernel
theorem dX7_isUnder_90 : decode cX7_isUnder 90 = .ok (.isub, 1) := by decide +kernel
theorem dX7_isUnder_91 : decode cX7_isUnder 91 = .ok (.aload_n 0, 1) := by decide +kernel
theorem dX7_isUnder_92 : decode cX7_isUnder 92 = .ok (.iload 6, 2) := by decide +kernel
theorem dX7_isUnder_94 : decode cX7_isUnder 94 = .ok (.invokevirtual 83, 3) := by decide +kernel
theorem dX7_isUnder_97 : decode cX7_isUnder 97 = .ok (.iload_n 1, 1) := by decide +kernel
theorem dX7_isUnder_98 : decode cX7_isUnder 98 = .ok (.isub, 1) := by decide +kernel
theorem dX7_isUnder_99 : decode cX7_isUnder 99 = .ok (.imul, 1) := by decide +kernel
theorem dX7_isUnder_100 : decode cX7_isUnder 100 = .ok (.aload_n 0, 1) := by decide +kernel
theorem dX7_isUnder_101 : decode cX7_isUnder 101 = .ok (.iload 5, 2) := by decide +kernel
theorem dX7_isUnder_103 : decode cX7_isUnder 103 = .ok (.invokevirtual 87, 3) := by decide +kernel
theorem dX7_isUnder_106 : decode cX7_isUnder 106 = .ok (.iload_n 2, 1) := by decide +kernel
theorem dX7_isUnder_107 : decode cX7_isUnder 107 = .ok (.isub, 1) := by decide +kernel
theorem dX7_isUnder_108 : decode cX7_isUnder 108 = .ok (.aload_n 0, 1) := by decide +kernel
theorem dX7_isUnder_109 : decode cX7_isUnder 109 = .ok (.iload 6, 2) := by decide +kernel
theorem dX7_isUnder_111 : decode cX7_isUnder 111 = .ok (.invokevirtual 87, 3) := by decide +kernel
theorem dX7_isUnder_114 : decode cX7_isUnder 114 = .ok (.iload_n 2, 1) := by decide +kernel
theorem dX7_isUnder_115 : decode cX7_isUnder 115 = .ok (.isub, 1) := by decide +kernel
theorem dX7_isUnder_116 : decode cX7_isUnder 116 = .ok (.imul, 1) := by decide +kernel
theorem dX7_isUnder_117 : decode cX7_isUnder 117 = .ok (.iadd, 1) := by decide +kernel
theorem dX7_isUnder_118 : decode cX7_isUnder 118 = .ok (.istore 8, 2) := by decide +kernel
theorem dX7_isUnder_120 : decode cX7_isUnder 120 = .ok (.iload_n 3, 1) := by decide +kernel
theorem dX7_isUnder_121 : decode cX7_isUnder 121 = .ok (.ifCond .ne 13, 3) := by decide +kernel
theorem dX7_isUnder_124 : decode cX7_isUnder 124 = .ok (.iload 7, 2) := by decide +kernel
theorem dX7_isUnder_126 : decode cX7_isUnder 126 = .ok (.ifCond .ne 12, 3) := by decide +kernel
theorem dX7_isUnder_129 : decode cX7_isUnder 129 = .ok (.iload 8, 2) := by decide +kernel
theorem dX7_isUnder_131 : decode cX7_isUnder 131 = .ok (.ifCond .ge 7, 3) := by decide +kernel
theorem dX7_isUnder_134 : decode cX7_isUnder 134 = .ok (.iconst 1, 1) := by decide +kernel
theorem dX7_isUnder_135 : decode cX7_isUnder 135 = .ok (.goto 4, 3) := by decide +kernel
theorem dX7_isUnder_138 : decode cX7_isUnder 138 = .ok (.iconst 0, 1) := by decide +kernel
theorem dX7_isUnder_139 : decode cX7_isUnder 139 = .ok (.istore_n 3, 1) := by decide +kernel
theorem dX7_isUnder_140 : decode cX7_isUnder 140 = .ok (.iinc 4 1, 3) := by decide +kernel
theorem dX7_isUnder_143 : decode cX7_isUnder 143 = .ok (.goto (-138), 3) := by decide +kernel
theorem dX7_isUnder_146 : decode cX7_isUnder 146 = .ok (.iload_n 3, 1) := by decide +kernel
theorem dX7_isUnder_147 : decode cX7_isUnder 147 = .ok (.ireturn, 1) := by decide +kernel
theorem dX7_barsOf_0 : decode cX7_barsOf 0 = .ok (.iconst 0, 1) := by decide +kernel
theorem dX7_barsOf_1 : decode cX7_barsOf 1 = .ok (.istore_n 2, 1) := by decide +kernel
theorem dX7_barsOf_2 : decode cX7_barsOf 2 = .ok (.iconst 0, 1) := by decide +kernel
theorem dX7_barsOf_3 : decode cX7_barsOf 3 = .ok (.istore_n 3, 1) := by decide +kernel
theorem dX7_barsOf_4 : decode cX7_barsOf 4 = .ok (.iload_n 3, 1) := by decide +kernel
theorem dX7_barsOf_5 : decode cX7_barsOf 5 = .ok (.iconst 2, 1) := by decide +kernel
theorem dX7_barsOf_6 : decode cX7_barsOf 6 = .ok (.aload_n 0, 1) := by decide +kernel
theorem dX7_barsOf_7 : decode cX7_barsOf 7 = .ok (.getfield 7, 3) := by decide +kernel
theorem dX7_barsOf_10 : decode cX7_barsOf 10 = .ok (.iconst 1, 1) := by decide +kernel
theorem dX7_barsOf_11 : decode cX7_barsOf 11 = .ok (.iaload, 1) := by decide +kernel
theorem dX7_barsOf_12 : decode cX7_barsOf 12 = .ok (.imul, 1) := by decide +kernel
theorem dX7_barsOf_13 : decode cX7_barsOf 13 = .ok (.if_icmp .ge 26, 3) := by decide +kernel
theorem dX7_barsOf_16 : decode cX7_barsOf 16 = .ok (.iload_n 2, 1) := by decide +kernel
theorem dX7_barsOf_17 : decode cX7_barsOf 17 = .ok (.aload_n 0, 1) := by decide +kernel
theorem dX7_barsOf_18 : decode cX7_barsOf 18 = .ok (.iload_n 3, 1) := by decide +kernel
theorem dX7_barsOf_19 : decode cX7_barsOf 19 = .ok (.invokevirtual 98, 3) := by decide +kernel
theorem dX7_barsOf_22 : decode cX7_barsOf 22 = .ok (.iload_n 1, 1) := by decide +kernel
theorem dX7_barsOf_23 : decode cX7_barsOf 23 = .ok (.if_icmp .ne 7, 3) := by decide +kernel
theorem dX7_barsOf_26 : decode cX7_barsOf 26 = .ok (.iconst 1, 1) := by decide +kernel
theorem dX7_barsOf_27 : decode cX7_barsOf 27 = .ok (.goto 4, 3) := by decide +kernel
theorem dX7_barsOf_30 : decode cX7_barsOf 30 = .ok (.iconst 0, 1) := by decide +kernel
theorem dX7_barsOf_31 : decode cX7_barsOf 31 = .ok (.iadd, 1) := by decide +kernel
theorem dX7_barsOf_32 : decode cX7_barsOf 32 = .ok (.istore_n 2, 1) := by decide +kernel
theorem dX7_barsOf_33 : decode cX7_barsOf 33 = .ok (.iinc 3 1, 3) := by decide +kernel
theorem dX7_barsOf_36 : decode cX7_barsOf 36 = .ok (.goto (-32), 3) := by decide +kernel
theorem dX7_barsOf_39 : decode cX7_barsOf 39 = .ok (.iload_n 2, 1) := by decide +kernel
theorem dX7_barsOf_40 : decode cX7_barsOf 40 = .ok (.ireturn, 1) := by decide +kernel
theorem dX7_moves_0 : decode cX7_moves 0 = .ok (.aload_n 0, 1) := by decide +kernel
theorem dX7_moves_1 : decode cX7_moves 1 = .ok (.iload_n 1, 1) := by decide +kernel
theorem dX7_moves_2 : decode cX7_moves 2 = .ok (.invokevirtual 128, 3) := by decide +kernel
theorem dX7_moves_5 : decode cX7_moves 5 = .ok (.ifCond .eq 11, 3) := by decide +kernel
theorem dX7_moves_8 : decode cX7_moves 8 = .ok (.iload_n 2, 1) := by decide +kernel
theorem dX7_moves_9 : decode cX7_moves 9 = .ok (.iload_n 3, 1) := by decide +kernel
theorem dX7_moves_10 : decode cX7_moves 10 = .ok (.invokestatic 117, 3) := by decide +kernel
theorem dX7_moves_13 : decode cX7_moves 13 = .ok (.ifCond .ne 5, 3) := by decide +kernel
theorem dX7_moves_16 : decode cX7_moves 16 = .ok (.iconst (-1), 1) := by decide +kernel
theorem dX7_moves_17 : decode cX7_moves 17 = .ok (.ireturn, 1) := by decide +kernel
theorem dX7_moves_18 : decode cX7_moves 18 = .ok (.aload_n 0, 1) := by decide +kernel
theorem dX7_moves_19 : decode cX7_moves 19 = .ok (.iload_n 2, 1) := by decide +kernel
theorem dX7_moves_20 : decode cX7_moves 20 = .ok (.iload_n 3, 1) := by decide +kernel
theorem dX7_moves_21 : decode cX7_moves 21 = .ok (.invokevirtual 121, 3) := by decide +kernel
theorem dX7_moves_24 : decode cX7_moves 24 = .ok (.ifCond .lt 6, 3) := by decide +kernel
theorem dX7_moves_27 : decode cX7_moves 27 = .ok (.bipush (-2), 2) := by decide +kernel
theorem dX7_moves_29 : decode cX7_moves 29 = .ok (.ireturn, 1) := by decide +kernel
theorem dX7_moves_30 : decode cX7_moves 30 = .ok (.aload_n 0, 1) := by decide +kernel
theorem dX7_moves_31 : decode cX7_moves 31 = .ok (.invokevirtual 132, 3) := by decide +kernel
theorem dX7_moves_34 : decode cX7_moves 34 = .ok (.aload_n 0, 1) := by decide +kernel
theorem dX7_moves_35 : decode cX7_moves 35 = .ok (.getfield 7, 3) := by decide +kernel
theorem dX7_moves_38 : decode cX7_moves 38 = .ok (.iconst 3, 1) := by decide +kernel
theorem dX7_moves_39 : decode cX7_moves 39 = .ok (.iconst 2, 1) := by decide +kernel
theorem dX7_moves_40 : decode cX7_moves 40 = .ok (.iload_n 1, 1) := by decide +kernel
theorem dX7_moves_41 : decode cX7_moves 41 = .ok (.imul, 1) := by decide +kernel
theorem dX7_moves_42 : decode cX7_moves 42 = .ok (.iadd, 1) := by decide +kernel
theorem dX7_moves_43 : decode cX7_moves 43 = .ok (.iload_n 2, 1) := by decide +kernel
theorem dX7_moves_44 : decode cX7_moves 44 = .ok (.iastore, 1) := by decide +kernel
theorem dX7_moves_45 : decode cX7_moves 45 = .ok (.aload_n 0, 1) := by decide +kernel
theorem dX7_moves_46 : decode cX7_moves 46 = .ok (.getfield 7, 3) := by decide +kernel
theorem dX7_moves_49 : decode cX7_moves 49 = .ok (.iconst 3, 1) := by decide +kernel
theorem dX7_moves_50 : decode cX7_moves 50 = .ok (.iconst 2, 1) := by decide +kernel
theorem dX7_moves_51 : decode cX7_moves 51 = .ok (.iload_n 1, 1) := by decide +kernel
theorem dX7_moves_52 : decode cX7_moves 52 = .ok (.imul, 1) := by decide +kernel
theorem dX7_moves_53 : decode cX7_moves 53 = .ok (.iadd, 1) := by decide +kernel
theorem dX7_moves_54 : decode cX7_moves 54 = .ok (.iconst 1, 1) := by decide +kernel
theorem dX7_moves_55 : decode cX7_moves 55 = .ok (.iadd, 1) := by decide +kernel
theorem dX7_moves_56 : decode cX7_moves 56 = .ok (.iload_n 3, 1) := by decide +kernel
theorem dX7_moves_57 : decode cX7_moves 57 = .ok (.iastore, 1) := by decide +kernel
theorem dX7_moves_58 : decode cX7_moves 58 = .ok (.aload_n 0, 1) := by decide +kernel
theorem dX7_moves_59 : decode cX7_moves 59 = .ok (.invokevirtual 135, 3) := by decide +kernel
theorem dX7_moves_62 : decode cX7_moves 62 = .ok (.ifCond .ne 10, 3) := by decide +kernel
theorem dX7_moves_65 : decode cX7_moves 65 = .ok (.aload_n 0, 1) := by decide +kernel
theorem dX7_moves_66 : decode cX7_moves 66 = .ok (.invokevirtual 139, 3) := by decide +kernel
theorem dX7_moves_69 : decode cX7_moves 69 = .ok (.bipush (-2), 2) := by decide +kernel
theorem dX7_moves_71 : decode cX7_moves 71 = .ok (.ireturn, 1) := by decide +kernel
theorem dX7_moves_72 : decode cX7_moves 72 = .ok (.aload_n 0, 1) := by decide +kernel
theorem dX7_moves_73 : decode cX7_moves 73 = .ok (.iload_n 1, 1) := by decide +kernel
theorem dX7_moves_74 : decode cX7_moves 74 = .ok (.invokevirtual 142, 3) := by decide +kernel
theorem dX7_moves_77 : decode cX7_moves 77 = .ok (.ireturn, 1) := by decide +kernel
theorem dX7_drops_0 : decode cX7_drops 0 = .ok (.aload_n 0, 1) := by decide +kernel
theorem dX7_drops_1 : decode cX7_drops 1 = .ok (.getfield 7, 3) := by decide +kernel
theorem dX7_drops_4 : decode cX7_drops 4 = .ok (.iconst 1, 1) := by decide +kernel
theorem dX7_drops_5 : decode cX7_drops 5 = .ok (.dup2, 1) := by decide +kernel
theorem dX7_drops_6 : decode cX7_drops 6 = .ok (.iaload, 1) := by decide +kernel
theorem dX7_drops_7 : decode cX7_drops 7 = .ok (.iconst 1, 1) := by decide +kernel
theorem dX7_drops_8 : decode cX7_drops 8 = .ok (.isub, 1) := by decide +kernel
theorem dX7_drops_9 : decode cX7_drops 9 = .ok (.iastore, 1) := by decide +kernel
theorem dX7_drops_10 : decode cX7_drops 10 = .ok (.iconst 2, 1) := by decide +kernel
theorem dX7_drops_11 : decode cX7_drops 11 = .ok (.iload_n 1, 1) := by decide +kernel
theorem dX7_drops_12 : decode cX7_drops 12 = .ok (.imul, 1) := by decide +kernel
theorem dX7_drops_13 : decode cX7_drops 13 = .ok (.istore_n 2, 1) := by decide +kernel
theorem dX7_drops_14 : decode cX7_drops 14 = .ok (.iload_n 2, 1) := by decide +kernel
theorem dX7_drops_15 : decode cX7_drops 15 = .ok (.iconst 2, 1) := by decide +kernel
theorem dX7_drops_16 : decode cX7_drops 16 = .ok (.aload_n 0, 1) := by decide +kernel
theorem dX7_drops_17 : decode cX7_drops 17 = .ok (.getfield 7, 3) := by decide +kernel
theorem dX7_drops_20 : decode cX7_drops 20 = .ok (.iconst 1, 1) := by decide +kernel
theorem dX7_drops_21 : decode cX7_drops 21 = .ok (.iaload, 1) := by decide +kernel
theorem dX7_drops_22 : decode cX7_drops 22 = .ok (.imul, 1) := by decide +kernel
theorem dX7_drops_23 : decode cX7_drops 23 = .ok (.if_icmp .ge 29, 3) := by decide +kernel
theorem dX7_drops_26 : decode cX7_drops 26 = .ok (.aload_n 0, 1) := by decide +kernel
theorem dX7_drops_27 : decode cX7_drops 27 = .ok (.getfield 7, 3) := by decide +kernel
theorem dX7_drops_30 : decode cX7_drops 30 = .ok (.bipush 15, 2) := by decide +kernel
theorem dX7_drops_32 : decode cX7_drops 32 = .ok (.iload_n 2, 1) := by decide +kernel
theorem dX7_drops_33 : decode cX7_drops 33 = .ok (.iadd, 1) := by decide +kernel
theorem dX7_drops_34 : decode cX7_drops 34 = .ok (.aload_n 0, 1) := by decide +kernel
theorem dX7_drops_35 : decode cX7_drops 35 = .ok (.getfield 7, 3) := by decide +kernel
theorem dX7_drops_38 : decode cX7_drops 38 = .ok (.bipush 15, 2) := by decide +kernel
theorem dX7_drops_40 : decode cX7_drops 40 = .ok (.iload_n 2, 1) := by decide +kernel
theorem dX7_drops_41 : decode cX7_drops 41 = .ok (.iadd, 1) := by decide +kernel
theorem dX7_drops_42 : decode cX7_drops 42 = .ok (.iconst 2, 1) := by decide +kernel
theorem dX7_drops_43 : decode cX7_drops 43 = .ok (.iadd, 1) := by decide +kernel
theorem dX7_drops_44 : decode cX7_drops 44 = .ok (.iaload, 1) := by decide +kernel
theorem dX7_drops_45 : decode cX7_drops 45 = .ok (.iastore, 1) := by decide +kernel
theorem dX7_drops_46 : decode cX7_drops 46 = .ok (.iinc 2 1, 3) := by decide +kernel
theorem dX7_drops_49 : decode cX7_drops 49 = .ok (.goto (-35), 3) := by decide +kernel
theorem dX7_drops_52 : decode cX7_drops 52 = .ok (.aload_n 0, 1) := by decide +kernel
theorem dX7_drops_53 : decode cX7_drops 53 = .ok (.getfield 7, 3) := by decide +kernel
theorem dX7_drops_56 : decode cX7_drops 56 = .ok (.bipush 15, 2) := by decide +kernel
theorem dX7_drops_58 : decode cX7_drops 58 = .ok (.iconst 2, 1) := by decide +kernel
theorem dX7_drops_59 : decode cX7_drops 59 = .ok (.aload_n 0, 1) := by decide +kernel
theorem dX7_drops_60 : decode cX7_drops 60 = .ok (.getfield 7, 3) := by decide +kernel
theorem dX7_drops_63 : decode cX7_drops 63 = .ok (.iconst 1, 1) := by decide +kernel
theorem dX7_drops_64 : decode cX7_drops 64 = .ok (.iaload, 1) := by decide +kernel
theorem dX7_drops_65 : decode cX7_drops 65 = .ok (.imul, 1) := by decide +kernel
theorem dX7_drops_66 : decode cX7_drops 66 = .ok (.iadd, 1) := by decide +kernel
theorem dX7_drops_67 : decode cX7_drops 67 = .ok (.iconst 0, 1) := by decide +kernel
theorem dX7_drops_68 : decode cX7_drops 68 = .ok (.iastore, 1) := by decide +kernel
theorem dX7_drops_69 : decode cX7_drops 69 = .ok (.aload_n 0, 1) := by decide +kernel
theorem dX7_drops_70 : decode cX7_drops 70 = .ok (.getfield 7, 3) := by decide +kernel
theorem dX7_drops_73 : decode cX7_drops 73 = .ok (.bipush 15, 2) := by decide +kernel
theorem dX7_drops_75 : decode cX7_drops 75 = .ok (.iconst 2, 1) := by decide +kernel
theorem dX7_drops_76 : decode cX7_drops 76 = .ok (.aload_n 0, 1) := by decide +kernel
theorem dX7_drops_77 : decode cX7_drops 77 = .ok (.getfield 7, 3) := by decide +kernel
theorem dX7_drops_80 : decode cX7_drops 80 = .ok (.iconst 1, 1) := by decide +kernel
theorem dX7_drops_81 : decode cX7_drops 81 = .ok (.iaload, 1) := by decide +kernel
theorem dX7_drops_82 : decode cX7_drops 82 = .ok (.imul, 1) := by decide +kernel
theorem dX7_drops_83 : decode cX7_drops 83 = .ok (.iadd, 1) := by decide +kernel
theorem dX7_drops_84 : decode cX7_drops 84 = .ok (.iconst 1, 1) := by decide +kernel
theorem dX7_drops_85 : decode cX7_drops 85 = .ok (.iadd, 1) := by decide +kernel
theorem dX7_drops_86 : decode cX7_drops 86 = .ok (.iconst 0, 1) := by decide +kernel
theorem dX7_drops_87 : decode cX7_drops 87 = .ok (.iastore, 1) := by decide +kernel
theorem dX7_drops_88 : decode cX7_drops 88 = .ok (.return_, 1) := by decide +kernel
theorem dX7_loses_0 : decode cX7_loses 0 = .ok (.aload_n 0, 1) := by decide +kernel
theorem dX7_loses_1 : decode cX7_loses 1 = .ok (.iload_n 1, 1) := by decide +kernel
theorem dX7_loses_2 : decode cX7_loses 2 = .ok (.invokevirtual 128, 3) := by decide +kernel
theorem dX7_loses_5 : decode cX7_loses 5 = .ok (.ifCond .ne 5, 3) := by decide +kernel
theorem dX7_loses_8 : decode cX7_loses 8 = .ok (.iconst (-1), 1) := by decide +kernel
theorem dX7_loses_9 : decode cX7_loses 9 = .ok (.ireturn, 1) := by decide +kernel
theorem dX7_loses_10 : decode cX7_loses 10 = .ok (.aload_n 0, 1) := by decide +kernel
theorem dX7_loses_11 : decode cX7_loses 11 = .ok (.getfield 7, 3) := by decide +kernel
theorem dX7_loses_14 : decode cX7_loses 14 = .ok (.iconst 1, 1) := by decide +kernel
theorem dX7_loses_15 : decode cX7_loses 15 = .ok (.iaload, 1) := by decide +kernel
theorem dX7_loses_16 : decode cX7_loses 16 = .ok (.iconst 1, 1) := by decide +kernel
theorem dX7_loses_17 : decode cX7_loses 17 = .ok (.isub, 1) := by decide +kernel
theorem dX7_loses_18 : decode cX7_loses 18 = .ok (.istore_n 2, 1) := by decide +kernel
theorem dX7_loses_19 : decode cX7_loses 19 = .ok (.iload_n 2, 1) := by decide +kernel
theorem dX7_loses_20 : decode cX7_loses 20 = .ok (.ifCond .lt 36, 3) := by decide +kernel
theorem dX7_loses_23 : decode cX7_loses 23 = .ok (.aload_n 0, 1) := by decide +kernel
theorem dX7_loses_24 : decode cX7_loses 24 = .ok (.iconst 2, 1) := by decide +kernel
theorem dX7_loses_25 : decode cX7_loses 25 = .ok (.iload_n 2, 1) := by decide +kernel
theorem dX7_loses_26 : decode cX7_loses 26 = .ok (.imul, 1) := by decide +kernel
theorem dX7_loses_27 : decode cX7_loses 27 = .ok (.invokevirtual 98, 3) := by decide +kernel
theorem dX7_loses_30 : decode cX7_loses 30 = .ok (.iload_n 1, 1) := by decide +kernel
theorem dX7_loses_31 : decode cX7_loses 31 = .ok (.if_icmp .eq 14, 3) := by decide +kernel
theorem dX7_loses_34 : decode cX7_loses 34 = .ok (.aload_n 0, 1) := by decide +kernel
theorem dX7_loses_35 : decode cX7_loses 35 = .ok (.iconst 2, 1) := by decide +kernel
theorem dX7_loses_36 : decode cX7_loses 36 = .ok (.iload_n 2, 1) := by decide +kernel
theorem dX7_loses_37 : decode cX7_loses 37 = .ok (.imul, 1) := by decide +kernel
theorem dX7_loses_38 : decode cX7_loses 38 = .ok (.invokevirtual 101, 3) := by decide +kernel
theorem dX7_loses_41 : decode cX7_loses 41 = .ok (.iload_n 1, 1) := by decide +kernel
theorem dX7_loses_42 : decode cX7_loses 42 = .ok (.if_icmp .ne 8, 3) := by decide +kernel
theorem dX7_loses_45 : decode cX7_loses 45 = .ok (.aload_n 0, 1) := by decide +kernel
theorem dX7_loses_46 : decode cX7_loses 46 = .ok (.iload_n 2, 1) := by decide +kernel
theorem dX7_loses_47 : decode cX7_loses 47 = .ok (.invokevirtual 145, 3) := by decide +kernel
theorem dX7_loses_50 : decode cX7_loses 50 = .ok (.iinc 2 (-1), 3) := by decide +kernel
theorem dX7_loses_53 : decode cX7_loses 53 = .ok (.goto (-34), 3) := by decide +kernel
theorem dX7_loses_56 : decode cX7_loses 56 = .ok (.iconst 0, 1) := by decide +kernel
theorem dX7_loses_57 : decode cX7_loses 57 = .ok (.istore_n 2, 1) := by decide +kernel
theorem dX7_loses_58 : decode cX7_loses 58 = .ok (.iload_n 2, 1) := by decide +kernel
theorem dX7_loses_59 : decode cX7_loses 59 = .ok (.iconst 2, 1) := by decide +kernel
theorem dX7_loses_60 : decode cX7_loses 60 = .ok (.aload_n 0, 1) := by decide +kernel
theorem dX7_loses_61 : decode cX7_loses 61 = .ok (.getfield 7, 3) := by decide +kernel
theorem dX7_loses_64 : decode cX7_loses 64 = .ok (.iconst 1, 1) := by decide +kernel
theorem dX7_loses_65 : decode cX7_loses 65 = .ok (.iaload, 1) := by decide +kernel
theorem dX7_loses_66 : decode cX7_loses 66 = .ok (.imul, 1) := by decide +kernel
theorem dX7_loses_67 : decode cX7_loses 67 = .ok (.if_icmp .ge 39, 3) := by decide +kernel
theorem dX7_loses_70 : decode cX7_loses 70 = .ok (.aload_n 0, 1) := by decide +kernel
theorem dX7_loses_71 : decode cX7_loses 71 = .ok (.getfield 7, 3) := by decide +kernel
theorem dX7_loses_74 : decode cX7_loses 74 = .ok (.bipush 15, 2) := by decide +kernel
theorem dX7_loses_76 : decode cX7_loses 76 = .ok (.iload_n 2, 1) := by decide +kernel
theorem dX7_loses_77 : decode cX7_loses 77 = .ok (.iadd, 1) := by decide +kernel
theorem dX7_loses_78 : decode cX7_loses 78 = .ok (.dup2, 1) := by decide +kernel
theorem dX7_loses_79 : decode cX7_loses 79 = .ok (.iaload, 1) := by decide +kernel
theorem dX7_loses_80 : decode cX7_loses 80 = .ok (.aload_n 0, 1) := by decide +kernel
theorem dX7_loses_81 : decode cX7_loses 81 = .ok (.getfield 7, 3) := by decide +kernel
theorem dX7_loses_84 : decode cX7_loses 84 = .ok (.bipush 15, 2) := by decide +kernel
theorem dX7_loses_86 : decode cX7_loses 86 = .ok (.iload_n 2, 1) := by decide +kernel
theorem dX7_loses_87 : decode cX7_loses 87 = .ok (.iadd, 1) := by decide +kernel
theorem dX7_loses_88 : decode cX7_loses 88 = .ok (.iaload, 1) := by decide +kernel
theorem dX7_loses_89 : decode cX7_loses 89 = .ok (.iload_n 1, 1) := by decide +kernel
theorem dX7_loses_90 : decode cX7_loses 90 = .ok (.if_icmp .le 7, 3) := by decide +kernel
theorem dX7_loses_93 : decode cX7_loses 93 = .ok (.iconst 1, 1) := by decide +kernel
theorem dX7_loses_94 : decode cX7_loses 94 = .ok (.goto 4, 3) := by decide +kernel
theorem dX7_loses_97 : decode cX7_loses 97 = .ok (.iconst 0, 1) := by decide +kernel
theorem dX7_loses_98 : decode cX7_loses 98 = .ok (.isub, 1) := by decide +kernel
theorem dX7_loses_99 : decode cX7_loses 99 = .ok (.iastore, 1) := by decide +kernel
theorem dX7_loses_100 : decode cX7_loses 100 = .ok (.iinc 2 1, 3) := by decide +kernel
theorem dX7_loses_103 : decode cX7_loses 103 = .ok (.goto (-45), 3) := by decide +kernel
theorem dX7_loses_106 : decode cX7_loses 106 = .ok (.aload_n 0, 1) := by decide +kernel
theorem dX7_loses_107 : decode cX7_loses 107 = .ok (.getfield 7, 3) := by decide +kernel
theorem dX7_loses_110 : decode cX7_loses 110 = .ok (.iconst 0, 1) := by decide +kernel
theorem dX7_loses_111 : decode cX7_loses 111 = .ok (.dup2, 1) := by decide +kernel
theorem dX7_loses_112 : decode cX7_loses 112 = .ok (.iaload, 1) := by decide +kernel
theorem dX7_loses_113 : decode cX7_loses 113 = .ok (.iconst 1, 1) := by decide +kernel
theorem dX7_loses_114 : decode cX7_loses 114 = .ok (.isub, 1) := by decide +kernel
theorem dX7_loses_115 : decode cX7_loses 115 = .ok (.iastore, 1) := by decide +kernel
theorem dX7_loses_116 : decode cX7_loses 116 = .ok (.iconst 2, 1) := by decide +kernel
theorem dX7_loses_117 : decode cX7_loses 117 = .ok (.iload_n 1, 1) := by decide +kernel
theorem dX7_loses_118 : decode cX7_loses 118 = .ok (.imul, 1) := by decide +kernel
theorem dX7_loses_119 : decode cX7_loses 119 = .ok (.istore_n 2, 1) := by decide +kernel
theorem dX7_loses_120 : decode cX7_loses 120 = .ok (.iload_n 2, 1) := by decide +kernel
theorem dX7_loses_121 : decode cX7_loses 121 = .ok (.iconst 2, 1) := by decide +kernel
theorem dX7_loses_122 : decode cX7_loses 122 = .ok (.aload_n 0, 1) := by decide +kernel
theorem dX7_loses_123 : decode cX7_loses 123 = .ok (.getfield 7, 3) := by decide +kernel
theorem dX7_loses_126 : decode cX7_loses 126 = .ok (.iconst 0, 1) := by decide +kernel
theorem dX7_loses_127 : decode cX7_loses 127 = .ok (.iaload, 1) := by decide +kernel
theorem dX7_loses_128 : decode cX7_loses 128 = .ok (.imul, 1) := by decide +kernel
theorem dX7_loses_129 : decode cX7_loses 129 = .ok (.if_icmp .ge 27, 3) := by decide +kernel
theorem dX7_loses_132 : decode cX7_loses 132 = .ok (.aload_n 0, 1) := by decide +kernel
theorem dX7_loses_133 : decode cX7_loses 133 = .ok (.getfield 7, 3) := by decide +kernel
theorem dX7_loses_136 : decode cX7_loses 136 = .ok (.iconst 3, 1) := by decide +kernel
theorem dX7_loses_137 : decode cX7_loses 137 = .ok (.iload_n 2, 1) := by decide +kernel
theorem dX7_loses_138 : decode cX7_loses 138 = .ok (.iadd, 1) := by decide +kernel
theorem dX7_loses_139 : decode cX7_loses 139 = .ok (.aload_n 0, 1) := by decide +kernel
theorem dX7_loses_140 : decode cX7_loses 140 = .ok (.getfield 7, 3) := by decide +kernel
theorem dX7_loses_143 : decode cX7_loses 143 = .ok (.iconst 3, 1) := by decide +kernel
theorem dX7_loses_144 : decode cX7_loses 144 = .ok (.iload_n 2, 1) := by decide +kernel
theorem dX7_loses_145 : decode cX7_loses 145 = .ok (.iadd, 1) := by decide +kernel
theorem dX7_loses_146 : decode cX7_loses 146 = .ok (.iconst 2, 1) := by decide +kernel
theorem dX7_loses_147 : decode cX7_loses 147 = .ok (.iadd, 1) := by decide +kernel
theorem dX7_loses_148 : decode cX7_loses 148 = .ok (.iaload, 1) := by decide +kernel
theorem dX7_loses_149 : decode cX7_loses 149 = .ok (.iastore, 1) := by decide +kernel
theorem dX7_loses_150 : decode cX7_loses 150 = .ok (.iinc 2 1, 3) := by decide +kernel
theorem dX7_loses_153 : decode cX7_loses 153 = .ok (.goto (-33), 3) := by decide +kernel
theorem dX7_loses_156 : decode cX7_loses 156 = .ok (.aload_n 0, 1) := by decide +kernel
theorem dX7_loses_157 : decode cX7_loses 157 = .ok (.getfield 7, 3) := by decide +kernel
theorem dX7_loses_160 : decode cX7_loses 160 = .ok (.iconst 3, 1) := by decide +kernel
theorem dX7_loses_161 : decode cX7_loses 161 = .ok (.iconst 2, 1) := by decide +kernel
theorem dX7_loses_162 : decode cX7_loses 162 = .ok (.aload_n 0, 1) := by decide +kernel
theorem dX7_loses_163 : decode cX7_loses 163 = .ok (.getfield 7, 3) := by decide +kernel
theorem dX7_loses_166 : decode cX7_loses 166 = .ok (.iconst 0, 1) := by decide +kernel
theorem dX7_loses_167 : decode cX7_loses 167 = .ok (.iaload, 1) := by decide +kernel
theorem dX7_loses_168 : decode cX7_loses 168 = .ok (.imul, 1) := by decide +kernel
theorem dX7_loses_169 : decode cX7_loses 169 = .ok (.iadd, 1) := by decide +kernel
theorem dX7_loses_170 : decode cX7_loses 170 = .ok (.iconst 0, 1) := by decide +kernel
theorem dX7_loses_171 : decode cX7_loses 171 = .ok (.iastore, 1) := by decide +kernel
theorem dX7_loses_172 : decode cX7_loses 172 = .ok (.aload_n 0, 1) := by decide +kernel
theorem dX7_loses_173 : decode cX7_loses 173 = .ok (.getfield 7, 3) := by decide +kernel
theorem dX7_loses_176 : decode cX7_loses 176 = .ok (.iconst 3, 1) := by decide +kernel
theorem dX7_loses_177 : decode cX7_loses 177 = .ok (.iconst 2, 1) := by decide +kernel
theorem dX7_loses_178 : decode cX7_loses 178 = .ok (.aload_n 0, 1) := by decide +kernel
theorem dX7_loses_179 : decode cX7_loses 179 = .ok (.getfield 7, 3) := by decide +kernel
theorem dX7_loses_182 : decode cX7_loses 182 = .ok (.iconst 0, 1) := by decide +kernel
theorem dX7_loses_183 : decode cX7_loses 183 = .ok (.iaload, 1) := by decide +kernel
theorem dX7_loses_184 : decode cX7_loses 184 = .ok (.imul, 1) := by decide +kernel
theorem dX7_loses_185 : decode cX7_loses 185 = .ok (.iadd, 1) := by decide +kernel
theorem dX7_loses_186 : decode cX7_loses 186 = .ok (.iconst 1, 1) := by decide +kernel
theorem dX7_loses_187 : decode cX7_loses 187 = .ok (.iadd, 1) := by decide +kernel
theorem dX7_loses_188 : decode cX7_loses 188 = .ok (.iconst 0, 1) := by decide +kernel
theorem dX7_loses_189 : decode cX7_loses 189 = .ok (.iastore, 1) := by decide +kernel
theorem dX7_loses_190 : decode cX7_loses 190 = .ok (.aload_n 0, 1) := by decide +kernel
theorem dX7_loses_191 : decode cX7_loses 191 = .ok (.getfield 7, 3) := by decide +kernel
theorem dX7_loses_194 : decode cX7_loses 194 = .ok (.iconst 1, 1) := by decide +kernel
theorem dX7_loses_195 : decode cX7_loses 195 = .ok (.iaload, 1) := by decide +kernel
theorem dX7_loses_196 : decode cX7_loses 196 = .ok (.ireturn, 1) := by decide +kernel
theorem dX7_adds_0 : decode cX7_adds 0 = .ok (.aload_n 0, 1) := by decide +kernel
theorem dX7_adds_1 : decode cX7_adds 1 = .ok (.iload_n 1, 1) := by decide +kernel
theorem dX7_adds_2 : decode cX7_adds 2 = .ok (.invokevirtual 128, 3) := by decide +kernel
theorem dX7_adds_5 : decode cX7_adds 5 = .ok (.ifCond .eq 16, 3) := by decide +kernel
theorem dX7_adds_8 : decode cX7_adds 8 = .ok (.aload_n 0, 1) := by decide +kernel
theorem dX7_adds_9 : decode cX7_adds 9 = .ok (.iload_n 2, 1) := by decide +kernel
theorem dX7_adds_10 : decode cX7_adds 10 = .ok (.invokevirtual 128, 3) := by decide +kernel
theorem dX7_adds_13 : decode cX7_adds 13 = .ok (.ifCond .eq 8, 3) := by decide +kernel
theorem dX7_adds_16 : decode cX7_adds 16 = .ok (.iload_n 1, 1) := by decide +kernel
theorem dX7_adds_17 : decode cX7_adds 17 = .ok (.iload_n 2, 1) := by decide +kernel
theorem dX7_adds_18 : decode cX7_adds 18 = .ok (.if_icmp .ne 5, 3) := by decide +kernel
theorem dX7_adds_21 : decode cX7_adds 21 = .ok (.iconst (-1), 1) := by decide +kernel
theorem dX7_adds_22 : decode cX7_adds 22 = .ok (.ireturn, 1) := by decide +kernel
theorem dX7_adds_23 : decode cX7_adds 23 = .ok (.aload_n 0, 1) := by decide +kernel
theorem dX7_adds_24 : decode cX7_adds 24 = .ok (.iload_n 1, 1) := by decide +kernel
theorem dX7_adds_25 : decode cX7_adds 25 = .ok (.iload_n 2, 1) := by decide +kernel
theorem dX7_adds_26 : decode cX7_adds 26 = .ok (.invokevirtual 149, 3) := by decide +kernel
theorem dX7_adds_29 : decode cX7_adds 29 = .ok (.ifCond .lt 6, 3) := by decide +kernel
theorem dX7_adds_32 : decode cX7_adds 32 = .ok (.bipush (-2), 2) := by decide +kernel
theorem dX7_adds_34 : decode cX7_adds 34 = .ok (.ireturn, 1) := by decide +kernel
theorem dX7_adds_35 : decode cX7_adds 35 = .ok (.aload_n 0, 1) := by decide +kernel
theorem dX7_adds_36 : decode cX7_adds 36 = .ok (.getfield 7, 3) := by decide +kernel
theorem dX7_adds_39 : decode cX7_adds 39 = .ok (.iconst 1, 1) := by decide +kernel
theorem dX7_adds_40 : decode cX7_adds 40 = .ok (.iaload, 1) := by decide +kernel
theorem dX7_adds_41 : decode cX7_adds 41 = .ok (.istore_n 3, 1) := by decide +kernel
theorem dX7_adds_42 : decode cX7_adds 42 = .ok (.iconst 1, 1) := by decide +kernel
theorem dX7_adds_43 : decode cX7_adds 43 = .ok (.istore 4, 2) := by decide +kernel
theorem dX7_adds_45 : decode cX7_adds 45 = .ok (.iconst 0, 1) := by decide +kernel
theorem dX7_adds_46 : decode cX7_adds 46 = .ok (.istore 5, 2) := by decide +kernel
theorem dX7_adds_48 : decode cX7_adds 48 = .ok (.iload 5, 2) := by decide +kernel
theorem dX7_adds_50 : decode cX7_adds 50 = .ok (.aload_n 0, 1) := by decide +kernel
theorem dX7_adds_51 : decode cX7_adds 51 = .ok (.getfield 7, 3) := by decide +kernel
theorem dX7_adds_54 : decode cX7_adds 54 = .ok (.iconst 0, 1) := by decide +kernel
theorem dX7_adds_55 : decode cX7_adds 55 = .ok (.iaload, 1) := by decide +kernel
theorem dX7_adds_56 : decode cX7_adds 56 = .ok (.if_icmp .ge 32, 3) := by decide +kernel
theorem dX7_adds_59 : decode cX7_adds 59 = .ok (.iload 4, 2) := by decide +kernel
theorem dX7_adds_61 : decode cX7_adds 61 = .ok (.ifCond .eq 18, 3) := by decide +kernel
theorem dX7_adds_64 : decode cX7_adds 64 = .ok (.aload_n 0, 1) := by decide +kernel
theorem dX7_adds_65 : decode cX7_adds 65 = .ok (.iload_n 1, 1) := by decide +kernel
theorem dX7_adds_66 : decode cX7_adds 66 = .ok (.iload_n 2, 1) := by decide +kernel
theorem dX7_adds_67 : decode cX7_adds 67 = .ok (.iload 5, 2) := by decide +kernel
theorem dX7_adds_69 : decode cX7_adds 69 = .ok (.invokevirtual 104, 3) := by decide +kernel
theorem dX7_adds_72 : decode cX7_adds 72 = .ok (.ifCond .ne 7, 3) := by decide +kernel
theorem dX7_adds_75 : decode cX7_adds 75 = .ok (.iconst 1, 1) := by decide +kernel
theorem dX7_adds_76 : decode cX7_adds 76 = .ok (.goto 4, 3) := by decide +kernel
theorem dX7_adds_79 : decode cX7_adds 79 = .ok (.iconst 0, 1) := by decide +kernel
theorem dX7_adds_80 : decode cX7_adds 80 = .ok (.istore 4, 2) := by decide +kernel
theorem dX7_adds_82 : decode cX7_adds 82 = .ok (.iinc 5 1, 3) := by decide +kernel
theorem dX7_adds_85 : decode cX7_adds 85 = .ok (.goto (-37), 3) := by decide +kernel
theorem dX7_adds_88 : decode cX7_adds 88 = .ok (.iconst 0, 1) := by decide +kernel
theorem dX7_adds_89 : decode cX7_adds 89 = .ok (.istore 5, 2) := by decide +kernel
theorem dX7_adds_91 : decode cX7_adds 91 = .ok (.iload 5, 2) := by decide +kernel
theorem dX7_adds_93 : decode cX7_adds 93 = .ok (.iload_n 3, 1) := by decide +kernel
theorem dX7_adds_94 : decode cX7_adds 94 = .ok (.if_icmp .ge 46, 3) := by decide +kernel
theorem dX7_adds_97 : decode cX7_adds 97 = .ok (.iload 4, 2) := by decide +kernel
theorem dX7_adds_99 : decode cX7_adds 99 = .ok (.ifCond .eq 32, 3) := by decide +kernel
theorem dX7_adds_102 : decode cX7_adds 102 = .ok (.aload_n 0, 1) := by decide +kernel
theorem dX7_adds_103 : decode cX7_adds 103 = .ok (.iload_n 1, 1) := by decide +kernel
theorem dX7_adds_104 : decode cX7_adds 104 = .ok (.iload_n 2, 1) := by decide +kernel
theorem dX7_adds_105 : decode cX7_adds 105 = .ok (.aload_n 0, 1) := by decide +kernel
theorem dX7_adds_106 : decode cX7_adds 106 = .ok (.iconst 2, 1) := by decide +kernel
theorem dX7_adds_107 : decode cX7_adds 107 = .ok (.iload 5, 2) := by decide +kernel
theorem dX7_adds_109 : decode cX7_adds 109 = .ok (.imul, 1) := by decide +kernel
theorem dX7_adds_110 : decode cX7_adds 110 = .ok (.invokevirtual 98, 3) := by decide +kernel
theorem dX7_adds_113 : decode cX7_adds 113 = .ok (.aload_n 0, 1) := by decide +kernel
theorem dX7_adds_114 : decode cX7_adds 114 = .ok (.iconst 2, 1) := by decide +kernel
theorem dX7_adds_115 : decode cX7_adds 115 = .ok (.iload 5, 2) := by decide +kernel
theorem dX7_adds_117 : decode cX7_adds 117 = .ok (.imul, 1) := by decide +kernel
theorem dX7_adds_118 : decode cX7_adds 118 = .ok (.invokevirtual 101, 3) := by decide +kernel
theorem dX7_adds_121 : decode cX7_adds 121 = .ok (.invokevirtual 108, 3) := by decide +kernel
theorem dX7_adds_124 : decode cX7_adds 124 = .ok (.ifCond .ne 7, 3) := by decide +kernel
theorem dX7_adds_127 : decode cX7_adds 127 = .ok (.iconst 1, 1) := by decide +kernel
theorem dX7_adds_128 : decode cX7_adds 128 = .ok (.goto 4, 3) := by decide +kernel
theorem dX7_adds_131 : decode cX7_adds 131 = .ok (.iconst 0, 1) := by decide +kernel
theorem dX7_adds_132 : decode cX7_adds 132 = .ok (.istore 4, 2) := by decide +kernel
theorem dX7_adds_134 : decode cX7_adds 134 = .ok (.iinc 5 1, 3) := by decide +kernel
theorem dX7_adds_137 : decode cX7_adds 137 = .ok (.goto (-46), 3) := by decide +kernel
theorem dX7_adds_140 : decode cX7_adds 140 = .ok (.iload 4, 2) := by decide +kernel
theorem dX7_adds_142 : decode cX7_adds 142 = .ok (.ifCond .ne 6, 3) := by decide +kernel
theorem dX7_adds_145 : decode cX7_adds 145 = .ok (.bipush (-2), 2) := by decide +kernel
theorem dX7_adds_147 : decode cX7_adds 147 = .ok (.ireturn, 1) := by decide +kernel
theorem dX7_adds_148 : decode cX7_adds 148 = .ok (.iload_n 3, 1) := by decide +kernel
theorem dX7_adds_149 : decode cX7_adds 149 = .ok (.bipush 9, 2) := by decide +kernel
theorem dX7_adds_151 : decode cX7_adds 151 = .ok (.if_icmp .ne 6, 3) := by decide +kernel
theorem dX7_adds_154 : decode cX7_adds 154 = .ok (.bipush (-3), 2) := by decide +kernel
theorem dX7_adds_156 : decode cX7_adds 156 = .ok (.ireturn, 1) := by decide +kernel
theorem dX7_adds_157 : decode cX7_adds 157 = .ok (.aload_n 0, 1) := by decide +kernel
theorem dX7_adds_158 : decode cX7_adds 158 = .ok (.getfield 7, 3) := by decide +kernel
theorem dX7_adds_161 : decode cX7_adds 161 = .ok (.bipush 15, 2) := by decide +kernel
theorem dX7_adds_163 : decode cX7_adds 163 = .ok (.iconst 2, 1) := by decide +kernel
theorem dX7_adds_164 : decode cX7_adds 164 = .ok (.iload_n 3, 1) := by decide +kernel
theorem dX7_adds_165 : decode cX7_adds 165 = .ok (.imul, 1) := by decide +kernel
theorem dX7_adds_166 : decode cX7_adds 166 = .ok (.iadd, 1) := by decide +kernel
theorem dX7_adds_167 : decode cX7_adds 167 = .ok (.iload_n 1, 1) := by decide +kernel
theorem dX7_adds_168 : decode cX7_adds 168 = .ok (.iload_n 2, 1) := by decide +kernel
theorem dX7_adds_169 : decode cX7_adds 169 = .ok (.if_icmp .ge 7, 3) := by decide +kernel
theorem dX7_adds_172 : decode cX7_adds 172 = .ok (.iload_n 1, 1) := by decide +kernel
theorem dX7_adds_173 : decode cX7_adds 173 = .ok (.goto 4, 3) := by decide +kernel
theorem dX7_adds_176 : decode cX7_adds 176 = .ok (.iload_n 2, 1) := by decide +kernel
theorem dX7_adds_177 : decode cX7_adds 177 = .ok (.iastore, 1) := by decide +kernel
theorem dX7_adds_178 : decode cX7_adds 178 = .ok (.aload_n 0, 1) := by decide +kernel
theorem dX7_adds_179 : decode cX7_adds 179 = .ok (.getfield 7, 3) := by decide +kernel
theorem dX7_adds_182 : decode cX7_adds 182 = .ok (.bipush 15, 2) := by decide +kernel
theorem dX7_adds_184 : decode cX7_adds 184 = .ok (.iconst 2, 1) := by decide +kernel
theorem dX7_adds_185 : decode cX7_adds 185 = .ok (.iload_n 3, 1) := by decide +kernel
theorem dX7_adds_186 : decode cX7_adds 186 = .ok (.imul, 1) := by decide +kernel
theorem dX7_adds_187 : decode cX7_adds 187 = .ok (.iadd, 1) := by decide +kernel
theorem dX7_adds_188 : decode cX7_adds 188 = .ok (.iconst 1, 1) := by decide +kernel
theorem dX7_adds_189 : decode cX7_adds 189 = .ok (.iadd, 1) := by decide +kernel
theorem dX7_adds_190 : decode cX7_adds 190 = .ok (.iload_n 1, 1) := by decide +kernel
theorem dX7_adds_191 : decode cX7_adds 191 = .ok (.iload_n 2, 1) := by decide +kernel
theorem dX7_adds_192 : decode cX7_adds 192 = .ok (.if_icmp .ge 7, 3) := by decide +kernel
theorem dX7_adds_195 : decode cX7_adds 195 = .ok (.iload_n 2, 1) := by decide +kernel
theorem dX7_adds_196 : decode cX7_adds 196 = .ok (.goto 4, 3) := by decide +kernel
theorem dX7_adds_199 : decode cX7_adds 199 = .ok (.iload_n 1, 1) := by decide +kernel
theorem dX7_adds_200 : decode cX7_adds 200 = .ok (.iastore, 1) := by decide +kernel
theorem dX7_adds_201 : decode cX7_adds 201 = .ok (.aload_n 0, 1) := by decide +kernel
theorem dX7_adds_202 : decode cX7_adds 202 = .ok (.getfield 7, 3) := by decide +kernel
theorem dX7_adds_205 : decode cX7_adds 205 = .ok (.iconst 1, 1) := by decide +kernel
theorem dX7_adds_206 : decode cX7_adds 206 = .ok (.dup2, 1) := by decide +kernel
theorem dX7_adds_207 : decode cX7_adds 207 = .ok (.iaload, 1) := by decide +kernel
theorem dX7_adds_208 : decode cX7_adds 208 = .ok (.iconst 1, 1) := by decide +kernel
theorem dX7_adds_209 : decode cX7_adds 209 = .ok (.iadd, 1) := by decide +kernel
theorem dX7_adds_210 : decode cX7_adds 210 = .ok (.iastore, 1) := by decide +kernel
theorem dX7_adds_211 : decode cX7_adds 211 = .ok (.iload_n 3, 1) := by decide +kernel
theorem dX7_adds_212 : decode cX7_adds 212 = .ok (.ireturn, 1) := by decide +kernel
theorem dX7_takesOut_0 : decode cX7_takesOut 0 = .ok (.aload_n 0, 1) := by decide +kernel
theorem dX7_takesOut_1 : decode cX7_takesOut 1 = .ok (.iload_n 1, 1) := by decide +kernel
theorem dX7_takesOut_2 : decode cX7_takesOut 2 = .ok (.invokevirtual 152, 3) := by decide +kernel
theorem dX7_takesOut_5 : decode cX7_takesOut 5 = .ok (.ifCond .ne 5, 3) := by decide +kernel
theorem dX7_takesOut_8 : decode cX7_takesOut 8 = .ok (.iconst (-1), 1) := by decide +kernel
theorem dX7_takesOut_9 : decode cX7_takesOut 9 = .ok (.ireturn, 1) := by decide +kernel
theorem dX7_takesOut_10 : decode cX7_takesOut 10 = .ok (.aload_n 0, 1) := by decide +kernel
theorem dX7_takesOut_11 : decode cX7_takesOut 11 = .ok (.iload_n 1, 1) := by decide +kernel
theorem dX7_takesOut_12 : decode cX7_takesOut 12 = .ok (.invokevirtual 145, 3) := by decide +kernel
theorem dX7_takesOut_15 : decode cX7_takesOut 15 = .ok (.aload_n 0, 1) := by decide +kernel
theorem dX7_takesOut_16 : decode cX7_takesOut 16 = .ok (.getfield 7, 3) := by decide +kernel
theorem dX7_takesOut_19 : decode cX7_takesOut 19 = .ok (.iconst 1, 1) := by decide +kernel
theorem dX7_takesOut_20 : decode cX7_takesOut 20 = .ok (.iaload, 1) := by decide +kernel
theorem dX7_takesOut_21 : decode cX7_takesOut 21 = .ok (.ireturn, 1) := by decide +kernel
theorem dX7_weighs_0 : decode cX7_weighs 0 = .ok (.iload_n 1, 1) := by decide +kernel
theorem dX7_weighs_1 : decode cX7_weighs 1 = .ok (.i2l, 1) := by decide +kernel
theorem dX7_weighs_2 : decode cX7_weighs 2 = .ok (.lconst 0, 1) := by decide +kernel
theorem dX7_weighs_3 : decode cX7_weighs 3 = .ok (.ldc2_w 155, 3) := by decide +kernel
theorem dX7_weighs_6 : decode cX7_weighs 6 = .ok (.invokestatic 79, 3) := by decide +kernel
theorem dX7_weighs_9 : decode cX7_weighs 9 = .ok (.ifCond .eq 17, 3) := by decide +kernel
theorem dX7_weighs_12 : decode cX7_weighs 12 = .ok (.iload_n 2, 1) := by decide +kernel
theorem dX7_weighs_13 : decode cX7_weighs 13 = .ok (.i2l, 1) := by decide +kernel
theorem dX7_weighs_14 : decode cX7_weighs 14 = .ok (.ldc2_w 157, 3) := by decide +kernel
theorem dX7_weighs_17 : decode cX7_weighs 17 = .ok (.ldc2_w 159, 3) := by decide +kernel
theorem dX7_weighs_20 : decode cX7_weighs 20 = .ok (.invokestatic 79, 3) := by decide +kernel
theorem dX7_weighs_23 : decode cX7_weighs 23 = .ok (.ifCond .ne 5, 3) := by decide +kernel
theorem dX7_weighs_26 : decode cX7_weighs 26 = .ok (.iconst (-1), 1) := by decide +kernel
theorem dX7_weighs_27 : decode cX7_weighs 27 = .ok (.ireturn, 1) := by decide +kernel
theorem dX7_weighs_28 : decode cX7_weighs 28 = .ok (.aload_n 0, 1) := by decide +kernel
theorem dX7_weighs_29 : decode cX7_weighs 29 = .ok (.getfield 7, 3) := by decide +kernel
theorem dX7_weighs_32 : decode cX7_weighs 32 = .ok (.bipush 33, 2) := by decide +kernel
theorem dX7_weighs_34 : decode cX7_weighs 34 = .ok (.iload_n 1, 1) := by decide +kernel
theorem dX7_weighs_35 : decode cX7_weighs 35 = .ok (.iadd, 1) := by decide +kernel
theorem dX7_weighs_36 : decode cX7_weighs 36 = .ok (.iaload, 1) := by decide +kernel
theorem dX7_weighs_37 : decode cX7_weighs 37 = .ok (.istore_n 3, 1) := by decide +kernel
theorem dX7_weighs_38 : decode cX7_weighs 38 = .ok (.iload_n 3, 1) := by decide +kernel
theorem dX7_weighs_39 : decode cX7_weighs 39 = .ok (.iload_n 2, 1) := by decide +kernel
theorem dX7_weighs_40 : decode cX7_weighs 40 = .ok (.if_icmp .ne 6, 3) := by decide +kernel
theorem dX7_weighs_43 : decode cX7_weighs 43 = .ok (.bipush (-2), 2) := by decide +kernel
theorem dX7_weighs_45 : decode cX7_weighs 45 = .ok (.ireturn, 1) := by decide +kernel
theorem dX7_weighs_46 : decode cX7_weighs 46 = .ok (.aload_n 0, 1) := by decide +kernel
theorem dX7_weighs_47 : decode cX7_weighs 47 = .ok (.getfield 7, 3) := by decide +kernel
theorem dX7_weighs_50 : decode cX7_weighs 50 = .ok (.bipush 33, 2) := by decide +kernel
theorem dX7_weighs_52 : decode cX7_weighs 52 = .ok (.iload_n 1, 1) := by decide +kernel
theorem dX7_weighs_53 : decode cX7_weighs 53 = .ok (.iadd, 1) := by decide +kernel
theorem dX7_weighs_54 : decode cX7_weighs 54 = .ok (.iload_n 2, 1) := by decide +kernel
theorem dX7_weighs_55 : decode cX7_weighs 55 = .ok (.iastore, 1) := by decide +kernel
theorem dX7_weighs_56 : decode cX7_weighs 56 = .ok (.iload_n 3, 1) := by decide +kernel
theorem dX7_weighs_57 : decode cX7_weighs 57 = .ok (.bipush 9, 2) := by decide +kernel
theorem dX7_weighs_59 : decode cX7_weighs 59 = .ok (.iadd, 1) := by decide +kernel
theorem dX7_weighs_60 : decode cX7_weighs 60 = .ok (.ireturn, 1) := by decide +kernel
theorem dX7_does_0 : decode cX7_does 0 = .ok (.iload_n 1, 1) := by decide +kernel
theorem dX7_does_1 : decode cX7_does 1 = .ok (.tableswitch 71 0 4 #[35, 42, 49, 58, 64], 35) := by decide +kernel
theorem dX7_does_36 : decode cX7_does 36 = .ok (.aload_n 0, 1) := by decide +kernel
theorem dX7_does_37 : decode cX7_does 37 = .ok (.iload_n 2, 1) := by decide +kernel
theorem dX7_does_38 : decode cX7_does 38 = .ok (.iload_n 3, 1) := by decide +kernel
theorem dX7_does_39 : decode cX7_does 39 = .ok (.invokevirtual 161, 3) := by decide +kernel
theorem dX7_does_42 : decode cX7_does 42 = .ok (.ireturn, 1) := by decide +kernel
theorem dX7_does_43 : decode cX7_does 43 = .ok (.aload_n 0, 1) := by decide +kernel
theorem dX7_does_44 : decode cX7_does 44 = .ok (.iload_n 2, 1) := by decide +kernel
theorem dX7_does_45 : decode cX7_does 45 = .ok (.iload_n 3, 1) := by decide +kernel
theorem dX7_does_46 : decode cX7_does 46 = .ok (.invokevirtual 164, 3) := by decide +kernel
theorem dX7_does_49 : decode cX7_does 49 = .ok (.ireturn, 1) := by decide +kernel
theorem dX7_does_50 : decode cX7_does 50 = .ok (.aload_n 0, 1) := by decide +kernel
theorem dX7_does_51 : decode cX7_does 51 = .ok (.iload_n 2, 1) := by decide +kernel
theorem dX7_does_52 : decode cX7_does 52 = .ok (.iload_n 3, 1) := by decide +kernel
theorem dX7_does_53 : decode cX7_does 53 = .ok (.iload 4, 2) := by decide +kernel
theorem dX7_does_55 : decode cX7_does 55 = .ok (.invokevirtual 167, 3) := by decide +kernel
theorem dX7_does_58 : decode cX7_does 58 = .ok (.ireturn, 1) := by decide +kernel
theorem dX7_does_59 : decode cX7_does 59 = .ok (.aload_n 0, 1) := by decide +kernel
theorem dX7_does_60 : decode cX7_does 60 = .ok (.iload_n 2, 1) := by decide +kernel
theorem dX7_does_61 : decode cX7_does 61 = .ok (.invokevirtual 170, 3) := by decide +kernel
theorem dX7_does_64 : decode cX7_does 64 = .ok (.ireturn, 1) := by decide +kernel
theorem dX7_does_65 : decode cX7_does 65 = .ok (.aload_n 0, 1) := by decide +kernel
theorem dX7_does_66 : decode cX7_does 66 = .ok (.iload_n 2, 1) := by decide +kernel
theorem dX7_does_67 : decode cX7_does 67 = .ok (.iload_n 3, 1) := by decide +kernel
theorem dX7_does_68 : decode cX7_does 68 = .ok (.invokevirtual 173, 3) := by decide +kernel
theorem dX7_does_71 : decode cX7_does 71 = .ok (.ireturn, 1) := by decide +kernel
theorem dX7_does_72 : decode cX7_does 72 = .ok (.aload_n 0, 1) := by decide +kernel
theorem dX7_does_73 : decode cX7_does 73 = .ok (.iload_n 2, 1) := by decide +kernel
theorem dX7_does_74 : decode cX7_does 74 = .ok (.invokevirtual 176, 3) := by decide +kernel
theorem dX7_does_77 : decode cX7_does 77 = .ok (.ireturn, 1) := by decide +kernel
theorem dX7_acted_0 : decode cX7_acted 0 = .ok (.iconst 0, 1) := by decide +kernel
theorem dX7_acted_1 : decode cX7_acted 1 = .ok (.istore 5, 2) := by decide +kernel
theorem dX7_acted_3 : decode cX7_acted 3 = .ok (.iload 5, 2) := by decide +kernel
theorem dX7_acted_5 : decode cX7_acted 5 = .ok (.bipush 42, 2) := by decide +kernel
theorem dX7_acted_7 : decode cX7_acted 7 = .ok (.if_icmp .ge 23, 3) := by decide +kernel
theorem dX7_acted_10 : decode cX7_acted 10 = .ok (.aload_n 0, 1) := by decide +kernel
theorem dX7_acted_11 : decode cX7_acted 11 = .ok (.getfield 45, 3) := by decide +kernel
theorem dX7_acted_14 : decode cX7_acted 14 = .ok (.iload 5, 2) := by decide +kernel
theorem dX7_acted_16 : decode cX7_acted 16 = .ok (.aload_n 0, 1) := by decide +kernel
theorem dX7_acted_17 : decode cX7_acted 17 = .ok (.getfield 7, 3) := by decide +kernel
theorem dX7_acted_20 : decode cX7_acted 20 = .ok (.iload 5, 2) := by decide +kernel
theorem dX7_acted_22 : decode cX7_acted 22 = .ok (.iaload, 1) := by decide +kernel
theorem dX7_acted_23 : decode cX7_acted 23 = .ok (.iastore, 1) := by decide +kernel
theorem dX7_acted_24 : decode cX7_acted 24 = .ok (.iinc 5 1, 3) := by decide +kernel
theorem dX7_acted_27 : decode cX7_acted 27 = .ok (.goto (-24), 3) := by decide +kernel
theorem dX7_acted_30 : decode cX7_acted 30 = .ok (.aload_n 0, 1) := by decide +kernel
theorem dX7_acted_31 : decode cX7_acted 31 = .ok (.iload_n 1, 1) := by decide +kernel
theorem dX7_acted_32 : decode cX7_acted 32 = .ok (.iload_n 2, 1) := by decide +kernel
theorem dX7_acted_33 : decode cX7_acted 33 = .ok (.iload_n 3, 1) := by decide +kernel
theorem dX7_acted_34 : decode cX7_acted 34 = .ok (.iload 4, 2) := by decide +kernel
theorem dX7_acted_36 : decode cX7_acted 36 = .ok (.invokevirtual 179, 3) := by decide +kernel
theorem dX7_acted_39 : decode cX7_acted 39 = .ok (.istore 5, 2) := by decide +kernel
theorem dX7_acted_41 : decode cX7_acted 41 = .ok (.iload 5, 2) := by decide +kernel
theorem dX7_acted_43 : decode cX7_acted 43 = .ok (.ifCond .lt 55, 3) := by decide +kernel
theorem dX7_acted_46 : decode cX7_acted 46 = .ok (.iconst 0, 1) := by decide +kernel
theorem dX7_acted_47 : decode cX7_acted 47 = .ok (.istore 6, 2) := by decide +kernel
theorem dX7_acted_49 : decode cX7_acted 49 = .ok (.iload 6, 2) := by decide +kernel
theorem dX7_acted_51 : decode cX7_acted 51 = .ok (.bipush 42, 2) := by decide +kernel
theorem dX7_acted_53 : decode cX7_acted 53 = .ok (.if_icmp .ge 37, 3) := by decide +kernel
theorem dX7_acted_56 : decode cX7_acted 56 = .ok (.aload_n 0, 1) := by decide +kernel
theorem dX7_acted_57 : decode cX7_acted 57 = .ok (.getfield 42, 3) := by decide +kernel
theorem dX7_acted_60 : decode cX7_acted 60 = .ok (.iload 6, 2) := by decide +kernel
theorem dX7_acted_62 : decode cX7_acted 62 = .ok (.aload_n 0, 1) := by decide +kernel
theorem dX7_acted_63 : decode cX7_acted 63 = .ok (.getfield 7, 3) := by decide +kernel
theorem dX7_acted_66 : decode cX7_acted 66 = .ok (.iload 6, 2) := by decide +kernel
theorem dX7_acted_68 : decode cX7_acted 68 = .ok (.iaload, 1) := by decide +kernel
theorem dX7_acted_69 : decode cX7_acted 69 = .ok (.iastore, 1) := by decide +kernel
theorem dX7_acted_70 : decode cX7_acted 70 = .ok (.aload_n 0, 1) := by decide +kernel
theorem dX7_acted_71 : decode cX7_acted 71 = .ok (.getfield 7, 3) := by decide +kernel
theorem dX7_acted_74 : decode cX7_acted 74 = .ok (.iload 6, 2) := by decide +kernel
theorem dX7_acted_76 : decode cX7_acted 76 = .ok (.aload_n 0, 1) := by decide +kernel
theorem dX7_acted_77 : decode cX7_acted 77 = .ok (.getfield 45, 3) := by decide +kernel
theorem dX7_acted_80 : decode cX7_acted 80 = .ok (.iload 6, 2) := by decide +kernel
theorem dX7_acted_82 : decode cX7_acted 82 = .ok (.iaload, 1) := by decide +kernel
theorem dX7_acted_83 : decode cX7_acted 83 = .ok (.iastore, 1) := by decide +kernel
theorem dX7_acted_84 : decode cX7_acted 84 = .ok (.iinc 6 1, 3) := by decide +kernel
theorem dX7_acted_87 : decode cX7_acted 87 = .ok (.goto (-38), 3) := by decide +kernel
theorem dX7_acted_90 : decode cX7_acted 90 = .ok (.aload_n 0, 1) := by decide +kernel
theorem dX7_acted_91 : decode cX7_acted 91 = .ok (.invokevirtual 183, 3) := by decide +kernel
theorem dX7_acted_94 : decode cX7_acted 94 = .ok (.aload_n 0, 1) := by decide +kernel
theorem dX7_acted_95 : decode cX7_acted 95 = .ok (.invokevirtual 139, 3) := by decide +kernel
theorem dX7_acted_98 : decode cX7_acted 98 = .ok (.iload 5, 2) := by decide +kernel
theorem dX7_acted_100 : decode cX7_acted 100 = .ok (.ireturn, 1) := by decide +kernel
theorem dX7_joint_0 : decode cX7_joint 0 = .ok (.aload_n 0, 1) := by decide +kernel
theorem dX7_joint_1 : decode cX7_joint 1 = .ok (.iconst 0, 1) := by decide +kernel
theorem dX7_joint_2 : decode cX7_joint 2 = .ok (.iload_n 1, 1) := by decide +kernel
theorem dX7_joint_3 : decode cX7_joint 3 = .ok (.iload_n 2, 1) := by decide +kernel
theorem dX7_joint_4 : decode cX7_joint 4 = .ok (.iconst 0, 1) := by decide +kernel
theorem dX7_joint_5 : decode cX7_joint 5 = .ok (.invokevirtual 186, 3) := by decide +kernel
theorem dX7_joint_8 : decode cX7_joint 8 = .ok (.ireturn, 1) := by decide +kernel
theorem dX7_move_0 : decode cX7_move 0 = .ok (.aload_n 0, 1) := by decide +kernel
theorem dX7_move_1 : decode cX7_move 1 = .ok (.iconst 2, 1) := by decide +kernel
theorem dX7_move_2 : decode cX7_move 2 = .ok (.iload_n 1, 1) := by decide +kernel
theorem dX7_move_3 : decode cX7_move 3 = .ok (.iload_n 2, 1) := by decide +kernel
theorem dX7_move_4 : decode cX7_move 4 = .ok (.iload_n 3, 1) := by decide +kernel
theorem dX7_move_5 : decode cX7_move 5 = .ok (.invokevirtual 186, 3) := by decide +kernel
theorem dX7_move_8 : decode cX7_move 8 = .ok (.ireturn, 1) := by decide +kernel
theorem dX7_lose_0 : decode cX7_lose 0 = .ok (.aload_n 0, 1) := by decide +kernel
theorem dX7_lose_1 : decode cX7_lose 1 = .ok (.iconst 5, 1) := by decide +kernel
theorem dX7_lose_2 : decode cX7_lose 2 = .ok (.iload_n 1, 1) := by decide +kernel
theorem dX7_lose_3 : decode cX7_lose 3 = .ok (.iconst 0, 1) := by decide +kernel
theorem dX7_lose_4 : decode cX7_lose 4 = .ok (.iconst 0, 1) := by decide +kernel
theorem dX7_lose_5 : decode cX7_lose 5 = .ok (.invokevirtual 186, 3) := by decide +kernel
theorem dX7_lose_8 : decode cX7_lose 8 = .ok (.ireturn, 1) := by decide +kernel
theorem dX7_bar_0 : decode cX7_bar 0 = .ok (.aload_n 0, 1) := by decide +kernel
theorem dX7_bar_1 : decode cX7_bar 1 = .ok (.iconst 1, 1) := by decide +kernel
theorem dX7_bar_2 : decode cX7_bar 2 = .ok (.iload_n 1, 1) := by decide +kernel
theorem dX7_bar_3 : decode cX7_bar 3 = .ok (.iload_n 2, 1) := by decide +kernel
theorem dX7_bar_4 : decode cX7_bar 4 = .ok (.iconst 0, 1) := by decide +kernel
theorem dX7_bar_5 : decode cX7_bar 5 = .ok (.invokevirtual 186, 3) := by decide +kernel
theorem dX7_bar_8 : decode cX7_bar 8 = .ok (.ireturn, 1) := by decide +kernel
theorem dX7_out_0 : decode cX7_out 0 = .ok (.aload_n 0, 1) := by decide +kernel
theorem dX7_out_1 : decode cX7_out 1 = .ok (.iconst 3, 1) := by decide +kernel
theorem dX7_out_2 : decode cX7_out 2 = .ok (.iload_n 1, 1) := by decide +kernel
theorem dX7_out_3 : decode cX7_out 3 = .ok (.iconst 0, 1) := by decide +kernel
theorem dX7_out_4 : decode cX7_out 4 = .ok (.iconst 0, 1) := by decide +kernel
theorem dX7_out_5 : decode cX7_out 5 = .ok (.invokevirtual 186, 3) := by decide +kernel
theorem dX7_out_8 : decode cX7_out 8 = .ok (.ireturn, 1) := by decide +kernel
theorem dX7_weight_0 : decode cX7_weight 0 = .ok (.aload_n 0, 1) := by decide +kernel
theorem dX7_weight_1 : decode cX7_weight 1 = .ok (.iconst 4, 1) := by decide +kernel
theorem dX7_weight_2 : decode cX7_weight 2 = .ok (.iload_n 1, 1) := by decide +kernel
theorem dX7_weight_3 : decode cX7_weight 3 = .ok (.iload_n 2, 1) := by decide +kernel
theorem dX7_weight_4 : decode cX7_weight 4 = .ok (.iconst 0, 1) := by decide +kernel
theorem dX7_weight_5 : decode cX7_weight 5 = .ok (.invokevirtual 186, 3) := by decide +kernel
theorem dX7_weight_8 : decode cX7_weight 8 = .ok (.ireturn, 1) := by decide +kernel
theorem dX7_stepX_0 : decode cX7_stepX 0 = .ok (.aload_n 0, 1) := by decide +kernel
theorem dX7_stepX_1 : decode cX7_stepX 1 = .ok (.aload_n 0, 1) := by decide +kernel
theorem dX7_stepX_2 : decode cX7_stepX 2 = .ok (.iload_n 1, 1) := by decide +kernel
theorem dX7_stepX_3 : decode cX7_stepX 3 = .ok (.invokevirtual 101, 3) := by decide +kernel
theorem dX7_stepX_6 : decode cX7_stepX 6 = .ok (.invokevirtual 83, 3) := by decide +kernel
theorem dX7_stepX_9 : decode cX7_stepX 9 = .ok (.aload_n 0, 1) := by decide +kernel
theorem dX7_stepX_10 : decode cX7_stepX 10 = .ok (.aload_n 0, 1) := by decide +kernel
theorem dX7_stepX_11 : decode cX7_stepX 11 = .ok (.iload_n 1, 1) := by decide +kernel
theorem dX7_stepX_12 : decode cX7_stepX 12 = .ok (.invokevirtual 98, 3) := by decide +kernel
theorem dX7_stepX_15 : decode cX7_stepX 15 = .ok (.invokevirtual 83, 3) := by decide +kernel
theorem dX7_stepX_18 : decode cX7_stepX 18 = .ok (.isub, 1) := by decide +kernel
theorem dX7_stepX_19 : decode cX7_stepX 19 = .ok (.ireturn, 1) := by decide +kernel
theorem dX7_stepY_0 : decode cX7_stepY 0 = .ok (.aload_n 0, 1) := by decide +kernel
theorem dX7_stepY_1 : decode cX7_stepY 1 = .ok (.aload_n 0, 1) := by decide +kernel
theorem dX7_stepY_2 : decode cX7_stepY 2 = .ok (.iload_n 1, 1) := by decide +kernel
theorem dX7_stepY_3 : decode cX7_stepY 3 = .ok (.invokevirtual 101, 3) := by decide +kernel
theorem dX7_stepY_6 : decode cX7_stepY 6 = .ok (.invokevirtual 87, 3) := by decide +kernel
theorem dX7_stepY_9 : decode cX7_stepY 9 = .ok (.aload_n 0, 1) := by decide +kernel
theorem dX7_stepY_10 : decode cX7_stepY 10 = .ok (.aload_n 0, 1) := by decide +kernel
theorem dX7_stepY_11 : decode cX7_stepY 11 = .ok (.iload_n 1, 1) := by decide +kernel
theorem dX7_stepY_12 : decode cX7_stepY 12 = .ok (.invokevirtual 98, 3) := by decide +kernel
theorem dX7_stepY_15 : decode cX7_stepY 15 = .ok (.invokevirtual 87, 3) := by decide +kernel
theorem dX7_stepY_18 : decode cX7_stepY 18 = .ok (.isub, 1) := by decide +kernel
theorem dX7_stepY_19 : decode cX7_stepY 19 = .ok (.ireturn, 1) := by decide +kernel
theorem dX7_laysCells_0 : decode cX7_laysCells 0 = .ok (.iconst 0, 1) := by decide +kernel
theorem dX7_laysCells_1 : decode cX7_laysCells 1 = .ok (.istore_n 2, 1) := by decide +kernel
theorem dX7_laysCells_2 : decode cX7_laysCells 2 = .ok (.iload_n 2, 1) := by decide +kernel
theorem dX7_laysCells_3 : decode cX7_laysCells 3 = .ok (.bipush 108, 2) := by decide +kernel
theorem dX7_laysCells_5 : decode cX7_laysCells 5 = .ok (.if_icmp .ge 16, 3) := by decide +kernel
theorem dX7_laysCells_8 : decode cX7_laysCells 8 = .ok (.aload_n 0, 1) := by decide +kernel
theorem dX7_laysCells_9 : decode cX7_laysCells 9 = .ok (.getfield 48, 3) := by decide +kernel
theorem dX7_laysCells_12 : decode cX7_laysCells 12 = .ok (.iload_n 2, 1) := by decide +kernel
theorem dX7_laysCells_13 : decode cX7_laysCells 13 = .ok (.lconst 0, 1) := by decide +kernel
theorem dX7_laysCells_14 : decode cX7_laysCells 14 = .ok (.lastore, 1) := by decide +kernel
theorem dX7_laysCells_15 : decode cX7_laysCells 15 = .ok (.iinc 2 1, 3) := by decide +kernel
theorem dX7_laysCells_18 : decode cX7_laysCells 18 = .ok (.goto (-16), 3) := by decide +kernel
theorem dX7_laysCells_21 : decode cX7_laysCells 21 = .ok (.iconst 0, 1) := by decide +kernel
theorem dX7_laysCells_22 : decode cX7_laysCells 22 = .ok (.istore_n 2, 1) := by decide +kernel
theorem dX7_laysCells_23 : decode cX7_laysCells 23 = .ok (.iload_n 2, 1) := by decide +kernel
theorem dX7_laysCells_24 : decode cX7_laysCells 24 = .ok (.iconst 2, 1) := by decide +kernel
theorem dX7_laysCells_25 : decode cX7_laysCells 25 = .ok (.aload_n 0, 1) := by decide +kernel
theorem dX7_laysCells_26 : decode cX7_laysCells 26 = .ok (.getfield 7, 3) := by decide +kernel
theorem dX7_laysCells_29 : decode cX7_laysCells 29 = .ok (.iconst 1, 1) := by decide +kernel
theorem dX7_laysCells_30 : decode cX7_laysCells 30 = .ok (.iaload, 1) := by decide +kernel
theorem dX7_laysCells_31 : decode cX7_laysCells 31 = .ok (.imul, 1) := by decide +kernel
theorem dX7_laysCells_32 : decode cX7_laysCells 32 = .ok (.if_icmp .ge 69, 3) := by decide +kernel
theorem dX7_laysCells_35 : decode cX7_laysCells 35 = .ok (.iload_n 1, 1) := by decide +kernel
theorem dX7_laysCells_36 : decode cX7_laysCells 36 = .ok (.iload_n 2, 1) := by decide +kernel
theorem dX7_laysCells_37 : decode cX7_laysCells 37 = .ok (.iconst 2, 1) := by decide +kernel
theorem dX7_laysCells_38 : decode cX7_laysCells 38 = .ok (.idiv, 1) := by decide +kernel
theorem dX7_laysCells_39 : decode cX7_laysCells 39 = .ok (.ishr, 1) := by decide +kernel
theorem dX7_laysCells_40 : decode cX7_laysCells 40 = .ok (.iconst 1, 1) := by decide +kernel
theorem dX7_laysCells_41 : decode cX7_laysCells 41 = .ok (.iand, 1) := by decide +kernel
theorem dX7_laysCells_42 : decode cX7_laysCells 42 = .ok (.iconst 1, 1) := by decide +kernel
theorem dX7_laysCells_43 : decode cX7_laysCells 43 = .ok (.if_icmp .ne 52, 3) := by decide +kernel
theorem dX7_laysCells_46 : decode cX7_laysCells 46 = .ok (.aload_n 0, 1) := by decide +kernel
theorem dX7_laysCells_47 : decode cX7_laysCells 47 = .ok (.getfield 48, 3) := by decide +kernel
theorem dX7_laysCells_50 : decode cX7_laysCells 50 = .ok (.bipush 18, 2) := by decide +kernel
theorem dX7_laysCells_52 : decode cX7_laysCells 52 = .ok (.aload_n 0, 1) := by decide +kernel
theorem dX7_laysCells_53 : decode cX7_laysCells 53 = .ok (.iload_n 2, 1) := by decide +kernel
theorem dX7_laysCells_54 : decode cX7_laysCells 54 = .ok (.invokevirtual 98, 3) := by decide +kernel
theorem dX7_laysCells_57 : decode cX7_laysCells 57 = .ok (.imul, 1) := by decide +kernel
theorem dX7_laysCells_58 : decode cX7_laysCells 58 = .ok (.iload_n 2, 1) := by decide +kernel
theorem dX7_laysCells_59 : decode cX7_laysCells 59 = .ok (.iconst 2, 1) := by decide +kernel
theorem dX7_laysCells_60 : decode cX7_laysCells 60 = .ok (.idiv, 1) := by decide +kernel
theorem dX7_laysCells_61 : decode cX7_laysCells 61 = .ok (.iadd, 1) := by decide +kernel
theorem dX7_laysCells_62 : decode cX7_laysCells 62 = .ok (.aload_n 0, 1) := by decide +kernel
theorem dX7_laysCells_63 : decode cX7_laysCells 63 = .ok (.iload_n 2, 1) := by decide +kernel
theorem dX7_laysCells_64 : decode cX7_laysCells 64 = .ok (.invokevirtual 189, 3) := by decide +kernel
theorem dX7_laysCells_67 : decode cX7_laysCells 67 = .ok (.i2l, 1) := by decide +kernel
theorem dX7_laysCells_68 : decode cX7_laysCells 68 = .ok (.lastore, 1) := by decide +kernel
theorem dX7_laysCells_69 : decode cX7_laysCells 69 = .ok (.aload_n 0, 1) := by decide +kernel
theorem dX7_laysCells_70 : decode cX7_laysCells 70 = .ok (.getfield 48, 3) := by decide +kernel
theorem dX7_laysCells_73 : decode cX7_laysCells 73 = .ok (.bipush 18, 2) := by decide +kernel
theorem dX7_laysCells_75 : decode cX7_laysCells 75 = .ok (.aload_n 0, 1) := by decide +kernel
theorem dX7_laysCells_76 : decode cX7_laysCells 76 = .ok (.iload_n 2, 1) := by decide +kernel
theorem dX7_laysCells_77 : decode cX7_laysCells 77 = .ok (.invokevirtual 98, 3) := by decide +kernel
theorem dX7_laysCells_80 : decode cX7_laysCells 80 = .ok (.imul, 1) := by decide +kernel
theorem dX7_laysCells_81 : decode cX7_laysCells 81 = .ok (.bipush 9, 2) := by decide +kernel
theorem dX7_laysCells_83 : decode cX7_laysCells 83 = .ok (.iadd, 1) := by decide +kernel
theorem dX7_laysCells_84 : decode cX7_laysCells 84 = .ok (.iload_n 2, 1) := by decide +kernel
theorem dX7_laysCells_85 : decode cX7_laysCells 85 = .ok (.iconst 2, 1) := by decide +kernel
theorem dX7_laysCells_86 : decode cX7_laysCells 86 = .ok (.idiv, 1) := by decide +kernel
theorem dX7_laysCells_87 : decode cX7_laysCells 87 = .ok (.iadd, 1) := by decide +kernel
theorem dX7_laysCells_88 : decode cX7_laysCells 88 = .ok (.aload_n 0, 1) := by decide +kernel
theorem dX7_laysCells_89 : decode cX7_laysCells 89 = .ok (.iload_n 2, 1) := by decide +kernel
theorem dX7_laysCells_90 : decode cX7_laysCells 90 = .ok (.invokevirtual 192, 3) := by decide +kernel
theorem dX7_laysCells_93 : decode cX7_laysCells 93 = .ok (.i2l, 1) := by decide +kernel
theorem dX7_laysCells_94 : decode cX7_laysCells 94 = .ok (.lastore, 1) := by decide +kernel
theorem dX7_laysCells_95 : decode cX7_laysCells 95 = .ok (.iinc 2 1, 3) := by decide +kernel
theorem dX7_laysCells_98 : decode cX7_laysCells 98 = .ok (.goto (-75), 3) := by decide +kernel
theorem dX7_laysCells_101 : decode cX7_laysCells 101 = .ok (.return_, 1) := by decide +kernel
theorem dX7_swaps_0 : decode cX7_swaps 0 = .ok (.iconst 0, 1) := by decide +kernel
theorem dX7_swaps_1 : decode cX7_swaps 1 = .ok (.istore_n 3, 1) := by decide +kernel
theorem dX7_swaps_2 : decode cX7_swaps 2 = .ok (.iload_n 3, 1) := by decide +kernel
theorem dX7_swaps_3 : decode cX7_swaps 3 = .ok (.bipush 9, 2) := by decide +kernel
theorem dX7_swaps_5 : decode cX7_swaps 5 = .ok (.if_icmp .ge 57, 3) := by decide +kernel
theorem dX7_swaps_8 : decode cX7_swaps 8 = .ok (.aload_n 0, 1) := by decide +kernel
theorem dX7_swaps_9 : decode cX7_swaps 9 = .ok (.getfield 48, 3) := by decide +kernel
theorem dX7_swaps_12 : decode cX7_swaps 12 = .ok (.bipush 9, 2) := by decide +kernel
theorem dX7_swaps_14 : decode cX7_swaps 14 = .ok (.iload_n 1, 1) := by decide +kernel
theorem dX7_swaps_15 : decode cX7_swaps 15 = .ok (.imul, 1) := by decide +kernel
theorem dX7_swaps_16 : decode cX7_swaps 16 = .ok (.iload_n 3, 1) := by decide +kernel
theorem dX7_swaps_17 : decode cX7_swaps 17 = .ok (.iadd, 1) := by decide +kernel
theorem dX7_swaps_18 : decode cX7_swaps 18 = .ok (.laload, 1) := by decide +kernel
theorem dX7_swaps_19 : decode cX7_swaps 19 = .ok (.lstore 4, 2) := by decide +kernel
theorem dX7_swaps_21 : decode cX7_swaps 21 = .ok (.aload_n 0, 1) := by decide +kernel
theorem dX7_swaps_22 : decode cX7_swaps 22 = .ok (.getfield 48, 3) := by decide +kernel
theorem dX7_swaps_25 : decode cX7_swaps 25 = .ok (.bipush 9, 2) := by decide +kernel
theorem dX7_swaps_27 : decode cX7_swaps 27 = .ok (.iload_n 1, 1) := by decide +kernel
theorem dX7_swaps_28 : decode cX7_swaps 28 = .ok (.imul, 1) := by decide +kernel
theorem dX7_swaps_29 : decode cX7_swaps 29 = .ok (.iload_n 3, 1) := by decide +kernel
theorem dX7_swaps_30 : decode cX7_swaps 30 = .ok (.iadd, 1) := by decide +kernel
theorem dX7_swaps_31 : decode cX7_swaps 31 = .ok (.aload_n 0, 1) := by decide +kernel
theorem dX7_swaps_32 : decode cX7_swaps 32 = .ok (.getfield 48, 3) := by decide +kernel
theorem dX7_swaps_35 : decode cX7_swaps 35 = .ok (.bipush 9, 2) := by decide +kernel
theorem dX7_swaps_37 : decode cX7_swaps 37 = .ok (.iload_n 2, 1) := by decide +kernel
theorem dX7_swaps_38 : decode cX7_swaps 38 = .ok (.imul, 1) := by decide +kernel
theorem dX7_swaps_39 : decode cX7_swaps 39 = .ok (.iload_n 3, 1) := by decide +kernel
theorem dX7_swaps_40 : decode cX7_swaps 40 = .ok (.iadd, 1) := by decide +kernel
theorem dX7_swaps_41 : decode cX7_swaps 41 = .ok (.laload, 1) := by decide +kernel
theorem dX7_swaps_42 : decode cX7_swaps 42 = .ok (.lastore, 1) := by decide +kernel
theorem dX7_swaps_43 : decode cX7_swaps 43 = .ok (.aload_n 0, 1) := by decide +kernel
theorem dX7_swaps_44 : decode cX7_swaps 44 = .ok (.getfield 48, 3) := by decide +kernel
theorem dX7_swaps_47 : decode cX7_swaps 47 = .ok (.bipush 9, 2) := by decide +kernel
theorem dX7_swaps_49 : decode cX7_swaps 49 = .ok (.iload_n 2, 1) := by decide +kernel
theorem dX7_swaps_50 : decode cX7_swaps 50 = .ok (.imul, 1) := by decide +kernel
theorem dX7_swaps_51 : decode cX7_swaps 51 = .ok (.iload_n 3, 1) := by decide +kernel
theorem dX7_swaps_52 : decode cX7_swaps 52 = .ok (.iadd, 1) := by decide +kernel
theorem dX7_swaps_53 : decode cX7_swaps 53 = .ok (.lload 4, 2) := by decide +kernel
theorem dX7_swaps_55 : decode cX7_swaps 55 = .ok (.lastore, 1) := by decide +kernel
theorem dX7_swaps_56 : decode cX7_swaps 56 = .ok (.iinc 3 1, 3) := by decide +kernel
theorem dX7_swaps_59 : decode cX7_swaps 59 = .ok (.goto (-57), 3) := by decide +kernel
theorem dX7_swaps_62 : decode cX7_swaps 62 = .ok (.return_, 1) := by decide +kernel
theorem dX7_solves_0 : decode cX7_solves 0 = .ok (.aload_n 0, 1) := by decide +kernel
theorem dX7_solves_1 : decode cX7_solves 1 = .ok (.iload_n 1, 1) := by decide +kernel
theorem dX7_solves_2 : decode cX7_solves 2 = .ok (.invokevirtual 195, 3) := by decide +kernel
theorem dX7_solves_5 : decode cX7_solves 5 = .ok (.iconst 0, 1) := by decide +kernel
theorem dX7_solves_6 : decode cX7_solves 6 = .ok (.istore_n 2, 1) := by decide +kernel
theorem dX7_solves_7 : decode cX7_solves 7 = .ok (.aload_n 0, 1) := by decide +kernel
theorem dX7_solves_8 : decode cX7_solves 8 = .ok (.lconst 1, 1) := by decide +kernel
theorem dX7_solves_9 : decode cX7_solves 9 = .ok (.putfield 198, 3) := by decide +kernel
theorem dX7_solves_12 : decode cX7_solves 12 = .ok (.aload_n 0, 1) := by decide +kernel
theorem dX7_solves_13 : decode cX7_solves 13 = .ok (.getfield 7, 3) := by decide +kernel
theorem dX7_solves_16 : decode cX7_solves 16 = .ok (.iconst 1, 1) := by decide +kernel
theorem dX7_solves_17 : decode cX7_solves 17 = .ok (.iaload, 1) := by decide +kernel
theorem dX7_solves_18 : decode cX7_solves 18 = .ok (.iconst 1, 1) := by decide +kernel
theorem dX7_solves_19 : decode cX7_solves 19 = .ok (.isub, 1) := by decide +kernel
theorem dX7_solves_20 : decode cX7_solves 20 = .ok (.istore_n 3, 1) := by decide +kernel
theorem dX7_solves_21 : decode cX7_solves 21 = .ok (.iload_n 3, 1) := by decide +kernel
theorem dX7_solves_22 : decode cX7_solves 22 = .ok (.ifCond .lt 187, 3) := by decide +kernel
theorem dX7_solves_25 : decode cX7_solves 25 = .ok (.iload_n 2, 1) := by decide +kernel
theorem dX7_solves_26 : decode cX7_solves 26 = .ok (.istore 4, 2) := by decide +kernel
theorem dX7_solves_28 : decode cX7_solves 28 = .ok (.iload 4, 2) := by decide +kernel
theorem dX7_solves_30 : decode cX7_solves 30 = .ok (.bipush 12, 2) := by decide +kernel
theorem dX7_solves_32 : decode cX7_solves 32 = .ok (.if_icmp .ge 26, 3) := by decide +kernel
theorem dX7_solves_35 : decode cX7_solves 35 = .ok (.aload_n 0, 1) := by decide +kernel
theorem dX7_solves_36 : decode cX7_solves 36 = .ok (.getfield 48, 3) := by decide +kernel
theorem dX7_solves_39 : decode cX7_solves 39 = .ok (.bipush 9, 2) := by decide +kernel
theorem dX7_solves_41 : decode cX7_solves 41 = .ok (.iload 4, 2) := by decide +kernel
theorem dX7_solves_43 : decode cX7_solves 43 = .ok (.imul, 1) := by decide +kernel
theorem dX7_solves_44 : decode cX7_solves 44 = .ok (.iload_n 3, 1) := by decide +kernel
theorem dX7_solves_45 : decode cX7_solves 45 = .ok (.iadd, 1) := by decide +kernel
theorem dX7_solves_46 : decode cX7_solves 46 = .ok (.laload, 1) := by decide +kernel
theorem dX7_solves_47 : decode cX7_solves 47 = .ok (.lconst 0, 1) := by decide +kernel
theorem dX7_solves_48 : decode cX7_solves 48 = .ok (.lcmp, 1) := by decide +kernel
theorem dX7_solves_49 : decode cX7_solves 49 = .ok (.ifCond .ne 9, 3) := by decide +kernel
theorem dX7_solves_52 : decode cX7_solves 52 = .ok (.iinc 4 1, 3) := by decide +kernel
theorem dX7_solves_55 : decode cX7_solves 55 = .ok (.goto (-27), 3) := by decide +kernel
theorem dX7_solves_58 : decode cX7_solves 58 = .ok (.iload 4, 2) := by decide +kernel
theorem dX7_solves_60 : decode cX7_solves 60 = .ok (.bipush 12, 2) := by decide +kernel
theorem dX7_solves_62 : decode cX7_solves 62 = .ok (.if_icmp .ge 141, 3) := by decide +kernel
theorem dX7_solves_65 : decode cX7_solves 65 = .ok (.aload_n 0, 1) := by decide +kernel
theorem dX7_solves_66 : decode cX7_solves 66 = .ok (.iload_n 2, 1) := by decide +kernel
theorem dX7_solves_67 : decode cX7_solves 67 = .ok (.iload 4, 2) := by decide +kernel
theorem dX7_solves_69 : decode cX7_solves 69 = .ok (.invokevirtual 202, 3) := by decide +kernel
theorem dX7_solves_72 : decode cX7_solves 72 = .ok (.aload_n 0, 1) := by decide +kernel
theorem dX7_solves_73 : decode cX7_solves 73 = .ok (.getfield 48, 3) := by decide +kernel
theorem dX7_solves_76 : decode cX7_solves 76 = .ok (.bipush 9, 2) := by decide +kernel
theorem dX7_solves_78 : decode cX7_solves 78 = .ok (.iload_n 2, 1) := by decide +kernel
theorem dX7_solves_79 : decode cX7_solves 79 = .ok (.imul, 1) := by decide +kernel
theorem dX7_solves_80 : decode cX7_solves 80 = .ok (.iload_n 3, 1) := by decide +kernel
theorem dX7_solves_81 : decode cX7_solves 81 = .ok (.iadd, 1) := by decide +kernel
theorem dX7_solves_82 : decode cX7_solves 82 = .ok (.laload, 1) := by decide +kernel
theorem dX7_solves_83 : decode cX7_solves 83 = .ok (.lstore 5, 2) := by decide +kernel
theorem dX7_solves_85 : decode cX7_solves 85 = .ok (.iconst 0, 1) := by decide +kernel
theorem dX7_solves_86 : decode cX7_solves 86 = .ok (.istore 7, 2) := by decide +kernel
theorem dX7_solves_88 : decode cX7_solves 88 = .ok (.iload 7, 2) := by decide +kernel
theorem dX7_solves_90 : decode cX7_solves 90 = .ok (.bipush 12, 2) := by decide +kernel
theorem dX7_solves_92 : decode cX7_solves 92 = .ok (.if_icmp .ge 95, 3) := by decide +kernel
theorem dX7_solves_95 : decode cX7_solves 95 = .ok (.aload_n 0, 1) := by decide +kernel
theorem dX7_solves_96 : decode cX7_solves 96 = .ok (.getfield 48, 3) := by decide +kernel
theorem dX7_solves_99 : decode cX7_solves 99 = .ok (.bipush 9, 2) := by decide +kernel
theorem dX7_solves_101 : decode cX7_solves 101 = .ok (.iload 7, 2) := by decide +kernel
theorem dX7_solves_103 : decode cX7_solves 103 = .ok (.imul, 1) := by decide +kernel
theorem dX7_solves_104 : decode cX7_solves 104 = .ok (.iload_n 3, 1) := by decide +kernel
theorem dX7_solves_105 : decode cX7_solves 105 = .ok (.iadd, 1) := by decide +kernel
theorem dX7_solves_106 : decode cX7_solves 106 = .ok (.laload, 1) := by decide +kernel
theorem dX7_solves_107 : decode cX7_solves 107 = .ok (.lstore 8, 2) := by decide +kernel
theorem dX7_solves_109 : decode cX7_solves 109 = .ok (.iconst 0, 1) := by decide +kernel
theorem dX7_solves_110 : decode cX7_solves 110 = .ok (.istore 10, 2) := by decide +kernel
theorem dX7_solves_112 : decode cX7_solves 112 = .ok (.iload 10, 2) := by decide +kernel
theorem dX7_solves_114 : decode cX7_solves 114 = .ok (.bipush 9, 2) := by decide +kernel
theorem dX7_solves_116 : decode cX7_solves 116 = .ok (.if_icmp .ge 65, 3) := by decide +kernel
theorem dX7_solves_119 : decode cX7_solves 119 = .ok (.iload 7, 2) := by decide +kernel
theorem dX7_solves_121 : decode cX7_solves 121 = .ok (.iload_n 2, 1) := by decide +kernel
theorem dX7_solves_122 : decode cX7_solves 122 = .ok (.if_icmp .eq 59, 3) := by decide +kernel
theorem dX7_solves_125 : decode cX7_solves 125 = .ok (.aload_n 0, 1) := by decide +kernel
theorem dX7_solves_126 : decode cX7_solves 126 = .ok (.getfield 48, 3) := by decide +kernel
theorem dX7_solves_129 : decode cX7_solves 129 = .ok (.bipush 9, 2) := by decide +kernel
theorem dX7_solves_131 : decode cX7_solves 131 = .ok (.iload 7, 2) := by decide +kernel
theorem dX7_solves_133 : decode cX7_solves 133 = .ok (.imul, 1) := by decide +kernel
theorem dX7_solves_134 : decode cX7_solves 134 = .ok (.iload 10, 2) := by decide +kernel
theorem dX7_solves_136 : decode cX7_solves 136 = .ok (.iadd, 1) := by decide +kernel
theorem dX7_solves_137 : decode cX7_solves 137 = .ok (.lload 5, 2) := by decide +kernel
theorem dX7_solves_139 : decode cX7_solves 139 = .ok (.aload_n 0, 1) := by decide +kernel
theorem dX7_solves_140 : decode cX7_solves 140 = .ok (.getfield 48, 3) := by decide +kernel
theorem dX7_solves_143 : decode cX7_solves 143 = .ok (.bipush 9, 2) := by decide +kernel
theorem dX7_solves_145 : decode cX7_solves 145 = .ok (.iload 7, 2) := by decide +kernel
theorem dX7_solves_147 : decode cX7_solves 147 = .ok (.imul, 1) := by decide +kernel
theorem dX7_solves_148 : decode cX7_solves 148 = .ok (.iload 10, 2) := by decide +kernel
theorem dX7_solves_150 : decode cX7_solves 150 = .ok (.iadd, 1) := by decide +kernel
theorem dX7_solves_151 : decode cX7_solves 151 = .ok (.laload, 1) := by decide +kernel
theorem dX7_solves_152 : decode cX7_solves 152 = .ok (.lmul, 1) := by decide +kernel
theorem dX7_solves_153 : decode cX7_solves 153 = .ok (.lload 8, 2) := by decide +kernel
theorem dX7_solves_155 : decode cX7_solves 155 = .ok (.aload_n 0, 1) := by decide +kernel
theorem dX7_solves_156 : decode cX7_solves 156 = .ok (.getfield 48, 3) := by decide +kernel
theorem dX7_solves_159 : decode cX7_solves 159 = .ok (.bipush 9, 2) := by decide +kernel
theorem dX7_solves_161 : decode cX7_solves 161 = .ok (.iload_n 2, 1) := by decide +kernel
theorem dX7_solves_162 : decode cX7_solves 162 = .ok (.imul, 1) := by decide +kernel
theorem dX7_solves_163 : decode cX7_solves 163 = .ok (.iload 10, 2) := by decide +kernel
theorem dX7_solves_165 : decode cX7_solves 165 = .ok (.iadd, 1) := by decide +kernel
theorem dX7_solves_166 : decode cX7_solves 166 = .ok (.laload, 1) := by decide +kernel
theorem dX7_solves_167 : decode cX7_solves 167 = .ok (.lmul, 1) := by decide +kernel
theorem dX7_solves_168 : decode cX7_solves 168 = .ok (.lsub, 1) := by decide +kernel
theorem dX7_solves_169 : decode cX7_solves 169 = .ok (.aload_n 0, 1) := by decide +kernel
theorem dX7_solves_170 : decode cX7_solves 170 = .ok (.getfield 198, 3) := by decide +kernel
theorem dX7_solves_173 : decode cX7_solves 173 = .ok (.ldiv, 1) := by decide +kernel
theorem dX7_solves_174 : decode cX7_solves 174 = .ok (.lastore, 1) := by decide +kernel
theorem dX7_solves_175 : decode cX7_solves 175 = .ok (.iinc 10 1, 3) := by decide +kernel
theorem dX7_solves_178 : decode cX7_solves 178 = .ok (.goto (-66), 3) := by decide +kernel
theorem dX7_solves_181 : decode cX7_solves 181 = .ok (.iinc 7 1, 3) := by decide +kernel
theorem dX7_solves_184 : decode cX7_solves 184 = .ok (.goto (-96), 3) := by decide +kernel
theorem dX7_solves_187 : decode cX7_solves 187 = .ok (.aload_n 0, 1) := by decide +kernel
theorem dX7_solves_188 : decode cX7_solves 188 = .ok (.lload 5, 2) := by decide +kernel
theorem dX7_solves_190 : decode cX7_solves 190 = .ok (.putfield 198, 3) := by decide +kernel
theorem dX7_solves_193 : decode cX7_solves 193 = .ok (.aload_n 0, 1) := by decide +kernel
theorem dX7_solves_194 : decode cX7_solves 194 = .ok (.getfield 51, 3) := by decide +kernel
theorem dX7_solves_197 : decode cX7_solves 197 = .ok (.iload_n 2, 1) := by decide +kernel
theorem dX7_solves_198 : decode cX7_solves 198 = .ok (.iload_n 3, 1) := by decide +kernel
theorem dX7_solves_199 : decode cX7_solves 199 = .ok (.iastore, 1) := by decide +kernel
theorem dX7_solves_200 : decode cX7_solves 200 = .ok (.iinc 2 1, 3) := by decide +kernel
theorem dX7_solves_203 : decode cX7_solves 203 = .ok (.iinc 3 (-1), 3) := by decide +kernel
theorem dX7_solves_206 : decode cX7_solves 206 = .ok (.goto (-185), 3) := by decide +kernel
theorem dX7_solves_209 : decode cX7_solves 209 = .ok (.iload_n 2, 1) := by decide +kernel
theorem dX7_solves_210 : decode cX7_solves 210 = .ok (.ireturn, 1) := by decide +kernel
theorem dX7_allBars_0 : decode cX7_allBars 0 = .ok (.iconst 1, 1) := by decide +kernel
theorem dX7_allBars_1 : decode cX7_allBars 1 = .ok (.aload_n 0, 1) := by decide +kernel
theorem dX7_allBars_2 : decode cX7_allBars 2 = .ok (.getfield 7, 3) := by decide +kernel
theorem dX7_allBars_5 : decode cX7_allBars 5 = .ok (.iconst 1, 1) := by decide +kernel
theorem dX7_allBars_6 : decode cX7_allBars 6 = .ok (.iaload, 1) := by decide +kernel
theorem dX7_allBars_7 : decode cX7_allBars 7 = .ok (.ishl, 1) := by decide +kernel
theorem dX7_allBars_8 : decode cX7_allBars 8 = .ok (.iconst 1, 1) := by decide +kernel
theorem dX7_allBars_9 : decode cX7_allBars 9 = .ok (.isub, 1) := by decide +kernel
theorem dX7_allBars_10 : decode cX7_allBars 10 = .ok (.ireturn, 1) := by decide +kernel
theorem dX7_laysAll_0 : decode cX7_laysAll 0 = .ok (.aload_n 0, 1) := by decide +kernel
theorem dX7_laysAll_1 : decode cX7_laysAll 1 = .ok (.aload_n 0, 1) := by decide +kernel
theorem dX7_laysAll_2 : decode cX7_laysAll 2 = .ok (.aload_n 0, 1) := by decide +kernel
theorem dX7_laysAll_3 : decode cX7_laysAll 3 = .ok (.invokevirtual 206, 3) := by decide +kernel
theorem dX7_laysAll_6 : decode cX7_laysAll 6 = .ok (.invokevirtual 210, 3) := by decide +kernel
theorem dX7_laysAll_9 : decode cX7_laysAll 9 = .ok (.putfield 213, 3) := by decide +kernel
theorem dX7_laysAll_12 : decode cX7_laysAll 12 = .ok (.return_, 1) := by decide +kernel
theorem dX7_rowOf_0 : decode cX7_rowOf 0 = .ok (.bipush (-4), 2) := by decide +kernel
theorem dX7_rowOf_2 : decode cX7_rowOf 2 = .ok (.istore_n 2, 1) := by decide +kernel
theorem dX7_rowOf_3 : decode cX7_rowOf 3 = .ok (.iconst 0, 1) := by decide +kernel
theorem dX7_rowOf_4 : decode cX7_rowOf 4 = .ok (.istore_n 3, 1) := by decide +kernel
theorem dX7_rowOf_5 : decode cX7_rowOf 5 = .ok (.iload_n 3, 1) := by decide +kernel
theorem dX7_rowOf_6 : decode cX7_rowOf 6 = .ok (.aload_n 0, 1) := by decide +kernel
theorem dX7_rowOf_7 : decode cX7_rowOf 7 = .ok (.getfield 213, 3) := by decide +kernel
theorem dX7_rowOf_10 : decode cX7_rowOf 10 = .ok (.if_icmp .ge 25, 3) := by decide +kernel
theorem dX7_rowOf_13 : decode cX7_rowOf 13 = .ok (.aload_n 0, 1) := by decide +kernel
theorem dX7_rowOf_14 : decode cX7_rowOf 14 = .ok (.getfield 51, 3) := by decide +kernel
theorem dX7_rowOf_17 : decode cX7_rowOf 17 = .ok (.iload_n 3, 1) := by decide +kernel
theorem dX7_rowOf_18 : decode cX7_rowOf 18 = .ok (.iaload, 1) := by decide +kernel
theorem dX7_rowOf_19 : decode cX7_rowOf 19 = .ok (.iload_n 1, 1) := by decide +kernel
theorem dX7_rowOf_20 : decode cX7_rowOf 20 = .ok (.if_icmp .ne 7, 3) := by decide +kernel
theorem dX7_rowOf_23 : decode cX7_rowOf 23 = .ok (.iload_n 3, 1) := by decide +kernel
theorem dX7_rowOf_24 : decode cX7_rowOf 24 = .ok (.goto 4, 3) := by decide +kernel
theorem dX7_rowOf_27 : decode cX7_rowOf 27 = .ok (.iload_n 2, 1) := by decide +kernel
theorem dX7_rowOf_28 : decode cX7_rowOf 28 = .ok (.istore_n 2, 1) := by decide +kernel
theorem dX7_rowOf_29 : decode cX7_rowOf 29 = .ok (.iinc 3 1, 3) := by decide +kernel
theorem dX7_rowOf_32 : decode cX7_rowOf 32 = .ok (.goto (-27), 3) := by decide +kernel
theorem dX7_rowOf_35 : decode cX7_rowOf 35 = .ok (.iload_n 2, 1) := by decide +kernel
theorem dX7_rowOf_36 : decode cX7_rowOf 36 = .ok (.ireturn, 1) := by decide +kernel
theorem dX7_leader_0 : decode cX7_leader 0 = .ok (.iload_n 1, 1) := by decide +kernel
theorem dX7_leader_1 : decode cX7_leader 1 = .ok (.istore_n 2, 1) := by decide +kernel
theorem dX7_leader_2 : decode cX7_leader 2 = .ok (.iconst 0, 1) := by decide +kernel
theorem dX7_leader_3 : decode cX7_leader 3 = .ok (.istore_n 3, 1) := by decide +kernel
theorem dX7_leader_4 : decode cX7_leader 4 = .ok (.iload_n 3, 1) := by decide +kernel
theorem dX7_leader_5 : decode cX7_leader 5 = .ok (.aload_n 0, 1) := by decide +kernel
theorem dX7_leader_6 : decode cX7_leader 6 = .ok (.getfield 7, 3) := by decide +kernel
theorem dX7_leader_9 : decode cX7_leader 9 = .ok (.iconst 1, 1) := by decide +kernel
theorem dX7_leader_10 : decode cX7_leader 10 = .ok (.iaload, 1) := by decide +kernel
theorem dX7_leader_11 : decode cX7_leader 11 = .ok (.if_icmp .ge 26, 3) := by decide +kernel
theorem dX7_leader_14 : decode cX7_leader 14 = .ok (.aload_n 0, 1) := by decide +kernel
theorem dX7_leader_15 : decode cX7_leader 15 = .ok (.iload_n 3, 1) := by decide +kernel
theorem dX7_leader_16 : decode cX7_leader 16 = .ok (.invokevirtual 216, 3) := by decide +kernel
theorem dX7_leader_19 : decode cX7_leader 19 = .ok (.ifCond .ge 12, 3) := by decide +kernel
theorem dX7_leader_22 : decode cX7_leader 22 = .ok (.iload_n 2, 1) := by decide +kernel
theorem dX7_leader_23 : decode cX7_leader 23 = .ok (.ifCond .ne 5, 3) := by decide +kernel
theorem dX7_leader_26 : decode cX7_leader 26 = .ok (.iload_n 3, 1) := by decide +kernel
theorem dX7_leader_27 : decode cX7_leader 27 = .ok (.ireturn, 1) := by decide +kernel
theorem dX7_leader_28 : decode cX7_leader 28 = .ok (.iinc 2 (-1), 3) := by decide +kernel
theorem dX7_leader_31 : decode cX7_leader 31 = .ok (.iinc 3 1, 3) := by decide +kernel
theorem dX7_leader_34 : decode cX7_leader 34 = .ok (.goto (-30), 3) := by decide +kernel
theorem dX7_leader_37 : decode cX7_leader 37 = .ok (.bipush (-4), 2) := by decide +kernel
theorem dX7_leader_39 : decode cX7_leader 39 = .ok (.ireturn, 1) := by decide +kernel
theorem dX7_partOf_0 : decode cX7_partOf 0 = .ok (.aload_n 0, 1) := by decide +kernel
theorem dX7_partOf_1 : decode cX7_partOf 1 = .ok (.iload_n 1, 1) := by decide +kernel
theorem dX7_partOf_2 : decode cX7_partOf 2 = .ok (.invokevirtual 219, 3) := by decide +kernel
theorem dX7_partOf_5 : decode cX7_partOf 5 = .ok (.istore_n 3, 1) := by decide +kernel
theorem dX7_partOf_6 : decode cX7_partOf 6 = .ok (.aload_n 0, 1) := by decide +kernel
theorem dX7_partOf_7 : decode cX7_partOf 7 = .ok (.iload_n 2, 1) := by decide +kernel
theorem dX7_partOf_8 : decode cX7_partOf 8 = .ok (.invokevirtual 216, 3) := by decide +kernel
theorem dX7_partOf_11 : decode cX7_partOf 11 = .ok (.istore 4, 2) := by decide +kernel
theorem dX7_partOf_13 : decode cX7_partOf 13 = .ok (.iload 4, 2) := by decide +kernel
theorem dX7_partOf_15 : decode cX7_partOf 15 = .ok (.ifCond .ge 19, 3) := by decide +kernel
theorem dX7_partOf_18 : decode cX7_partOf 18 = .ok (.iload_n 2, 1) := by decide +kernel
theorem dX7_partOf_19 : decode cX7_partOf 19 = .ok (.iload_n 3, 1) := by decide +kernel
theorem dX7_partOf_20 : decode cX7_partOf 20 = .ok (.if_icmp .ne 10, 3) := by decide +kernel
theorem dX7_partOf_23 : decode cX7_partOf 23 = .ok (.aload_n 0, 1) := by decide +kernel
theorem dX7_partOf_24 : decode cX7_partOf 24 = .ok (.getfield 198, 3) := by decide +kernel
theorem dX7_partOf_27 : decode cX7_partOf 27 = .ok (.goto 20, 3) := by decide +kernel
theorem dX7_partOf_30 : decode cX7_partOf 30 = .ok (.lconst 0, 1) := by decide +kernel
theorem dX7_partOf_31 : decode cX7_partOf 31 = .ok (.goto 16, 3) := by decide +kernel
theorem dX7_partOf_34 : decode cX7_partOf 34 = .ok (.aload_n 0, 1) := by decide +kernel
theorem dX7_partOf_35 : decode cX7_partOf 35 = .ok (.getfield 48, 3) := by decide +kernel
theorem dX7_partOf_38 : decode cX7_partOf 38 = .ok (.bipush 9, 2) := by decide +kernel
theorem dX7_partOf_40 : decode cX7_partOf 40 = .ok (.iload 4, 2) := by decide +kernel
theorem dX7_partOf_42 : decode cX7_partOf 42 = .ok (.imul, 1) := by decide +kernel
theorem dX7_partOf_43 : decode cX7_partOf 43 = .ok (.iload_n 3, 1) := by decide +kernel
theorem dX7_partOf_44 : decode cX7_partOf 44 = .ok (.iadd, 1) := by decide +kernel
theorem dX7_partOf_45 : decode cX7_partOf 45 = .ok (.laload, 1) := by decide +kernel
theorem dX7_partOf_46 : decode cX7_partOf 46 = .ok (.lneg, 1) := by decide +kernel
theorem dX7_partOf_47 : decode cX7_partOf 47 = .ok (.lreturn, 1) := by decide +kernel
theorem dX7_pullOf_0 : decode cX7_pullOf 0 = .ok (.lconst 0, 1) := by decide +kernel
theorem dX7_pullOf_1 : decode cX7_pullOf 1 = .ok (.lstore_n 2, 1) := by decide +kernel
theorem dX7_pullOf_2 : decode cX7_pullOf 2 = .ok (.iconst 0, 1) := by decide +kernel
theorem dX7_pullOf_3 : decode cX7_pullOf 3 = .ok (.istore 4, 2) := by decide +kernel
theorem dX7_pullOf_5 : decode cX7_pullOf 5 = .ok (.iload 4, 2) := by decide +kernel
theorem dX7_pullOf_7 : decode cX7_pullOf 7 = .ok (.aload_n 0, 1) := by decide +kernel
theorem dX7_pullOf_8 : decode cX7_pullOf 8 = .ok (.getfield 7, 3) := by decide +kernel
theorem dX7_pullOf_11 : decode cX7_pullOf 11 = .ok (.iconst 1, 1) := by decide +kernel
theorem dX7_pullOf_12 : decode cX7_pullOf 12 = .ok (.iaload, 1) := by decide +kernel
theorem dX7_pullOf_13 : decode cX7_pullOf 13 = .ok (.aload_n 0, 1) := by decide +kernel
theorem dX7_pullOf_14 : decode cX7_pullOf 14 = .ok (.getfield 213, 3) := by decide +kernel
theorem dX7_pullOf_17 : decode cX7_pullOf 17 = .ok (.isub, 1) := by decide +kernel
theorem dX7_pullOf_18 : decode cX7_pullOf 18 = .ok (.if_icmp .ge 31, 3) := by decide +kernel
theorem dX7_pullOf_21 : decode cX7_pullOf 21 = .ok (.lload_n 2, 1) := by decide +kernel
theorem dX7_pullOf_22 : decode cX7_pullOf 22 = .ok (.aload_n 0, 1) := by decide +kernel
theorem dX7_pullOf_23 : decode cX7_pullOf 23 = .ok (.getfield 7, 3) := by decide +kernel
theorem dX7_pullOf_26 : decode cX7_pullOf 26 = .ok (.bipush 33, 2) := by decide +kernel
theorem dX7_pullOf_28 : decode cX7_pullOf 28 = .ok (.iload 4, 2) := by decide +kernel
theorem dX7_pullOf_30 : decode cX7_pullOf 30 = .ok (.iadd, 1) := by decide +kernel
theorem dX7_pullOf_31 : decode cX7_pullOf 31 = .ok (.iaload, 1) := by decide +kernel
theorem dX7_pullOf_32 : decode cX7_pullOf 32 = .ok (.i2l, 1) := by decide +kernel
theorem dX7_pullOf_33 : decode cX7_pullOf 33 = .ok (.aload_n 0, 1) := by decide +kernel
theorem dX7_pullOf_34 : decode cX7_pullOf 34 = .ok (.iload 4, 2) := by decide +kernel
theorem dX7_pullOf_36 : decode cX7_pullOf 36 = .ok (.iload_n 1, 1) := by decide +kernel
theorem dX7_pullOf_37 : decode cX7_pullOf 37 = .ok (.invokevirtual 222, 3) := by decide +kernel
theorem dX7_pullOf_40 : decode cX7_pullOf 40 = .ok (.lmul, 1) := by decide +kernel
theorem dX7_pullOf_41 : decode cX7_pullOf 41 = .ok (.ladd, 1) := by decide +kernel
theorem dX7_pullOf_42 : decode cX7_pullOf 42 = .ok (.lstore_n 2, 1) := by decide +kernel
theorem dX7_pullOf_43 : decode cX7_pullOf 43 = .ok (.iinc 4 1, 3) := by decide +kernel
theorem dX7_pullOf_46 : decode cX7_pullOf 46 = .ok (.goto (-41), 3) := by decide +kernel
theorem dX7_pullOf_49 : decode cX7_pullOf 49 = .ok (.lload_n 2, 1) := by decide +kernel
theorem dX7_pullOf_50 : decode cX7_pullOf 50 = .ok (.lreturn, 1) := by decide +kernel
theorem dX7_isNeeded_0 : decode cX7_isNeeded 0 = .ok (.iconst 1, 1) := by decide +kernel
theorem dX7_isNeeded_1 : decode cX7_isNeeded 1 = .ok (.istore_n 2, 1) := by decide +kernel
theorem dX7_isNeeded_2 : decode cX7_isNeeded 2 = .ok (.iconst 0, 1) := by decide +kernel
theorem dX7_isNeeded_3 : decode cX7_isNeeded 3 = .ok (.istore_n 3, 1) := by decide +kernel
theorem dX7_isNeeded_4 : decode cX7_isNeeded 4 = .ok (.iload_n 3, 1) := by decide +kernel
theorem dX7_isNeeded_5 : decode cX7_isNeeded 5 = .ok (.aload_n 0, 1) := by decide +kernel
theorem dX7_isNeeded_6 : decode cX7_isNeeded 6 = .ok (.getfield 7, 3) := by decide +kernel
theorem dX7_isNeeded_9 : decode cX7_isNeeded 9 = .ok (.iconst 1, 1) := by decide +kernel
theorem dX7_isNeeded_10 : decode cX7_isNeeded 10 = .ok (.iaload, 1) := by decide +kernel
theorem dX7_isNeeded_11 : decode cX7_isNeeded 11 = .ok (.aload_n 0, 1) := by decide +kernel
theorem dX7_isNeeded_12 : decode cX7_isNeeded 12 = .ok (.getfield 213, 3) := by decide +kernel
theorem dX7_isNeeded_15 : decode cX7_isNeeded 15 = .ok (.isub, 1) := by decide +kernel
theorem dX7_isNeeded_16 : decode cX7_isNeeded 16 = .ok (.if_icmp .ge 30, 3) := by decide +kernel
theorem dX7_isNeeded_19 : decode cX7_isNeeded 19 = .ok (.iload_n 2, 1) := by decide +kernel
theorem dX7_isNeeded_20 : decode cX7_isNeeded 20 = .ok (.ifCond .eq 18, 3) := by decide +kernel
theorem dX7_isNeeded_23 : decode cX7_isNeeded 23 = .ok (.aload_n 0, 1) := by decide +kernel
theorem dX7_isNeeded_24 : decode cX7_isNeeded 24 = .ok (.iload_n 3, 1) := by decide +kernel
theorem dX7_isNeeded_25 : decode cX7_isNeeded 25 = .ok (.iload_n 1, 1) := by decide +kernel
theorem dX7_isNeeded_26 : decode cX7_isNeeded 26 = .ok (.invokevirtual 222, 3) := by decide +kernel
theorem dX7_isNeeded_29 : decode cX7_isNeeded 29 = .ok (.lconst 0, 1) := by decide +kernel
theorem dX7_isNeeded_30 : decode cX7_isNeeded 30 = .ok (.lcmp, 1) := by decide +kernel
theorem dX7_isNeeded_31 : decode cX7_isNeeded 31 = .ok (.ifCond .ne 7, 3) := by decide +kernel
theorem dX7_isNeeded_34 : decode cX7_isNeeded 34 = .ok (.iconst 1, 1) := by decide +kernel
theorem dX7_isNeeded_35 : decode cX7_isNeeded 35 = .ok (.goto 4, 3) := by decide +kernel
theorem dX7_isNeeded_38 : decode cX7_isNeeded 38 = .ok (.iconst 0, 1) := by decide +kernel
theorem dX7_isNeeded_39 : decode cX7_isNeeded 39 = .ok (.istore_n 2, 1) := by decide +kernel
theorem dX7_isNeeded_40 : decode cX7_isNeeded 40 = .ok (.iinc 3 1, 3) := by decide +kernel
theorem dX7_isNeeded_43 : decode cX7_isNeeded 43 = .ok (.goto (-39), 3) := by decide +kernel
theorem dX7_isNeeded_46 : decode cX7_isNeeded 46 = .ok (.iload_n 2, 1) := by decide +kernel
theorem dX7_isNeeded_47 : decode cX7_isNeeded 47 = .ok (.ireturn, 1) := by decide +kernel
theorem dX7_common_0 : decode cX7_common 0 = .ok (.lload_n 0, 1) := by decide +kernel
theorem dX7_common_1 : decode cX7_common 1 = .ok (.lconst 0, 1) := by decide +kernel
theorem dX7_common_2 : decode cX7_common 2 = .ok (.lcmp, 1) := by decide +kernel
theorem dX7_common_3 : decode cX7_common 3 = .ok (.ifCond .ge 8, 3) := by decide +kernel
theorem dX7_common_6 : decode cX7_common 6 = .ok (.lload_n 0, 1) := by decide +kernel
theorem dX7_common_7 : decode cX7_common 7 = .ok (.lneg, 1) := by decide +kernel
theorem dX7_common_8 : decode cX7_common 8 = .ok (.goto 4, 3) := by decide +kernel
theorem dX7_common_11 : decode cX7_common 11 = .ok (.lload_n 0, 1) := by decide +kernel
theorem dX7_common_12 : decode cX7_common 12 = .ok (.lstore 4, 2) := by decide +kernel
theorem dX7_common_14 : decode cX7_common 14 = .ok (.lload_n 2, 1) := by decide +kernel
theorem dX7_common_15 : decode cX7_common 15 = .ok (.lconst 0, 1) := by decide +kernel
theorem dX7_common_16 : decode cX7_common 16 = .ok (.lcmp, 1) := by decide +kernel
theorem dX7_common_17 : decode cX7_common 17 = .ok (.ifCond .ge 8, 3) := by decide +kernel
theorem dX7_common_20 : decode cX7_common 20 = .ok (.lload_n 2, 1) := by decide +kernel
theorem dX7_common_21 : decode cX7_common 21 = .ok (.lneg, 1) := by decide +kernel
theorem dX7_common_22 : decode cX7_common 22 = .ok (.goto 4, 3) := by decide +kernel
theorem dX7_common_25 : decode cX7_common 25 = .ok (.lload_n 2, 1) := by decide +kernel
theorem dX7_common_26 : decode cX7_common 26 = .ok (.lstore 6, 2) := by decide +kernel
theorem dX7_common_28 : decode cX7_common 28 = .ok (.lload 6, 2) := by decide +kernel
theorem dX7_common_30 : decode cX7_common 30 = .ok (.lconst 0, 1) := by decide +kernel
theorem dX7_common_31 : decode cX7_common 31 = .ok (.lcmp, 1) := by decide +kernel
theorem dX7_common_32 : decode cX7_common 32 = .ok (.ifCond .eq 21, 3) := by decide +kernel
theorem dX7_common_35 : decode cX7_common 35 = .ok (.lload 4, 2) := by decide +kernel
theorem dX7_common_37 : decode cX7_common 37 = .ok (.lload 6, 2) := by decide +kernel
theorem dX7_common_39 : decode cX7_common 39 = .ok (.lrem, 1) := by decide +kernel
theorem dX7_common_40 : decode cX7_common 40 = .ok (.lstore 8, 2) := by decide +kernel
theorem dX7_common_42 : decode cX7_common 42 = .ok (.lload 6, 2) := by decide +kernel
theorem dX7_common_44 : decode cX7_common 44 = .ok (.lstore 4, 2) := by decide +kernel
theorem dX7_common_46 : decode cX7_common 46 = .ok (.lload 8, 2) := by decide +kernel
theorem dX7_common_48 : decode cX7_common 48 = .ok (.lstore 6, 2) := by decide +kernel
theorem dX7_common_50 : decode cX7_common 50 = .ok (.goto (-22), 3) := by decide +kernel
theorem dX7_common_53 : decode cX7_common 53 = .ok (.lload 4, 2) := by decide +kernel
theorem dX7_common_55 : decode cX7_common 55 = .ok (.lreturn, 1) := by decide +kernel
theorem dX7_told_0 : decode cX7_told 0 = .ok (.lload_n 0, 1) := by decide +kernel
theorem dX7_told_1 : decode cX7_told 1 = .ok (.lload_n 2, 1) := by decide +kernel
theorem dX7_told_2 : decode cX7_told 2 = .ok (.invokestatic 226, 3) := by decide +kernel
theorem dX7_told_5 : decode cX7_told 5 = .ok (.lstore 5, 2) := by decide +kernel
theorem dX7_told_7 : decode cX7_told 7 = .ok (.lload_n 0, 1) := by decide +kernel
theorem dX7_told_8 : decode cX7_told 8 = .ok (.lload 5, 2) := by decide +kernel
theorem dX7_told_10 : decode cX7_told 10 = .ok (.ldiv, 1) := by decide +kernel
theorem dX7_told_11 : decode cX7_told 11 = .ok (.lstore 7, 2) := by decide +kernel
theorem dX7_told_13 : decode cX7_told 13 = .ok (.lload_n 2, 1) := by decide +kernel
theorem dX7_told_14 : decode cX7_told 14 = .ok (.lload 5, 2) := by decide +kernel
theorem dX7_told_16 : decode cX7_told 16 = .ok (.ldiv, 1) := by decide +kernel
theorem dX7_told_17 : decode cX7_told 17 = .ok (.lstore 9, 2) := by decide +kernel
theorem dX7_told_19 : decode cX7_told 19 = .ok (.iload 4, 2) := by decide +kernel
theorem dX7_told_21 : decode cX7_told 21 = .ok (.iconst 2, 1) := by decide +kernel
theorem dX7_told_22 : decode cX7_told 22 = .ok (.if_icmp .ne 43, 3) := by decide +kernel
theorem dX7_told_25 : decode cX7_told 25 = .ok (.lload 7, 2) := by decide +kernel
theorem dX7_told_27 : decode cX7_told 27 = .ok (.invokestatic 94, 3) := by decide +kernel
theorem dX7_told_30 : decode cX7_told 30 = .ok (.lload 9, 2) := by decide +kernel
theorem dX7_told_32 : decode cX7_told 32 = .ok (.invokestatic 94, 3) := by decide +kernel
theorem dX7_told_35 : decode cX7_told 35 = .ok (.imul, 1) := by decide +kernel
theorem dX7_told_36 : decode cX7_told 36 = .ok (.ifCond .ne 7, 3) := by decide +kernel
theorem dX7_told_39 : decode cX7_told 39 = .ok (.lconst 0, 1) := by decide +kernel
theorem dX7_told_40 : decode cX7_told 40 = .ok (.goto 24, 3) := by decide +kernel
theorem dX7_told_43 : decode cX7_told 43 = .ok (.lload 7, 2) := by decide +kernel
theorem dX7_told_45 : decode cX7_told 45 = .ok (.invokestatic 94, 3) := by decide +kernel
theorem dX7_told_48 : decode cX7_told 48 = .ok (.lload 9, 2) := by decide +kernel
theorem dX7_told_50 : decode cX7_told 50 = .ok (.invokestatic 94, 3) := by decide +kernel
theorem dX7_told_53 : decode cX7_told 53 = .ok (.imul, 1) := by decide +kernel
theorem dX7_told_54 : decode cX7_told 54 = .ok (.ifCond .le 7, 3) := by decide +kernel
theorem dX7_told_57 : decode cX7_told 57 = .ok (.lconst 1, 1) := by decide +kernel
theorem dX7_told_58 : decode cX7_told 58 = .ok (.goto 6, 3) := by decide +kernel
theorem dX7_told_61 : decode cX7_told 61 = .ok (.ldc2_w 230, 3) := by decide +kernel
theorem dX7_told_64 : decode cX7_told 64 = .ok (.lreturn, 1) := by decide +kernel
theorem dX7_told_65 : decode cX7_told 65 = .ok (.iload 4, 2) := by decide +kernel
theorem dX7_told_67 : decode cX7_told 67 = .ok (.ifCond .ne 8, 3) := by decide +kernel
theorem dX7_told_70 : decode cX7_told 70 = .ok (.lload 7, 2) := by decide +kernel
theorem dX7_told_72 : decode cX7_told 72 = .ok (.goto 5, 3) := by decide +kernel
theorem dX7_told_75 : decode cX7_told 75 = .ok (.lload 9, 2) := by decide +kernel
theorem dX7_told_77 : decode cX7_told 77 = .ok (.lstore 11, 2) := by decide +kernel
theorem dX7_told_79 : decode cX7_told 79 = .ok (.lload 11, 2) := by decide +kernel
theorem dX7_told_81 : decode cX7_told 81 = .ok (.lconst 0, 1) := by decide +kernel
theorem dX7_told_82 : decode cX7_told 82 = .ok (.lcmp, 1) := by decide +kernel
theorem dX7_told_83 : decode cX7_told 83 = .ok (.ifCond .ge 9, 3) := by decide +kernel
theorem dX7_told_86 : decode cX7_told 86 = .ok (.lload 11, 2) := by decide +kernel
theorem dX7_told_88 : decode cX7_told 88 = .ok (.lneg, 1) := by decide +kernel
theorem dX7_told_89 : decode cX7_told 89 = .ok (.goto 5, 3) := by decide +kernel
theorem dX7_told_92 : decode cX7_told 92 = .ok (.lload 11, 2) := by decide +kernel
theorem dX7_told_94 : decode cX7_told 94 = .ok (.lreturn, 1) := by decide +kernel
theorem dX7_at_0 : decode cX7_at 0 = .ok (.aload_n 0, 1) := by decide +kernel
theorem dX7_at_1 : decode cX7_at 1 = .ok (.iload_n 1, 1) := by decide +kernel
theorem dX7_at_2 : decode cX7_at 2 = .ok (.invokevirtual 128, 3) := by decide +kernel
theorem dX7_at_5 : decode cX7_at 5 = .ok (.ifCond .ne 5, 3) := by decide +kernel
theorem dX7_at_8 : decode cX7_at 8 = .ok (.iconst (-1), 1) := by decide +kernel
theorem dX7_at_9 : decode cX7_at 9 = .ok (.ireturn, 1) := by decide +kernel
theorem dX7_at_10 : decode cX7_at 10 = .ok (.iconst 0, 1) := by decide +kernel
theorem dX7_at_11 : decode cX7_at 11 = .ok (.istore_n 3, 1) := by decide +kernel
theorem dX7_at_12 : decode cX7_at 12 = .ok (.iconst 0, 1) := by decide +kernel
theorem dX7_at_13 : decode cX7_at 13 = .ok (.istore 4, 2) := by decide +kernel
theorem dX7_at_15 : decode cX7_at 15 = .ok (.iload 4, 2) := by decide +kernel
theorem dX7_at_17 : decode cX7_at 17 = .ok (.iconst 2, 1) := by decide +kernel
theorem dX7_at_18 : decode cX7_at 18 = .ok (.aload_n 0, 1) := by decide +kernel
theorem dX7_at_19 : decode cX7_at 19 = .ok (.getfield 7, 3) := by decide +kernel
theorem dX7_at_22 : decode cX7_at 22 = .ok (.iconst 1, 1) := by decide +kernel
theorem dX7_at_23 : decode cX7_at 23 = .ok (.iaload, 1) := by decide +kernel
theorem dX7_at_24 : decode cX7_at 24 = .ok (.imul, 1) := by decide +kernel
theorem dX7_at_25 : decode cX7_at 25 = .ok (.if_icmp .ge 34, 3) := by decide +kernel
theorem dX7_at_28 : decode cX7_at 28 = .ok (.iload_n 3, 1) := by decide +kernel
theorem dX7_at_29 : decode cX7_at 29 = .ok (.aload_n 0, 1) := by decide +kernel
theorem dX7_at_30 : decode cX7_at 30 = .ok (.iload 4, 2) := by decide +kernel
theorem dX7_at_32 : decode cX7_at 32 = .ok (.invokevirtual 98, 3) := by decide +kernel
theorem dX7_at_35 : decode cX7_at 35 = .ok (.iload_n 1, 1) := by decide +kernel
theorem dX7_at_36 : decode cX7_at 36 = .ok (.if_icmp .ne 14, 3) := by decide +kernel
theorem dX7_at_39 : decode cX7_at 39 = .ok (.iconst 1, 1) := by decide +kernel
theorem dX7_at_40 : decode cX7_at 40 = .ok (.aload_n 0, 1) := by decide +kernel
theorem dX7_at_41 : decode cX7_at 41 = .ok (.iload 4, 2) := by decide +kernel
theorem dX7_at_43 : decode cX7_at 43 = .ok (.invokevirtual 101, 3) := by decide +kernel
theorem dX7_at_46 : decode cX7_at 46 = .ok (.ishl, 1) := by decide +kernel
theorem dX7_at_47 : decode cX7_at 47 = .ok (.goto 4, 3) := by decide +kernel
theorem dX7_at_50 : decode cX7_at 50 = .ok (.iconst 0, 1) := by decide +kernel
theorem dX7_at_51 : decode cX7_at 51 = .ok (.ior, 1) := by decide +kernel
theorem dX7_at_52 : decode cX7_at 52 = .ok (.istore_n 3, 1) := by decide +kernel
theorem dX7_at_53 : decode cX7_at 53 = .ok (.iinc 4 1, 3) := by decide +kernel
theorem dX7_at_56 : decode cX7_at 56 = .ok (.goto (-41), 3) := by decide +kernel
theorem dX7_at_59 : decode cX7_at 59 = .ok (.iload_n 2, 1) := by decide +kernel
theorem dX7_at_60 : decode cX7_at 60 = .ok (.ifCond .ne 11, 3) := by decide +kernel
theorem dX7_at_63 : decode cX7_at 63 = .ok (.aload_n 0, 1) := by decide +kernel
theorem dX7_at_64 : decode cX7_at 64 = .ok (.iload_n 1, 1) := by decide +kernel
theorem dX7_at_65 : decode cX7_at 65 = .ok (.invokevirtual 83, 3) := by decide +kernel
theorem dX7_at_68 : decode cX7_at 68 = .ok (.goto 39, 3) := by decide +kernel
theorem dX7_at_71 : decode cX7_at 71 = .ok (.iload_n 2, 1) := by decide +kernel
theorem dX7_at_72 : decode cX7_at 72 = .ok (.iconst 1, 1) := by decide +kernel
theorem dX7_at_73 : decode cX7_at 73 = .ok (.if_icmp .ne 11, 3) := by decide +kernel
theorem dX7_at_76 : decode cX7_at 76 = .ok (.aload_n 0, 1) := by decide +kernel
theorem dX7_at_77 : decode cX7_at 77 = .ok (.iload_n 1, 1) := by decide +kernel
theorem dX7_at_78 : decode cX7_at 78 = .ok (.invokevirtual 87, 3) := by decide +kernel
theorem dX7_at_81 : decode cX7_at 81 = .ok (.goto 26, 3) := by decide +kernel
theorem dX7_at_84 : decode cX7_at 84 = .ok (.iload_n 2, 1) := by decide +kernel
theorem dX7_at_85 : decode cX7_at 85 = .ok (.iconst 2, 1) := by decide +kernel
theorem dX7_at_86 : decode cX7_at 86 = .ok (.if_icmp .ne 11, 3) := by decide +kernel
theorem dX7_at_89 : decode cX7_at 89 = .ok (.aload_n 0, 1) := by decide +kernel
theorem dX7_at_90 : decode cX7_at 90 = .ok (.iload_n 1, 1) := by decide +kernel
theorem dX7_at_91 : decode cX7_at 91 = .ok (.invokevirtual 142, 3) := by decide +kernel
theorem dX7_at_94 : decode cX7_at 94 = .ok (.goto 13, 3) := by decide +kernel
theorem dX7_at_97 : decode cX7_at 97 = .ok (.iload_n 2, 1) := by decide +kernel
theorem dX7_at_98 : decode cX7_at 98 = .ok (.iconst 3, 1) := by decide +kernel
theorem dX7_at_99 : decode cX7_at 99 = .ok (.if_icmp .ne 7, 3) := by decide +kernel
theorem dX7_at_102 : decode cX7_at 102 = .ok (.iload_n 3, 1) := by decide +kernel
theorem dX7_at_103 : decode cX7_at 103 = .ok (.goto 4, 3) := by decide +kernel
theorem dX7_at_106 : decode cX7_at 106 = .ok (.iconst (-1), 1) := by decide +kernel
theorem dX7_at_107 : decode cX7_at 107 = .ok (.ireturn, 1) := by decide +kernel
theorem dX7_of_0 : decode cX7_of 0 = .ok (.aload_n 0, 1) := by decide +kernel
theorem dX7_of_1 : decode cX7_of 1 = .ok (.iload_n 1, 1) := by decide +kernel
theorem dX7_of_2 : decode cX7_of 2 = .ok (.invokevirtual 152, 3) := by decide +kernel
theorem dX7_of_5 : decode cX7_of 5 = .ok (.ifCond .ne 5, 3) := by decide +kernel
theorem dX7_of_8 : decode cX7_of 8 = .ok (.iconst (-1), 1) := by decide +kernel
theorem dX7_of_9 : decode cX7_of 9 = .ok (.ireturn, 1) := by decide +kernel
theorem dX7_of_10 : decode cX7_of 10 = .ok (.aload_n 0, 1) := by decide +kernel
theorem dX7_of_11 : decode cX7_of 11 = .ok (.invokevirtual 232, 3) := by decide +kernel
theorem dX7_of_14 : decode cX7_of 14 = .ok (.iload_n 2, 1) := by decide +kernel
theorem dX7_of_15 : decode cX7_of 15 = .ok (.tableswitch 73 0 3 #[29, 37, 45, 59], 29) := by decide +kernel
theorem dX7_of_44 : decode cX7_of 44 = .ok (.aload_n 0, 1) := by decide +kernel
theorem dX7_of_45 : decode cX7_of 45 = .ok (.iconst 2, 1) := by decide +kernel
theorem dX7_of_46 : decode cX7_of 46 = .ok (.iload_n 1, 1) := by decide +kernel
theorem dX7_of_47 : decode cX7_of 47 = .ok (.imul, 1) := by decide +kernel
theorem dX7_of_48 : decode cX7_of 48 = .ok (.invokevirtual 98, 3) := by decide +kernel
theorem dX7_of_51 : decode cX7_of 51 = .ok (.ireturn, 1) := by decide +kernel
theorem dX7_of_52 : decode cX7_of 52 = .ok (.aload_n 0, 1) := by decide +kernel
theorem dX7_of_53 : decode cX7_of 53 = .ok (.iconst 2, 1) := by decide +kernel
theorem dX7_of_54 : decode cX7_of 54 = .ok (.iload_n 1, 1) := by decide +kernel
theorem dX7_of_55 : decode cX7_of 55 = .ok (.imul, 1) := by decide +kernel
theorem dX7_of_56 : decode cX7_of 56 = .ok (.invokevirtual 101, 3) := by decide +kernel
theorem dX7_of_59 : decode cX7_of 59 = .ok (.ireturn, 1) := by decide +kernel
theorem dX7_of_60 : decode cX7_of 60 = .ok (.aload_n 0, 1) := by decide +kernel
theorem dX7_of_61 : decode cX7_of 61 = .ok (.iload_n 1, 1) := by decide +kernel
theorem dX7_of_62 : decode cX7_of 62 = .ok (.invokevirtual 216, 3) := by decide +kernel
theorem dX7_of_65 : decode cX7_of 65 = .ok (.ifCond .ge 7, 3) := by decide +kernel
theorem dX7_of_68 : decode cX7_of 68 = .ok (.iconst 1, 1) := by decide +kernel
theorem dX7_of_69 : decode cX7_of 69 = .ok (.goto 4, 3) := by decide +kernel
theorem dX7_of_72 : decode cX7_of 72 = .ok (.iconst 0, 1) := by decide +kernel
theorem dX7_of_73 : decode cX7_of 73 = .ok (.ireturn, 1) := by decide +kernel
theorem dX7_of_74 : decode cX7_of 74 = .ok (.aload_n 0, 1) := by decide +kernel
theorem dX7_of_75 : decode cX7_of 75 = .ok (.iload_n 1, 1) := by decide +kernel
theorem dX7_of_76 : decode cX7_of 76 = .ok (.invokevirtual 235, 3) := by decide +kernel
theorem dX7_of_79 : decode cX7_of 79 = .ok (.ifCond .eq 7, 3) := by decide +kernel
theorem dX7_of_82 : decode cX7_of 82 = .ok (.iconst 1, 1) := by decide +kernel
theorem dX7_of_83 : decode cX7_of 83 = .ok (.goto 4, 3) := by decide +kernel
theorem dX7_of_86 : decode cX7_of 86 = .ok (.iconst 0, 1) := by decide +kernel
theorem dX7_of_87 : decode cX7_of 87 = .ok (.ireturn, 1) := by decide +kernel
theorem dX7_of_88 : decode cX7_of 88 = .ok (.iconst (-1), 1) := by decide +kernel
theorem dX7_of_89 : decode cX7_of 89 = .ok (.ireturn, 1) := by decide +kernel
theorem dX7_stress_0 : decode cX7_stress 0 = .ok (.aload_n 0, 1) := by decide +kernel
theorem dX7_stress_1 : decode cX7_stress 1 = .ok (.invokevirtual 232, 3) := by decide +kernel
theorem dX7_stress_4 : decode cX7_stress 4 = .ok (.iload_n 1, 1) := by decide +kernel
theorem dX7_stress_5 : decode cX7_stress 5 = .ok (.i2l, 1) := by decide +kernel
theorem dX7_stress_6 : decode cX7_stress 6 = .ok (.lconst 0, 1) := by decide +kernel
theorem dX7_stress_7 : decode cX7_stress 7 = .ok (.aload_n 0, 1) := by decide +kernel
theorem dX7_stress_8 : decode cX7_stress 8 = .ok (.getfield 7, 3) := by decide +kernel
theorem dX7_stress_11 : decode cX7_stress 11 = .ok (.iconst 1, 1) := by decide +kernel
theorem dX7_stress_12 : decode cX7_stress 12 = .ok (.iaload, 1) := by decide +kernel
theorem dX7_stress_13 : decode cX7_stress 13 = .ok (.aload_n 0, 1) := by decide +kernel
theorem dX7_stress_14 : decode cX7_stress 14 = .ok (.getfield 213, 3) := by decide +kernel
theorem dX7_stress_17 : decode cX7_stress 17 = .ok (.isub, 1) := by decide +kernel
theorem dX7_stress_18 : decode cX7_stress 18 = .ok (.iconst 1, 1) := by decide +kernel
theorem dX7_stress_19 : decode cX7_stress 19 = .ok (.isub, 1) := by decide +kernel
theorem dX7_stress_20 : decode cX7_stress 20 = .ok (.i2l, 1) := by decide +kernel
theorem dX7_stress_21 : decode cX7_stress 21 = .ok (.invokestatic 79, 3) := by decide +kernel
theorem dX7_stress_24 : decode cX7_stress 24 = .ok (.ifCond .eq 23, 3) := by decide +kernel
theorem dX7_stress_27 : decode cX7_stress 27 = .ok (.aload_n 0, 1) := by decide +kernel
theorem dX7_stress_28 : decode cX7_stress 28 = .ok (.iload_n 2, 1) := by decide +kernel
theorem dX7_stress_29 : decode cX7_stress 29 = .ok (.invokevirtual 152, 3) := by decide +kernel
theorem dX7_stress_32 : decode cX7_stress 32 = .ok (.ifCond .eq 15, 3) := by decide +kernel
theorem dX7_stress_35 : decode cX7_stress 35 = .ok (.iload_n 3, 1) := by decide +kernel
theorem dX7_stress_36 : decode cX7_stress 36 = .ok (.i2l, 1) := by decide +kernel
theorem dX7_stress_37 : decode cX7_stress 37 = .ok (.lconst 0, 1) := by decide +kernel
theorem dX7_stress_38 : decode cX7_stress 38 = .ok (.ldc2_w 230, 3) := by decide +kernel
theorem dX7_stress_41 : decode cX7_stress 41 = .ok (.invokestatic 79, 3) := by decide +kernel
theorem dX7_stress_44 : decode cX7_stress 44 = .ok (.ifCond .ne 7, 3) := by decide +kernel
theorem dX7_stress_47 : decode cX7_stress 47 = .ok (.ldc2_w 238, 3) := by decide +kernel
theorem dX7_stress_50 : decode cX7_stress 50 = .ok (.lreturn, 1) := by decide +kernel
theorem dX7_stress_51 : decode cX7_stress 51 = .ok (.aload_n 0, 1) := by decide +kernel
theorem dX7_stress_52 : decode cX7_stress 52 = .ok (.iload_n 1, 1) := by decide +kernel
theorem dX7_stress_53 : decode cX7_stress 53 = .ok (.iload_n 2, 1) := by decide +kernel
theorem dX7_stress_54 : decode cX7_stress 54 = .ok (.invokevirtual 222, 3) := by decide +kernel
theorem dX7_stress_57 : decode cX7_stress 57 = .ok (.aload_n 0, 1) := by decide +kernel
theorem dX7_stress_58 : decode cX7_stress 58 = .ok (.getfield 198, 3) := by decide +kernel
theorem dX7_stress_61 : decode cX7_stress 61 = .ok (.iload_n 3, 1) := by decide +kernel
theorem dX7_stress_62 : decode cX7_stress 62 = .ok (.invokestatic 240, 3) := by decide +kernel
theorem dX7_stress_65 : decode cX7_stress 65 = .ok (.lreturn, 1) := by decide +kernel
theorem dX7_pull_0 : decode cX7_pull 0 = .ok (.aload_n 0, 1) := by decide +kernel
theorem dX7_pull_1 : decode cX7_pull 1 = .ok (.iload_n 1, 1) := by decide +kernel
theorem dX7_pull_2 : decode cX7_pull 2 = .ok (.invokevirtual 152, 3) := by decide +kernel
theorem dX7_pull_5 : decode cX7_pull 5 = .ok (.ifCond .eq 15, 3) := by decide +kernel
theorem dX7_pull_8 : decode cX7_pull 8 = .ok (.iload_n 2, 1) := by decide +kernel
theorem dX7_pull_9 : decode cX7_pull 9 = .ok (.i2l, 1) := by decide +kernel
theorem dX7_pull_10 : decode cX7_pull 10 = .ok (.lconst 0, 1) := by decide +kernel
theorem dX7_pull_11 : decode cX7_pull 11 = .ok (.ldc2_w 230, 3) := by decide +kernel
theorem dX7_pull_14 : decode cX7_pull 14 = .ok (.invokestatic 79, 3) := by decide +kernel
theorem dX7_pull_17 : decode cX7_pull 17 = .ok (.ifCond .ne 7, 3) := by decide +kernel
theorem dX7_pull_20 : decode cX7_pull 20 = .ok (.ldc2_w 238, 3) := by decide +kernel
theorem dX7_pull_23 : decode cX7_pull 23 = .ok (.lreturn, 1) := by decide +kernel
theorem dX7_pull_24 : decode cX7_pull 24 = .ok (.aload_n 0, 1) := by decide +kernel
theorem dX7_pull_25 : decode cX7_pull 25 = .ok (.invokevirtual 232, 3) := by decide +kernel
theorem dX7_pull_28 : decode cX7_pull 28 = .ok (.aload_n 0, 1) := by decide +kernel
theorem dX7_pull_29 : decode cX7_pull 29 = .ok (.iload_n 1, 1) := by decide +kernel
theorem dX7_pull_30 : decode cX7_pull 30 = .ok (.invokevirtual 244, 3) := by decide +kernel
theorem dX7_pull_33 : decode cX7_pull 33 = .ok (.aload_n 0, 1) := by decide +kernel
theorem dX7_pull_34 : decode cX7_pull 34 = .ok (.getfield 198, 3) := by decide +kernel
theorem dX7_pull_37 : decode cX7_pull 37 = .ok (.iload_n 2, 1) := by decide +kernel
theorem dX7_pull_38 : decode cX7_pull 38 = .ok (.invokestatic 240, 3) := by decide +kernel
theorem dX7_pull_41 : decode cX7_pull 41 = .ok (.lreturn, 1) := by decide +kernel
theorem dX7_isStiff_0 : decode cX7_isStiff 0 = .ok (.aload_n 0, 1) := by decide +kernel
theorem dX7_isStiff_1 : decode cX7_isStiff 1 = .ok (.getfield 7, 3) := by decide +kernel
theorem dX7_isStiff_4 : decode cX7_isStiff 4 = .ok (.iconst 0, 1) := by decide +kernel
theorem dX7_isStiff_5 : decode cX7_isStiff 5 = .ok (.iaload, 1) := by decide +kernel
theorem dX7_isStiff_6 : decode cX7_isStiff 6 = .ok (.iconst 1, 1) := by decide +kernel
theorem dX7_isStiff_7 : decode cX7_isStiff 7 = .ok (.if_icmp .le 25, 3) := by decide +kernel
theorem dX7_isStiff_10 : decode cX7_isStiff 10 = .ok (.aload_n 0, 1) := by decide +kernel
theorem dX7_isStiff_11 : decode cX7_isStiff 11 = .ok (.iload_n 1, 1) := by decide +kernel
theorem dX7_isStiff_12 : decode cX7_isStiff 12 = .ok (.invokevirtual 210, 3) := by decide +kernel
theorem dX7_isStiff_15 : decode cX7_isStiff 15 = .ok (.iconst 2, 1) := by decide +kernel
theorem dX7_isStiff_16 : decode cX7_isStiff 16 = .ok (.aload_n 0, 1) := by decide +kernel
theorem dX7_isStiff_17 : decode cX7_isStiff 17 = .ok (.getfield 7, 3) := by decide +kernel
theorem dX7_isStiff_20 : decode cX7_isStiff 20 = .ok (.iconst 0, 1) := by decide +kernel
theorem dX7_isStiff_21 : decode cX7_isStiff 21 = .ok (.iaload, 1) := by decide +kernel
theorem dX7_isStiff_22 : decode cX7_isStiff 22 = .ok (.imul, 1) := by decide +kernel
theorem dX7_isStiff_23 : decode cX7_isStiff 23 = .ok (.iconst 3, 1) := by decide +kernel
theorem dX7_isStiff_24 : decode cX7_isStiff 24 = .ok (.isub, 1) := by decide +kernel
theorem dX7_isStiff_25 : decode cX7_isStiff 25 = .ok (.if_icmp .ne 7, 3) := by decide +kernel
theorem dX7_isStiff_28 : decode cX7_isStiff 28 = .ok (.iconst 1, 1) := by decide +kernel
theorem dX7_isStiff_29 : decode cX7_isStiff 29 = .ok (.goto 4, 3) := by decide +kernel
theorem dX7_isStiff_32 : decode cX7_isStiff 32 = .ok (.iconst 0, 1) := by decide +kernel
theorem dX7_isStiff_33 : decode cX7_isStiff 33 = .ok (.ireturn, 1) := by decide +kernel
theorem dX7_fail_0 : decode cX7_fail 0 = .ok (.iload_n 1, 1) := by decide +kernel
theorem dX7_fail_1 : decode cX7_fail 1 = .ok (.i2l, 1) := by decide +kernel
theorem dX7_fail_2 : decode cX7_fail 2 = .ok (.lconst 0, 1) := by decide +kernel
theorem dX7_fail_3 : decode cX7_fail 3 = .ok (.ldc2_w 248, 3) := by decide +kernel
theorem dX7_fail_6 : decode cX7_fail 6 = .ok (.invokestatic 79, 3) := by decide +kernel
theorem dX7_fail_9 : decode cX7_fail 9 = .ok (.ifCond .eq 13, 3) := by decide +kernel
theorem dX7_fail_12 : decode cX7_fail 12 = .ok (.iload_n 2, 1) := by decide +kernel
theorem dX7_fail_13 : decode cX7_fail 13 = .ok (.i2l, 1) := by decide +kernel
theorem dX7_fail_14 : decode cX7_fail 14 = .ok (.lconst 0, 1) := by decide +kernel
theorem dX7_fail_15 : decode cX7_fail 15 = .ok (.lconst 1, 1) := by decide +kernel
theorem dX7_fail_16 : decode cX7_fail 16 = .ok (.invokestatic 79, 3) := by decide +kernel
theorem dX7_fail_19 : decode cX7_fail 19 = .ok (.ifCond .ne 7, 3) := by decide +kernel
theorem dX7_fail_22 : decode cX7_fail 22 = .ok (.ldc2_w 238, 3) := by decide +kernel
theorem dX7_fail_25 : decode cX7_fail 25 = .ok (.lreturn, 1) := by decide +kernel
theorem dX7_fail_26 : decode cX7_fail 26 = .ok (.lconst 0, 1) := by decide +kernel
theorem dX7_fail_27 : decode cX7_fail 27 = .ok (.lstore_n 3, 1) := by decide +kernel
theorem dX7_fail_28 : decode cX7_fail 28 = .ok (.lconst 1, 1) := by decide +kernel
theorem dX7_fail_29 : decode cX7_fail 29 = .ok (.lstore 5, 2) := by decide +kernel
theorem dX7_fail_31 : decode cX7_fail 31 = .ok (.iconst 0, 1) := by decide +kernel
theorem dX7_fail_32 : decode cX7_fail 32 = .ok (.istore 7, 2) := by decide +kernel
theorem dX7_fail_34 : decode cX7_fail 34 = .ok (.iload 7, 2) := by decide +kernel
theorem dX7_fail_36 : decode cX7_fail 36 = .ok (.aload_n 0, 1) := by decide +kernel
theorem dX7_fail_37 : decode cX7_fail 37 = .ok (.getfield 7, 3) := by decide +kernel
theorem dX7_fail_40 : decode cX7_fail 40 = .ok (.iconst 1, 1) := by decide +kernel
theorem dX7_fail_41 : decode cX7_fail 41 = .ok (.iaload, 1) := by decide +kernel
theorem dX7_fail_42 : decode cX7_fail 42 = .ok (.if_icmp .ge 17, 3) := by decide +kernel
theorem dX7_fail_45 : decode cX7_fail 45 = .ok (.lload 5, 2) := by decide +kernel
theorem dX7_fail_47 : decode cX7_fail 47 = .ok (.ldc2_w 248, 3) := by decide +kernel
theorem dX7_fail_50 : decode cX7_fail 50 = .ok (.lmul, 1) := by decide +kernel
theorem dX7_fail_51 : decode cX7_fail 51 = .ok (.lstore 5, 2) := by decide +kernel
theorem dX7_fail_53 : decode cX7_fail 53 = .ok (.iinc 7 1, 3) := by decide +kernel
theorem dX7_fail_56 : decode cX7_fail 56 = .ok (.goto (-22), 3) := by decide +kernel
theorem dX7_fail_59 : decode cX7_fail 59 = .ok (.iconst 0, 1) := by decide +kernel
theorem dX7_fail_60 : decode cX7_fail 60 = .ok (.istore 7, 2) := by decide +kernel
theorem dX7_fail_62 : decode cX7_fail 62 = .ok (.iload 7, 2) := by decide +kernel
theorem dX7_fail_64 : decode cX7_fail 64 = .ok (.aload_n 0, 1) := by decide +kernel
theorem dX7_fail_65 : decode cX7_fail 65 = .ok (.invokevirtual 206, 3) := by decide +kernel
theorem dX7_fail_68 : decode cX7_fail 68 = .ok (.if_icmp .gt 83, 3) := by decide +kernel
theorem dX7_fail_71 : decode cX7_fail 71 = .ok (.lconst 1, 1) := by decide +kernel
theorem dX7_fail_72 : decode cX7_fail 72 = .ok (.lstore 8, 2) := by decide +kernel
theorem dX7_fail_74 : decode cX7_fail 74 = .ok (.iconst 0, 1) := by decide +kernel
theorem dX7_fail_75 : decode cX7_fail 75 = .ok (.istore 10, 2) := by decide +kernel
theorem dX7_fail_77 : decode cX7_fail 77 = .ok (.iload 10, 2) := by decide +kernel
theorem dX7_fail_79 : decode cX7_fail 79 = .ok (.aload_n 0, 1) := by decide +kernel
theorem dX7_fail_80 : decode cX7_fail 80 = .ok (.getfield 7, 3) := by decide +kernel
theorem dX7_fail_83 : decode cX7_fail 83 = .ok (.iconst 1, 1) := by decide +kernel
theorem dX7_fail_84 : decode cX7_fail 84 = .ok (.iaload, 1) := by decide +kernel
theorem dX7_fail_85 : decode cX7_fail 85 = .ok (.if_icmp .ge 35, 3) := by decide +kernel
theorem dX7_fail_88 : decode cX7_fail 88 = .ok (.lload 8, 2) := by decide +kernel
theorem dX7_fail_90 : decode cX7_fail 90 = .ok (.iload 7, 2) := by decide +kernel
theorem dX7_fail_92 : decode cX7_fail 92 = .ok (.iload 10, 2) := by decide +kernel
theorem dX7_fail_94 : decode cX7_fail 94 = .ok (.ishr, 1) := by decide +kernel
theorem dX7_fail_95 : decode cX7_fail 95 = .ok (.iconst 1, 1) := by decide +kernel
theorem dX7_fail_96 : decode cX7_fail 96 = .ok (.iand, 1) := by decide +kernel
theorem dX7_fail_97 : decode cX7_fail 97 = .ok (.iconst 1, 1) := by decide +kernel
theorem dX7_fail_98 : decode cX7_fail 98 = .ok (.if_icmp .ne 11, 3) := by decide +kernel
theorem dX7_fail_101 : decode cX7_fail 101 = .ok (.bipush 10, 2) := by decide +kernel
theorem dX7_fail_103 : decode cX7_fail 103 = .ok (.iload_n 1, 1) := by decide +kernel
theorem dX7_fail_104 : decode cX7_fail 104 = .ok (.isub, 1) := by decide +kernel
theorem dX7_fail_105 : decode cX7_fail 105 = .ok (.i2l, 1) := by decide +kernel
theorem dX7_fail_106 : decode cX7_fail 106 = .ok (.goto 5, 3) := by decide +kernel
theorem dX7_fail_109 : decode cX7_fail 109 = .ok (.iload_n 1, 1) := by decide +kernel
theorem dX7_fail_110 : decode cX7_fail 110 = .ok (.i2l, 1) := by decide +kernel
theorem dX7_fail_111 : decode cX7_fail 111 = .ok (.lmul, 1) := by decide +kernel
theorem dX7_fail_112 : decode cX7_fail 112 = .ok (.lstore 8, 2) := by decide +kernel
theorem dX7_fail_114 : decode cX7_fail 114 = .ok (.iinc 10 1, 3) := by decide +kernel
theorem dX7_fail_117 : decode cX7_fail 117 = .ok (.goto (-40), 3) := by decide +kernel
theorem dX7_fail_120 : decode cX7_fail 120 = .ok (.lload_n 3, 1) := by decide +kernel
theorem dX7_fail_121 : decode cX7_fail 121 = .ok (.lload 8, 2) := by decide +kernel
theorem dX7_fail_123 : decode cX7_fail 123 = .ok (.lconst 0, 1) := by decide +kernel
theorem dX7_fail_124 : decode cX7_fail 124 = .ok (.lcmp, 1) := by decide +kernel
theorem dX7_fail_125 : decode cX7_fail 125 = .ok (.ifCond .le 17, 3) := by decide +kernel
theorem dX7_fail_128 : decode cX7_fail 128 = .ok (.aload_n 0, 1) := by decide +kernel
theorem dX7_fail_129 : decode cX7_fail 129 = .ok (.iload 7, 2) := by decide +kernel
theorem dX7_fail_131 : decode cX7_fail 131 = .ok (.invokevirtual 250, 3) := by decide +kernel
theorem dX7_fail_134 : decode cX7_fail 134 = .ok (.ifCond .eq 8, 3) := by decide +kernel
theorem dX7_fail_137 : decode cX7_fail 137 = .ok (.lload 8, 2) := by decide +kernel
theorem dX7_fail_139 : decode cX7_fail 139 = .ok (.goto 4, 3) := by decide +kernel
theorem dX7_fail_142 : decode cX7_fail 142 = .ok (.lconst 0, 1) := by decide +kernel
theorem dX7_fail_143 : decode cX7_fail 143 = .ok (.ladd, 1) := by decide +kernel
theorem dX7_fail_144 : decode cX7_fail 144 = .ok (.lstore_n 3, 1) := by decide +kernel
theorem dX7_fail_145 : decode cX7_fail 145 = .ok (.iinc 7 1, 3) := by decide +kernel
theorem dX7_fail_148 : decode cX7_fail 148 = .ok (.goto (-86), 3) := by decide +kernel
theorem dX7_fail_151 : decode cX7_fail 151 = .ok (.lload_n 3, 1) := by decide +kernel
theorem dX7_fail_152 : decode cX7_fail 152 = .ok (.lload 5, 2) := by decide +kernel
theorem dX7_fail_154 : decode cX7_fail 154 = .ok (.iload_n 2, 1) := by decide +kernel
theorem dX7_fail_155 : decode cX7_fail 155 = .ok (.invokestatic 240, 3) := by decide +kernel
theorem dX7_fail_158 : decode cX7_fail 158 = .ok (.lreturn, 1) := by decide +kernel
theorem dX7_isAhead_0 : decode cX7_isAhead 0 = .ok (.aload_n 0, 1) := by decide +kernel
theorem dX7_isAhead_1 : decode cX7_isAhead 1 = .ok (.iload_n 1, 1) := by decide +kernel
theorem dX7_isAhead_2 : decode cX7_isAhead 2 = .ok (.invokevirtual 192, 3) := by decide +kernel
theorem dX7_isAhead_5 : decode cX7_isAhead 5 = .ok (.ifCond .lt 19, 3) := by decide +kernel
theorem dX7_isAhead_8 : decode cX7_isAhead 8 = .ok (.aload_n 0, 1) := by decide +kernel
theorem dX7_isAhead_9 : decode cX7_isAhead 9 = .ok (.iload_n 1, 1) := by decide +kernel
theorem dX7_isAhead_10 : decode cX7_isAhead 10 = .ok (.invokevirtual 192, 3) := by decide +kernel
theorem dX7_isAhead_13 : decode cX7_isAhead 13 = .ok (.ifCond .ne 15, 3) := by decide +kernel
theorem dX7_isAhead_16 : decode cX7_isAhead 16 = .ok (.aload_n 0, 1) := by decide +kernel
theorem dX7_isAhead_17 : decode cX7_isAhead 17 = .ok (.iload_n 1, 1) := by decide +kernel
theorem dX7_isAhead_18 : decode cX7_isAhead 18 = .ok (.invokevirtual 189, 3) := by decide +kernel
theorem dX7_isAhead_21 : decode cX7_isAhead 21 = .ok (.ifCond .ge 7, 3) := by decide +kernel
theorem dX7_isAhead_24 : decode cX7_isAhead 24 = .ok (.iconst 1, 1) := by decide +kernel
theorem dX7_isAhead_25 : decode cX7_isAhead 25 = .ok (.goto 4, 3) := by decide +kernel
theorem dX7_isAhead_28 : decode cX7_isAhead 28 = .ok (.iconst 0, 1) := by decide +kernel
theorem dX7_isAhead_29 : decode cX7_isAhead 29 = .ok (.istore_n 3, 1) := by decide +kernel
theorem dX7_isAhead_30 : decode cX7_isAhead 30 = .ok (.aload_n 0, 1) := by decide +kernel
theorem dX7_isAhead_31 : decode cX7_isAhead 31 = .ok (.iload_n 2, 1) := by decide +kernel
theorem dX7_isAhead_32 : decode cX7_isAhead 32 = .ok (.invokevirtual 192, 3) := by decide +kernel
theorem dX7_isAhead_35 : decode cX7_isAhead 35 = .ok (.ifCond .lt 19, 3) := by decide +kernel
theorem dX7_isAhead_38 : decode cX7_isAhead 38 = .ok (.aload_n 0, 1) := by decide +kernel
theorem dX7_isAhead_39 : decode cX7_isAhead 39 = .ok (.iload_n 2, 1) := by decide +kernel
theorem dX7_isAhead_40 : decode cX7_isAhead 40 = .ok (.invokevirtual 192, 3) := by decide +kernel
theorem dX7_isAhead_43 : decode cX7_isAhead 43 = .ok (.ifCond .ne 15, 3) := by decide +kernel
theorem dX7_isAhead_46 : decode cX7_isAhead 46 = .ok (.aload_n 0, 1) := by decide +kernel
theorem dX7_isAhead_47 : decode cX7_isAhead 47 = .ok (.iload_n 2, 1) := by decide +kernel
theorem dX7_isAhead_48 : decode cX7_isAhead 48 = .ok (.invokevirtual 189, 3) := by decide +kernel
theorem dX7_isAhead_51 : decode cX7_isAhead 51 = .ok (.ifCond .ge 7, 3) := by decide +kernel
theorem dX7_isAhead_54 : decode cX7_isAhead 54 = .ok (.iconst 1, 1) := by decide +kernel
theorem dX7_isAhead_55 : decode cX7_isAhead 55 = .ok (.goto 4, 3) := by decide +kernel
theorem dX7_isAhead_58 : decode cX7_isAhead 58 = .ok (.iconst 0, 1) := by decide +kernel
theorem dX7_isAhead_59 : decode cX7_isAhead 59 = .ok (.istore 4, 2) := by decide +kernel
theorem dX7_isAhead_61 : decode cX7_isAhead 61 = .ok (.aload_n 0, 1) := by decide +kernel
theorem dX7_isAhead_62 : decode cX7_isAhead 62 = .ok (.iload_n 1, 1) := by decide +kernel
theorem dX7_isAhead_63 : decode cX7_isAhead 63 = .ok (.invokevirtual 189, 3) := by decide +kernel
theorem dX7_isAhead_66 : decode cX7_isAhead 66 = .ok (.aload_n 0, 1) := by decide +kernel
theorem dX7_isAhead_67 : decode cX7_isAhead 67 = .ok (.iload_n 2, 1) := by decide +kernel
theorem dX7_isAhead_68 : decode cX7_isAhead 68 = .ok (.invokevirtual 192, 3) := by decide +kernel
theorem dX7_isAhead_71 : decode cX7_isAhead 71 = .ok (.imul, 1) := by decide +kernel
theorem dX7_isAhead_72 : decode cX7_isAhead 72 = .ok (.aload_n 0, 1) := by decide +kernel
theorem dX7_isAhead_73 : decode cX7_isAhead 73 = .ok (.iload_n 1, 1) := by decide +kernel
theorem dX7_isAhead_74 : decode cX7_isAhead 74 = .ok (.invokevirtual 192, 3) := by decide +kernel
theorem dX7_isAhead_77 : decode cX7_isAhead 77 = .ok (.aload_n 0, 1) := by decide +kernel
theorem dX7_isAhead_78 : decode cX7_isAhead 78 = .ok (.iload_n 2, 1) := by decide +kernel
theorem dX7_isAhead_79 : decode cX7_isAhead 79 = .ok (.invokevirtual 189, 3) := by decide +kernel
theorem dX7_isAhead_82 : decode cX7_isAhead 82 = .ok (.imul, 1) := by decide +kernel
theorem dX7_isAhead_83 : decode cX7_isAhead 83 = .ok (.isub, 1) := by decide +kernel
theorem dX7_isAhead_84 : decode cX7_isAhead 84 = .ok (.istore 5, 2) := by decide +kernel
theorem dX7_isAhead_86 : decode cX7_isAhead 86 = .ok (.iload_n 3, 1) := by decide +kernel
theorem dX7_isAhead_87 : decode cX7_isAhead 87 = .ok (.iload 4, 2) := by decide +kernel
theorem dX7_isAhead_89 : decode cX7_isAhead 89 = .ok (.if_icmp .eq 15, 3) := by decide +kernel
theorem dX7_isAhead_92 : decode cX7_isAhead 92 = .ok (.iload_n 3, 1) := by decide +kernel
theorem dX7_isAhead_93 : decode cX7_isAhead 93 = .ok (.ifCond .ne 7, 3) := by decide +kernel
theorem dX7_isAhead_96 : decode cX7_isAhead 96 = .ok (.iconst 1, 1) := by decide +kernel
theorem dX7_isAhead_97 : decode cX7_isAhead 97 = .ok (.goto 17, 3) := by decide +kernel
theorem dX7_isAhead_100 : decode cX7_isAhead 100 = .ok (.iconst 0, 1) := by decide +kernel
theorem dX7_isAhead_101 : decode cX7_isAhead 101 = .ok (.goto 13, 3) := by decide +kernel
