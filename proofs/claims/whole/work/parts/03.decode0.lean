theorem dX0_init_0 : decode cX0_init 0 = .ok (.aload_n 0, 1) := by decide +kernel
theorem dX0_init_1 : decode cX0_init 1 = .ok (.invokespecial 3, 3) := by decide +kernel
theorem dX0_init_4 : decode cX0_init 4 = .ok (.aload_n 0, 1) := by decide +kernel
theorem dX0_init_5 : decode cX0_init 5 = .ok (.bipush (-4), 2) := by decide +kernel
theorem dX0_init_7 : decode cX0_init 7 = .ok (.putfield 9, 3) := by decide +kernel
theorem dX0_init_10 : decode cX0_init 10 = .ok (.aload_n 0, 1) := by decide +kernel
theorem dX0_init_11 : decode cX0_init 11 = .ok (.bipush 18, 2) := by decide +kernel
theorem dX0_init_13 : decode cX0_init 13 = .ok (.newarray .int, 2) := by decide +kernel
theorem dX0_init_15 : decode cX0_init 15 = .ok (.putfield 15, 3) := by decide +kernel
theorem dX0_init_18 : decode cX0_init 18 = .ok (.aload_n 0, 1) := by decide +kernel
theorem dX0_init_19 : decode cX0_init 19 = .ok (.bipush 18, 2) := by decide +kernel
theorem dX0_init_21 : decode cX0_init 21 = .ok (.newarray .int, 2) := by decide +kernel
theorem dX0_init_23 : decode cX0_init 23 = .ok (.putfield 19, 3) := by decide +kernel
theorem dX0_init_26 : decode cX0_init 26 = .ok (.aload_n 0, 1) := by decide +kernel
theorem dX0_init_27 : decode cX0_init 27 = .ok (.bipush 18, 2) := by decide +kernel
theorem dX0_init_29 : decode cX0_init 29 = .ok (.newarray .int, 2) := by decide +kernel
theorem dX0_init_31 : decode cX0_init 31 = .ok (.putfield 22, 3) := by decide +kernel
theorem dX0_init_34 : decode cX0_init 34 = .ok (.aload_n 0, 1) := by decide +kernel
theorem dX0_init_35 : decode cX0_init 35 = .ok (.bipush 18, 2) := by decide +kernel
theorem dX0_init_37 : decode cX0_init 37 = .ok (.newarray .int, 2) := by decide +kernel
theorem dX0_init_39 : decode cX0_init 39 = .ok (.putfield 25, 3) := by decide +kernel
theorem dX0_init_42 : decode cX0_init 42 = .ok (.aload_n 0, 1) := by decide +kernel
theorem dX0_init_43 : decode cX0_init 43 = .ok (.bipush 18, 2) := by decide +kernel
theorem dX0_init_45 : decode cX0_init 45 = .ok (.newarray .int, 2) := by decide +kernel
theorem dX0_init_47 : decode cX0_init 47 = .ok (.putfield 28, 3) := by decide +kernel
theorem dX0_init_50 : decode cX0_init 50 = .ok (.aload_n 0, 1) := by decide +kernel
theorem dX0_init_51 : decode cX0_init 51 = .ok (.bipush 18, 2) := by decide +kernel
theorem dX0_init_53 : decode cX0_init 53 = .ok (.newarray .int, 2) := by decide +kernel
theorem dX0_init_55 : decode cX0_init 55 = .ok (.putfield 31, 3) := by decide +kernel
theorem dX0_init_58 : decode cX0_init 58 = .ok (.aload_n 0, 1) := by decide +kernel
theorem dX0_init_59 : decode cX0_init 59 = .ok (.bipush 18, 2) := by decide +kernel
theorem dX0_init_61 : decode cX0_init 61 = .ok (.newarray .long, 2) := by decide +kernel
theorem dX0_init_63 : decode cX0_init 63 = .ok (.putfield 34, 3) := by decide +kernel
theorem dX0_init_66 : decode cX0_init 66 = .ok (.aload_n 0, 1) := by decide +kernel
theorem dX0_init_67 : decode cX0_init 67 = .ok (.bipush 18, 2) := by decide +kernel
theorem dX0_init_69 : decode cX0_init 69 = .ok (.newarray .long, 2) := by decide +kernel
theorem dX0_init_71 : decode cX0_init 71 = .ok (.putfield 38, 3) := by decide +kernel
theorem dX0_init_74 : decode cX0_init 74 = .ok (.aload_n 0, 1) := by decide +kernel
theorem dX0_init_75 : decode cX0_init 75 = .ok (.bipush 18, 2) := by decide +kernel
theorem dX0_init_77 : decode cX0_init 77 = .ok (.newarray .long, 2) := by decide +kernel
theorem dX0_init_79 : decode cX0_init 79 = .ok (.putfield 41, 3) := by decide +kernel
theorem dX0_init_82 : decode cX0_init 82 = .ok (.aload_n 0, 1) := by decide +kernel
theorem dX0_init_83 : decode cX0_init 83 = .ok (.bipush 18, 2) := by decide +kernel
theorem dX0_init_85 : decode cX0_init 85 = .ok (.newarray .boolean, 2) := by decide +kernel
theorem dX0_init_87 : decode cX0_init 87 = .ok (.putfield 44, 3) := by decide +kernel
theorem dX0_init_90 : decode cX0_init 90 = .ok (.return_, 1) := by decide +kernel
theorem dX0_has_0 : decode cX0_has 0 = .ok (.iload_n 1, 1) := by decide +kernel
theorem dX0_has_1 : decode cX0_has 1 = .ok (.ifCond .lt 15, 3) := by decide +kernel
theorem dX0_has_4 : decode cX0_has 4 = .ok (.iload_n 1, 1) := by decide +kernel
theorem dX0_has_5 : decode cX0_has 5 = .ok (.aload_n 0, 1) := by decide +kernel
theorem dX0_has_6 : decode cX0_has 6 = .ok (.getfield 48, 3) := by decide +kernel
theorem dX0_has_9 : decode cX0_has 9 = .ok (.if_icmp .ge 7, 3) := by decide +kernel
theorem dX0_has_12 : decode cX0_has 12 = .ok (.iconst 1, 1) := by decide +kernel
theorem dX0_has_13 : decode cX0_has 13 = .ok (.goto 4, 3) := by decide +kernel
theorem dX0_has_16 : decode cX0_has 16 = .ok (.iconst 0, 1) := by decide +kernel
theorem dX0_has_17 : decode cX0_has 17 = .ok (.ireturn, 1) := by decide +kernel
theorem dX0_planeNumber_0 : decode cX0_planeNumber 0 = .ok (.iload_n 2, 1) := by decide +kernel
theorem dX0_planeNumber_1 : decode cX0_planeNumber 1 = .ok (.lookupswitch 42 #[(0, 27), (1, 35)], 27) := by decide +kernel
theorem dX0_planeNumber_28 : decode cX0_planeNumber 28 = .ok (.aload_n 0, 1) := by decide +kernel
theorem dX0_planeNumber_29 : decode cX0_planeNumber 29 = .ok (.getfield 38, 3) := by decide +kernel
theorem dX0_planeNumber_32 : decode cX0_planeNumber 32 = .ok (.iload_n 1, 1) := by decide +kernel
theorem dX0_planeNumber_33 : decode cX0_planeNumber 33 = .ok (.laload, 1) := by decide +kernel
theorem dX0_planeNumber_34 : decode cX0_planeNumber 34 = .ok (.lneg, 1) := by decide +kernel
theorem dX0_planeNumber_35 : decode cX0_planeNumber 35 = .ok (.lreturn, 1) := by decide +kernel
theorem dX0_planeNumber_36 : decode cX0_planeNumber 36 = .ok (.aload_n 0, 1) := by decide +kernel
theorem dX0_planeNumber_37 : decode cX0_planeNumber 37 = .ok (.getfield 34, 3) := by decide +kernel
theorem dX0_planeNumber_40 : decode cX0_planeNumber 40 = .ok (.iload_n 1, 1) := by decide +kernel
theorem dX0_planeNumber_41 : decode cX0_planeNumber 41 = .ok (.laload, 1) := by decide +kernel
theorem dX0_planeNumber_42 : decode cX0_planeNumber 42 = .ok (.lreturn, 1) := by decide +kernel
theorem dX0_planeNumber_43 : decode cX0_planeNumber 43 = .ok (.aload_n 0, 1) := by decide +kernel
theorem dX0_planeNumber_44 : decode cX0_planeNumber 44 = .ok (.getfield 41, 3) := by decide +kernel
theorem dX0_planeNumber_47 : decode cX0_planeNumber 47 = .ok (.iload_n 1, 1) := by decide +kernel
theorem dX0_planeNumber_48 : decode cX0_planeNumber 48 = .ok (.laload, 1) := by decide +kernel
theorem dX0_planeNumber_49 : decode cX0_planeNumber 49 = .ok (.lreturn, 1) := by decide +kernel
theorem dX0_heightAt_0 : decode cX0_heightAt 0 = .ok (.iconst 0, 1) := by decide +kernel
theorem dX0_heightAt_1 : decode cX0_heightAt 1 = .ok (.istore_n 3, 1) := by decide +kernel
theorem dX0_heightAt_2 : decode cX0_heightAt 2 = .ok (.iload_n 3, 1) := by decide +kernel
theorem dX0_heightAt_3 : decode cX0_heightAt 3 = .ok (.iconst 2, 1) := by decide +kernel
theorem dX0_heightAt_4 : decode cX0_heightAt 4 = .ok (.aload_n 1, 1) := by decide +kernel
theorem dX0_heightAt_5 : decode cX0_heightAt 5 = .ok (.getfield 51, 3) := by decide +kernel
theorem dX0_heightAt_8 : decode cX0_heightAt 8 = .ok (.imul, 1) := by decide +kernel
theorem dX0_heightAt_9 : decode cX0_heightAt 9 = .ok (.if_icmp .ge 66, 3) := by decide +kernel
theorem dX0_heightAt_12 : decode cX0_heightAt 12 = .ok (.aload_n 1, 1) := by decide +kernel
theorem dX0_heightAt_13 : decode cX0_heightAt 13 = .ok (.iload_n 3, 1) := by decide +kernel
theorem dX0_heightAt_14 : decode cX0_heightAt 14 = .ok (.invokevirtual 56, 3) := by decide +kernel
theorem dX0_heightAt_17 : decode cX0_heightAt 17 = .ok (.iload_n 2, 1) := by decide +kernel
theorem dX0_heightAt_18 : decode cX0_heightAt 18 = .ok (.if_icmp .ne 51, 3) := by decide +kernel
theorem dX0_heightAt_21 : decode cX0_heightAt 21 = .ok (.aload_n 0, 1) := by decide +kernel
theorem dX0_heightAt_22 : decode cX0_heightAt 22 = .ok (.getfield 22, 3) := by decide +kernel
theorem dX0_heightAt_25 : decode cX0_heightAt 25 = .ok (.iload_n 3, 1) := by decide +kernel
theorem dX0_heightAt_26 : decode cX0_heightAt 26 = .ok (.iaload, 1) := by decide +kernel
theorem dX0_heightAt_27 : decode cX0_heightAt 27 = .ok (.istore 4, 2) := by decide +kernel
theorem dX0_heightAt_29 : decode cX0_heightAt 29 = .ok (.aload_n 0, 1) := by decide +kernel
theorem dX0_heightAt_30 : decode cX0_heightAt 30 = .ok (.getfield 34, 3) := by decide +kernel
theorem dX0_heightAt_33 : decode cX0_heightAt 33 = .ok (.iload 4, 2) := by decide +kernel
theorem dX0_heightAt_35 : decode cX0_heightAt 35 = .ok (.laload, 1) := by decide +kernel
theorem dX0_heightAt_36 : decode cX0_heightAt 36 = .ok (.aload_n 1, 1) := by decide +kernel
theorem dX0_heightAt_37 : decode cX0_heightAt 37 = .ok (.getfield 60, 3) := by decide +kernel
theorem dX0_heightAt_40 : decode cX0_heightAt 40 = .ok (.iload_n 2, 1) := by decide +kernel
theorem dX0_heightAt_41 : decode cX0_heightAt 41 = .ok (.iaload, 1) := by decide +kernel
theorem dX0_heightAt_42 : decode cX0_heightAt 42 = .ok (.i2l, 1) := by decide +kernel
theorem dX0_heightAt_43 : decode cX0_heightAt 43 = .ok (.lmul, 1) := by decide +kernel
theorem dX0_heightAt_44 : decode cX0_heightAt 44 = .ok (.aload_n 0, 1) := by decide +kernel
theorem dX0_heightAt_45 : decode cX0_heightAt 45 = .ok (.getfield 38, 3) := by decide +kernel
theorem dX0_heightAt_48 : decode cX0_heightAt 48 = .ok (.iload 4, 2) := by decide +kernel
theorem dX0_heightAt_50 : decode cX0_heightAt 50 = .ok (.laload, 1) := by decide +kernel
theorem dX0_heightAt_51 : decode cX0_heightAt 51 = .ok (.aload_n 1, 1) := by decide +kernel
theorem dX0_heightAt_52 : decode cX0_heightAt 52 = .ok (.getfield 63, 3) := by decide +kernel
theorem dX0_heightAt_55 : decode cX0_heightAt 55 = .ok (.iload_n 2, 1) := by decide +kernel
theorem dX0_heightAt_56 : decode cX0_heightAt 56 = .ok (.iaload, 1) := by decide +kernel
theorem dX0_heightAt_57 : decode cX0_heightAt 57 = .ok (.i2l, 1) := by decide +kernel
theorem dX0_heightAt_58 : decode cX0_heightAt 58 = .ok (.lmul, 1) := by decide +kernel
theorem dX0_heightAt_59 : decode cX0_heightAt 59 = .ok (.lsub, 1) := by decide +kernel
theorem dX0_heightAt_60 : decode cX0_heightAt 60 = .ok (.aload_n 0, 1) := by decide +kernel
theorem dX0_heightAt_61 : decode cX0_heightAt 61 = .ok (.getfield 41, 3) := by decide +kernel
theorem dX0_heightAt_64 : decode cX0_heightAt 64 = .ok (.iload 4, 2) := by decide +kernel
theorem dX0_heightAt_66 : decode cX0_heightAt 66 = .ok (.laload, 1) := by decide +kernel
theorem dX0_heightAt_67 : decode cX0_heightAt 67 = .ok (.ladd, 1) := by decide +kernel
theorem dX0_heightAt_68 : decode cX0_heightAt 68 = .ok (.lreturn, 1) := by decide +kernel
theorem dX0_heightAt_69 : decode cX0_heightAt 69 = .ok (.iinc 3 1, 3) := by decide +kernel
theorem dX0_heightAt_72 : decode cX0_heightAt 72 = .ok (.goto (-70), 3) := by decide +kernel
theorem dX0_heightAt_75 : decode cX0_heightAt 75 = .ok (.lconst 0, 1) := by decide +kernel
theorem dX0_heightAt_76 : decode cX0_heightAt 76 = .ok (.lreturn, 1) := by decide +kernel
theorem dX0_walk_0 : decode cX0_walk 0 = .ok (.iconst 2, 1) := by decide +kernel
theorem dX0_walk_1 : decode cX0_walk 1 = .ok (.aload_n 1, 1) := by decide +kernel
theorem dX0_walk_2 : decode cX0_walk 2 = .ok (.getfield 51, 3) := by decide +kernel
theorem dX0_walk_5 : decode cX0_walk 5 = .ok (.imul, 1) := by decide +kernel
theorem dX0_walk_6 : decode cX0_walk 6 = .ok (.istore_n 2, 1) := by decide +kernel
theorem dX0_walk_7 : decode cX0_walk 7 = .ok (.iconst 0, 1) := by decide +kernel
theorem dX0_walk_8 : decode cX0_walk 8 = .ok (.istore_n 3, 1) := by decide +kernel
theorem dX0_walk_9 : decode cX0_walk 9 = .ok (.iload_n 3, 1) := by decide +kernel
theorem dX0_walk_10 : decode cX0_walk 10 = .ok (.iload_n 2, 1) := by decide +kernel
theorem dX0_walk_11 : decode cX0_walk 11 = .ok (.if_icmp .ge 27, 3) := by decide +kernel
theorem dX0_walk_14 : decode cX0_walk 14 = .ok (.aload_n 0, 1) := by decide +kernel
theorem dX0_walk_15 : decode cX0_walk 15 = .ok (.getfield 15, 3) := by decide +kernel
theorem dX0_walk_18 : decode cX0_walk 18 = .ok (.iload_n 3, 1) := by decide +kernel
theorem dX0_walk_19 : decode cX0_walk 19 = .ok (.aload_n 1, 1) := by decide +kernel
theorem dX0_walk_20 : decode cX0_walk 20 = .ok (.iload_n 3, 1) := by decide +kernel
theorem dX0_walk_21 : decode cX0_walk 21 = .ok (.invokestatic 66, 3) := by decide +kernel
theorem dX0_walk_24 : decode cX0_walk 24 = .ok (.iastore, 1) := by decide +kernel
theorem dX0_walk_25 : decode cX0_walk 25 = .ok (.aload_n 0, 1) := by decide +kernel
theorem dX0_walk_26 : decode cX0_walk 26 = .ok (.getfield 22, 3) := by decide +kernel
theorem dX0_walk_29 : decode cX0_walk 29 = .ok (.iload_n 3, 1) := by decide +kernel
theorem dX0_walk_30 : decode cX0_walk 30 = .ok (.iconst (-1), 1) := by decide +kernel
theorem dX0_walk_31 : decode cX0_walk 31 = .ok (.iastore, 1) := by decide +kernel
theorem dX0_walk_32 : decode cX0_walk 32 = .ok (.iinc 3 1, 3) := by decide +kernel
theorem dX0_walk_35 : decode cX0_walk 35 = .ok (.goto (-26), 3) := by decide +kernel
theorem dX0_walk_38 : decode cX0_walk 38 = .ok (.iconst 0, 1) := by decide +kernel
theorem dX0_walk_39 : decode cX0_walk 39 = .ok (.istore_n 3, 1) := by decide +kernel
theorem dX0_walk_40 : decode cX0_walk 40 = .ok (.iload_n 3, 1) := by decide +kernel
theorem dX0_walk_41 : decode cX0_walk 41 = .ok (.iload_n 2, 1) := by decide +kernel
theorem dX0_walk_42 : decode cX0_walk 42 = .ok (.if_icmp .ge 23, 3) := by decide +kernel
theorem dX0_walk_45 : decode cX0_walk 45 = .ok (.aload_n 0, 1) := by decide +kernel
theorem dX0_walk_46 : decode cX0_walk 46 = .ok (.getfield 19, 3) := by decide +kernel
theorem dX0_walk_49 : decode cX0_walk 49 = .ok (.iload_n 3, 1) := by decide +kernel
theorem dX0_walk_50 : decode cX0_walk 50 = .ok (.aload_n 0, 1) := by decide +kernel
theorem dX0_walk_51 : decode cX0_walk 51 = .ok (.aload_n 1, 1) := by decide +kernel
theorem dX0_walk_52 : decode cX0_walk 52 = .ok (.iload_n 3, 1) := by decide +kernel
theorem dX0_walk_53 : decode cX0_walk 53 = .ok (.iconst 1, 1) := by decide +kernel
theorem dX0_walk_54 : decode cX0_walk 54 = .ok (.ixor, 1) := by decide +kernel
theorem dX0_walk_55 : decode cX0_walk 55 = .ok (.invokevirtual 70, 3) := by decide +kernel
theorem dX0_walk_58 : decode cX0_walk 58 = .ok (.iastore, 1) := by decide +kernel
theorem dX0_walk_59 : decode cX0_walk 59 = .ok (.iinc 3 1, 3) := by decide +kernel
theorem dX0_walk_62 : decode cX0_walk 62 = .ok (.goto (-22), 3) := by decide +kernel
theorem dX0_walk_65 : decode cX0_walk 65 = .ok (.aload_n 0, 1) := by decide +kernel
theorem dX0_walk_66 : decode cX0_walk 66 = .ok (.iconst 0, 1) := by decide +kernel
theorem dX0_walk_67 : decode cX0_walk 67 = .ok (.putfield 48, 3) := by decide +kernel
theorem dX0_walk_70 : decode cX0_walk 70 = .ok (.iconst 0, 1) := by decide +kernel
theorem dX0_walk_71 : decode cX0_walk 71 = .ok (.istore_n 3, 1) := by decide +kernel
theorem dX0_walk_72 : decode cX0_walk 72 = .ok (.iload_n 3, 1) := by decide +kernel
theorem dX0_walk_73 : decode cX0_walk 73 = .ok (.iload_n 2, 1) := by decide +kernel
theorem dX0_walk_74 : decode cX0_walk 74 = .ok (.if_icmp .ge 24, 3) := by decide +kernel
theorem dX0_walk_77 : decode cX0_walk 77 = .ok (.aload_n 0, 1) := by decide +kernel
theorem dX0_walk_78 : decode cX0_walk 78 = .ok (.getfield 22, 3) := by decide +kernel
theorem dX0_walk_81 : decode cX0_walk 81 = .ok (.iload_n 3, 1) := by decide +kernel
theorem dX0_walk_82 : decode cX0_walk 82 = .ok (.iaload, 1) := by decide +kernel
theorem dX0_walk_83 : decode cX0_walk 83 = .ok (.ifCond .ge 9, 3) := by decide +kernel
theorem dX0_walk_86 : decode cX0_walk 86 = .ok (.aload_n 0, 1) := by decide +kernel
theorem dX0_walk_87 : decode cX0_walk 87 = .ok (.aload_n 1, 1) := by decide +kernel
theorem dX0_walk_88 : decode cX0_walk 88 = .ok (.iload_n 3, 1) := by decide +kernel
theorem dX0_walk_89 : decode cX0_walk 89 = .ok (.invokevirtual 73, 3) := by decide +kernel
theorem dX0_walk_92 : decode cX0_walk 92 = .ok (.iinc 3 1, 3) := by decide +kernel
theorem dX0_walk_95 : decode cX0_walk 95 = .ok (.goto (-23), 3) := by decide +kernel
theorem dX0_walk_98 : decode cX0_walk 98 = .ok (.aload_n 0, 1) := by decide +kernel
theorem dX0_walk_99 : decode cX0_walk 99 = .ok (.aload_n 1, 1) := by decide +kernel
theorem dX0_walk_100 : decode cX0_walk 100 = .ok (.invokevirtual 77, 3) := by decide +kernel
theorem dX0_walk_103 : decode cX0_walk 103 = .ok (.ifCond .eq 10, 3) := by decide +kernel
theorem dX0_walk_106 : decode cX0_walk 106 = .ok (.aload_n 0, 1) := by decide +kernel
theorem dX0_walk_107 : decode cX0_walk 107 = .ok (.invokevirtual 81, 3) := by decide +kernel
theorem dX0_walk_110 : decode cX0_walk 110 = .ok (.goto 5, 3) := by decide +kernel
theorem dX0_walk_113 : decode cX0_walk 113 = .ok (.bipush (-4), 2) := by decide +kernel
theorem dX0_walk_115 : decode cX0_walk 115 = .ok (.putfield 9, 3) := by decide +kernel
theorem dX0_walk_118 : decode cX0_walk 118 = .ok (.return_, 1) := by decide +kernel
theorem dX0_lift_0 : decode cX0_lift 0 = .ok (.aload_n 0, 1) := by decide +kernel
theorem dX0_lift_1 : decode cX0_lift 1 = .ok (.getfield 9, 3) := by decide +kernel
theorem dX0_lift_4 : decode cX0_lift 4 = .ok (.ifCond .ge 4, 3) := by decide +kernel
theorem dX0_lift_7 : decode cX0_lift 7 = .ok (.return_, 1) := by decide +kernel
theorem dX0_lift_8 : decode cX0_lift 8 = .ok (.aload_n 0, 1) := by decide +kernel
theorem dX0_lift_9 : decode cX0_lift 9 = .ok (.getfield 34, 3) := by decide +kernel
theorem dX0_lift_12 : decode cX0_lift 12 = .ok (.lconst 0, 1) := by decide +kernel
theorem dX0_lift_13 : decode cX0_lift 13 = .ok (.invokestatic 85, 3) := by decide +kernel
theorem dX0_lift_16 : decode cX0_lift 16 = .ok (.aload_n 0, 1) := by decide +kernel
theorem dX0_lift_17 : decode cX0_lift 17 = .ok (.getfield 38, 3) := by decide +kernel
theorem dX0_lift_20 : decode cX0_lift 20 = .ok (.lconst 0, 1) := by decide +kernel
theorem dX0_lift_21 : decode cX0_lift 21 = .ok (.invokestatic 85, 3) := by decide +kernel
theorem dX0_lift_24 : decode cX0_lift 24 = .ok (.aload_n 0, 1) := by decide +kernel
theorem dX0_lift_25 : decode cX0_lift 25 = .ok (.getfield 41, 3) := by decide +kernel
theorem dX0_lift_28 : decode cX0_lift 28 = .ok (.lconst 0, 1) := by decide +kernel
theorem dX0_lift_29 : decode cX0_lift 29 = .ok (.invokestatic 85, 3) := by decide +kernel
theorem dX0_lift_32 : decode cX0_lift 32 = .ok (.iconst 0, 1) := by decide +kernel
theorem dX0_lift_33 : decode cX0_lift 33 = .ok (.istore_n 3, 1) := by decide +kernel
theorem dX0_lift_34 : decode cX0_lift 34 = .ok (.iload_n 3, 1) := by decide +kernel
theorem dX0_lift_35 : decode cX0_lift 35 = .ok (.aload_n 0, 1) := by decide +kernel
theorem dX0_lift_36 : decode cX0_lift 36 = .ok (.getfield 48, 3) := by decide +kernel
theorem dX0_lift_39 : decode cX0_lift 39 = .ok (.if_icmp .ge 28, 3) := by decide +kernel
theorem dX0_lift_42 : decode cX0_lift 42 = .ok (.aload_n 0, 1) := by decide +kernel
theorem dX0_lift_43 : decode cX0_lift 43 = .ok (.getfield 44, 3) := by decide +kernel
theorem dX0_lift_46 : decode cX0_lift 46 = .ok (.iload_n 3, 1) := by decide +kernel
theorem dX0_lift_47 : decode cX0_lift 47 = .ok (.iload_n 3, 1) := by decide +kernel
theorem dX0_lift_48 : decode cX0_lift 48 = .ok (.aload_n 0, 1) := by decide +kernel
theorem dX0_lift_49 : decode cX0_lift 49 = .ok (.getfield 9, 3) := by decide +kernel
theorem dX0_lift_52 : decode cX0_lift 52 = .ok (.if_icmp .ne 7, 3) := by decide +kernel
theorem dX0_lift_55 : decode cX0_lift 55 = .ok (.iconst 1, 1) := by decide +kernel
theorem dX0_lift_56 : decode cX0_lift 56 = .ok (.goto 4, 3) := by decide +kernel
theorem dX0_lift_59 : decode cX0_lift 59 = .ok (.iconst 0, 1) := by decide +kernel
theorem dX0_lift_60 : decode cX0_lift 60 = .ok (.bastore, 1) := by decide +kernel
theorem dX0_lift_61 : decode cX0_lift 61 = .ok (.iinc 3 1, 3) := by decide +kernel
theorem dX0_lift_64 : decode cX0_lift 64 = .ok (.goto (-30), 3) := by decide +kernel
theorem dX0_lift_67 : decode cX0_lift 67 = .ok (.iconst 0, 1) := by decide +kernel
theorem dX0_lift_68 : decode cX0_lift 68 = .ok (.istore_n 3, 1) := by decide +kernel
theorem dX0_lift_69 : decode cX0_lift 69 = .ok (.iload_n 3, 1) := by decide +kernel
theorem dX0_lift_70 : decode cX0_lift 70 = .ok (.aload_n 0, 1) := by decide +kernel
theorem dX0_lift_71 : decode cX0_lift 71 = .ok (.getfield 48, 3) := by decide +kernel
theorem dX0_lift_74 : decode cX0_lift 74 = .ok (.if_icmp .ge 74, 3) := by decide +kernel
theorem dX0_lift_77 : decode cX0_lift 77 = .ok (.iconst 0, 1) := by decide +kernel
theorem dX0_lift_78 : decode cX0_lift 78 = .ok (.istore 4, 2) := by decide +kernel
theorem dX0_lift_80 : decode cX0_lift 80 = .ok (.iload 4, 2) := by decide +kernel
theorem dX0_lift_82 : decode cX0_lift 82 = .ok (.iconst 2, 1) := by decide +kernel
theorem dX0_lift_83 : decode cX0_lift 83 = .ok (.aload_n 1, 1) := by decide +kernel
theorem dX0_lift_84 : decode cX0_lift 84 = .ok (.getfield 51, 3) := by decide +kernel
theorem dX0_lift_87 : decode cX0_lift 87 = .ok (.imul, 1) := by decide +kernel
theorem dX0_lift_88 : decode cX0_lift 88 = .ok (.if_icmp .ge 54, 3) := by decide +kernel
theorem dX0_lift_91 : decode cX0_lift 91 = .ok (.aload_n 0, 1) := by decide +kernel
theorem dX0_lift_92 : decode cX0_lift 92 = .ok (.getfield 44, 3) := by decide +kernel
theorem dX0_lift_95 : decode cX0_lift 95 = .ok (.aload_n 0, 1) := by decide +kernel
theorem dX0_lift_96 : decode cX0_lift 96 = .ok (.getfield 22, 3) := by decide +kernel
theorem dX0_lift_99 : decode cX0_lift 99 = .ok (.iload 4, 2) := by decide +kernel
theorem dX0_lift_101 : decode cX0_lift 101 = .ok (.iconst 1, 1) := by decide +kernel
theorem dX0_lift_102 : decode cX0_lift 102 = .ok (.ixor, 1) := by decide +kernel
theorem dX0_lift_103 : decode cX0_lift 103 = .ok (.iaload, 1) := by decide +kernel
theorem dX0_lift_104 : decode cX0_lift 104 = .ok (.baload, 1) := by decide +kernel
theorem dX0_lift_105 : decode cX0_lift 105 = .ok (.ifCond .eq 31, 3) := by decide +kernel
theorem dX0_lift_108 : decode cX0_lift 108 = .ok (.aload_n 0, 1) := by decide +kernel
theorem dX0_lift_109 : decode cX0_lift 109 = .ok (.getfield 44, 3) := by decide +kernel
theorem dX0_lift_112 : decode cX0_lift 112 = .ok (.aload_n 0, 1) := by decide +kernel
theorem dX0_lift_113 : decode cX0_lift 113 = .ok (.getfield 22, 3) := by decide +kernel
theorem dX0_lift_116 : decode cX0_lift 116 = .ok (.iload 4, 2) := by decide +kernel
theorem dX0_lift_118 : decode cX0_lift 118 = .ok (.iaload, 1) := by decide +kernel
theorem dX0_lift_119 : decode cX0_lift 119 = .ok (.baload, 1) := by decide +kernel
theorem dX0_lift_120 : decode cX0_lift 120 = .ok (.ifCond .ne 16, 3) := by decide +kernel
theorem dX0_lift_123 : decode cX0_lift 123 = .ok (.aload_n 0, 1) := by decide +kernel
theorem dX0_lift_124 : decode cX0_lift 124 = .ok (.aload_n 1, 1) := by decide +kernel
theorem dX0_lift_125 : decode cX0_lift 125 = .ok (.iload 4, 2) := by decide +kernel
theorem dX0_lift_127 : decode cX0_lift 127 = .ok (.aload_n 2, 1) := by decide +kernel
theorem dX0_lift_128 : decode cX0_lift 128 = .ok (.iload 4, 2) := by decide +kernel
theorem dX0_lift_130 : decode cX0_lift 130 = .ok (.iconst 2, 1) := by decide +kernel
theorem dX0_lift_131 : decode cX0_lift 131 = .ok (.idiv, 1) := by decide +kernel
theorem dX0_lift_132 : decode cX0_lift 132 = .ok (.laload, 1) := by decide +kernel
theorem dX0_lift_133 : decode cX0_lift 133 = .ok (.invokevirtual 91, 3) := by decide +kernel
theorem dX0_lift_136 : decode cX0_lift 136 = .ok (.iinc 4 1, 3) := by decide +kernel
theorem dX0_lift_139 : decode cX0_lift 139 = .ok (.goto (-59), 3) := by decide +kernel
theorem dX0_lift_142 : decode cX0_lift 142 = .ok (.iinc 3 1, 3) := by decide +kernel
theorem dX0_lift_145 : decode cX0_lift 145 = .ok (.goto (-76), 3) := by decide +kernel
theorem dX0_lift_148 : decode cX0_lift 148 = .ok (.return_, 1) := by decide +kernel
theorem dX0_placeBeside_0 : decode cX0_placeBeside 0 = .ok (.aload_n 0, 1) := by decide +kernel
theorem dX0_placeBeside_1 : decode cX0_placeBeside 1 = .ok (.getfield 22, 3) := by decide +kernel
theorem dX0_placeBeside_4 : decode cX0_placeBeside 4 = .ok (.iload_n 2, 1) := by decide +kernel
theorem dX0_placeBeside_5 : decode cX0_placeBeside 5 = .ok (.iconst 1, 1) := by decide +kernel
theorem dX0_placeBeside_6 : decode cX0_placeBeside 6 = .ok (.ixor, 1) := by decide +kernel
theorem dX0_placeBeside_7 : decode cX0_placeBeside 7 = .ok (.iaload, 1) := by decide +kernel
theorem dX0_placeBeside_8 : decode cX0_placeBeside 8 = .ok (.istore 5, 2) := by decide +kernel
theorem dX0_placeBeside_10 : decode cX0_placeBeside 10 = .ok (.aload_n 0, 1) := by decide +kernel
theorem dX0_placeBeside_11 : decode cX0_placeBeside 11 = .ok (.getfield 22, 3) := by decide +kernel
theorem dX0_placeBeside_14 : decode cX0_placeBeside 14 = .ok (.iload_n 2, 1) := by decide +kernel
theorem dX0_placeBeside_15 : decode cX0_placeBeside 15 = .ok (.iaload, 1) := by decide +kernel
theorem dX0_placeBeside_16 : decode cX0_placeBeside 16 = .ok (.istore 6, 2) := by decide +kernel
theorem dX0_placeBeside_18 : decode cX0_placeBeside 18 = .ok (.aload_n 1, 1) := by decide +kernel
theorem dX0_placeBeside_19 : decode cX0_placeBeside 19 = .ok (.iload_n 2, 1) := by decide +kernel
theorem dX0_placeBeside_20 : decode cX0_placeBeside 20 = .ok (.invokevirtual 56, 3) := by decide +kernel
theorem dX0_placeBeside_23 : decode cX0_placeBeside 23 = .ok (.istore 7, 2) := by decide +kernel
theorem dX0_placeBeside_25 : decode cX0_placeBeside 25 = .ok (.lload_n 3, 1) := by decide +kernel
theorem dX0_placeBeside_26 : decode cX0_placeBeside 26 = .ok (.aload_n 1, 1) := by decide +kernel
theorem dX0_placeBeside_27 : decode cX0_placeBeside 27 = .ok (.iload_n 2, 1) := by decide +kernel
theorem dX0_placeBeside_28 : decode cX0_placeBeside 28 = .ok (.invokevirtual 95, 3) := by decide +kernel
theorem dX0_placeBeside_31 : decode cX0_placeBeside 31 = .ok (.i2l, 1) := by decide +kernel
theorem dX0_placeBeside_32 : decode cX0_placeBeside 32 = .ok (.lmul, 1) := by decide +kernel
theorem dX0_placeBeside_33 : decode cX0_placeBeside 33 = .ok (.lstore 8, 2) := by decide +kernel
theorem dX0_placeBeside_35 : decode cX0_placeBeside 35 = .ok (.lload_n 3, 1) := by decide +kernel
theorem dX0_placeBeside_36 : decode cX0_placeBeside 36 = .ok (.aload_n 1, 1) := by decide +kernel
theorem dX0_placeBeside_37 : decode cX0_placeBeside 37 = .ok (.iload_n 2, 1) := by decide +kernel
theorem dX0_placeBeside_38 : decode cX0_placeBeside 38 = .ok (.invokevirtual 98, 3) := by decide +kernel
theorem dX0_placeBeside_41 : decode cX0_placeBeside 41 = .ok (.i2l, 1) := by decide +kernel
theorem dX0_placeBeside_42 : decode cX0_placeBeside 42 = .ok (.lmul, 1) := by decide +kernel
theorem dX0_placeBeside_43 : decode cX0_placeBeside 43 = .ok (.lstore 10, 2) := by decide +kernel
theorem dX0_placeBeside_45 : decode cX0_placeBeside 45 = .ok (.aload_n 0, 1) := by decide +kernel
theorem dX0_placeBeside_46 : decode cX0_placeBeside 46 = .ok (.getfield 34, 3) := by decide +kernel
theorem dX0_placeBeside_49 : decode cX0_placeBeside 49 = .ok (.iload 6, 2) := by decide +kernel
theorem dX0_placeBeside_51 : decode cX0_placeBeside 51 = .ok (.aload_n 0, 1) := by decide +kernel
theorem dX0_placeBeside_52 : decode cX0_placeBeside 52 = .ok (.getfield 34, 3) := by decide +kernel
theorem dX0_placeBeside_55 : decode cX0_placeBeside 55 = .ok (.iload 5, 2) := by decide +kernel
theorem dX0_placeBeside_57 : decode cX0_placeBeside 57 = .ok (.laload, 1) := by decide +kernel
theorem dX0_placeBeside_58 : decode cX0_placeBeside 58 = .ok (.lload 8, 2) := by decide +kernel
theorem dX0_placeBeside_60 : decode cX0_placeBeside 60 = .ok (.ladd, 1) := by decide +kernel
theorem dX0_placeBeside_61 : decode cX0_placeBeside 61 = .ok (.lastore, 1) := by decide +kernel
theorem dX0_placeBeside_62 : decode cX0_placeBeside 62 = .ok (.aload_n 0, 1) := by decide +kernel
theorem dX0_placeBeside_63 : decode cX0_placeBeside 63 = .ok (.getfield 38, 3) := by decide +kernel
theorem dX0_placeBeside_66 : decode cX0_placeBeside 66 = .ok (.iload 6, 2) := by decide +kernel
theorem dX0_placeBeside_68 : decode cX0_placeBeside 68 = .ok (.aload_n 0, 1) := by decide +kernel
theorem dX0_placeBeside_69 : decode cX0_placeBeside 69 = .ok (.getfield 38, 3) := by decide +kernel
theorem dX0_placeBeside_72 : decode cX0_placeBeside 72 = .ok (.iload 5, 2) := by decide +kernel
theorem dX0_placeBeside_74 : decode cX0_placeBeside 74 = .ok (.laload, 1) := by decide +kernel
theorem dX0_placeBeside_75 : decode cX0_placeBeside 75 = .ok (.lload 10, 2) := by decide +kernel
theorem dX0_placeBeside_77 : decode cX0_placeBeside 77 = .ok (.ladd, 1) := by decide +kernel
theorem dX0_placeBeside_78 : decode cX0_placeBeside 78 = .ok (.lastore, 1) := by decide +kernel
theorem dX0_placeBeside_79 : decode cX0_placeBeside 79 = .ok (.aload_n 0, 1) := by decide +kernel
theorem dX0_placeBeside_80 : decode cX0_placeBeside 80 = .ok (.getfield 41, 3) := by decide +kernel
theorem dX0_placeBeside_83 : decode cX0_placeBeside 83 = .ok (.iload 6, 2) := by decide +kernel
theorem dX0_placeBeside_85 : decode cX0_placeBeside 85 = .ok (.aload_n 0, 1) := by decide +kernel
theorem dX0_placeBeside_86 : decode cX0_placeBeside 86 = .ok (.getfield 41, 3) := by decide +kernel
theorem dX0_placeBeside_89 : decode cX0_placeBeside 89 = .ok (.iload 5, 2) := by decide +kernel
theorem dX0_placeBeside_91 : decode cX0_placeBeside 91 = .ok (.laload, 1) := by decide +kernel
theorem dX0_placeBeside_92 : decode cX0_placeBeside 92 = .ok (.lload 10, 2) := by decide +kernel
theorem dX0_placeBeside_94 : decode cX0_placeBeside 94 = .ok (.aload_n 1, 1) := by decide +kernel
theorem dX0_placeBeside_95 : decode cX0_placeBeside 95 = .ok (.getfield 63, 3) := by decide +kernel
theorem dX0_placeBeside_98 : decode cX0_placeBeside 98 = .ok (.iload 7, 2) := by decide +kernel
theorem dX0_placeBeside_100 : decode cX0_placeBeside 100 = .ok (.iaload, 1) := by decide +kernel
theorem dX0_placeBeside_101 : decode cX0_placeBeside 101 = .ok (.i2l, 1) := by decide +kernel
theorem dX0_placeBeside_102 : decode cX0_placeBeside 102 = .ok (.lmul, 1) := by decide +kernel
theorem dX0_placeBeside_103 : decode cX0_placeBeside 103 = .ok (.ladd, 1) := by decide +kernel
theorem dX0_placeBeside_104 : decode cX0_placeBeside 104 = .ok (.lload 8, 2) := by decide +kernel
theorem dX0_placeBeside_106 : decode cX0_placeBeside 106 = .ok (.aload_n 1, 1) := by decide +kernel
theorem dX0_placeBeside_107 : decode cX0_placeBeside 107 = .ok (.getfield 60, 3) := by decide +kernel
theorem dX0_placeBeside_110 : decode cX0_placeBeside 110 = .ok (.iload 7, 2) := by decide +kernel
theorem dX0_placeBeside_112 : decode cX0_placeBeside 112 = .ok (.iaload, 1) := by decide +kernel
theorem dX0_placeBeside_113 : decode cX0_placeBeside 113 = .ok (.i2l, 1) := by decide +kernel
theorem dX0_placeBeside_114 : decode cX0_placeBeside 114 = .ok (.lmul, 1) := by decide +kernel
theorem dX0_placeBeside_115 : decode cX0_placeBeside 115 = .ok (.lsub, 1) := by decide +kernel
theorem dX0_placeBeside_116 : decode cX0_placeBeside 116 = .ok (.lastore, 1) := by decide +kernel
theorem dX0_placeBeside_117 : decode cX0_placeBeside 117 = .ok (.aload_n 0, 1) := by decide +kernel
theorem dX0_placeBeside_118 : decode cX0_placeBeside 118 = .ok (.getfield 44, 3) := by decide +kernel
theorem dX0_placeBeside_121 : decode cX0_placeBeside 121 = .ok (.iload 6, 2) := by decide +kernel
theorem dX0_placeBeside_123 : decode cX0_placeBeside 123 = .ok (.iconst 1, 1) := by decide +kernel
theorem dX0_placeBeside_124 : decode cX0_placeBeside 124 = .ok (.bastore, 1) := by decide +kernel
theorem dX0_placeBeside_125 : decode cX0_placeBeside 125 = .ok (.return_, 1) := by decide +kernel
theorem dX0_flatFace_0 : decode cX0_flatFace 0 = .ok (.iconst 0, 1) := by decide +kernel
theorem dX0_flatFace_1 : decode cX0_flatFace 1 = .ok (.istore_n 1, 1) := by decide +kernel
theorem dX0_flatFace_2 : decode cX0_flatFace 2 = .ok (.iload_n 1, 1) := by decide +kernel
theorem dX0_flatFace_3 : decode cX0_flatFace 3 = .ok (.aload_n 0, 1) := by decide +kernel
theorem dX0_flatFace_4 : decode cX0_flatFace 4 = .ok (.getfield 48, 3) := by decide +kernel
theorem dX0_flatFace_7 : decode cX0_flatFace 7 = .ok (.if_icmp .ge 20, 3) := by decide +kernel
theorem dX0_flatFace_10 : decode cX0_flatFace 10 = .ok (.aload_n 0, 1) := by decide +kernel
theorem dX0_flatFace_11 : decode cX0_flatFace 11 = .ok (.getfield 31, 3) := by decide +kernel
theorem dX0_flatFace_14 : decode cX0_flatFace 14 = .ok (.iload_n 1, 1) := by decide +kernel
theorem dX0_flatFace_15 : decode cX0_flatFace 15 = .ok (.iaload, 1) := by decide +kernel
theorem dX0_flatFace_16 : decode cX0_flatFace 16 = .ok (.ifCond .gt 5, 3) := by decide +kernel
theorem dX0_flatFace_19 : decode cX0_flatFace 19 = .ok (.iload_n 1, 1) := by decide +kernel
theorem dX0_flatFace_20 : decode cX0_flatFace 20 = .ok (.ireturn, 1) := by decide +kernel
theorem dX0_flatFace_21 : decode cX0_flatFace 21 = .ok (.iinc 1 1, 3) := by decide +kernel
theorem dX0_flatFace_24 : decode cX0_flatFace 24 = .ok (.goto (-22), 3) := by decide +kernel
theorem dX0_flatFace_27 : decode cX0_flatFace 27 = .ok (.bipush (-4), 2) := by decide +kernel
theorem dX0_flatFace_29 : decode cX0_flatFace 29 = .ok (.ireturn, 1) := by decide +kernel
theorem dX0_walkRound_0 : decode cX0_walkRound 0 = .ok (.aload_n 0, 1) := by decide +kernel
theorem dX0_walkRound_1 : decode cX0_walkRound 1 = .ok (.getfield 48, 3) := by decide +kernel
theorem dX0_walkRound_4 : decode cX0_walkRound 4 = .ok (.istore_n 3, 1) := by decide +kernel
theorem dX0_walkRound_5 : decode cX0_walkRound 5 = .ok (.aload_n 0, 1) := by decide +kernel
theorem dX0_walkRound_6 : decode cX0_walkRound 6 = .ok (.dup, 1) := by decide +kernel
theorem dX0_walkRound_7 : decode cX0_walkRound 7 = .ok (.getfield 48, 3) := by decide +kernel
theorem dX0_walkRound_10 : decode cX0_walkRound 10 = .ok (.iconst 1, 1) := by decide +kernel
theorem dX0_walkRound_11 : decode cX0_walkRound 11 = .ok (.iadd, 1) := by decide +kernel
theorem dX0_walkRound_12 : decode cX0_walkRound 12 = .ok (.putfield 48, 3) := by decide +kernel
theorem dX0_walkRound_15 : decode cX0_walkRound 15 = .ok (.aload_n 0, 1) := by decide +kernel
theorem dX0_walkRound_16 : decode cX0_walkRound 16 = .ok (.getfield 25, 3) := by decide +kernel
theorem dX0_walkRound_19 : decode cX0_walkRound 19 = .ok (.iload_n 3, 1) := by decide +kernel
theorem dX0_walkRound_20 : decode cX0_walkRound 20 = .ok (.iload_n 2, 1) := by decide +kernel
theorem dX0_walkRound_21 : decode cX0_walkRound 21 = .ok (.iastore, 1) := by decide +kernel
theorem dX0_walkRound_22 : decode cX0_walkRound 22 = .ok (.aload_n 0, 1) := by decide +kernel
theorem dX0_walkRound_23 : decode cX0_walkRound 23 = .ok (.getfield 28, 3) := by decide +kernel
theorem dX0_walkRound_26 : decode cX0_walkRound 26 = .ok (.iload_n 3, 1) := by decide +kernel
theorem dX0_walkRound_27 : decode cX0_walkRound 27 = .ok (.iconst 0, 1) := by decide +kernel
theorem dX0_walkRound_28 : decode cX0_walkRound 28 = .ok (.iastore, 1) := by decide +kernel
theorem dX0_walkRound_29 : decode cX0_walkRound 29 = .ok (.aload_n 0, 1) := by decide +kernel
theorem dX0_walkRound_30 : decode cX0_walkRound 30 = .ok (.getfield 31, 3) := by decide +kernel
theorem dX0_walkRound_33 : decode cX0_walkRound 33 = .ok (.iload_n 3, 1) := by decide +kernel
theorem dX0_walkRound_34 : decode cX0_walkRound 34 = .ok (.iconst 0, 1) := by decide +kernel
theorem dX0_walkRound_35 : decode cX0_walkRound 35 = .ok (.iastore, 1) := by decide +kernel
theorem dX0_walkRound_36 : decode cX0_walkRound 36 = .ok (.iload_n 2, 1) := by decide +kernel
theorem dX0_walkRound_37 : decode cX0_walkRound 37 = .ok (.istore 4, 2) := by decide +kernel
theorem dX0_walkRound_39 : decode cX0_walkRound 39 = .ok (.iconst 0, 1) := by decide +kernel
theorem dX0_walkRound_40 : decode cX0_walkRound 40 = .ok (.istore 5, 2) := by decide +kernel
theorem dX0_walkRound_42 : decode cX0_walkRound 42 = .ok (.iload 5, 2) := by decide +kernel
theorem dX0_walkRound_44 : decode cX0_walkRound 44 = .ok (.iconst 2, 1) := by decide +kernel
theorem dX0_walkRound_45 : decode cX0_walkRound 45 = .ok (.aload_n 1, 1) := by decide +kernel
theorem dX0_walkRound_46 : decode cX0_walkRound 46 = .ok (.getfield 51, 3) := by decide +kernel
theorem dX0_walkRound_49 : decode cX0_walkRound 49 = .ok (.imul, 1) := by decide +kernel
theorem dX0_walkRound_50 : decode cX0_walkRound 50 = .ok (.if_icmp .ge 102, 3) := by decide +kernel
theorem dX0_walkRound_53 : decode cX0_walkRound 53 = .ok (.aload_n 0, 1) := by decide +kernel
theorem dX0_walkRound_54 : decode cX0_walkRound 54 = .ok (.getfield 22, 3) := by decide +kernel
theorem dX0_walkRound_57 : decode cX0_walkRound 57 = .ok (.iload 4, 2) := by decide +kernel
theorem dX0_walkRound_59 : decode cX0_walkRound 59 = .ok (.iaload, 1) := by decide +kernel
theorem dX0_walkRound_60 : decode cX0_walkRound 60 = .ok (.ifCond .ge 92, 3) := by decide +kernel
theorem dX0_walkRound_63 : decode cX0_walkRound 63 = .ok (.aload_n 1, 1) := by decide +kernel
theorem dX0_walkRound_64 : decode cX0_walkRound 64 = .ok (.iload 4, 2) := by decide +kernel
theorem dX0_walkRound_66 : decode cX0_walkRound 66 = .ok (.invokevirtual 56, 3) := by decide +kernel
theorem dX0_walkRound_69 : decode cX0_walkRound 69 = .ok (.istore 6, 2) := by decide +kernel
theorem dX0_walkRound_71 : decode cX0_walkRound 71 = .ok (.aload_n 1, 1) := by decide +kernel
theorem dX0_walkRound_72 : decode cX0_walkRound 72 = .ok (.iload 4, 2) := by decide +kernel
theorem dX0_walkRound_74 : decode cX0_walkRound 74 = .ok (.invokevirtual 101, 3) := by decide +kernel
theorem dX0_walkRound_77 : decode cX0_walkRound 77 = .ok (.istore 7, 2) := by decide +kernel
theorem dX0_walkRound_79 : decode cX0_walkRound 79 = .ok (.aload_n 0, 1) := by decide +kernel
theorem dX0_walkRound_80 : decode cX0_walkRound 80 = .ok (.getfield 22, 3) := by decide +kernel
theorem dX0_walkRound_83 : decode cX0_walkRound 83 = .ok (.iload 4, 2) := by decide +kernel
theorem dX0_walkRound_85 : decode cX0_walkRound 85 = .ok (.iload_n 3, 1) := by decide +kernel
theorem dX0_walkRound_86 : decode cX0_walkRound 86 = .ok (.iastore, 1) := by decide +kernel
theorem dX0_walkRound_87 : decode cX0_walkRound 87 = .ok (.aload_n 0, 1) := by decide +kernel
theorem dX0_walkRound_88 : decode cX0_walkRound 88 = .ok (.getfield 28, 3) := by decide +kernel
theorem dX0_walkRound_91 : decode cX0_walkRound 91 = .ok (.iload_n 3, 1) := by decide +kernel
theorem dX0_walkRound_92 : decode cX0_walkRound 92 = .ok (.dup2, 1) := by decide +kernel
theorem dX0_walkRound_93 : decode cX0_walkRound 93 = .ok (.iaload, 1) := by decide +kernel
theorem dX0_walkRound_94 : decode cX0_walkRound 94 = .ok (.iconst 1, 1) := by decide +kernel
theorem dX0_walkRound_95 : decode cX0_walkRound 95 = .ok (.iadd, 1) := by decide +kernel
theorem dX0_walkRound_96 : decode cX0_walkRound 96 = .ok (.iastore, 1) := by decide +kernel
theorem dX0_walkRound_97 : decode cX0_walkRound 97 = .ok (.aload_n 0, 1) := by decide +kernel
theorem dX0_walkRound_98 : decode cX0_walkRound 98 = .ok (.getfield 31, 3) := by decide +kernel
theorem dX0_walkRound_101 : decode cX0_walkRound 101 = .ok (.iload_n 3, 1) := by decide +kernel
theorem dX0_walkRound_102 : decode cX0_walkRound 102 = .ok (.dup2, 1) := by decide +kernel
theorem dX0_walkRound_103 : decode cX0_walkRound 103 = .ok (.iaload, 1) := by decide +kernel
theorem dX0_walkRound_104 : decode cX0_walkRound 104 = .ok (.aload_n 1, 1) := by decide +kernel
theorem dX0_walkRound_105 : decode cX0_walkRound 105 = .ok (.getfield 63, 3) := by decide +kernel
theorem dX0_walkRound_108 : decode cX0_walkRound 108 = .ok (.iload 6, 2) := by decide +kernel
theorem dX0_walkRound_110 : decode cX0_walkRound 110 = .ok (.iaload, 1) := by decide +kernel
theorem dX0_walkRound_111 : decode cX0_walkRound 111 = .ok (.aload_n 1, 1) := by decide +kernel
theorem dX0_walkRound_112 : decode cX0_walkRound 112 = .ok (.getfield 60, 3) := by decide +kernel
theorem dX0_walkRound_115 : decode cX0_walkRound 115 = .ok (.iload 7, 2) := by decide +kernel
theorem dX0_walkRound_117 : decode cX0_walkRound 117 = .ok (.iaload, 1) := by decide +kernel
theorem dX0_walkRound_118 : decode cX0_walkRound 118 = .ok (.imul, 1) := by decide +kernel
theorem dX0_walkRound_119 : decode cX0_walkRound 119 = .ok (.aload_n 1, 1) := by decide +kernel
theorem dX0_walkRound_120 : decode cX0_walkRound 120 = .ok (.getfield 63, 3) := by decide +kernel
theorem dX0_walkRound_123 : decode cX0_walkRound 123 = .ok (.iload 7, 2) := by decide +kernel
theorem dX0_walkRound_125 : decode cX0_walkRound 125 = .ok (.iaload, 1) := by decide +kernel
theorem dX0_walkRound_126 : decode cX0_walkRound 126 = .ok (.aload_n 1, 1) := by decide +kernel
theorem dX0_walkRound_127 : decode cX0_walkRound 127 = .ok (.getfield 60, 3) := by decide +kernel
theorem dX0_walkRound_130 : decode cX0_walkRound 130 = .ok (.iload 6, 2) := by decide +kernel
theorem dX0_walkRound_132 : decode cX0_walkRound 132 = .ok (.iaload, 1) := by decide +kernel
theorem dX0_walkRound_133 : decode cX0_walkRound 133 = .ok (.imul, 1) := by decide +kernel
theorem dX0_walkRound_134 : decode cX0_walkRound 134 = .ok (.isub, 1) := by decide +kernel
theorem dX0_walkRound_135 : decode cX0_walkRound 135 = .ok (.iadd, 1) := by decide +kernel
theorem dX0_walkRound_136 : decode cX0_walkRound 136 = .ok (.iastore, 1) := by decide +kernel
theorem dX0_walkRound_137 : decode cX0_walkRound 137 = .ok (.aload_n 0, 1) := by decide +kernel
theorem dX0_walkRound_138 : decode cX0_walkRound 138 = .ok (.getfield 19, 3) := by decide +kernel
theorem dX0_walkRound_141 : decode cX0_walkRound 141 = .ok (.iload 4, 2) := by decide +kernel
theorem dX0_walkRound_143 : decode cX0_walkRound 143 = .ok (.iaload, 1) := by decide +kernel
theorem dX0_walkRound_144 : decode cX0_walkRound 144 = .ok (.istore 4, 2) := by decide +kernel
theorem dX0_walkRound_146 : decode cX0_walkRound 146 = .ok (.iinc 5 1, 3) := by decide +kernel
theorem dX0_walkRound_149 : decode cX0_walkRound 149 = .ok (.goto (-107), 3) := by decide +kernel
theorem dX0_walkRound_152 : decode cX0_walkRound 152 = .ok (.return_, 1) := by decide +kernel
theorem dX0_turnOf_0 : decode cX0_turnOf 0 = .ok (.iconst 0, 1) := by decide +kernel
theorem dX0_turnOf_1 : decode cX0_turnOf 1 = .ok (.istore_n 2, 1) := by decide +kernel
theorem dX0_turnOf_2 : decode cX0_turnOf 2 = .ok (.iconst 0, 1) := by decide +kernel
theorem dX0_turnOf_3 : decode cX0_turnOf 3 = .ok (.istore_n 3, 1) := by decide +kernel
theorem dX0_turnOf_4 : decode cX0_turnOf 4 = .ok (.iload_n 3, 1) := by decide +kernel
theorem dX0_turnOf_5 : decode cX0_turnOf 5 = .ok (.iconst 2, 1) := by decide +kernel
theorem dX0_turnOf_6 : decode cX0_turnOf 6 = .ok (.aload_n 0, 1) := by decide +kernel
theorem dX0_turnOf_7 : decode cX0_turnOf 7 = .ok (.getfield 51, 3) := by decide +kernel
theorem dX0_turnOf_10 : decode cX0_turnOf 10 = .ok (.imul, 1) := by decide +kernel
theorem dX0_turnOf_11 : decode cX0_turnOf 11 = .ok (.if_icmp .ge 34, 3) := by decide +kernel
theorem dX0_turnOf_14 : decode cX0_turnOf 14 = .ok (.aload_n 0, 1) := by decide +kernel
theorem dX0_turnOf_15 : decode cX0_turnOf 15 = .ok (.iload_n 3, 1) := by decide +kernel
theorem dX0_turnOf_16 : decode cX0_turnOf 16 = .ok (.invokevirtual 56, 3) := by decide +kernel
theorem dX0_turnOf_19 : decode cX0_turnOf 19 = .ok (.aload_n 0, 1) := by decide +kernel
theorem dX0_turnOf_20 : decode cX0_turnOf 20 = .ok (.iload_n 1, 1) := by decide +kernel
theorem dX0_turnOf_21 : decode cX0_turnOf 21 = .ok (.invokevirtual 56, 3) := by decide +kernel
theorem dX0_turnOf_24 : decode cX0_turnOf 24 = .ok (.if_icmp .ne 15, 3) := by decide +kernel
theorem dX0_turnOf_27 : decode cX0_turnOf 27 = .ok (.aload_n 0, 1) := by decide +kernel
theorem dX0_turnOf_28 : decode cX0_turnOf 28 = .ok (.iload_n 3, 1) := by decide +kernel
theorem dX0_turnOf_29 : decode cX0_turnOf 29 = .ok (.iload_n 1, 1) := by decide +kernel
theorem dX0_turnOf_30 : decode cX0_turnOf 30 = .ok (.invokestatic 104, 3) := by decide +kernel
theorem dX0_turnOf_33 : decode cX0_turnOf 33 = .ok (.ifCond .eq 6, 3) := by decide +kernel
theorem dX0_turnOf_36 : decode cX0_turnOf 36 = .ok (.iinc 2 1, 3) := by decide +kernel
theorem dX0_turnOf_39 : decode cX0_turnOf 39 = .ok (.iinc 3 1, 3) := by decide +kernel
theorem dX0_turnOf_42 : decode cX0_turnOf 42 = .ok (.goto (-38), 3) := by decide +kernel
theorem dX0_turnOf_45 : decode cX0_turnOf 45 = .ok (.iload_n 2, 1) := by decide +kernel
theorem dX0_turnOf_46 : decode cX0_turnOf 46 = .ok (.ireturn, 1) := by decide +kernel
theorem dX0_isAhead_0 : decode cX0_isAhead 0 = .ok (.aload_n 0, 1) := by decide +kernel
theorem dX0_isAhead_1 : decode cX0_isAhead 1 = .ok (.iload_n 1, 1) := by decide +kernel
theorem dX0_isAhead_2 : decode cX0_isAhead 2 = .ok (.invokevirtual 95, 3) := by decide +kernel
theorem dX0_isAhead_5 : decode cX0_isAhead 5 = .ok (.aload_n 0, 1) := by decide +kernel
theorem dX0_isAhead_6 : decode cX0_isAhead 6 = .ok (.iload_n 1, 1) := by decide +kernel
theorem dX0_isAhead_7 : decode cX0_isAhead 7 = .ok (.invokevirtual 98, 3) := by decide +kernel
theorem dX0_isAhead_10 : decode cX0_isAhead 10 = .ok (.invokestatic 108, 3) := by decide +kernel
theorem dX0_isAhead_13 : decode cX0_isAhead 13 = .ok (.istore_n 3, 1) := by decide +kernel
theorem dX0_isAhead_14 : decode cX0_isAhead 14 = .ok (.aload_n 0, 1) := by decide +kernel
theorem dX0_isAhead_15 : decode cX0_isAhead 15 = .ok (.iload_n 2, 1) := by decide +kernel
theorem dX0_isAhead_16 : decode cX0_isAhead 16 = .ok (.invokevirtual 95, 3) := by decide +kernel
theorem dX0_isAhead_19 : decode cX0_isAhead 19 = .ok (.aload_n 0, 1) := by decide +kernel
theorem dX0_isAhead_20 : decode cX0_isAhead 20 = .ok (.iload_n 2, 1) := by decide +kernel
theorem dX0_isAhead_21 : decode cX0_isAhead 21 = .ok (.invokevirtual 98, 3) := by decide +kernel
theorem dX0_isAhead_24 : decode cX0_isAhead 24 = .ok (.invokestatic 108, 3) := by decide +kernel
theorem dX0_isAhead_27 : decode cX0_isAhead 27 = .ok (.istore 4, 2) := by decide +kernel
theorem dX0_isAhead_29 : decode cX0_isAhead 29 = .ok (.iload_n 3, 1) := by decide +kernel
theorem dX0_isAhead_30 : decode cX0_isAhead 30 = .ok (.iload 4, 2) := by decide +kernel
theorem dX0_isAhead_32 : decode cX0_isAhead 32 = .ok (.if_icmp .eq 15, 3) := by decide +kernel
theorem dX0_isAhead_35 : decode cX0_isAhead 35 = .ok (.iload_n 3, 1) := by decide +kernel
theorem dX0_isAhead_36 : decode cX0_isAhead 36 = .ok (.iload 4, 2) := by decide +kernel
theorem dX0_isAhead_38 : decode cX0_isAhead 38 = .ok (.if_icmp .ge 7, 3) := by decide +kernel
theorem dX0_isAhead_41 : decode cX0_isAhead 41 = .ok (.iconst 1, 1) := by decide +kernel
theorem dX0_isAhead_42 : decode cX0_isAhead 42 = .ok (.goto 4, 3) := by decide +kernel
theorem dX0_isAhead_45 : decode cX0_isAhead 45 = .ok (.iconst 0, 1) := by decide +kernel
theorem dX0_isAhead_46 : decode cX0_isAhead 46 = .ok (.ireturn, 1) := by decide +kernel
theorem dX0_isAhead_47 : decode cX0_isAhead 47 = .ok (.aload_n 0, 1) := by decide +kernel
theorem dX0_isAhead_48 : decode cX0_isAhead 48 = .ok (.iload_n 1, 1) := by decide +kernel
theorem dX0_isAhead_49 : decode cX0_isAhead 49 = .ok (.invokevirtual 95, 3) := by decide +kernel
theorem dX0_isAhead_52 : decode cX0_isAhead 52 = .ok (.aload_n 0, 1) := by decide +kernel
theorem dX0_isAhead_53 : decode cX0_isAhead 53 = .ok (.iload_n 2, 1) := by decide +kernel
theorem dX0_isAhead_54 : decode cX0_isAhead 54 = .ok (.invokevirtual 98, 3) := by decide +kernel
theorem dX0_isAhead_57 : decode cX0_isAhead 57 = .ok (.imul, 1) := by decide +kernel
theorem dX0_isAhead_58 : decode cX0_isAhead 58 = .ok (.aload_n 0, 1) := by decide +kernel
theorem dX0_isAhead_59 : decode cX0_isAhead 59 = .ok (.iload_n 1, 1) := by decide +kernel
theorem dX0_isAhead_60 : decode cX0_isAhead 60 = .ok (.invokevirtual 98, 3) := by decide +kernel
theorem dX0_isAhead_63 : decode cX0_isAhead 63 = .ok (.aload_n 0, 1) := by decide +kernel
theorem dX0_isAhead_64 : decode cX0_isAhead 64 = .ok (.iload_n 2, 1) := by decide +kernel
theorem dX0_isAhead_65 : decode cX0_isAhead 65 = .ok (.invokevirtual 95, 3) := by decide +kernel
theorem dX0_isAhead_68 : decode cX0_isAhead 68 = .ok (.imul, 1) := by decide +kernel
theorem dX0_isAhead_69 : decode cX0_isAhead 69 = .ok (.isub, 1) := by decide +kernel
theorem dX0_isAhead_70 : decode cX0_isAhead 70 = .ok (.ifCond .le 7, 3) := by decide +kernel
theorem dX0_isAhead_73 : decode cX0_isAhead 73 = .ok (.iconst 1, 1) := by decide +kernel
theorem dX0_isAhead_74 : decode cX0_isAhead 74 = .ok (.goto 4, 3) := by decide +kernel
theorem dX0_isAhead_77 : decode cX0_isAhead 77 = .ok (.iconst 0, 1) := by decide +kernel
theorem dX0_isAhead_78 : decode cX0_isAhead 78 = .ok (.ireturn, 1) := by decide +kernel
theorem dX0_halfTurn_0 : decode cX0_halfTurn 0 = .ok (.iload_n 1, 1) := by decide +kernel
theorem dX0_halfTurn_1 : decode cX0_halfTurn 1 = .ok (.ifCond .gt 11, 3) := by decide +kernel
theorem dX0_halfTurn_4 : decode cX0_halfTurn 4 = .ok (.iload_n 1, 1) := by decide +kernel
theorem dX0_halfTurn_5 : decode cX0_halfTurn 5 = .ok (.ifCond .ne 11, 3) := by decide +kernel
theorem dX0_halfTurn_8 : decode cX0_halfTurn 8 = .ok (.iload_n 0, 1) := by decide +kernel
theorem dX0_halfTurn_9 : decode cX0_halfTurn 9 = .ok (.ifCond .le 7, 3) := by decide +kernel
theorem dX0_halfTurn_12 : decode cX0_halfTurn 12 = .ok (.iconst 0, 1) := by decide +kernel
theorem dX0_halfTurn_13 : decode cX0_halfTurn 13 = .ok (.goto 4, 3) := by decide +kernel
theorem dX0_halfTurn_16 : decode cX0_halfTurn 16 = .ok (.iconst 1, 1) := by decide +kernel
theorem dX0_halfTurn_17 : decode cX0_halfTurn 17 = .ok (.ireturn, 1) := by decide +kernel
theorem dX0_clockwiseOf_0 : decode cX0_clockwiseOf 0 = .ok (.aload_n 1, 1) := by decide +kernel
theorem dX0_clockwiseOf_1 : decode cX0_clockwiseOf 1 = .ok (.iload_n 2, 1) := by decide +kernel
theorem dX0_clockwiseOf_2 : decode cX0_clockwiseOf 2 = .ok (.invokevirtual 56, 3) := by decide +kernel
theorem dX0_clockwiseOf_5 : decode cX0_clockwiseOf 5 = .ok (.istore_n 3, 1) := by decide +kernel
theorem dX0_clockwiseOf_6 : decode cX0_clockwiseOf 6 = .ok (.aload_n 1, 1) := by decide +kernel
theorem dX0_clockwiseOf_7 : decode cX0_clockwiseOf 7 = .ok (.iload_n 3, 1) := by decide +kernel
theorem dX0_clockwiseOf_8 : decode cX0_clockwiseOf 8 = .ok (.invokevirtual 112, 3) := by decide +kernel
theorem dX0_clockwiseOf_11 : decode cX0_clockwiseOf 11 = .ok (.iconst 1, 1) := by decide +kernel
theorem dX0_clockwiseOf_12 : decode cX0_clockwiseOf 12 = .ok (.invokestatic 115, 3) := by decide +kernel
theorem dX0_clockwiseOf_15 : decode cX0_clockwiseOf 15 = .ok (.istore 4, 2) := by decide +kernel
theorem dX0_clockwiseOf_17 : decode cX0_clockwiseOf 17 = .ok (.aload_n 0, 1) := by decide +kernel
theorem dX0_clockwiseOf_18 : decode cX0_clockwiseOf 18 = .ok (.getfield 15, 3) := by decide +kernel
theorem dX0_clockwiseOf_21 : decode cX0_clockwiseOf 21 = .ok (.iload_n 2, 1) := by decide +kernel
theorem dX0_clockwiseOf_22 : decode cX0_clockwiseOf 22 = .ok (.iaload, 1) := by decide +kernel
theorem dX0_clockwiseOf_23 : decode cX0_clockwiseOf 23 = .ok (.iload 4, 2) := by decide +kernel
theorem dX0_clockwiseOf_25 : decode cX0_clockwiseOf 25 = .ok (.iadd, 1) := by decide +kernel
theorem dX0_clockwiseOf_26 : decode cX0_clockwiseOf 26 = .ok (.iconst 1, 1) := by decide +kernel
theorem dX0_clockwiseOf_27 : decode cX0_clockwiseOf 27 = .ok (.isub, 1) := by decide +kernel
theorem dX0_clockwiseOf_28 : decode cX0_clockwiseOf 28 = .ok (.iload 4, 2) := by decide +kernel
theorem dX0_clockwiseOf_30 : decode cX0_clockwiseOf 30 = .ok (.irem, 1) := by decide +kernel
theorem dX0_clockwiseOf_31 : decode cX0_clockwiseOf 31 = .ok (.istore 5, 2) := by decide +kernel
theorem dX0_clockwiseOf_33 : decode cX0_clockwiseOf 33 = .ok (.iconst 0, 1) := by decide +kernel
theorem dX0_clockwiseOf_34 : decode cX0_clockwiseOf 34 = .ok (.istore 6, 2) := by decide +kernel
theorem dX0_clockwiseOf_36 : decode cX0_clockwiseOf 36 = .ok (.iload 6, 2) := by decide +kernel
theorem dX0_clockwiseOf_38 : decode cX0_clockwiseOf 38 = .ok (.iconst 2, 1) := by decide +kernel
theorem dX0_clockwiseOf_39 : decode cX0_clockwiseOf 39 = .ok (.aload_n 1, 1) := by decide +kernel
theorem dX0_clockwiseOf_40 : decode cX0_clockwiseOf 40 = .ok (.getfield 51, 3) := by decide +kernel
theorem dX0_clockwiseOf_43 : decode cX0_clockwiseOf 43 = .ok (.imul, 1) := by decide +kernel
theorem dX0_clockwiseOf_44 : decode cX0_clockwiseOf 44 = .ok (.if_icmp .ge 34, 3) := by decide +kernel
theorem dX0_clockwiseOf_47 : decode cX0_clockwiseOf 47 = .ok (.aload_n 1, 1) := by decide +kernel
theorem dX0_clockwiseOf_48 : decode cX0_clockwiseOf 48 = .ok (.iload 6, 2) := by decide +kernel
theorem dX0_clockwiseOf_50 : decode cX0_clockwiseOf 50 = .ok (.invokevirtual 56, 3) := by decide +kernel
theorem dX0_clockwiseOf_53 : decode cX0_clockwiseOf 53 = .ok (.iload_n 3, 1) := by decide +kernel
theorem dX0_clockwiseOf_54 : decode cX0_clockwiseOf 54 = .ok (.if_icmp .ne 18, 3) := by decide +kernel
theorem dX0_clockwiseOf_57 : decode cX0_clockwiseOf 57 = .ok (.aload_n 0, 1) := by decide +kernel
theorem dX0_clockwiseOf_58 : decode cX0_clockwiseOf 58 = .ok (.getfield 15, 3) := by decide +kernel
theorem dX0_clockwiseOf_61 : decode cX0_clockwiseOf 61 = .ok (.iload 6, 2) := by decide +kernel
theorem dX0_clockwiseOf_63 : decode cX0_clockwiseOf 63 = .ok (.iaload, 1) := by decide +kernel
theorem dX0_clockwiseOf_64 : decode cX0_clockwiseOf 64 = .ok (.iload 5, 2) := by decide +kernel
theorem dX0_clockwiseOf_66 : decode cX0_clockwiseOf 66 = .ok (.if_icmp .ne 6, 3) := by decide +kernel
theorem dX0_clockwiseOf_69 : decode cX0_clockwiseOf 69 = .ok (.iload 6, 2) := by decide +kernel
theorem dX0_clockwiseOf_71 : decode cX0_clockwiseOf 71 = .ok (.ireturn, 1) := by decide +kernel
theorem dX0_clockwiseOf_72 : decode cX0_clockwiseOf 72 = .ok (.iinc 6 1, 3) := by decide +kernel
theorem dX0_clockwiseOf_75 : decode cX0_clockwiseOf 75 = .ok (.goto (-39), 3) := by decide +kernel
theorem dX0_clockwiseOf_78 : decode cX0_clockwiseOf 78 = .ok (.iload_n 2, 1) := by decide +kernel
theorem dX0_clockwiseOf_79 : decode cX0_clockwiseOf 79 = .ok (.ireturn, 1) := by decide +kernel
theorem dX1_init_0 : decode cX1_init 0 = .ok (.aload_n 0, 1) := by decide +kernel
theorem dX1_init_1 : decode cX1_init 1 = .ok (.invokespecial 3, 3) := by decide +kernel
theorem dX1_init_4 : decode cX1_init 4 = .ok (.aload_n 0, 1) := by decide +kernel
theorem dX1_init_5 : decode cX1_init 5 = .ok (.iconst 1, 1) := by decide +kernel
theorem dX1_init_6 : decode cX1_init 6 = .ok (.putfield 9, 3) := by decide +kernel
theorem dX1_init_9 : decode cX1_init 9 = .ok (.aload_n 0, 1) := by decide +kernel
theorem dX1_init_10 : decode cX1_init 10 = .ok (.bipush 6, 2) := by decide +kernel
theorem dX1_init_12 : decode cX1_init 12 = .ok (.newarray .int, 2) := by decide +kernel
theorem dX1_init_14 : decode cX1_init 14 = .ok (.putfield 15, 3) := by decide +kernel
theorem dX1_init_17 : decode cX1_init 17 = .ok (.aload_n 0, 1) := by decide +kernel
theorem dX1_init_18 : decode cX1_init 18 = .ok (.bipush 6, 2) := by decide +kernel
theorem dX1_init_20 : decode cX1_init 20 = .ok (.newarray .int, 2) := by decide +kernel
theorem dX1_init_22 : decode cX1_init 22 = .ok (.putfield 19, 3) := by decide +kernel
theorem dX1_init_25 : decode cX1_init 25 = .ok (.aload_n 0, 1) := by decide +kernel
theorem dX1_init_26 : decode cX1_init 26 = .ok (.bipush 9, 2) := by decide +kernel
theorem dX1_init_28 : decode cX1_init 28 = .ok (.newarray .int, 2) := by decide +kernel
theorem dX1_init_30 : decode cX1_init 30 = .ok (.putfield 22, 3) := by decide +kernel
theorem dX1_init_33 : decode cX1_init 33 = .ok (.aload_n 0, 1) := by decide +kernel
theorem dX1_init_34 : decode cX1_init 34 = .ok (.bipush 9, 2) := by decide +kernel
theorem dX1_init_36 : decode cX1_init 36 = .ok (.newarray .int, 2) := by decide +kernel
theorem dX1_init_38 : decode cX1_init 38 = .ok (.putfield 25, 3) := by decide +kernel
theorem dX1_init_41 : decode cX1_init 41 = .ok (.aload_n 0, 1) := by decide +kernel
theorem dX1_init_42 : decode cX1_init 42 = .ok (.bipush 9, 2) := by decide +kernel
theorem dX1_init_44 : decode cX1_init 44 = .ok (.newarray .int, 2) := by decide +kernel
theorem dX1_init_46 : decode cX1_init 46 = .ok (.putfield 28, 3) := by decide +kernel
theorem dX1_init_49 : decode cX1_init 49 = .ok (.aload_n 0, 1) := by decide +kernel
theorem dX1_init_50 : decode cX1_init 50 = .ok (.getfield 28, 3) := by decide +kernel
theorem dX1_init_53 : decode cX1_init 53 = .ok (.iconst 0, 1) := by decide +kernel
theorem dX1_init_54 : decode cX1_init 54 = .ok (.iconst 1, 1) := by decide +kernel
theorem dX1_init_55 : decode cX1_init 55 = .ok (.iastore, 1) := by decide +kernel
theorem dX1_init_56 : decode cX1_init 56 = .ok (.return_, 1) := by decide +kernel
theorem dX1_takeAll_0 : decode cX1_takeAll 0 = .ok (.aload_n 0, 1) := by decide +kernel
theorem dX1_takeAll_1 : decode cX1_takeAll 1 = .ok (.aload_n 1, 1) := by decide +kernel
theorem dX1_takeAll_2 : decode cX1_takeAll 2 = .ok (.invokevirtual 31, 3) := by decide +kernel
theorem dX1_takeAll_5 : decode cX1_takeAll 5 = .ok (.aload_n 0, 1) := by decide +kernel
theorem dX1_takeAll_6 : decode cX1_takeAll 6 = .ok (.aload_n 1, 1) := by decide +kernel
theorem dX1_takeAll_7 : decode cX1_takeAll 7 = .ok (.getfield 9, 3) := by decide +kernel
theorem dX1_takeAll_10 : decode cX1_takeAll 10 = .ok (.putfield 9, 3) := by decide +kernel
theorem dX1_takeAll_13 : decode cX1_takeAll 13 = .ok (.aload_n 1, 1) := by decide +kernel
theorem dX1_takeAll_14 : decode cX1_takeAll 14 = .ok (.getfield 28, 3) := by decide +kernel
theorem dX1_takeAll_17 : decode cX1_takeAll 17 = .ok (.iconst 0, 1) := by decide +kernel
theorem dX1_takeAll_18 : decode cX1_takeAll 18 = .ok (.aload_n 0, 1) := by decide +kernel
theorem dX1_takeAll_19 : decode cX1_takeAll 19 = .ok (.getfield 28, 3) := by decide +kernel
theorem dX1_takeAll_22 : decode cX1_takeAll 22 = .ok (.iconst 0, 1) := by decide +kernel
theorem dX1_takeAll_23 : decode cX1_takeAll 23 = .ok (.bipush 9, 2) := by decide +kernel
theorem dX1_takeAll_25 : decode cX1_takeAll 25 = .ok (.invokestatic 35, 3) := by decide +kernel
theorem dX1_takeAll_28 : decode cX1_takeAll 28 = .ok (.return_, 1) := by decide +kernel
theorem dX1_takeFigure_0 : decode cX1_takeFigure 0 = .ok (.aload_n 0, 1) := by decide +kernel
theorem dX1_takeFigure_1 : decode cX1_takeFigure 1 = .ok (.aload_n 1, 1) := by decide +kernel
theorem dX1_takeFigure_2 : decode cX1_takeFigure 2 = .ok (.getfield 41, 3) := by decide +kernel
theorem dX1_takeFigure_5 : decode cX1_takeFigure 5 = .ok (.putfield 41, 3) := by decide +kernel
theorem dX1_takeFigure_8 : decode cX1_takeFigure 8 = .ok (.aload_n 0, 1) := by decide +kernel
theorem dX1_takeFigure_9 : decode cX1_takeFigure 9 = .ok (.aload_n 1, 1) := by decide +kernel
theorem dX1_takeFigure_10 : decode cX1_takeFigure 10 = .ok (.getfield 44, 3) := by decide +kernel
theorem dX1_takeFigure_13 : decode cX1_takeFigure 13 = .ok (.putfield 44, 3) := by decide +kernel
theorem dX1_takeFigure_16 : decode cX1_takeFigure 16 = .ok (.aload_n 1, 1) := by decide +kernel
theorem dX1_takeFigure_17 : decode cX1_takeFigure 17 = .ok (.getfield 15, 3) := by decide +kernel
theorem dX1_takeFigure_20 : decode cX1_takeFigure 20 = .ok (.iconst 0, 1) := by decide +kernel
theorem dX1_takeFigure_21 : decode cX1_takeFigure 21 = .ok (.aload_n 0, 1) := by decide +kernel
theorem dX1_takeFigure_22 : decode cX1_takeFigure 22 = .ok (.getfield 15, 3) := by decide +kernel
theorem dX1_takeFigure_25 : decode cX1_takeFigure 25 = .ok (.iconst 0, 1) := by decide +kernel
theorem dX1_takeFigure_26 : decode cX1_takeFigure 26 = .ok (.bipush 6, 2) := by decide +kernel
theorem dX1_takeFigure_28 : decode cX1_takeFigure 28 = .ok (.invokestatic 35, 3) := by decide +kernel
theorem dX1_takeFigure_31 : decode cX1_takeFigure 31 = .ok (.aload_n 1, 1) := by decide +kernel
theorem dX1_takeFigure_32 : decode cX1_takeFigure 32 = .ok (.getfield 19, 3) := by decide +kernel
theorem dX1_takeFigure_35 : decode cX1_takeFigure 35 = .ok (.iconst 0, 1) := by decide +kernel
theorem dX1_takeFigure_36 : decode cX1_takeFigure 36 = .ok (.aload_n 0, 1) := by decide +kernel
theorem dX1_takeFigure_37 : decode cX1_takeFigure 37 = .ok (.getfield 19, 3) := by decide +kernel
theorem dX1_takeFigure_40 : decode cX1_takeFigure 40 = .ok (.iconst 0, 1) := by decide +kernel
theorem dX1_takeFigure_41 : decode cX1_takeFigure 41 = .ok (.bipush 6, 2) := by decide +kernel
theorem dX1_takeFigure_43 : decode cX1_takeFigure 43 = .ok (.invokestatic 35, 3) := by decide +kernel
theorem dX1_takeFigure_46 : decode cX1_takeFigure 46 = .ok (.aload_n 1, 1) := by decide +kernel
theorem dX1_takeFigure_47 : decode cX1_takeFigure 47 = .ok (.getfield 22, 3) := by decide +kernel
theorem dX1_takeFigure_50 : decode cX1_takeFigure 50 = .ok (.iconst 0, 1) := by decide +kernel
theorem dX1_takeFigure_51 : decode cX1_takeFigure 51 = .ok (.aload_n 0, 1) := by decide +kernel
theorem dX1_takeFigure_52 : decode cX1_takeFigure 52 = .ok (.getfield 22, 3) := by decide +kernel
theorem dX1_takeFigure_55 : decode cX1_takeFigure 55 = .ok (.iconst 0, 1) := by decide +kernel
theorem dX1_takeFigure_56 : decode cX1_takeFigure 56 = .ok (.bipush 9, 2) := by decide +kernel
theorem dX1_takeFigure_58 : decode cX1_takeFigure 58 = .ok (.invokestatic 35, 3) := by decide +kernel
theorem dX1_takeFigure_61 : decode cX1_takeFigure 61 = .ok (.aload_n 1, 1) := by decide +kernel
theorem dX1_takeFigure_62 : decode cX1_takeFigure 62 = .ok (.getfield 25, 3) := by decide +kernel
theorem dX1_takeFigure_65 : decode cX1_takeFigure 65 = .ok (.iconst 0, 1) := by decide +kernel
theorem dX1_takeFigure_66 : decode cX1_takeFigure 66 = .ok (.aload_n 0, 1) := by decide +kernel
theorem dX1_takeFigure_67 : decode cX1_takeFigure 67 = .ok (.getfield 25, 3) := by decide +kernel
theorem dX1_takeFigure_70 : decode cX1_takeFigure 70 = .ok (.iconst 0, 1) := by decide +kernel
theorem dX1_takeFigure_71 : decode cX1_takeFigure 71 = .ok (.bipush 9, 2) := by decide +kernel
theorem dX1_takeFigure_73 : decode cX1_takeFigure 73 = .ok (.invokestatic 35, 3) := by decide +kernel
theorem dX1_takeFigure_76 : decode cX1_takeFigure 76 = .ok (.return_, 1) := by decide +kernel
theorem dX1_hasJoint_0 : decode cX1_hasJoint 0 = .ok (.iload_n 1, 1) := by decide +kernel
theorem dX1_hasJoint_1 : decode cX1_hasJoint 1 = .ok (.ifCond .lt 15, 3) := by decide +kernel
theorem dX1_hasJoint_4 : decode cX1_hasJoint 4 = .ok (.iload_n 1, 1) := by decide +kernel
theorem dX1_hasJoint_5 : decode cX1_hasJoint 5 = .ok (.aload_n 0, 1) := by decide +kernel
theorem dX1_hasJoint_6 : decode cX1_hasJoint 6 = .ok (.getfield 41, 3) := by decide +kernel
theorem dX1_hasJoint_9 : decode cX1_hasJoint 9 = .ok (.if_icmp .ge 7, 3) := by decide +kernel
theorem dX1_hasJoint_12 : decode cX1_hasJoint 12 = .ok (.iconst 1, 1) := by decide +kernel
theorem dX1_hasJoint_13 : decode cX1_hasJoint 13 = .ok (.goto 4, 3) := by decide +kernel
theorem dX1_hasJoint_16 : decode cX1_hasJoint 16 = .ok (.iconst 0, 1) := by decide +kernel
theorem dX1_hasJoint_17 : decode cX1_hasJoint 17 = .ok (.ireturn, 1) := by decide +kernel
theorem dX1_hasBar_0 : decode cX1_hasBar 0 = .ok (.iload_n 1, 1) := by decide +kernel
theorem dX1_hasBar_1 : decode cX1_hasBar 1 = .ok (.ifCond .lt 15, 3) := by decide +kernel
theorem dX1_hasBar_4 : decode cX1_hasBar 4 = .ok (.iload_n 1, 1) := by decide +kernel
theorem dX1_hasBar_5 : decode cX1_hasBar 5 = .ok (.aload_n 0, 1) := by decide +kernel
theorem dX1_hasBar_6 : decode cX1_hasBar 6 = .ok (.getfield 44, 3) := by decide +kernel
theorem dX1_hasBar_9 : decode cX1_hasBar 9 = .ok (.if_icmp .ge 7, 3) := by decide +kernel
theorem dX1_hasBar_12 : decode cX1_hasBar 12 = .ok (.iconst 1, 1) := by decide +kernel
theorem dX1_hasBar_13 : decode cX1_hasBar 13 = .ok (.goto 4, 3) := by decide +kernel
theorem dX1_hasBar_16 : decode cX1_hasBar 16 = .ok (.iconst 0, 1) := by decide +kernel
theorem dX1_hasBar_17 : decode cX1_hasBar 17 = .ok (.ireturn, 1) := by decide +kernel
theorem dX1_hasHalf_0 : decode cX1_hasHalf 0 = .ok (.iload_n 1, 1) := by decide +kernel
theorem dX1_hasHalf_1 : decode cX1_hasHalf 1 = .ok (.ifCond .lt 17, 3) := by decide +kernel
theorem dX1_hasHalf_4 : decode cX1_hasHalf 4 = .ok (.iload_n 1, 1) := by decide +kernel
theorem dX1_hasHalf_5 : decode cX1_hasHalf 5 = .ok (.iconst 2, 1) := by decide +kernel
theorem dX1_hasHalf_6 : decode cX1_hasHalf 6 = .ok (.aload_n 0, 1) := by decide +kernel
theorem dX1_hasHalf_7 : decode cX1_hasHalf 7 = .ok (.getfield 44, 3) := by decide +kernel
theorem dX1_hasHalf_10 : decode cX1_hasHalf 10 = .ok (.imul, 1) := by decide +kernel
theorem dX1_hasHalf_11 : decode cX1_hasHalf 11 = .ok (.if_icmp .ge 7, 3) := by decide +kernel
theorem dX1_hasHalf_14 : decode cX1_hasHalf 14 = .ok (.iconst 1, 1) := by decide +kernel
theorem dX1_hasHalf_15 : decode cX1_hasHalf 15 = .ok (.goto 4, 3) := by decide +kernel
theorem dX1_hasHalf_18 : decode cX1_hasHalf 18 = .ok (.iconst 0, 1) := by decide +kernel
theorem dX1_hasHalf_19 : decode cX1_hasHalf 19 = .ok (.ireturn, 1) := by decide +kernel
theorem dX1_startOf_0 : decode cX1_startOf 0 = .ok (.iload_n 1, 1) := by decide +kernel
theorem dX1_startOf_1 : decode cX1_startOf 1 = .ok (.iconst 2, 1) := by decide +kernel
theorem dX1_startOf_2 : decode cX1_startOf 2 = .ok (.irem, 1) := by decide +kernel
theorem dX1_startOf_3 : decode cX1_startOf 3 = .ok (.ifCond .ne 14, 3) := by decide +kernel
theorem dX1_startOf_6 : decode cX1_startOf 6 = .ok (.aload_n 0, 1) := by decide +kernel
theorem dX1_startOf_7 : decode cX1_startOf 7 = .ok (.getfield 22, 3) := by decide +kernel
theorem dX1_startOf_10 : decode cX1_startOf 10 = .ok (.iload_n 1, 1) := by decide +kernel
theorem dX1_startOf_11 : decode cX1_startOf 11 = .ok (.iconst 2, 1) := by decide +kernel
theorem dX1_startOf_12 : decode cX1_startOf 12 = .ok (.idiv, 1) := by decide +kernel
theorem dX1_startOf_13 : decode cX1_startOf 13 = .ok (.iaload, 1) := by decide +kernel
theorem dX1_startOf_14 : decode cX1_startOf 14 = .ok (.goto 11, 3) := by decide +kernel
theorem dX1_startOf_17 : decode cX1_startOf 17 = .ok (.aload_n 0, 1) := by decide +kernel
theorem dX1_startOf_18 : decode cX1_startOf 18 = .ok (.getfield 25, 3) := by decide +kernel
theorem dX1_startOf_21 : decode cX1_startOf 21 = .ok (.iload_n 1, 1) := by decide +kernel
theorem dX1_startOf_22 : decode cX1_startOf 22 = .ok (.iconst 2, 1) := by decide +kernel
theorem dX1_startOf_23 : decode cX1_startOf 23 = .ok (.idiv, 1) := by decide +kernel
theorem dX1_startOf_24 : decode cX1_startOf 24 = .ok (.iaload, 1) := by decide +kernel
theorem dX1_startOf_25 : decode cX1_startOf 25 = .ok (.ireturn, 1) := by decide +kernel
theorem dX1_endOf_0 : decode cX1_endOf 0 = .ok (.iload_n 1, 1) := by decide +kernel
theorem dX1_endOf_1 : decode cX1_endOf 1 = .ok (.iconst 2, 1) := by decide +kernel
theorem dX1_endOf_2 : decode cX1_endOf 2 = .ok (.irem, 1) := by decide +kernel
theorem dX1_endOf_3 : decode cX1_endOf 3 = .ok (.ifCond .ne 14, 3) := by decide +kernel
theorem dX1_endOf_6 : decode cX1_endOf 6 = .ok (.aload_n 0, 1) := by decide +kernel
theorem dX1_endOf_7 : decode cX1_endOf 7 = .ok (.getfield 25, 3) := by decide +kernel
theorem dX1_endOf_10 : decode cX1_endOf 10 = .ok (.iload_n 1, 1) := by decide +kernel
theorem dX1_endOf_11 : decode cX1_endOf 11 = .ok (.iconst 2, 1) := by decide +kernel
theorem dX1_endOf_12 : decode cX1_endOf 12 = .ok (.idiv, 1) := by decide +kernel
theorem dX1_endOf_13 : decode cX1_endOf 13 = .ok (.iaload, 1) := by decide +kernel
theorem dX1_endOf_14 : decode cX1_endOf 14 = .ok (.goto 11, 3) := by decide +kernel
theorem dX1_endOf_17 : decode cX1_endOf 17 = .ok (.aload_n 0, 1) := by decide +kernel
theorem dX1_endOf_18 : decode cX1_endOf 18 = .ok (.getfield 22, 3) := by decide +kernel
theorem dX1_endOf_21 : decode cX1_endOf 21 = .ok (.iload_n 1, 1) := by decide +kernel
theorem dX1_endOf_22 : decode cX1_endOf 22 = .ok (.iconst 2, 1) := by decide +kernel
theorem dX1_endOf_23 : decode cX1_endOf 23 = .ok (.idiv, 1) := by decide +kernel
theorem dX1_endOf_24 : decode cX1_endOf 24 = .ok (.iaload, 1) := by decide +kernel
theorem dX1_endOf_25 : decode cX1_endOf 25 = .ok (.ireturn, 1) := by decide +kernel
theorem dX1_stepX_0 : decode cX1_stepX 0 = .ok (.aload_n 0, 1) := by decide +kernel
theorem dX1_stepX_1 : decode cX1_stepX 1 = .ok (.getfield 15, 3) := by decide +kernel
theorem dX1_stepX_4 : decode cX1_stepX 4 = .ok (.aload_n 0, 1) := by decide +kernel
theorem dX1_stepX_5 : decode cX1_stepX 5 = .ok (.iload_n 1, 1) := by decide +kernel
theorem dX1_stepX_6 : decode cX1_stepX 6 = .ok (.invokevirtual 47, 3) := by decide +kernel
theorem dX1_stepX_9 : decode cX1_stepX 9 = .ok (.iaload, 1) := by decide +kernel
theorem dX1_stepX_10 : decode cX1_stepX 10 = .ok (.aload_n 0, 1) := by decide +kernel
theorem dX1_stepX_11 : decode cX1_stepX 11 = .ok (.getfield 15, 3) := by decide +kernel
theorem dX1_stepX_14 : decode cX1_stepX 14 = .ok (.aload_n 0, 1) := by decide +kernel
theorem dX1_stepX_15 : decode cX1_stepX 15 = .ok (.iload_n 1, 1) := by decide +kernel
theorem dX1_stepX_16 : decode cX1_stepX 16 = .ok (.invokevirtual 51, 3) := by decide +kernel
theorem dX1_stepX_19 : decode cX1_stepX 19 = .ok (.iaload, 1) := by decide +kernel
theorem dX1_stepX_20 : decode cX1_stepX 20 = .ok (.isub, 1) := by decide +kernel
theorem dX1_stepX_21 : decode cX1_stepX 21 = .ok (.ireturn, 1) := by decide +kernel
theorem dX1_stepY_0 : decode cX1_stepY 0 = .ok (.aload_n 0, 1) := by decide +kernel
theorem dX1_stepY_1 : decode cX1_stepY 1 = .ok (.getfield 19, 3) := by decide +kernel
theorem dX1_stepY_4 : decode cX1_stepY 4 = .ok (.aload_n 0, 1) := by decide +kernel
theorem dX1_stepY_5 : decode cX1_stepY 5 = .ok (.iload_n 1, 1) := by decide +kernel
theorem dX1_stepY_6 : decode cX1_stepY 6 = .ok (.invokevirtual 47, 3) := by decide +kernel
theorem dX1_stepY_9 : decode cX1_stepY 9 = .ok (.iaload, 1) := by decide +kernel
theorem dX1_stepY_10 : decode cX1_stepY 10 = .ok (.aload_n 0, 1) := by decide +kernel
theorem dX1_stepY_11 : decode cX1_stepY 11 = .ok (.getfield 19, 3) := by decide +kernel
theorem dX1_stepY_14 : decode cX1_stepY 14 = .ok (.aload_n 0, 1) := by decide +kernel
theorem dX1_stepY_15 : decode cX1_stepY 15 = .ok (.iload_n 1, 1) := by decide +kernel
theorem dX1_stepY_16 : decode cX1_stepY 16 = .ok (.invokevirtual 51, 3) := by decide +kernel
theorem dX1_stepY_19 : decode cX1_stepY 19 = .ok (.iaload, 1) := by decide +kernel
theorem dX1_stepY_20 : decode cX1_stepY 20 = .ok (.isub, 1) := by decide +kernel
theorem dX1_stepY_21 : decode cX1_stepY 21 = .ok (.ireturn, 1) := by decide +kernel
theorem dX1_barsOf_0 : decode cX1_barsOf 0 = .ok (.iconst 0, 1) := by decide +kernel
theorem dX1_barsOf_1 : decode cX1_barsOf 1 = .ok (.istore_n 2, 1) := by decide +kernel
theorem dX1_barsOf_2 : decode cX1_barsOf 2 = .ok (.iconst 0, 1) := by decide +kernel
theorem dX1_barsOf_3 : decode cX1_barsOf 3 = .ok (.istore_n 3, 1) := by decide +kernel
theorem dX1_barsOf_4 : decode cX1_barsOf 4 = .ok (.iload_n 3, 1) := by decide +kernel
theorem dX1_barsOf_5 : decode cX1_barsOf 5 = .ok (.aload_n 0, 1) := by decide +kernel
theorem dX1_barsOf_6 : decode cX1_barsOf 6 = .ok (.getfield 44, 3) := by decide +kernel
theorem dX1_barsOf_9 : decode cX1_barsOf 9 = .ok (.if_icmp .ge 32, 3) := by decide +kernel
theorem dX1_barsOf_12 : decode cX1_barsOf 12 = .ok (.aload_n 0, 1) := by decide +kernel
theorem dX1_barsOf_13 : decode cX1_barsOf 13 = .ok (.getfield 22, 3) := by decide +kernel
theorem dX1_barsOf_16 : decode cX1_barsOf 16 = .ok (.iload_n 3, 1) := by decide +kernel
theorem dX1_barsOf_17 : decode cX1_barsOf 17 = .ok (.iaload, 1) := by decide +kernel
theorem dX1_barsOf_18 : decode cX1_barsOf 18 = .ok (.iload_n 1, 1) := by decide +kernel
theorem dX1_barsOf_19 : decode cX1_barsOf 19 = .ok (.if_icmp .eq 13, 3) := by decide +kernel
theorem dX1_barsOf_22 : decode cX1_barsOf 22 = .ok (.aload_n 0, 1) := by decide +kernel
theorem dX1_barsOf_23 : decode cX1_barsOf 23 = .ok (.getfield 25, 3) := by decide +kernel
theorem dX1_barsOf_26 : decode cX1_barsOf 26 = .ok (.iload_n 3, 1) := by decide +kernel
theorem dX1_barsOf_27 : decode cX1_barsOf 27 = .ok (.iaload, 1) := by decide +kernel
theorem dX1_barsOf_28 : decode cX1_barsOf 28 = .ok (.iload_n 1, 1) := by decide +kernel
theorem dX1_barsOf_29 : decode cX1_barsOf 29 = .ok (.if_icmp .ne 6, 3) := by decide +kernel
theorem dX1_barsOf_32 : decode cX1_barsOf 32 = .ok (.iinc 2 1, 3) := by decide +kernel
theorem dX1_barsOf_35 : decode cX1_barsOf 35 = .ok (.iinc 3 1, 3) := by decide +kernel
theorem dX1_barsOf_38 : decode cX1_barsOf 38 = .ok (.goto (-34), 3) := by decide +kernel
theorem dX1_barsOf_41 : decode cX1_barsOf 41 = .ok (.iload_n 2, 1) := by decide +kernel
theorem dX1_barsOf_42 : decode cX1_barsOf 42 = .ok (.ireturn, 1) := by decide +kernel
theorem dX1_neighbours_0 : decode cX1_neighbours 0 = .ok (.iconst 0, 1) := by decide +kernel
theorem dX1_neighbours_1 : decode cX1_neighbours 1 = .ok (.istore_n 2, 1) := by decide +kernel
theorem dX1_neighbours_2 : decode cX1_neighbours 2 = .ok (.iconst 0, 1) := by decide +kernel
theorem dX1_neighbours_3 : decode cX1_neighbours 3 = .ok (.istore_n 3, 1) := by decide +kernel
theorem dX1_neighbours_4 : decode cX1_neighbours 4 = .ok (.iload_n 3, 1) := by decide +kernel
theorem dX1_neighbours_5 : decode cX1_neighbours 5 = .ok (.iconst 2, 1) := by decide +kernel
theorem dX1_neighbours_6 : decode cX1_neighbours 6 = .ok (.aload_n 0, 1) := by decide +kernel
theorem dX1_neighbours_7 : decode cX1_neighbours 7 = .ok (.getfield 44, 3) := by decide +kernel
theorem dX1_neighbours_10 : decode cX1_neighbours 10 = .ok (.imul, 1) := by decide +kernel
theorem dX1_neighbours_11 : decode cX1_neighbours 11 = .ok (.if_icmp .ge 28, 3) := by decide +kernel
theorem dX1_neighbours_14 : decode cX1_neighbours 14 = .ok (.aload_n 0, 1) := by decide +kernel
theorem dX1_neighbours_15 : decode cX1_neighbours 15 = .ok (.iload_n 3, 1) := by decide +kernel
theorem dX1_neighbours_16 : decode cX1_neighbours 16 = .ok (.invokevirtual 51, 3) := by decide +kernel
theorem dX1_neighbours_19 : decode cX1_neighbours 19 = .ok (.iload_n 1, 1) := by decide +kernel
theorem dX1_neighbours_20 : decode cX1_neighbours 20 = .ok (.if_icmp .ne 13, 3) := by decide +kernel
theorem dX1_neighbours_23 : decode cX1_neighbours 23 = .ok (.iload_n 2, 1) := by decide +kernel
theorem dX1_neighbours_24 : decode cX1_neighbours 24 = .ok (.iconst 1, 1) := by decide +kernel
theorem dX1_neighbours_25 : decode cX1_neighbours 25 = .ok (.aload_n 0, 1) := by decide +kernel
theorem dX1_neighbours_26 : decode cX1_neighbours 26 = .ok (.iload_n 3, 1) := by decide +kernel
theorem dX1_neighbours_27 : decode cX1_neighbours 27 = .ok (.invokevirtual 47, 3) := by decide +kernel
theorem dX1_neighbours_30 : decode cX1_neighbours 30 = .ok (.ishl, 1) := by decide +kernel
theorem dX1_neighbours_31 : decode cX1_neighbours 31 = .ok (.ior, 1) := by decide +kernel
theorem dX1_neighbours_32 : decode cX1_neighbours 32 = .ok (.istore_n 2, 1) := by decide +kernel
theorem dX1_neighbours_33 : decode cX1_neighbours 33 = .ok (.iinc 3 1, 3) := by decide +kernel
theorem dX1_neighbours_36 : decode cX1_neighbours 36 = .ok (.goto (-32), 3) := by decide +kernel
theorem dX1_neighbours_39 : decode cX1_neighbours 39 = .ok (.iload_n 2, 1) := by decide +kernel
theorem dX1_neighbours_40 : decode cX1_neighbours 40 = .ok (.ireturn, 1) := by decide +kernel
theorem dX1_sumOfWeights_0 : decode cX1_sumOfWeights 0 = .ok (.iconst 0, 1) := by decide +kernel
theorem dX1_sumOfWeights_1 : decode cX1_sumOfWeights 1 = .ok (.istore_n 1, 1) := by decide +kernel
theorem dX1_sumOfWeights_2 : decode cX1_sumOfWeights 2 = .ok (.iconst 0, 1) := by decide +kernel
theorem dX1_sumOfWeights_3 : decode cX1_sumOfWeights 3 = .ok (.istore_n 2, 1) := by decide +kernel
theorem dX1_sumOfWeights_4 : decode cX1_sumOfWeights 4 = .ok (.iload_n 2, 1) := by decide +kernel
theorem dX1_sumOfWeights_5 : decode cX1_sumOfWeights 5 = .ok (.bipush 9, 2) := by decide +kernel
theorem dX1_sumOfWeights_7 : decode cX1_sumOfWeights 7 = .ok (.if_icmp .ge 18, 3) := by decide +kernel
theorem dX1_sumOfWeights_10 : decode cX1_sumOfWeights 10 = .ok (.iload_n 1, 1) := by decide +kernel
theorem dX1_sumOfWeights_11 : decode cX1_sumOfWeights 11 = .ok (.aload_n 0, 1) := by decide +kernel
theorem dX1_sumOfWeights_12 : decode cX1_sumOfWeights 12 = .ok (.getfield 28, 3) := by decide +kernel
theorem dX1_sumOfWeights_15 : decode cX1_sumOfWeights 15 = .ok (.iload_n 2, 1) := by decide +kernel
theorem dX1_sumOfWeights_16 : decode cX1_sumOfWeights 16 = .ok (.iaload, 1) := by decide +kernel
theorem dX1_sumOfWeights_17 : decode cX1_sumOfWeights 17 = .ok (.iadd, 1) := by decide +kernel
theorem dX1_sumOfWeights_18 : decode cX1_sumOfWeights 18 = .ok (.istore_n 1, 1) := by decide +kernel
theorem dX1_sumOfWeights_19 : decode cX1_sumOfWeights 19 = .ok (.iinc 2 1, 3) := by decide +kernel
theorem dX1_sumOfWeights_22 : decode cX1_sumOfWeights 22 = .ok (.goto (-18), 3) := by decide +kernel
theorem dX1_sumOfWeights_25 : decode cX1_sumOfWeights 25 = .ok (.iload_n 1, 1) := by decide +kernel
theorem dX1_sumOfWeights_26 : decode cX1_sumOfWeights 26 = .ok (.ireturn, 1) := by decide +kernel
theorem dX1_isWhole_0 : decode cX1_isWhole 0 = .ok (.iconst 1, 1) := by decide +kernel
theorem dX1_isWhole_1 : decode cX1_isWhole 1 = .ok (.istore_n 1, 1) := by decide +kernel
theorem dX1_isWhole_2 : decode cX1_isWhole 2 = .ok (.iconst 0, 1) := by decide +kernel
theorem dX1_isWhole_3 : decode cX1_isWhole 3 = .ok (.istore_n 2, 1) := by decide +kernel
theorem dX1_isWhole_4 : decode cX1_isWhole 4 = .ok (.iload_n 2, 1) := by decide +kernel
theorem dX1_isWhole_5 : decode cX1_isWhole 5 = .ok (.aload_n 0, 1) := by decide +kernel
theorem dX1_isWhole_6 : decode cX1_isWhole 6 = .ok (.getfield 41, 3) := by decide +kernel
theorem dX1_isWhole_9 : decode cX1_isWhole 9 = .ok (.if_icmp .ge 50, 3) := by decide +kernel
theorem dX1_isWhole_12 : decode cX1_isWhole 12 = .ok (.iconst 0, 1) := by decide +kernel
theorem dX1_isWhole_13 : decode cX1_isWhole 13 = .ok (.istore_n 3, 1) := by decide +kernel
theorem dX1_isWhole_14 : decode cX1_isWhole 14 = .ok (.iload_n 3, 1) := by decide +kernel
theorem dX1_isWhole_15 : decode cX1_isWhole 15 = .ok (.iconst 2, 1) := by decide +kernel
theorem dX1_isWhole_16 : decode cX1_isWhole 16 = .ok (.aload_n 0, 1) := by decide +kernel
theorem dX1_isWhole_17 : decode cX1_isWhole 17 = .ok (.getfield 44, 3) := by decide +kernel
theorem dX1_isWhole_20 : decode cX1_isWhole 20 = .ok (.imul, 1) := by decide +kernel
theorem dX1_isWhole_21 : decode cX1_isWhole 21 = .ok (.if_icmp .ge 32, 3) := by decide +kernel
theorem dX1_isWhole_24 : decode cX1_isWhole 24 = .ok (.iload_n 1, 1) := by decide +kernel
theorem dX1_isWhole_25 : decode cX1_isWhole 25 = .ok (.aload_n 0, 1) := by decide +kernel
theorem dX1_isWhole_26 : decode cX1_isWhole 26 = .ok (.iload_n 3, 1) := by decide +kernel
theorem dX1_isWhole_27 : decode cX1_isWhole 27 = .ok (.invokevirtual 51, 3) := by decide +kernel
theorem dX1_isWhole_30 : decode cX1_isWhole 30 = .ok (.ishr, 1) := by decide +kernel
theorem dX1_isWhole_31 : decode cX1_isWhole 31 = .ok (.iconst 1, 1) := by decide +kernel
theorem dX1_isWhole_32 : decode cX1_isWhole 32 = .ok (.iand, 1) := by decide +kernel
theorem dX1_isWhole_33 : decode cX1_isWhole 33 = .ok (.iconst 1, 1) := by decide +kernel
theorem dX1_isWhole_34 : decode cX1_isWhole 34 = .ok (.if_icmp .ne 13, 3) := by decide +kernel
theorem dX1_isWhole_37 : decode cX1_isWhole 37 = .ok (.iload_n 1, 1) := by decide +kernel
theorem dX1_isWhole_38 : decode cX1_isWhole 38 = .ok (.iconst 1, 1) := by decide +kernel
theorem dX1_isWhole_39 : decode cX1_isWhole 39 = .ok (.aload_n 0, 1) := by decide +kernel
theorem dX1_isWhole_40 : decode cX1_isWhole 40 = .ok (.iload_n 3, 1) := by decide +kernel
theorem dX1_isWhole_41 : decode cX1_isWhole 41 = .ok (.invokevirtual 47, 3) := by decide +kernel
theorem dX1_isWhole_44 : decode cX1_isWhole 44 = .ok (.ishl, 1) := by decide +kernel
theorem dX1_isWhole_45 : decode cX1_isWhole 45 = .ok (.ior, 1) := by decide +kernel
theorem dX1_isWhole_46 : decode cX1_isWhole 46 = .ok (.istore_n 1, 1) := by decide +kernel
theorem dX1_isWhole_47 : decode cX1_isWhole 47 = .ok (.iinc 3 1, 3) := by decide +kernel
theorem dX1_isWhole_50 : decode cX1_isWhole 50 = .ok (.goto (-36), 3) := by decide +kernel
theorem dX1_isWhole_53 : decode cX1_isWhole 53 = .ok (.iinc 2 1, 3) := by decide +kernel
theorem dX1_isWhole_56 : decode cX1_isWhole 56 = .ok (.goto (-52), 3) := by decide +kernel
theorem dX1_isWhole_59 : decode cX1_isWhole 59 = .ok (.aload_n 0, 1) := by decide +kernel
theorem dX1_isWhole_60 : decode cX1_isWhole 60 = .ok (.getfield 44, 3) := by decide +kernel
theorem dX1_isWhole_63 : decode cX1_isWhole 63 = .ok (.ifCond .le 19, 3) := by decide +kernel
theorem dX1_isWhole_66 : decode cX1_isWhole 66 = .ok (.iload_n 1, 1) := by decide +kernel
theorem dX1_isWhole_67 : decode cX1_isWhole 67 = .ok (.iconst 1, 1) := by decide +kernel
theorem dX1_isWhole_68 : decode cX1_isWhole 68 = .ok (.aload_n 0, 1) := by decide +kernel
theorem dX1_isWhole_69 : decode cX1_isWhole 69 = .ok (.getfield 41, 3) := by decide +kernel
theorem dX1_isWhole_72 : decode cX1_isWhole 72 = .ok (.ishl, 1) := by decide +kernel
theorem dX1_isWhole_73 : decode cX1_isWhole 73 = .ok (.iconst 1, 1) := by decide +kernel
theorem dX1_isWhole_74 : decode cX1_isWhole 74 = .ok (.isub, 1) := by decide +kernel
theorem dX1_isWhole_75 : decode cX1_isWhole 75 = .ok (.if_icmp .ne 7, 3) := by decide +kernel
theorem dX1_isWhole_78 : decode cX1_isWhole 78 = .ok (.iconst 1, 1) := by decide +kernel
theorem dX1_isWhole_79 : decode cX1_isWhole 79 = .ok (.goto 4, 3) := by decide +kernel
theorem dX1_isWhole_82 : decode cX1_isWhole 82 = .ok (.iconst 0, 1) := by decide +kernel
theorem dX1_isWhole_83 : decode cX1_isWhole 83 = .ok (.ireturn, 1) := by decide +kernel
theorem dX1_refuseJoint_0 : decode cX1_refuseJoint 0 = .ok (.iload_n 1, 1) := by decide +kernel
theorem dX1_refuseJoint_1 : decode cX1_refuseJoint 1 = .ok (.invokestatic 54, 3) := by decide +kernel
theorem dX1_refuseJoint_4 : decode cX1_refuseJoint 4 = .ok (.ifCond .eq 10, 3) := by decide +kernel
theorem dX1_refuseJoint_7 : decode cX1_refuseJoint 7 = .ok (.iload_n 2, 1) := by decide +kernel
theorem dX1_refuseJoint_8 : decode cX1_refuseJoint 8 = .ok (.invokestatic 54, 3) := by decide +kernel
theorem dX1_refuseJoint_11 : decode cX1_refuseJoint 11 = .ok (.ifCond .ne 5, 3) := by decide +kernel
theorem dX1_refuseJoint_14 : decode cX1_refuseJoint 14 = .ok (.iconst (-1), 1) := by decide +kernel
theorem dX1_refuseJoint_15 : decode cX1_refuseJoint 15 = .ok (.ireturn, 1) := by decide +kernel
theorem dX1_refuseJoint_16 : decode cX1_refuseJoint 16 = .ok (.aload_n 0, 1) := by decide +kernel
theorem dX1_refuseJoint_17 : decode cX1_refuseJoint 17 = .ok (.iload_n 1, 1) := by decide +kernel
theorem dX1_refuseJoint_18 : decode cX1_refuseJoint 18 = .ok (.iload_n 2, 1) := by decide +kernel
theorem dX1_refuseJoint_19 : decode cX1_refuseJoint 19 = .ok (.invokevirtual 58, 3) := by decide +kernel
theorem dX1_refuseJoint_22 : decode cX1_refuseJoint 22 = .ok (.ifCond .ne 12, 3) := by decide +kernel
theorem dX1_refuseJoint_25 : decode cX1_refuseJoint 25 = .ok (.aload_n 0, 1) := by decide +kernel
theorem dX1_refuseJoint_26 : decode cX1_refuseJoint 26 = .ok (.iload_n 1, 1) := by decide +kernel
theorem dX1_refuseJoint_27 : decode cX1_refuseJoint 27 = .ok (.iload_n 2, 1) := by decide +kernel
theorem dX1_refuseJoint_28 : decode cX1_refuseJoint 28 = .ok (.invokevirtual 62, 3) := by decide +kernel
theorem dX1_refuseJoint_31 : decode cX1_refuseJoint 31 = .ok (.ifCond .eq 6, 3) := by decide +kernel
theorem dX1_refuseJoint_34 : decode cX1_refuseJoint 34 = .ok (.bipush (-2), 2) := by decide +kernel
theorem dX1_refuseJoint_36 : decode cX1_refuseJoint 36 = .ok (.ireturn, 1) := by decide +kernel
theorem dX1_refuseJoint_37 : decode cX1_refuseJoint 37 = .ok (.aload_n 0, 1) := by decide +kernel
theorem dX1_refuseJoint_38 : decode cX1_refuseJoint 38 = .ok (.getfield 41, 3) := by decide +kernel
theorem dX1_refuseJoint_41 : decode cX1_refuseJoint 41 = .ok (.bipush 6, 2) := by decide +kernel
theorem dX1_refuseJoint_43 : decode cX1_refuseJoint 43 = .ok (.if_icmp .ge 7, 3) := by decide +kernel
theorem dX1_refuseJoint_46 : decode cX1_refuseJoint 46 = .ok (.iconst 0, 1) := by decide +kernel
theorem dX1_refuseJoint_47 : decode cX1_refuseJoint 47 = .ok (.goto 5, 3) := by decide +kernel
theorem dX1_refuseJoint_50 : decode cX1_refuseJoint 50 = .ok (.bipush (-3), 2) := by decide +kernel
theorem dX1_refuseJoint_52 : decode cX1_refuseJoint 52 = .ok (.ireturn, 1) := by decide +kernel
theorem dX1_refuseMove_0 : decode cX1_refuseMove 0 = .ok (.aload_n 0, 1) := by decide +kernel
theorem dX1_refuseMove_1 : decode cX1_refuseMove 1 = .ok (.iload_n 1, 1) := by decide +kernel
theorem dX1_refuseMove_2 : decode cX1_refuseMove 2 = .ok (.invokevirtual 65, 3) := by decide +kernel
theorem dX1_refuseMove_5 : decode cX1_refuseMove 5 = .ok (.ifCond .eq 17, 3) := by decide +kernel
theorem dX1_refuseMove_8 : decode cX1_refuseMove 8 = .ok (.iload_n 2, 1) := by decide +kernel
theorem dX1_refuseMove_9 : decode cX1_refuseMove 9 = .ok (.invokestatic 54, 3) := by decide +kernel
theorem dX1_refuseMove_12 : decode cX1_refuseMove 12 = .ok (.ifCond .eq 10, 3) := by decide +kernel
theorem dX1_refuseMove_15 : decode cX1_refuseMove 15 = .ok (.iload_n 3, 1) := by decide +kernel
theorem dX1_refuseMove_16 : decode cX1_refuseMove 16 = .ok (.invokestatic 54, 3) := by decide +kernel
theorem dX1_refuseMove_19 : decode cX1_refuseMove 19 = .ok (.ifCond .ne 5, 3) := by decide +kernel
theorem dX1_refuseMove_22 : decode cX1_refuseMove 22 = .ok (.iconst (-1), 1) := by decide +kernel
theorem dX1_refuseMove_23 : decode cX1_refuseMove 23 = .ok (.ireturn, 1) := by decide +kernel
theorem dX1_refuseMove_24 : decode cX1_refuseMove 24 = .ok (.aload_n 0, 1) := by decide +kernel
theorem dX1_refuseMove_25 : decode cX1_refuseMove 25 = .ok (.iload_n 2, 1) := by decide +kernel
theorem dX1_refuseMove_26 : decode cX1_refuseMove 26 = .ok (.iload_n 3, 1) := by decide +kernel
theorem dX1_refuseMove_27 : decode cX1_refuseMove 27 = .ok (.invokevirtual 58, 3) := by decide +kernel
theorem dX1_refuseMove_30 : decode cX1_refuseMove 30 = .ok (.ifCond .ne 13, 3) := by decide +kernel
theorem dX1_refuseMove_33 : decode cX1_refuseMove 33 = .ok (.aload_n 0, 1) := by decide +kernel
theorem dX1_refuseMove_34 : decode cX1_refuseMove 34 = .ok (.iload_n 1, 1) := by decide +kernel
theorem dX1_refuseMove_35 : decode cX1_refuseMove 35 = .ok (.iload_n 2, 1) := by decide +kernel
theorem dX1_refuseMove_36 : decode cX1_refuseMove 36 = .ok (.iload_n 3, 1) := by decide +kernel
theorem dX1_refuseMove_37 : decode cX1_refuseMove 37 = .ok (.invokevirtual 68, 3) := by decide +kernel
theorem dX1_refuseMove_40 : decode cX1_refuseMove 40 = .ok (.ifCond .ne 8, 3) := by decide +kernel
theorem dX1_refuseMove_43 : decode cX1_refuseMove 43 = .ok (.bipush (-2), 2) := by decide +kernel
theorem dX1_refuseMove_45 : decode cX1_refuseMove 45 = .ok (.goto 4, 3) := by decide +kernel
theorem dX1_refuseMove_48 : decode cX1_refuseMove 48 = .ok (.iconst 0, 1) := by decide +kernel
theorem dX1_refuseMove_49 : decode cX1_refuseMove 49 = .ok (.ireturn, 1) := by decide +kernel
theorem dX1_refuseBar_0 : decode cX1_refuseBar 0 = .ok (.aload_n 0, 1) := by decide +kernel
theorem dX1_refuseBar_1 : decode cX1_refuseBar 1 = .ok (.iload_n 1, 1) := by decide +kernel
theorem dX1_refuseBar_2 : decode cX1_refuseBar 2 = .ok (.invokevirtual 65, 3) := by decide +kernel
theorem dX1_refuseBar_5 : decode cX1_refuseBar 5 = .ok (.ifCond .eq 16, 3) := by decide +kernel
theorem dX1_refuseBar_8 : decode cX1_refuseBar 8 = .ok (.aload_n 0, 1) := by decide +kernel
theorem dX1_refuseBar_9 : decode cX1_refuseBar 9 = .ok (.iload_n 2, 1) := by decide +kernel
theorem dX1_refuseBar_10 : decode cX1_refuseBar 10 = .ok (.invokevirtual 65, 3) := by decide +kernel
theorem dX1_refuseBar_13 : decode cX1_refuseBar 13 = .ok (.ifCond .eq 8, 3) := by decide +kernel
theorem dX1_refuseBar_16 : decode cX1_refuseBar 16 = .ok (.iload_n 1, 1) := by decide +kernel
theorem dX1_refuseBar_17 : decode cX1_refuseBar 17 = .ok (.iload_n 2, 1) := by decide +kernel
theorem dX1_refuseBar_18 : decode cX1_refuseBar 18 = .ok (.if_icmp .ne 5, 3) := by decide +kernel
theorem dX1_refuseBar_21 : decode cX1_refuseBar 21 = .ok (.iconst (-1), 1) := by decide +kernel
theorem dX1_refuseBar_22 : decode cX1_refuseBar 22 = .ok (.ireturn, 1) := by decide +kernel
theorem dX1_refuseBar_23 : decode cX1_refuseBar 23 = .ok (.aload_n 0, 1) := by decide +kernel
theorem dX1_refuseBar_24 : decode cX1_refuseBar 24 = .ok (.iload_n 1, 1) := by decide +kernel
theorem dX1_refuseBar_25 : decode cX1_refuseBar 25 = .ok (.invokevirtual 72, 3) := by decide +kernel
theorem dX1_refuseBar_28 : decode cX1_refuseBar 28 = .ok (.iload_n 2, 1) := by decide +kernel
theorem dX1_refuseBar_29 : decode cX1_refuseBar 29 = .ok (.ishr, 1) := by decide +kernel
theorem dX1_refuseBar_30 : decode cX1_refuseBar 30 = .ok (.iconst 1, 1) := by decide +kernel
theorem dX1_refuseBar_31 : decode cX1_refuseBar 31 = .ok (.iand, 1) := by decide +kernel
theorem dX1_refuseBar_32 : decode cX1_refuseBar 32 = .ok (.iconst 1, 1) := by decide +kernel
theorem dX1_refuseBar_33 : decode cX1_refuseBar 33 = .ok (.if_icmp .eq 12, 3) := by decide +kernel
theorem dX1_refuseBar_36 : decode cX1_refuseBar 36 = .ok (.aload_n 0, 1) := by decide +kernel
theorem dX1_refuseBar_37 : decode cX1_refuseBar 37 = .ok (.iload_n 1, 1) := by decide +kernel
theorem dX1_refuseBar_38 : decode cX1_refuseBar 38 = .ok (.iload_n 2, 1) := by decide +kernel
theorem dX1_refuseBar_39 : decode cX1_refuseBar 39 = .ok (.invokevirtual 75, 3) := by decide +kernel
theorem dX1_refuseBar_42 : decode cX1_refuseBar 42 = .ok (.ifCond .ne 6, 3) := by decide +kernel
theorem dX1_refuseBar_45 : decode cX1_refuseBar 45 = .ok (.bipush (-2), 2) := by decide +kernel
theorem dX1_refuseBar_47 : decode cX1_refuseBar 47 = .ok (.ireturn, 1) := by decide +kernel
theorem dX1_refuseBar_48 : decode cX1_refuseBar 48 = .ok (.aload_n 0, 1) := by decide +kernel
theorem dX1_refuseBar_49 : decode cX1_refuseBar 49 = .ok (.getfield 44, 3) := by decide +kernel
theorem dX1_refuseBar_52 : decode cX1_refuseBar 52 = .ok (.bipush 9, 2) := by decide +kernel
theorem dX1_refuseBar_54 : decode cX1_refuseBar 54 = .ok (.if_icmp .ge 7, 3) := by decide +kernel
theorem dX1_refuseBar_57 : decode cX1_refuseBar 57 = .ok (.iconst 0, 1) := by decide +kernel
theorem dX1_refuseBar_58 : decode cX1_refuseBar 58 = .ok (.goto 5, 3) := by decide +kernel
theorem dX1_refuseBar_61 : decode cX1_refuseBar 61 = .ok (.bipush (-3), 2) := by decide +kernel
theorem dX1_refuseBar_63 : decode cX1_refuseBar 63 = .ok (.ireturn, 1) := by decide +kernel
theorem dX1_refuseWeight_0 : decode cX1_refuseWeight 0 = .ok (.iload_n 1, 1) := by decide +kernel
theorem dX1_refuseWeight_1 : decode cX1_refuseWeight 1 = .ok (.ifCond .lt 21, 3) := by decide +kernel
theorem dX1_refuseWeight_4 : decode cX1_refuseWeight 4 = .ok (.iload_n 1, 1) := by decide +kernel
theorem dX1_refuseWeight_5 : decode cX1_refuseWeight 5 = .ok (.bipush 9, 2) := by decide +kernel
theorem dX1_refuseWeight_7 : decode cX1_refuseWeight 7 = .ok (.if_icmp .ge 15, 3) := by decide +kernel
theorem dX1_refuseWeight_10 : decode cX1_refuseWeight 10 = .ok (.iload_n 2, 1) := by decide +kernel
theorem dX1_refuseWeight_11 : decode cX1_refuseWeight 11 = .ok (.bipush (-9), 2) := by decide +kernel
theorem dX1_refuseWeight_13 : decode cX1_refuseWeight 13 = .ok (.if_icmp .lt 9, 3) := by decide +kernel
theorem dX1_refuseWeight_16 : decode cX1_refuseWeight 16 = .ok (.iload_n 2, 1) := by decide +kernel
theorem dX1_refuseWeight_17 : decode cX1_refuseWeight 17 = .ok (.bipush 9, 2) := by decide +kernel
theorem dX1_refuseWeight_19 : decode cX1_refuseWeight 19 = .ok (.if_icmp .le 5, 3) := by decide +kernel
theorem dX1_refuseWeight_22 : decode cX1_refuseWeight 22 = .ok (.iconst (-1), 1) := by decide +kernel
theorem dX1_refuseWeight_23 : decode cX1_refuseWeight 23 = .ok (.ireturn, 1) := by decide +kernel
theorem dX1_refuseWeight_24 : decode cX1_refuseWeight 24 = .ok (.aload_n 0, 1) := by decide +kernel
theorem dX1_refuseWeight_25 : decode cX1_refuseWeight 25 = .ok (.getfield 28, 3) := by decide +kernel
theorem dX1_refuseWeight_28 : decode cX1_refuseWeight 28 = .ok (.iload_n 1, 1) := by decide +kernel
theorem dX1_refuseWeight_29 : decode cX1_refuseWeight 29 = .ok (.iaload, 1) := by decide +kernel
theorem dX1_refuseWeight_30 : decode cX1_refuseWeight 30 = .ok (.iload_n 2, 1) := by decide +kernel
theorem dX1_refuseWeight_31 : decode cX1_refuseWeight 31 = .ok (.if_icmp .ne 8, 3) := by decide +kernel
theorem dX1_refuseWeight_34 : decode cX1_refuseWeight 34 = .ok (.bipush (-2), 2) := by decide +kernel
theorem dX1_refuseWeight_36 : decode cX1_refuseWeight 36 = .ok (.goto 4, 3) := by decide +kernel
theorem dX1_refuseWeight_39 : decode cX1_refuseWeight 39 = .ok (.iconst 0, 1) := by decide +kernel
theorem dX1_refuseWeight_40 : decode cX1_refuseWeight 40 = .ok (.ireturn, 1) := by decide +kernel
theorem dX1_putJoint_0 : decode cX1_putJoint 0 = .ok (.aload_n 0, 1) := by decide +kernel
theorem dX1_putJoint_1 : decode cX1_putJoint 1 = .ok (.getfield 15, 3) := by decide +kernel
theorem dX1_putJoint_4 : decode cX1_putJoint 4 = .ok (.aload_n 0, 1) := by decide +kernel
theorem dX1_putJoint_5 : decode cX1_putJoint 5 = .ok (.getfield 41, 3) := by decide +kernel
theorem dX1_putJoint_8 : decode cX1_putJoint 8 = .ok (.iload_n 1, 1) := by decide +kernel
theorem dX1_putJoint_9 : decode cX1_putJoint 9 = .ok (.iastore, 1) := by decide +kernel
theorem dX1_putJoint_10 : decode cX1_putJoint 10 = .ok (.aload_n 0, 1) := by decide +kernel
theorem dX1_putJoint_11 : decode cX1_putJoint 11 = .ok (.getfield 19, 3) := by decide +kernel
theorem dX1_putJoint_14 : decode cX1_putJoint 14 = .ok (.aload_n 0, 1) := by decide +kernel
theorem dX1_putJoint_15 : decode cX1_putJoint 15 = .ok (.getfield 41, 3) := by decide +kernel
theorem dX1_putJoint_18 : decode cX1_putJoint 18 = .ok (.iload_n 2, 1) := by decide +kernel
theorem dX1_putJoint_19 : decode cX1_putJoint 19 = .ok (.iastore, 1) := by decide +kernel
theorem dX1_putJoint_20 : decode cX1_putJoint 20 = .ok (.aload_n 0, 1) := by decide +kernel
theorem dX1_putJoint_21 : decode cX1_putJoint 21 = .ok (.dup, 1) := by decide +kernel
theorem dX1_putJoint_22 : decode cX1_putJoint 22 = .ok (.getfield 41, 3) := by decide +kernel
theorem dX1_putJoint_25 : decode cX1_putJoint 25 = .ok (.iconst 1, 1) := by decide +kernel
theorem dX1_putJoint_26 : decode cX1_putJoint 26 = .ok (.iadd, 1) := by decide +kernel
theorem dX1_putJoint_27 : decode cX1_putJoint 27 = .ok (.putfield 41, 3) := by decide +kernel
theorem dX1_putJoint_30 : decode cX1_putJoint 30 = .ok (.aload_n 0, 1) := by decide +kernel
theorem dX1_putJoint_31 : decode cX1_putJoint 31 = .ok (.getfield 41, 3) := by decide +kernel
theorem dX1_putJoint_34 : decode cX1_putJoint 34 = .ok (.iconst 1, 1) := by decide +kernel
theorem dX1_putJoint_35 : decode cX1_putJoint 35 = .ok (.isub, 1) := by decide +kernel
theorem dX1_putJoint_36 : decode cX1_putJoint 36 = .ok (.ireturn, 1) := by decide +kernel
theorem dX1_putAt_0 : decode cX1_putAt 0 = .ok (.aload_n 0, 1) := by decide +kernel
theorem dX1_putAt_1 : decode cX1_putAt 1 = .ok (.getfield 15, 3) := by decide +kernel
theorem dX1_putAt_4 : decode cX1_putAt 4 = .ok (.iload_n 1, 1) := by decide +kernel
theorem dX1_putAt_5 : decode cX1_putAt 5 = .ok (.iload_n 2, 1) := by decide +kernel
theorem dX1_putAt_6 : decode cX1_putAt 6 = .ok (.iastore, 1) := by decide +kernel
theorem dX1_putAt_7 : decode cX1_putAt 7 = .ok (.aload_n 0, 1) := by decide +kernel
theorem dX1_putAt_8 : decode cX1_putAt 8 = .ok (.getfield 19, 3) := by decide +kernel
theorem dX1_putAt_11 : decode cX1_putAt 11 = .ok (.iload_n 1, 1) := by decide +kernel
theorem dX1_putAt_12 : decode cX1_putAt 12 = .ok (.iload_n 3, 1) := by decide +kernel
theorem dX1_putAt_13 : decode cX1_putAt 13 = .ok (.iastore, 1) := by decide +kernel
theorem dX1_putAt_14 : decode cX1_putAt 14 = .ok (.return_, 1) := by decide +kernel
theorem dX1_putBar_0 : decode cX1_putBar 0 = .ok (.aload_n 0, 1) := by decide +kernel
theorem dX1_putBar_1 : decode cX1_putBar 1 = .ok (.getfield 22, 3) := by decide +kernel
theorem dX1_putBar_4 : decode cX1_putBar 4 = .ok (.aload_n 0, 1) := by decide +kernel
theorem dX1_putBar_5 : decode cX1_putBar 5 = .ok (.getfield 44, 3) := by decide +kernel
theorem dX1_putBar_8 : decode cX1_putBar 8 = .ok (.iload_n 1, 1) := by decide +kernel
theorem dX1_putBar_9 : decode cX1_putBar 9 = .ok (.iload_n 2, 1) := by decide +kernel
theorem dX1_putBar_10 : decode cX1_putBar 10 = .ok (.invokestatic 78, 3) := by decide +kernel
theorem dX1_putBar_13 : decode cX1_putBar 13 = .ok (.iastore, 1) := by decide +kernel
theorem dX1_putBar_14 : decode cX1_putBar 14 = .ok (.aload_n 0, 1) := by decide +kernel
theorem dX1_putBar_15 : decode cX1_putBar 15 = .ok (.getfield 25, 3) := by decide +kernel
theorem dX1_putBar_18 : decode cX1_putBar 18 = .ok (.aload_n 0, 1) := by decide +kernel
theorem dX1_putBar_19 : decode cX1_putBar 19 = .ok (.getfield 44, 3) := by decide +kernel
theorem dX1_putBar_22 : decode cX1_putBar 22 = .ok (.iload_n 1, 1) := by decide +kernel
theorem dX1_putBar_23 : decode cX1_putBar 23 = .ok (.iload_n 2, 1) := by decide +kernel
theorem dX1_putBar_24 : decode cX1_putBar 24 = .ok (.invokestatic 84, 3) := by decide +kernel
theorem dX1_putBar_27 : decode cX1_putBar 27 = .ok (.iastore, 1) := by decide +kernel
theorem dX1_putBar_28 : decode cX1_putBar 28 = .ok (.aload_n 0, 1) := by decide +kernel
theorem dX1_putBar_29 : decode cX1_putBar 29 = .ok (.dup, 1) := by decide +kernel
theorem dX1_putBar_30 : decode cX1_putBar 30 = .ok (.getfield 44, 3) := by decide +kernel
theorem dX1_putBar_33 : decode cX1_putBar 33 = .ok (.iconst 1, 1) := by decide +kernel
theorem dX1_putBar_34 : decode cX1_putBar 34 = .ok (.iadd, 1) := by decide +kernel
theorem dX1_putBar_35 : decode cX1_putBar 35 = .ok (.putfield 44, 3) := by decide +kernel
theorem dX1_putBar_38 : decode cX1_putBar 38 = .ok (.aload_n 0, 1) := by decide +kernel
theorem dX1_putBar_39 : decode cX1_putBar 39 = .ok (.getfield 44, 3) := by decide +kernel
theorem dX1_putBar_42 : decode cX1_putBar 42 = .ok (.iconst 1, 1) := by decide +kernel
theorem dX1_putBar_43 : decode cX1_putBar 43 = .ok (.isub, 1) := by decide +kernel
theorem dX1_putBar_44 : decode cX1_putBar 44 = .ok (.ireturn, 1) := by decide +kernel
theorem dX1_takeOut_0 : decode cX1_takeOut 0 = .ok (.aload_n 0, 1) := by decide +kernel
theorem dX1_takeOut_1 : decode cX1_takeOut 1 = .ok (.dup, 1) := by decide +kernel
theorem dX1_takeOut_2 : decode cX1_takeOut 2 = .ok (.getfield 44, 3) := by decide +kernel
theorem dX1_takeOut_5 : decode cX1_takeOut 5 = .ok (.iconst 1, 1) := by decide +kernel
theorem dX1_takeOut_6 : decode cX1_takeOut 6 = .ok (.isub, 1) := by decide +kernel
theorem dX1_takeOut_7 : decode cX1_takeOut 7 = .ok (.putfield 44, 3) := by decide +kernel
theorem dX1_takeOut_10 : decode cX1_takeOut 10 = .ok (.iload_n 1, 1) := by decide +kernel
theorem dX1_takeOut_11 : decode cX1_takeOut 11 = .ok (.istore_n 2, 1) := by decide +kernel
theorem dX1_takeOut_12 : decode cX1_takeOut 12 = .ok (.iload_n 2, 1) := by decide +kernel
theorem dX1_takeOut_13 : decode cX1_takeOut 13 = .ok (.aload_n 0, 1) := by decide +kernel
theorem dX1_takeOut_14 : decode cX1_takeOut 14 = .ok (.getfield 44, 3) := by decide +kernel
theorem dX1_takeOut_17 : decode cX1_takeOut 17 = .ok (.if_icmp .ge 37, 3) := by decide +kernel
theorem dX1_takeOut_20 : decode cX1_takeOut 20 = .ok (.aload_n 0, 1) := by decide +kernel
theorem dX1_takeOut_21 : decode cX1_takeOut 21 = .ok (.getfield 22, 3) := by decide +kernel
theorem dX1_takeOut_24 : decode cX1_takeOut 24 = .ok (.iload_n 2, 1) := by decide +kernel
theorem dX1_takeOut_25 : decode cX1_takeOut 25 = .ok (.aload_n 0, 1) := by decide +kernel
theorem dX1_takeOut_26 : decode cX1_takeOut 26 = .ok (.getfield 22, 3) := by decide +kernel
theorem dX1_takeOut_29 : decode cX1_takeOut 29 = .ok (.iload_n 2, 1) := by decide +kernel
theorem dX1_takeOut_30 : decode cX1_takeOut 30 = .ok (.iconst 1, 1) := by decide +kernel
theorem dX1_takeOut_31 : decode cX1_takeOut 31 = .ok (.iadd, 1) := by decide +kernel
theorem dX1_takeOut_32 : decode cX1_takeOut 32 = .ok (.iaload, 1) := by decide +kernel
theorem dX1_takeOut_33 : decode cX1_takeOut 33 = .ok (.iastore, 1) := by decide +kernel
theorem dX1_takeOut_34 : decode cX1_takeOut 34 = .ok (.aload_n 0, 1) := by decide +kernel
theorem dX1_takeOut_35 : decode cX1_takeOut 35 = .ok (.getfield 25, 3) := by decide +kernel
theorem dX1_takeOut_38 : decode cX1_takeOut 38 = .ok (.iload_n 2, 1) := by decide +kernel
theorem dX1_takeOut_39 : decode cX1_takeOut 39 = .ok (.aload_n 0, 1) := by decide +kernel
theorem dX1_takeOut_40 : decode cX1_takeOut 40 = .ok (.getfield 25, 3) := by decide +kernel
theorem dX1_takeOut_43 : decode cX1_takeOut 43 = .ok (.iload_n 2, 1) := by decide +kernel
theorem dX1_takeOut_44 : decode cX1_takeOut 44 = .ok (.iconst 1, 1) := by decide +kernel
theorem dX1_takeOut_45 : decode cX1_takeOut 45 = .ok (.iadd, 1) := by decide +kernel
theorem dX1_takeOut_46 : decode cX1_takeOut 46 = .ok (.iaload, 1) := by decide +kernel
theorem dX1_takeOut_47 : decode cX1_takeOut 47 = .ok (.iastore, 1) := by decide +kernel
theorem dX1_takeOut_48 : decode cX1_takeOut 48 = .ok (.iinc 2 1, 3) := by decide +kernel
theorem dX1_takeOut_51 : decode cX1_takeOut 51 = .ok (.goto (-39), 3) := by decide +kernel
theorem dX1_takeOut_54 : decode cX1_takeOut 54 = .ok (.return_, 1) := by decide +kernel
theorem dX1_loseJoint_0 : decode cX1_loseJoint 0 = .ok (.aload_n 0, 1) := by decide +kernel
theorem dX1_loseJoint_1 : decode cX1_loseJoint 1 = .ok (.getfield 44, 3) := by decide +kernel
theorem dX1_loseJoint_4 : decode cX1_loseJoint 4 = .ok (.iconst 1, 1) := by decide +kernel
theorem dX1_loseJoint_5 : decode cX1_loseJoint 5 = .ok (.isub, 1) := by decide +kernel
theorem dX1_loseJoint_6 : decode cX1_loseJoint 6 = .ok (.istore_n 2, 1) := by decide +kernel
theorem dX1_loseJoint_7 : decode cX1_loseJoint 7 = .ok (.iload_n 2, 1) := by decide +kernel
theorem dX1_loseJoint_8 : decode cX1_loseJoint 8 = .ok (.ifCond .lt 34, 3) := by decide +kernel
theorem dX1_loseJoint_11 : decode cX1_loseJoint 11 = .ok (.aload_n 0, 1) := by decide +kernel
theorem dX1_loseJoint_12 : decode cX1_loseJoint 12 = .ok (.getfield 22, 3) := by decide +kernel
theorem dX1_loseJoint_15 : decode cX1_loseJoint 15 = .ok (.iload_n 2, 1) := by decide +kernel
theorem dX1_loseJoint_16 : decode cX1_loseJoint 16 = .ok (.iaload, 1) := by decide +kernel
theorem dX1_loseJoint_17 : decode cX1_loseJoint 17 = .ok (.iload_n 1, 1) := by decide +kernel
theorem dX1_loseJoint_18 : decode cX1_loseJoint 18 = .ok (.if_icmp .eq 13, 3) := by decide +kernel
theorem dX1_loseJoint_21 : decode cX1_loseJoint 21 = .ok (.aload_n 0, 1) := by decide +kernel
theorem dX1_loseJoint_22 : decode cX1_loseJoint 22 = .ok (.getfield 25, 3) := by decide +kernel
theorem dX1_loseJoint_25 : decode cX1_loseJoint 25 = .ok (.iload_n 2, 1) := by decide +kernel
theorem dX1_loseJoint_26 : decode cX1_loseJoint 26 = .ok (.iaload, 1) := by decide +kernel
theorem dX1_loseJoint_27 : decode cX1_loseJoint 27 = .ok (.iload_n 1, 1) := by decide +kernel
theorem dX1_loseJoint_28 : decode cX1_loseJoint 28 = .ok (.if_icmp .ne 8, 3) := by decide +kernel
theorem dX1_loseJoint_31 : decode cX1_loseJoint 31 = .ok (.aload_n 0, 1) := by decide +kernel
theorem dX1_loseJoint_32 : decode cX1_loseJoint 32 = .ok (.iload_n 2, 1) := by decide +kernel
theorem dX1_loseJoint_33 : decode cX1_loseJoint 33 = .ok (.invokevirtual 87, 3) := by decide +kernel
theorem dX1_loseJoint_36 : decode cX1_loseJoint 36 = .ok (.iinc 2 (-1), 3) := by decide +kernel
theorem dX1_loseJoint_39 : decode cX1_loseJoint 39 = .ok (.goto (-32), 3) := by decide +kernel
theorem dX1_loseJoint_42 : decode cX1_loseJoint 42 = .ok (.iconst 0, 1) := by decide +kernel
theorem dX1_loseJoint_43 : decode cX1_loseJoint 43 = .ok (.istore_n 2, 1) := by decide +kernel
theorem dX1_loseJoint_44 : decode cX1_loseJoint 44 = .ok (.iload_n 2, 1) := by decide +kernel
theorem dX1_loseJoint_45 : decode cX1_loseJoint 45 = .ok (.aload_n 0, 1) := by decide +kernel
theorem dX1_loseJoint_46 : decode cX1_loseJoint 46 = .ok (.getfield 44, 3) := by decide +kernel
theorem dX1_loseJoint_49 : decode cX1_loseJoint 49 = .ok (.if_icmp .ge 63, 3) := by decide +kernel
theorem dX1_loseJoint_52 : decode cX1_loseJoint 52 = .ok (.aload_n 0, 1) := by decide +kernel
theorem dX1_loseJoint_53 : decode cX1_loseJoint 53 = .ok (.getfield 22, 3) := by decide +kernel
theorem dX1_loseJoint_56 : decode cX1_loseJoint 56 = .ok (.iload_n 2, 1) := by decide +kernel
theorem dX1_loseJoint_57 : decode cX1_loseJoint 57 = .ok (.dup2, 1) := by decide +kernel
theorem dX1_loseJoint_58 : decode cX1_loseJoint 58 = .ok (.iaload, 1) := by decide +kernel
theorem dX1_loseJoint_59 : decode cX1_loseJoint 59 = .ok (.aload_n 0, 1) := by decide +kernel
theorem dX1_loseJoint_60 : decode cX1_loseJoint 60 = .ok (.getfield 22, 3) := by decide +kernel
theorem dX1_loseJoint_63 : decode cX1_loseJoint 63 = .ok (.iload_n 2, 1) := by decide +kernel
theorem dX1_loseJoint_64 : decode cX1_loseJoint 64 = .ok (.iaload, 1) := by decide +kernel
theorem dX1_loseJoint_65 : decode cX1_loseJoint 65 = .ok (.iload_n 1, 1) := by decide +kernel
theorem dX1_loseJoint_66 : decode cX1_loseJoint 66 = .ok (.if_icmp .le 7, 3) := by decide +kernel
theorem dX1_loseJoint_69 : decode cX1_loseJoint 69 = .ok (.iconst 1, 1) := by decide +kernel
theorem dX1_loseJoint_70 : decode cX1_loseJoint 70 = .ok (.goto 4, 3) := by decide +kernel
theorem dX1_loseJoint_73 : decode cX1_loseJoint 73 = .ok (.iconst 0, 1) := by decide +kernel
theorem dX1_loseJoint_74 : decode cX1_loseJoint 74 = .ok (.invokestatic 91, 3) := by decide +kernel
theorem dX1_loseJoint_77 : decode cX1_loseJoint 77 = .ok (.isub, 1) := by decide +kernel
theorem dX1_loseJoint_78 : decode cX1_loseJoint 78 = .ok (.iastore, 1) := by decide +kernel
theorem dX1_loseJoint_79 : decode cX1_loseJoint 79 = .ok (.aload_n 0, 1) := by decide +kernel
theorem dX1_loseJoint_80 : decode cX1_loseJoint 80 = .ok (.getfield 25, 3) := by decide +kernel
theorem dX1_loseJoint_83 : decode cX1_loseJoint 83 = .ok (.iload_n 2, 1) := by decide +kernel
theorem dX1_loseJoint_84 : decode cX1_loseJoint 84 = .ok (.dup2, 1) := by decide +kernel
theorem dX1_loseJoint_85 : decode cX1_loseJoint 85 = .ok (.iaload, 1) := by decide +kernel
theorem dX1_loseJoint_86 : decode cX1_loseJoint 86 = .ok (.aload_n 0, 1) := by decide +kernel
theorem dX1_loseJoint_87 : decode cX1_loseJoint 87 = .ok (.getfield 25, 3) := by decide +kernel
theorem dX1_loseJoint_90 : decode cX1_loseJoint 90 = .ok (.iload_n 2, 1) := by decide +kernel
theorem dX1_loseJoint_91 : decode cX1_loseJoint 91 = .ok (.iaload, 1) := by decide +kernel
theorem dX1_loseJoint_92 : decode cX1_loseJoint 92 = .ok (.iload_n 1, 1) := by decide +kernel
theorem dX1_loseJoint_93 : decode cX1_loseJoint 93 = .ok (.if_icmp .le 7, 3) := by decide +kernel
theorem dX1_loseJoint_96 : decode cX1_loseJoint 96 = .ok (.iconst 1, 1) := by decide +kernel
theorem dX1_loseJoint_97 : decode cX1_loseJoint 97 = .ok (.goto 4, 3) := by decide +kernel
theorem dX1_loseJoint_100 : decode cX1_loseJoint 100 = .ok (.iconst 0, 1) := by decide +kernel
theorem dX1_loseJoint_101 : decode cX1_loseJoint 101 = .ok (.invokestatic 91, 3) := by decide +kernel
theorem dX1_loseJoint_104 : decode cX1_loseJoint 104 = .ok (.isub, 1) := by decide +kernel
theorem dX1_loseJoint_105 : decode cX1_loseJoint 105 = .ok (.iastore, 1) := by decide +kernel
theorem dX1_loseJoint_106 : decode cX1_loseJoint 106 = .ok (.iinc 2 1, 3) := by decide +kernel
theorem dX1_loseJoint_109 : decode cX1_loseJoint 109 = .ok (.goto (-65), 3) := by decide +kernel
theorem dX1_loseJoint_112 : decode cX1_loseJoint 112 = .ok (.aload_n 0, 1) := by decide +kernel
theorem dX1_loseJoint_113 : decode cX1_loseJoint 113 = .ok (.dup, 1) := by decide +kernel
theorem dX1_loseJoint_114 : decode cX1_loseJoint 114 = .ok (.getfield 41, 3) := by decide +kernel
theorem dX1_loseJoint_117 : decode cX1_loseJoint 117 = .ok (.iconst 1, 1) := by decide +kernel
theorem dX1_loseJoint_118 : decode cX1_loseJoint 118 = .ok (.isub, 1) := by decide +kernel
theorem dX1_loseJoint_119 : decode cX1_loseJoint 119 = .ok (.putfield 41, 3) := by decide +kernel
theorem dX1_loseJoint_122 : decode cX1_loseJoint 122 = .ok (.iload_n 1, 1) := by decide +kernel
theorem dX1_loseJoint_123 : decode cX1_loseJoint 123 = .ok (.istore_n 2, 1) := by decide +kernel
theorem dX1_loseJoint_124 : decode cX1_loseJoint 124 = .ok (.iload_n 2, 1) := by decide +kernel
theorem dX1_loseJoint_125 : decode cX1_loseJoint 125 = .ok (.aload_n 0, 1) := by decide +kernel
theorem dX1_loseJoint_126 : decode cX1_loseJoint 126 = .ok (.getfield 41, 3) := by decide +kernel
theorem dX1_loseJoint_129 : decode cX1_loseJoint 129 = .ok (.if_icmp .ge 37, 3) := by decide +kernel
theorem dX1_loseJoint_132 : decode cX1_loseJoint 132 = .ok (.aload_n 0, 1) := by decide +kernel
theorem dX1_loseJoint_133 : decode cX1_loseJoint 133 = .ok (.getfield 15, 3) := by decide +kernel
theorem dX1_loseJoint_136 : decode cX1_loseJoint 136 = .ok (.iload_n 2, 1) := by decide +kernel
theorem dX1_loseJoint_137 : decode cX1_loseJoint 137 = .ok (.aload_n 0, 1) := by decide +kernel
theorem dX1_loseJoint_138 : decode cX1_loseJoint 138 = .ok (.getfield 15, 3) := by decide +kernel
theorem dX1_loseJoint_141 : decode cX1_loseJoint 141 = .ok (.iload_n 2, 1) := by decide +kernel
theorem dX1_loseJoint_142 : decode cX1_loseJoint 142 = .ok (.iconst 1, 1) := by decide +kernel
theorem dX1_loseJoint_143 : decode cX1_loseJoint 143 = .ok (.iadd, 1) := by decide +kernel
theorem dX1_loseJoint_144 : decode cX1_loseJoint 144 = .ok (.iaload, 1) := by decide +kernel
theorem dX1_loseJoint_145 : decode cX1_loseJoint 145 = .ok (.iastore, 1) := by decide +kernel
theorem dX1_loseJoint_146 : decode cX1_loseJoint 146 = .ok (.aload_n 0, 1) := by decide +kernel
theorem dX1_loseJoint_147 : decode cX1_loseJoint 147 = .ok (.getfield 19, 3) := by decide +kernel
theorem dX1_loseJoint_150 : decode cX1_loseJoint 150 = .ok (.iload_n 2, 1) := by decide +kernel
theorem dX1_loseJoint_151 : decode cX1_loseJoint 151 = .ok (.aload_n 0, 1) := by decide +kernel
theorem dX1_loseJoint_152 : decode cX1_loseJoint 152 = .ok (.getfield 19, 3) := by decide +kernel
theorem dX1_loseJoint_155 : decode cX1_loseJoint 155 = .ok (.iload_n 2, 1) := by decide +kernel
theorem dX1_loseJoint_156 : decode cX1_loseJoint 156 = .ok (.iconst 1, 1) := by decide +kernel
theorem dX1_loseJoint_157 : decode cX1_loseJoint 157 = .ok (.iadd, 1) := by decide +kernel
theorem dX1_loseJoint_158 : decode cX1_loseJoint 158 = .ok (.iaload, 1) := by decide +kernel
theorem dX1_loseJoint_159 : decode cX1_loseJoint 159 = .ok (.iastore, 1) := by decide +kernel
theorem dX1_loseJoint_160 : decode cX1_loseJoint 160 = .ok (.iinc 2 1, 3) := by decide +kernel
theorem dX1_loseJoint_163 : decode cX1_loseJoint 163 = .ok (.goto (-39), 3) := by decide +kernel
theorem dX1_loseJoint_166 : decode cX1_loseJoint 166 = .ok (.return_, 1) := by decide +kernel
theorem dX1_isTaken_0 : decode cX1_isTaken 0 = .ok (.iconst 0, 1) := by decide +kernel
theorem dX1_isTaken_1 : decode cX1_isTaken 1 = .ok (.istore_n 3, 1) := by decide +kernel
theorem dX1_isTaken_2 : decode cX1_isTaken 2 = .ok (.iload_n 3, 1) := by decide +kernel
theorem dX1_isTaken_3 : decode cX1_isTaken 3 = .ok (.aload_n 0, 1) := by decide +kernel
theorem dX1_isTaken_4 : decode cX1_isTaken 4 = .ok (.getfield 41, 3) := by decide +kernel
theorem dX1_isTaken_7 : decode cX1_isTaken 7 = .ok (.if_icmp .ge 31, 3) := by decide +kernel
theorem dX1_isTaken_10 : decode cX1_isTaken 10 = .ok (.aload_n 0, 1) := by decide +kernel
theorem dX1_isTaken_11 : decode cX1_isTaken 11 = .ok (.getfield 15, 3) := by decide +kernel
theorem dX1_isTaken_14 : decode cX1_isTaken 14 = .ok (.iload_n 3, 1) := by decide +kernel
theorem dX1_isTaken_15 : decode cX1_isTaken 15 = .ok (.iaload, 1) := by decide +kernel
theorem dX1_isTaken_16 : decode cX1_isTaken 16 = .ok (.iload_n 1, 1) := by decide +kernel
theorem dX1_isTaken_17 : decode cX1_isTaken 17 = .ok (.if_icmp .ne 15, 3) := by decide +kernel
theorem dX1_isTaken_20 : decode cX1_isTaken 20 = .ok (.aload_n 0, 1) := by decide +kernel
theorem dX1_isTaken_21 : decode cX1_isTaken 21 = .ok (.getfield 19, 3) := by decide +kernel
theorem dX1_isTaken_24 : decode cX1_isTaken 24 = .ok (.iload_n 3, 1) := by decide +kernel
theorem dX1_isTaken_25 : decode cX1_isTaken 25 = .ok (.iaload, 1) := by decide +kernel
theorem dX1_isTaken_26 : decode cX1_isTaken 26 = .ok (.iload_n 2, 1) := by decide +kernel
theorem dX1_isTaken_27 : decode cX1_isTaken 27 = .ok (.if_icmp .ne 5, 3) := by decide +kernel
theorem dX1_isTaken_30 : decode cX1_isTaken 30 = .ok (.iconst 1, 1) := by decide +kernel
theorem dX1_isTaken_31 : decode cX1_isTaken 31 = .ok (.ireturn, 1) := by decide +kernel
theorem dX1_isTaken_32 : decode cX1_isTaken 32 = .ok (.iinc 3 1, 3) := by decide +kernel
theorem dX1_isTaken_35 : decode cX1_isTaken 35 = .ok (.goto (-33), 3) := by decide +kernel
theorem dX1_isTaken_38 : decode cX1_isTaken 38 = .ok (.iconst 0, 1) := by decide +kernel
theorem dX1_isTaken_39 : decode cX1_isTaken 39 = .ok (.ireturn, 1) := by decide +kernel
theorem dX1_isPlace_0 : decode cX1_isPlace 0 = .ok (.iload_n 0, 1) := by decide +kernel
theorem dX1_isPlace_1 : decode cX1_isPlace 1 = .ok (.ifCond .lt 12, 3) := by decide +kernel
theorem dX1_isPlace_4 : decode cX1_isPlace 4 = .ok (.iload_n 0, 1) := by decide +kernel
theorem dX1_isPlace_5 : decode cX1_isPlace 5 = .ok (.iconst 5, 1) := by decide +kernel
theorem dX1_isPlace_6 : decode cX1_isPlace 6 = .ok (.if_icmp .gt 7, 3) := by decide +kernel
theorem dX1_isPlace_9 : decode cX1_isPlace 9 = .ok (.iconst 1, 1) := by decide +kernel
theorem dX1_isPlace_10 : decode cX1_isPlace 10 = .ok (.goto 4, 3) := by decide +kernel
theorem dX1_isPlace_13 : decode cX1_isPlace 13 = .ok (.iconst 0, 1) := by decide +kernel
theorem dX1_isPlace_14 : decode cX1_isPlace 14 = .ok (.ireturn, 1) := by decide +kernel
theorem dX1_isUnderBar_0 : decode cX1_isUnderBar 0 = .ok (.iconst 0, 1) := by decide +kernel
theorem dX1_isUnderBar_1 : decode cX1_isUnderBar 1 = .ok (.istore_n 3, 1) := by decide +kernel
theorem dX1_isUnderBar_2 : decode cX1_isUnderBar 2 = .ok (.iload_n 3, 1) := by decide +kernel
theorem dX1_isUnderBar_3 : decode cX1_isUnderBar 3 = .ok (.aload_n 0, 1) := by decide +kernel
theorem dX1_isUnderBar_4 : decode cX1_isUnderBar 4 = .ok (.getfield 44, 3) := by decide +kernel
theorem dX1_isUnderBar_7 : decode cX1_isUnderBar 7 = .ok (.if_icmp .ge 32, 3) := by decide +kernel
theorem dX1_isUnderBar_10 : decode cX1_isUnderBar 10 = .ok (.aload_n 0, 1) := by decide +kernel
theorem dX1_isUnderBar_11 : decode cX1_isUnderBar 11 = .ok (.aload_n 0, 1) := by decide +kernel
theorem dX1_isUnderBar_12 : decode cX1_isUnderBar 12 = .ok (.getfield 22, 3) := by decide +kernel
theorem dX1_isUnderBar_15 : decode cX1_isUnderBar 15 = .ok (.iload_n 3, 1) := by decide +kernel
theorem dX1_isUnderBar_16 : decode cX1_isUnderBar 16 = .ok (.iaload, 1) := by decide +kernel
theorem dX1_isUnderBar_17 : decode cX1_isUnderBar 17 = .ok (.aload_n 0, 1) := by decide +kernel
theorem dX1_isUnderBar_18 : decode cX1_isUnderBar 18 = .ok (.getfield 25, 3) := by decide +kernel
theorem dX1_isUnderBar_21 : decode cX1_isUnderBar 21 = .ok (.iload_n 3, 1) := by decide +kernel
theorem dX1_isUnderBar_22 : decode cX1_isUnderBar 22 = .ok (.iaload, 1) := by decide +kernel
theorem dX1_isUnderBar_23 : decode cX1_isUnderBar 23 = .ok (.iload_n 1, 1) := by decide +kernel
theorem dX1_isUnderBar_24 : decode cX1_isUnderBar 24 = .ok (.iload_n 2, 1) := by decide +kernel
theorem dX1_isUnderBar_25 : decode cX1_isUnderBar 25 = .ok (.invokevirtual 95, 3) := by decide +kernel
theorem dX1_isUnderBar_28 : decode cX1_isUnderBar 28 = .ok (.ifCond .eq 5, 3) := by decide +kernel
theorem dX1_isUnderBar_31 : decode cX1_isUnderBar 31 = .ok (.iconst 1, 1) := by decide +kernel
theorem dX1_isUnderBar_32 : decode cX1_isUnderBar 32 = .ok (.ireturn, 1) := by decide +kernel
theorem dX1_isUnderBar_33 : decode cX1_isUnderBar 33 = .ok (.iinc 3 1, 3) := by decide +kernel
theorem dX1_isUnderBar_36 : decode cX1_isUnderBar 36 = .ok (.goto (-34), 3) := by decide +kernel
theorem dX1_isUnderBar_39 : decode cX1_isUnderBar 39 = .ok (.iconst 0, 1) := by decide +kernel
theorem dX1_isUnderBar_40 : decode cX1_isUnderBar 40 = .ok (.ireturn, 1) := by decide +kernel
theorem dX1_isPlainWith_0 : decode cX1_isPlainWith 0 = .ok (.aload_n 0, 1) := by decide +kernel
theorem dX1_isPlainWith_1 : decode cX1_isPlainWith 1 = .ok (.getfield 15, 3) := by decide +kernel
theorem dX1_isPlainWith_4 : decode cX1_isPlainWith 4 = .ok (.iload_n 1, 1) := by decide +kernel
theorem dX1_isPlainWith_5 : decode cX1_isPlainWith 5 = .ok (.iaload, 1) := by decide +kernel
theorem dX1_isPlainWith_6 : decode cX1_isPlainWith 6 = .ok (.istore 4, 2) := by decide +kernel
theorem dX1_isPlainWith_8 : decode cX1_isPlainWith 8 = .ok (.aload_n 0, 1) := by decide +kernel
theorem dX1_isPlainWith_9 : decode cX1_isPlainWith 9 = .ok (.getfield 19, 3) := by decide +kernel
theorem dX1_isPlainWith_12 : decode cX1_isPlainWith 12 = .ok (.iload_n 1, 1) := by decide +kernel
theorem dX1_isPlainWith_13 : decode cX1_isPlainWith 13 = .ok (.iaload, 1) := by decide +kernel
theorem dX1_isPlainWith_14 : decode cX1_isPlainWith 14 = .ok (.istore 5, 2) := by decide +kernel
theorem dX1_isPlainWith_16 : decode cX1_isPlainWith 16 = .ok (.aload_n 0, 1) := by decide +kernel
theorem dX1_isPlainWith_17 : decode cX1_isPlainWith 17 = .ok (.iload_n 1, 1) := by decide +kernel
theorem dX1_isPlainWith_18 : decode cX1_isPlainWith 18 = .ok (.iload_n 2, 1) := by decide +kernel
theorem dX1_isPlainWith_19 : decode cX1_isPlainWith 19 = .ok (.iload_n 3, 1) := by decide +kernel
theorem dX1_isPlainWith_20 : decode cX1_isPlainWith 20 = .ok (.invokevirtual 99, 3) := by decide +kernel
theorem dX1_isPlainWith_23 : decode cX1_isPlainWith 23 = .ok (.iconst 1, 1) := by decide +kernel
theorem dX1_isPlainWith_24 : decode cX1_isPlainWith 24 = .ok (.istore 6, 2) := by decide +kernel
theorem dX1_isPlainWith_26 : decode cX1_isPlainWith 26 = .ok (.iconst 0, 1) := by decide +kernel
theorem dX1_isPlainWith_27 : decode cX1_isPlainWith 27 = .ok (.istore 7, 2) := by decide +kernel
theorem dX1_isPlainWith_29 : decode cX1_isPlainWith 29 = .ok (.iload 7, 2) := by decide +kernel
theorem dX1_isPlainWith_31 : decode cX1_isPlainWith 31 = .ok (.aload_n 0, 1) := by decide +kernel
theorem dX1_isPlainWith_32 : decode cX1_isPlainWith 32 = .ok (.getfield 44, 3) := by decide +kernel
theorem dX1_isPlainWith_35 : decode cX1_isPlainWith 35 = .ok (.if_icmp .ge 42, 3) := by decide +kernel
theorem dX1_isPlainWith_38 : decode cX1_isPlainWith 38 = .ok (.iload 6, 2) := by decide +kernel
theorem dX1_isPlainWith_40 : decode cX1_isPlainWith 40 = .ok (.ifCond .eq 28, 3) := by decide +kernel
theorem dX1_isPlainWith_43 : decode cX1_isPlainWith 43 = .ok (.aload_n 0, 1) := by decide +kernel
theorem dX1_isPlainWith_44 : decode cX1_isPlainWith 44 = .ok (.aload_n 0, 1) := by decide +kernel
theorem dX1_isPlainWith_45 : decode cX1_isPlainWith 45 = .ok (.getfield 22, 3) := by decide +kernel
theorem dX1_isPlainWith_48 : decode cX1_isPlainWith 48 = .ok (.iload 7, 2) := by decide +kernel
theorem dX1_isPlainWith_50 : decode cX1_isPlainWith 50 = .ok (.iaload, 1) := by decide +kernel
theorem dX1_isPlainWith_51 : decode cX1_isPlainWith 51 = .ok (.aload_n 0, 1) := by decide +kernel
theorem dX1_isPlainWith_52 : decode cX1_isPlainWith 52 = .ok (.getfield 25, 3) := by decide +kernel
theorem dX1_isPlainWith_55 : decode cX1_isPlainWith 55 = .ok (.iload 7, 2) := by decide +kernel
theorem dX1_isPlainWith_57 : decode cX1_isPlainWith 57 = .ok (.iaload, 1) := by decide +kernel
theorem dX1_isPlainWith_58 : decode cX1_isPlainWith 58 = .ok (.invokevirtual 75, 3) := by decide +kernel
theorem dX1_isPlainWith_61 : decode cX1_isPlainWith 61 = .ok (.ifCond .eq 7, 3) := by decide +kernel
theorem dX1_isPlainWith_64 : decode cX1_isPlainWith 64 = .ok (.iconst 1, 1) := by decide +kernel
theorem dX1_isPlainWith_65 : decode cX1_isPlainWith 65 = .ok (.goto 4, 3) := by decide +kernel
theorem dX1_isPlainWith_68 : decode cX1_isPlainWith 68 = .ok (.iconst 0, 1) := by decide +kernel
theorem dX1_isPlainWith_69 : decode cX1_isPlainWith 69 = .ok (.istore 6, 2) := by decide +kernel
theorem dX1_isPlainWith_71 : decode cX1_isPlainWith 71 = .ok (.iinc 7 1, 3) := by decide +kernel
theorem dX1_isPlainWith_74 : decode cX1_isPlainWith 74 = .ok (.goto (-45), 3) := by decide +kernel
theorem dX1_isPlainWith_77 : decode cX1_isPlainWith 77 = .ok (.aload_n 0, 1) := by decide +kernel
theorem dX1_isPlainWith_78 : decode cX1_isPlainWith 78 = .ok (.iload_n 1, 1) := by decide +kernel
theorem dX1_isPlainWith_79 : decode cX1_isPlainWith 79 = .ok (.iload 4, 2) := by decide +kernel
theorem dX1_isPlainWith_81 : decode cX1_isPlainWith 81 = .ok (.iload 5, 2) := by decide +kernel
theorem dX1_isPlainWith_83 : decode cX1_isPlainWith 83 = .ok (.invokevirtual 99, 3) := by decide +kernel
theorem dX1_isPlainWith_86 : decode cX1_isPlainWith 86 = .ok (.iload 6, 2) := by decide +kernel
theorem dX1_isPlainWith_88 : decode cX1_isPlainWith 88 = .ok (.ireturn, 1) := by decide +kernel
theorem dX1_isClear_0 : decode cX1_isClear 0 = .ok (.iconst 0, 1) := by decide +kernel
theorem dX1_isClear_1 : decode cX1_isClear 1 = .ok (.istore_n 3, 1) := by decide +kernel
theorem dX1_isClear_2 : decode cX1_isClear 2 = .ok (.iload_n 3, 1) := by decide +kernel
theorem dX1_isClear_3 : decode cX1_isClear 3 = .ok (.aload_n 0, 1) := by decide +kernel
theorem dX1_isClear_4 : decode cX1_isClear 4 = .ok (.getfield 41, 3) := by decide +kernel
theorem dX1_isClear_7 : decode cX1_isClear 7 = .ok (.if_icmp .ge 32, 3) := by decide +kernel
theorem dX1_isClear_10 : decode cX1_isClear 10 = .ok (.aload_n 0, 1) := by decide +kernel
theorem dX1_isClear_11 : decode cX1_isClear 11 = .ok (.iload_n 1, 1) := by decide +kernel
theorem dX1_isClear_12 : decode cX1_isClear 12 = .ok (.iload_n 2, 1) := by decide +kernel
theorem dX1_isClear_13 : decode cX1_isClear 13 = .ok (.aload_n 0, 1) := by decide +kernel
theorem dX1_isClear_14 : decode cX1_isClear 14 = .ok (.getfield 15, 3) := by decide +kernel
theorem dX1_isClear_17 : decode cX1_isClear 17 = .ok (.iload_n 3, 1) := by decide +kernel
theorem dX1_isClear_18 : decode cX1_isClear 18 = .ok (.iaload, 1) := by decide +kernel
theorem dX1_isClear_19 : decode cX1_isClear 19 = .ok (.aload_n 0, 1) := by decide +kernel
theorem dX1_isClear_20 : decode cX1_isClear 20 = .ok (.getfield 19, 3) := by decide +kernel
theorem dX1_isClear_23 : decode cX1_isClear 23 = .ok (.iload_n 3, 1) := by decide +kernel
theorem dX1_isClear_24 : decode cX1_isClear 24 = .ok (.iaload, 1) := by decide +kernel
theorem dX1_isClear_25 : decode cX1_isClear 25 = .ok (.invokevirtual 95, 3) := by decide +kernel
theorem dX1_isClear_28 : decode cX1_isClear 28 = .ok (.ifCond .eq 5, 3) := by decide +kernel
theorem dX1_isClear_31 : decode cX1_isClear 31 = .ok (.iconst 0, 1) := by decide +kernel
theorem dX1_isClear_32 : decode cX1_isClear 32 = .ok (.ireturn, 1) := by decide +kernel
theorem dX1_isClear_33 : decode cX1_isClear 33 = .ok (.iinc 3 1, 3) := by decide +kernel
theorem dX1_isClear_36 : decode cX1_isClear 36 = .ok (.goto (-34), 3) := by decide +kernel
theorem dX1_isClear_39 : decode cX1_isClear 39 = .ok (.iconst 0, 1) := by decide +kernel
theorem dX1_isClear_40 : decode cX1_isClear 40 = .ok (.istore_n 3, 1) := by decide +kernel
theorem dX1_isClear_41 : decode cX1_isClear 41 = .ok (.iload_n 3, 1) := by decide +kernel
theorem dX1_isClear_42 : decode cX1_isClear 42 = .ok (.aload_n 0, 1) := by decide +kernel
theorem dX1_isClear_43 : decode cX1_isClear 43 = .ok (.getfield 44, 3) := by decide +kernel
theorem dX1_isClear_46 : decode cX1_isClear 46 = .ok (.if_icmp .ge 69, 3) := by decide +kernel
theorem dX1_isClear_49 : decode cX1_isClear 49 = .ok (.aload_n 0, 1) := by decide +kernel
theorem dX1_isClear_50 : decode cX1_isClear 50 = .ok (.getfield 22, 3) := by decide +kernel
theorem dX1_isClear_53 : decode cX1_isClear 53 = .ok (.iload_n 3, 1) := by decide +kernel
theorem dX1_isClear_54 : decode cX1_isClear 54 = .ok (.iaload, 1) := by decide +kernel
theorem dX1_isClear_55 : decode cX1_isClear 55 = .ok (.istore 4, 2) := by decide +kernel
theorem dX1_isClear_57 : decode cX1_isClear 57 = .ok (.aload_n 0, 1) := by decide +kernel
theorem dX1_isClear_58 : decode cX1_isClear 58 = .ok (.getfield 25, 3) := by decide +kernel
theorem dX1_isClear_61 : decode cX1_isClear 61 = .ok (.iload_n 3, 1) := by decide +kernel
theorem dX1_isClear_62 : decode cX1_isClear 62 = .ok (.iaload, 1) := by decide +kernel
theorem dX1_isClear_63 : decode cX1_isClear 63 = .ok (.istore 5, 2) := by decide +kernel
theorem dX1_isClear_65 : decode cX1_isClear 65 = .ok (.aload_n 0, 1) := by decide +kernel
theorem dX1_isClear_66 : decode cX1_isClear 66 = .ok (.iload_n 1, 1) := by decide +kernel
theorem dX1_isClear_67 : decode cX1_isClear 67 = .ok (.iload_n 2, 1) := by decide +kernel
theorem dX1_isClear_68 : decode cX1_isClear 68 = .ok (.iload 4, 2) := by decide +kernel
theorem dX1_isClear_70 : decode cX1_isClear 70 = .ok (.invokevirtual 103, 3) := by decide +kernel
theorem dX1_isClear_73 : decode cX1_isClear 73 = .ok (.aload_n 0, 1) := by decide +kernel
theorem dX1_isClear_74 : decode cX1_isClear 74 = .ok (.iload_n 1, 1) := by decide +kernel
theorem dX1_isClear_75 : decode cX1_isClear 75 = .ok (.iload_n 2, 1) := by decide +kernel
theorem dX1_isClear_76 : decode cX1_isClear 76 = .ok (.iload 5, 2) := by decide +kernel
theorem dX1_isClear_78 : decode cX1_isClear 78 = .ok (.invokevirtual 103, 3) := by decide +kernel
theorem dX1_isClear_81 : decode cX1_isClear 81 = .ok (.imul, 1) := by decide +kernel
theorem dX1_isClear_82 : decode cX1_isClear 82 = .ok (.ifCond .ge 27, 3) := by decide +kernel
theorem dX1_isClear_85 : decode cX1_isClear 85 = .ok (.aload_n 0, 1) := by decide +kernel
theorem dX1_isClear_86 : decode cX1_isClear 86 = .ok (.iload 4, 2) := by decide +kernel
theorem dX1_isClear_88 : decode cX1_isClear 88 = .ok (.iload 5, 2) := by decide +kernel
theorem dX1_isClear_90 : decode cX1_isClear 90 = .ok (.iload_n 1, 1) := by decide +kernel
theorem dX1_isClear_91 : decode cX1_isClear 91 = .ok (.invokevirtual 103, 3) := by decide +kernel
theorem dX1_isClear_94 : decode cX1_isClear 94 = .ok (.aload_n 0, 1) := by decide +kernel
theorem dX1_isClear_95 : decode cX1_isClear 95 = .ok (.iload 4, 2) := by decide +kernel
theorem dX1_isClear_97 : decode cX1_isClear 97 = .ok (.iload 5, 2) := by decide +kernel
theorem dX1_isClear_99 : decode cX1_isClear 99 = .ok (.iload_n 2, 1) := by decide +kernel
theorem dX1_isClear_100 : decode cX1_isClear 100 = .ok (.invokevirtual 103, 3) := by decide +kernel
theorem dX1_isClear_103 : decode cX1_isClear 103 = .ok (.imul, 1) := by decide +kernel
theorem dX1_isClear_104 : decode cX1_isClear 104 = .ok (.ifCond .ge 5, 3) := by decide +kernel
theorem dX1_isClear_107 : decode cX1_isClear 107 = .ok (.iconst 0, 1) := by decide +kernel
theorem dX1_isClear_108 : decode cX1_isClear 108 = .ok (.ireturn, 1) := by decide +kernel
theorem dX1_isClear_109 : decode cX1_isClear 109 = .ok (.iinc 3 1, 3) := by decide +kernel
theorem dX1_isClear_112 : decode cX1_isClear 112 = .ok (.goto (-71), 3) := by decide +kernel
theorem dX1_isClear_115 : decode cX1_isClear 115 = .ok (.iconst 1, 1) := by decide +kernel
theorem dX1_isClear_116 : decode cX1_isClear 116 = .ok (.ireturn, 1) := by decide +kernel
theorem dX1_isBetween_0 : decode cX1_isBetween 0 = .ok (.aload_n 0, 1) := by decide +kernel
theorem dX1_isBetween_1 : decode cX1_isBetween 1 = .ok (.getfield 15, 3) := by decide +kernel
theorem dX1_isBetween_4 : decode cX1_isBetween 4 = .ok (.iload_n 1, 1) := by decide +kernel
theorem dX1_isBetween_5 : decode cX1_isBetween 5 = .ok (.iaload, 1) := by decide +kernel
theorem dX1_isBetween_6 : decode cX1_isBetween 6 = .ok (.iload_n 3, 1) := by decide +kernel
theorem dX1_isBetween_7 : decode cX1_isBetween 7 = .ok (.isub, 1) := by decide +kernel
theorem dX1_isBetween_8 : decode cX1_isBetween 8 = .ok (.istore 5, 2) := by decide +kernel
theorem dX1_isBetween_10 : decode cX1_isBetween 10 = .ok (.aload_n 0, 1) := by decide +kernel
theorem dX1_isBetween_11 : decode cX1_isBetween 11 = .ok (.getfield 19, 3) := by decide +kernel
theorem dX1_isBetween_14 : decode cX1_isBetween 14 = .ok (.iload_n 1, 1) := by decide +kernel
theorem dX1_isBetween_15 : decode cX1_isBetween 15 = .ok (.iaload, 1) := by decide +kernel
theorem dX1_isBetween_16 : decode cX1_isBetween 16 = .ok (.iload 4, 2) := by decide +kernel
theorem dX1_isBetween_18 : decode cX1_isBetween 18 = .ok (.isub, 1) := by decide +kernel
theorem dX1_isBetween_19 : decode cX1_isBetween 19 = .ok (.istore 6, 2) := by decide +kernel
theorem dX1_isBetween_21 : decode cX1_isBetween 21 = .ok (.aload_n 0, 1) := by decide +kernel
theorem dX1_isBetween_22 : decode cX1_isBetween 22 = .ok (.getfield 15, 3) := by decide +kernel
theorem dX1_isBetween_25 : decode cX1_isBetween 25 = .ok (.iload_n 2, 1) := by decide +kernel
theorem dX1_isBetween_26 : decode cX1_isBetween 26 = .ok (.iaload, 1) := by decide +kernel
theorem dX1_isBetween_27 : decode cX1_isBetween 27 = .ok (.iload_n 3, 1) := by decide +kernel
theorem dX1_isBetween_28 : decode cX1_isBetween 28 = .ok (.isub, 1) := by decide +kernel
theorem dX1_isBetween_29 : decode cX1_isBetween 29 = .ok (.istore 7, 2) := by decide +kernel
theorem dX1_isBetween_31 : decode cX1_isBetween 31 = .ok (.aload_n 0, 1) := by decide +kernel
theorem dX1_isBetween_32 : decode cX1_isBetween 32 = .ok (.getfield 19, 3) := by decide +kernel
theorem dX1_isBetween_35 : decode cX1_isBetween 35 = .ok (.iload_n 2, 1) := by decide +kernel
theorem dX1_isBetween_36 : decode cX1_isBetween 36 = .ok (.iaload, 1) := by decide +kernel
theorem dX1_isBetween_37 : decode cX1_isBetween 37 = .ok (.iload 4, 2) := by decide +kernel
theorem dX1_isBetween_39 : decode cX1_isBetween 39 = .ok (.isub, 1) := by decide +kernel
theorem dX1_isBetween_40 : decode cX1_isBetween 40 = .ok (.istore 8, 2) := by decide +kernel
theorem dX1_isBetween_42 : decode cX1_isBetween 42 = .ok (.iload 5, 2) := by decide +kernel
theorem dX1_isBetween_44 : decode cX1_isBetween 44 = .ok (.iload 8, 2) := by decide +kernel
theorem dX1_isBetween_46 : decode cX1_isBetween 46 = .ok (.imul, 1) := by decide +kernel
theorem dX1_isBetween_47 : decode cX1_isBetween 47 = .ok (.iload 6, 2) := by decide +kernel
theorem dX1_isBetween_49 : decode cX1_isBetween 49 = .ok (.iload 7, 2) := by decide +kernel
theorem dX1_isBetween_51 : decode cX1_isBetween 51 = .ok (.imul, 1) := by decide +kernel
theorem dX1_isBetween_52 : decode cX1_isBetween 52 = .ok (.isub, 1) := by decide +kernel
theorem dX1_isBetween_53 : decode cX1_isBetween 53 = .ok (.ifCond .ne 21, 3) := by decide +kernel
theorem dX1_isBetween_56 : decode cX1_isBetween 56 = .ok (.iload 5, 2) := by decide +kernel
theorem dX1_isBetween_58 : decode cX1_isBetween 58 = .ok (.iload 7, 2) := by decide +kernel
theorem dX1_isBetween_60 : decode cX1_isBetween 60 = .ok (.imul, 1) := by decide +kernel
theorem dX1_isBetween_61 : decode cX1_isBetween 61 = .ok (.iload 6, 2) := by decide +kernel
theorem dX1_isBetween_63 : decode cX1_isBetween 63 = .ok (.iload 8, 2) := by decide +kernel
theorem dX1_isBetween_65 : decode cX1_isBetween 65 = .ok (.imul, 1) := by decide +kernel
theorem dX1_isBetween_66 : decode cX1_isBetween 66 = .ok (.iadd, 1) := by decide +kernel
theorem dX1_isBetween_67 : decode cX1_isBetween 67 = .ok (.ifCond .ge 7, 3) := by decide +kernel
theorem dX1_isBetween_70 : decode cX1_isBetween 70 = .ok (.iconst 1, 1) := by decide +kernel
theorem dX1_isBetween_71 : decode cX1_isBetween 71 = .ok (.goto 4, 3) := by decide +kernel
theorem dX1_isBetween_74 : decode cX1_isBetween 74 = .ok (.iconst 0, 1) := by decide +kernel
theorem dX1_isBetween_75 : decode cX1_isBetween 75 = .ok (.ireturn, 1) := by decide +kernel
theorem dX1_side_0 : decode cX1_side 0 = .ok (.aload_n 0, 1) := by decide +kernel
theorem dX1_side_1 : decode cX1_side 1 = .ok (.getfield 15, 3) := by decide +kernel
theorem dX1_side_4 : decode cX1_side 4 = .ok (.iload_n 2, 1) := by decide +kernel
theorem dX1_side_5 : decode cX1_side 5 = .ok (.iaload, 1) := by decide +kernel
theorem dX1_side_6 : decode cX1_side 6 = .ok (.aload_n 0, 1) := by decide +kernel
theorem dX1_side_7 : decode cX1_side 7 = .ok (.getfield 15, 3) := by decide +kernel
theorem dX1_side_10 : decode cX1_side 10 = .ok (.iload_n 1, 1) := by decide +kernel
theorem dX1_side_11 : decode cX1_side 11 = .ok (.iaload, 1) := by decide +kernel
theorem dX1_side_12 : decode cX1_side 12 = .ok (.isub, 1) := by decide +kernel
theorem dX1_side_13 : decode cX1_side 13 = .ok (.aload_n 0, 1) := by decide +kernel
theorem dX1_side_14 : decode cX1_side 14 = .ok (.getfield 19, 3) := by decide +kernel
theorem dX1_side_17 : decode cX1_side 17 = .ok (.iload_n 3, 1) := by decide +kernel
theorem dX1_side_18 : decode cX1_side 18 = .ok (.iaload, 1) := by decide +kernel
theorem dX1_side_19 : decode cX1_side 19 = .ok (.aload_n 0, 1) := by decide +kernel
theorem dX1_side_20 : decode cX1_side 20 = .ok (.getfield 19, 3) := by decide +kernel
theorem dX1_side_23 : decode cX1_side 23 = .ok (.iload_n 1, 1) := by decide +kernel
theorem dX1_side_24 : decode cX1_side 24 = .ok (.iaload, 1) := by decide +kernel
theorem dX1_side_25 : decode cX1_side 25 = .ok (.isub, 1) := by decide +kernel
theorem dX1_side_26 : decode cX1_side 26 = .ok (.imul, 1) := by decide +kernel
theorem dX1_side_27 : decode cX1_side 27 = .ok (.aload_n 0, 1) := by decide +kernel
theorem dX1_side_28 : decode cX1_side 28 = .ok (.getfield 19, 3) := by decide +kernel
theorem dX1_side_31 : decode cX1_side 31 = .ok (.iload_n 2, 1) := by decide +kernel
theorem dX1_side_32 : decode cX1_side 32 = .ok (.iaload, 1) := by decide +kernel
theorem dX1_side_33 : decode cX1_side 33 = .ok (.aload_n 0, 1) := by decide +kernel
theorem dX1_side_34 : decode cX1_side 34 = .ok (.getfield 19, 3) := by decide +kernel
theorem dX1_side_37 : decode cX1_side 37 = .ok (.iload_n 1, 1) := by decide +kernel
theorem dX1_side_38 : decode cX1_side 38 = .ok (.iaload, 1) := by decide +kernel
theorem dX1_side_39 : decode cX1_side 39 = .ok (.isub, 1) := by decide +kernel
theorem dX1_side_40 : decode cX1_side 40 = .ok (.aload_n 0, 1) := by decide +kernel
theorem dX1_side_41 : decode cX1_side 41 = .ok (.getfield 15, 3) := by decide +kernel
theorem dX1_side_44 : decode cX1_side 44 = .ok (.iload_n 3, 1) := by decide +kernel
theorem dX1_side_45 : decode cX1_side 45 = .ok (.iaload, 1) := by decide +kernel
theorem dX1_side_46 : decode cX1_side 46 = .ok (.aload_n 0, 1) := by decide +kernel
theorem dX1_side_47 : decode cX1_side 47 = .ok (.getfield 15, 3) := by decide +kernel
theorem dX1_side_50 : decode cX1_side 50 = .ok (.iload_n 1, 1) := by decide +kernel
theorem dX1_side_51 : decode cX1_side 51 = .ok (.iaload, 1) := by decide +kernel
theorem dX1_side_52 : decode cX1_side 52 = .ok (.isub, 1) := by decide +kernel
theorem dX1_side_53 : decode cX1_side 53 = .ok (.imul, 1) := by decide +kernel
theorem dX1_side_54 : decode cX1_side 54 = .ok (.isub, 1) := by decide +kernel
theorem dX1_side_55 : decode cX1_side 55 = .ok (.ireturn, 1) := by decide +kernel
theorem dX2_init_0 : decode cX2_init 0 = .ok (.aload_n 0, 1) := by decide +kernel
theorem dX2_init_1 : decode cX2_init 1 = .ok (.invokespecial 3, 3) := by decide +kernel
theorem dX2_init_4 : decode cX2_init 4 = .ok (.aload_n 0, 1) := by decide +kernel
theorem dX2_init_5 : decode cX2_init 5 = .ok (.bipush 6, 2) := by decide +kernel
theorem dX2_init_7 : decode cX2_init 7 = .ok (.anewarray 9, 3) := by decide +kernel
theorem dX2_init_10 : decode cX2_init 10 = .ok (.putfield 11, 3) := by decide +kernel
theorem dX2_init_13 : decode cX2_init 13 = .ok (.iconst 0, 1) := by decide +kernel
theorem dX2_init_14 : decode cX2_init 14 = .ok (.istore_n 1, 1) := by decide +kernel
theorem dX2_init_15 : decode cX2_init 15 = .ok (.iload_n 1, 1) := by decide +kernel
theorem dX2_init_16 : decode cX2_init 16 = .ok (.bipush 6, 2) := by decide +kernel
theorem dX2_init_18 : decode cX2_init 18 = .ok (.if_icmp .ge 22, 3) := by decide +kernel
theorem dX2_init_21 : decode cX2_init 21 = .ok (.aload_n 0, 1) := by decide +kernel
theorem dX2_init_22 : decode cX2_init 22 = .ok (.getfield 11, 3) := by decide +kernel
theorem dX2_init_25 : decode cX2_init 25 = .ok (.iload_n 1, 1) := by decide +kernel
theorem dX2_init_26 : decode cX2_init 26 = .ok (.new 9, 3) := by decide +kernel
theorem dX2_init_29 : decode cX2_init 29 = .ok (.dup, 1) := by decide +kernel
theorem dX2_init_30 : decode cX2_init 30 = .ok (.invokespecial 17, 3) := by decide +kernel
theorem dX2_init_33 : decode cX2_init 33 = .ok (.aastore, 1) := by decide +kernel
theorem dX2_init_34 : decode cX2_init 34 = .ok (.iinc 1 1, 3) := by decide +kernel
theorem dX2_init_37 : decode cX2_init 37 = .ok (.goto (-22), 3) := by decide +kernel
theorem dX2_init_40 : decode cX2_init 40 = .ok (.return_, 1) := by decide +kernel
theorem dX2_remember_0 : decode cX2_remember 0 = .ok (.aload_n 0, 1) := by decide +kernel
theorem dX2_remember_1 : decode cX2_remember 1 = .ok (.getfield 11, 3) := by decide +kernel
theorem dX2_remember_4 : decode cX2_remember 4 = .ok (.aload_n 0, 1) := by decide +kernel
theorem dX2_remember_5 : decode cX2_remember 5 = .ok (.getfield 18, 3) := by decide +kernel
theorem dX2_remember_8 : decode cX2_remember 8 = .ok (.aaload, 1) := by decide +kernel
theorem dX2_remember_9 : decode cX2_remember 9 = .ok (.aload_n 1, 1) := by decide +kernel
theorem dX2_remember_10 : decode cX2_remember 10 = .ok (.invokevirtual 22, 3) := by decide +kernel
theorem dX2_remember_13 : decode cX2_remember 13 = .ok (.aload_n 0, 1) := by decide +kernel
theorem dX2_remember_14 : decode cX2_remember 14 = .ok (.aload_n 0, 1) := by decide +kernel
theorem dX2_remember_15 : decode cX2_remember 15 = .ok (.getfield 18, 3) := by decide +kernel
theorem dX2_remember_18 : decode cX2_remember 18 = .ok (.iconst 1, 1) := by decide +kernel
theorem dX2_remember_19 : decode cX2_remember 19 = .ok (.iadd, 1) := by decide +kernel
theorem dX2_remember_20 : decode cX2_remember 20 = .ok (.bipush 6, 2) := by decide +kernel
theorem dX2_remember_22 : decode cX2_remember 22 = .ok (.irem, 1) := by decide +kernel
theorem dX2_remember_23 : decode cX2_remember 23 = .ok (.putfield 18, 3) := by decide +kernel
theorem dX2_remember_26 : decode cX2_remember 26 = .ok (.aload_n 0, 1) := by decide +kernel
theorem dX2_remember_27 : decode cX2_remember 27 = .ok (.aload_n 0, 1) := by decide +kernel
theorem dX2_remember_28 : decode cX2_remember 28 = .ok (.getfield 26, 3) := by decide +kernel
theorem dX2_remember_31 : decode cX2_remember 31 = .ok (.iconst 1, 1) := by decide +kernel
theorem dX2_remember_32 : decode cX2_remember 32 = .ok (.iadd, 1) := by decide +kernel
theorem dX2_remember_33 : decode cX2_remember 33 = .ok (.bipush 6, 2) := by decide +kernel
theorem dX2_remember_35 : decode cX2_remember 35 = .ok (.invokestatic 29, 3) := by decide +kernel
theorem dX2_remember_38 : decode cX2_remember 38 = .ok (.putfield 26, 3) := by decide +kernel
theorem dX2_remember_41 : decode cX2_remember 41 = .ok (.return_, 1) := by decide +kernel
theorem dX2_takeBack_0 : decode cX2_takeBack 0 = .ok (.aload_n 0, 1) := by decide +kernel
theorem dX2_takeBack_1 : decode cX2_takeBack 1 = .ok (.aload_n 0, 1) := by decide +kernel
theorem dX2_takeBack_2 : decode cX2_takeBack 2 = .ok (.getfield 18, 3) := by decide +kernel
theorem dX2_takeBack_5 : decode cX2_takeBack 5 = .ok (.bipush 6, 2) := by decide +kernel
theorem dX2_takeBack_7 : decode cX2_takeBack 7 = .ok (.iadd, 1) := by decide +kernel
theorem dX2_takeBack_8 : decode cX2_takeBack 8 = .ok (.iconst 1, 1) := by decide +kernel
theorem dX2_takeBack_9 : decode cX2_takeBack 9 = .ok (.isub, 1) := by decide +kernel
theorem dX2_takeBack_10 : decode cX2_takeBack 10 = .ok (.bipush 6, 2) := by decide +kernel
theorem dX2_takeBack_12 : decode cX2_takeBack 12 = .ok (.irem, 1) := by decide +kernel
theorem dX2_takeBack_13 : decode cX2_takeBack 13 = .ok (.putfield 18, 3) := by decide +kernel
theorem dX2_takeBack_16 : decode cX2_takeBack 16 = .ok (.aload_n 0, 1) := by decide +kernel
theorem dX2_takeBack_17 : decode cX2_takeBack 17 = .ok (.dup, 1) := by decide +kernel
theorem dX2_takeBack_18 : decode cX2_takeBack 18 = .ok (.getfield 26, 3) := by decide +kernel
theorem dX2_takeBack_21 : decode cX2_takeBack 21 = .ok (.iconst 1, 1) := by decide +kernel
theorem dX2_takeBack_22 : decode cX2_takeBack 22 = .ok (.isub, 1) := by decide +kernel
theorem dX2_takeBack_23 : decode cX2_takeBack 23 = .ok (.putfield 26, 3) := by decide +kernel
theorem dX2_takeBack_26 : decode cX2_takeBack 26 = .ok (.aload_n 1, 1) := by decide +kernel
theorem dX2_takeBack_27 : decode cX2_takeBack 27 = .ok (.aload_n 0, 1) := by decide +kernel
theorem dX2_takeBack_28 : decode cX2_takeBack 28 = .ok (.getfield 11, 3) := by decide +kernel
theorem dX2_takeBack_31 : decode cX2_takeBack 31 = .ok (.aload_n 0, 1) := by decide +kernel
theorem dX2_takeBack_32 : decode cX2_takeBack 32 = .ok (.getfield 18, 3) := by decide +kernel
theorem dX2_takeBack_35 : decode cX2_takeBack 35 = .ok (.aaload, 1) := by decide +kernel
theorem dX2_takeBack_36 : decode cX2_takeBack 36 = .ok (.invokevirtual 22, 3) := by decide +kernel
theorem dX2_takeBack_39 : decode cX2_takeBack 39 = .ok (.return_, 1) := by decide +kernel
theorem dX2_takeAll_0 : decode cX2_takeAll 0 = .ok (.aload_n 0, 1) := by decide +kernel
theorem dX2_takeAll_1 : decode cX2_takeAll 1 = .ok (.aload_n 1, 1) := by decide +kernel
theorem dX2_takeAll_2 : decode cX2_takeAll 2 = .ok (.getfield 26, 3) := by decide +kernel
theorem dX2_takeAll_5 : decode cX2_takeAll 5 = .ok (.putfield 26, 3) := by decide +kernel
theorem dX2_takeAll_8 : decode cX2_takeAll 8 = .ok (.aload_n 0, 1) := by decide +kernel
theorem dX2_takeAll_9 : decode cX2_takeAll 9 = .ok (.aload_n 1, 1) := by decide +kernel
theorem dX2_takeAll_10 : decode cX2_takeAll 10 = .ok (.getfield 18, 3) := by decide +kernel
theorem dX2_takeAll_13 : decode cX2_takeAll 13 = .ok (.putfield 18, 3) := by decide +kernel
theorem dX2_takeAll_16 : decode cX2_takeAll 16 = .ok (.iconst 0, 1) := by decide +kernel
theorem dX2_takeAll_17 : decode cX2_takeAll 17 = .ok (.istore_n 2, 1) := by decide +kernel
theorem dX2_takeAll_18 : decode cX2_takeAll 18 = .ok (.iload_n 2, 1) := by decide +kernel
theorem dX2_takeAll_19 : decode cX2_takeAll 19 = .ok (.bipush 6, 2) := by decide +kernel
theorem dX2_takeAll_21 : decode cX2_takeAll 21 = .ok (.if_icmp .ge 24, 3) := by decide +kernel
theorem dX2_takeAll_24 : decode cX2_takeAll 24 = .ok (.aload_n 0, 1) := by decide +kernel
theorem dX2_takeAll_25 : decode cX2_takeAll 25 = .ok (.getfield 11, 3) := by decide +kernel
theorem dX2_takeAll_28 : decode cX2_takeAll 28 = .ok (.iload_n 2, 1) := by decide +kernel
theorem dX2_takeAll_29 : decode cX2_takeAll 29 = .ok (.aaload, 1) := by decide +kernel
theorem dX2_takeAll_30 : decode cX2_takeAll 30 = .ok (.aload_n 1, 1) := by decide +kernel
theorem dX2_takeAll_31 : decode cX2_takeAll 31 = .ok (.getfield 11, 3) := by decide +kernel
theorem dX2_takeAll_34 : decode cX2_takeAll 34 = .ok (.iload_n 2, 1) := by decide +kernel
theorem dX2_takeAll_35 : decode cX2_takeAll 35 = .ok (.aaload, 1) := by decide +kernel
theorem dX2_takeAll_36 : decode cX2_takeAll 36 = .ok (.invokevirtual 22, 3) := by decide +kernel
theorem dX2_takeAll_39 : decode cX2_takeAll 39 = .ok (.iinc 2 1, 3) := by decide +kernel
theorem dX2_takeAll_42 : decode cX2_takeAll 42 = .ok (.goto (-24), 3) := by decide +kernel
theorem dX2_takeAll_45 : decode cX2_takeAll 45 = .ok (.return_, 1) := by decide +kernel
theorem dX3_init_0 : decode cX3_init 0 = .ok (.aload_n 0, 1) := by decide +kernel
theorem dX3_init_1 : decode cX3_init 1 = .ok (.invokespecial 3, 3) := by decide +kernel
theorem dX3_init_4 : decode cX3_init 4 = .ok (.aload_n 0, 1) := by decide +kernel
theorem dX3_init_5 : decode cX3_init 5 = .ok (.bipush 24, 2) := by decide +kernel
theorem dX3_init_7 : decode cX3_init 7 = .ok (.newarray .long, 2) := by decide +kernel
theorem dX3_init_9 : decode cX3_init 9 = .ok (.putfield 9, 3) := by decide +kernel
theorem dX3_init_12 : decode cX3_init 12 = .ok (.return_, 1) := by decide +kernel
theorem dX3_begin_0 : decode cX3_begin 0 = .ok (.aload_n 0, 1) := by decide +kernel
theorem dX3_begin_1 : decode cX3_begin 1 = .ok (.iconst 1, 1) := by decide +kernel
theorem dX3_begin_2 : decode cX3_begin 2 = .ok (.putfield 15, 3) := by decide +kernel
theorem dX3_begin_5 : decode cX3_begin 5 = .ok (.aload_n 0, 1) := by decide +kernel
theorem dX3_begin_6 : decode cX3_begin 6 = .ok (.iload_n 1, 1) := by decide +kernel
theorem dX3_begin_7 : decode cX3_begin 7 = .ok (.putfield 19, 3) := by decide +kernel
theorem dX3_begin_10 : decode cX3_begin 10 = .ok (.aload_n 0, 1) := by decide +kernel
theorem dX3_begin_11 : decode cX3_begin 11 = .ok (.iload_n 2, 1) := by decide +kernel
theorem dX3_begin_12 : decode cX3_begin 12 = .ok (.putfield 23, 3) := by decide +kernel
theorem dX3_begin_15 : decode cX3_begin 15 = .ok (.aload_n 0, 1) := by decide +kernel
theorem dX3_begin_16 : decode cX3_begin 16 = .ok (.getfield 9, 3) := by decide +kernel
theorem dX3_begin_19 : decode cX3_begin 19 = .ok (.lconst 0, 1) := by decide +kernel
theorem dX3_begin_20 : decode cX3_begin 20 = .ok (.invokestatic 26, 3) := by decide +kernel
theorem dX3_begin_23 : decode cX3_begin 23 = .ok (.return_, 1) := by decide +kernel
theorem dX3_holds_0 : decode cX3_holds 0 = .ok (.iload_n 2, 1) := by decide +kernel
theorem dX3_holds_1 : decode cX3_holds 1 = .ok (.ifCond .lt 21, 3) := by decide +kernel
theorem dX3_holds_4 : decode cX3_holds 4 = .ok (.iload_n 1, 1) := by decide +kernel
theorem dX3_holds_5 : decode cX3_holds 5 = .ok (.ifCond .lt 17, 3) := by decide +kernel
theorem dX3_holds_8 : decode cX3_holds 8 = .ok (.iload_n 1, 1) := by decide +kernel
theorem dX3_holds_9 : decode cX3_holds 9 = .ok (.aload_n 0, 1) := by decide +kernel
theorem dX3_holds_10 : decode cX3_holds 10 = .ok (.getfield 23, 3) := by decide +kernel
theorem dX3_holds_13 : decode cX3_holds 13 = .ok (.iload_n 2, 1) := by decide +kernel
theorem dX3_holds_14 : decode cX3_holds 14 = .ok (.isub, 1) := by decide +kernel
theorem dX3_holds_15 : decode cX3_holds 15 = .ok (.if_icmp .gt 7, 3) := by decide +kernel
theorem dX3_holds_18 : decode cX3_holds 18 = .ok (.iconst 1, 1) := by decide +kernel
theorem dX3_holds_19 : decode cX3_holds 19 = .ok (.goto 4, 3) := by decide +kernel
theorem dX3_holds_22 : decode cX3_holds 22 = .ok (.iconst 0, 1) := by decide +kernel
theorem dX3_holds_23 : decode cX3_holds 23 = .ok (.ireturn, 1) := by decide +kernel
theorem dX3_isSmall_0 : decode cX3_isSmall 0 = .ok (.iconst 0, 1) := by decide +kernel
theorem dX3_isSmall_1 : decode cX3_isSmall 1 = .ok (.istore_n 3, 1) := by decide +kernel
theorem dX3_isSmall_2 : decode cX3_isSmall 2 = .ok (.iload_n 3, 1) := by decide +kernel
theorem dX3_isSmall_3 : decode cX3_isSmall 3 = .ok (.iload_n 2, 1) := by decide +kernel
theorem dX3_isSmall_4 : decode cX3_isSmall 4 = .ok (.if_icmp .ge 41, 3) := by decide +kernel
theorem dX3_isSmall_7 : decode cX3_isSmall 7 = .ok (.aload_n 0, 1) := by decide +kernel
theorem dX3_isSmall_8 : decode cX3_isSmall 8 = .ok (.getfield 9, 3) := by decide +kernel
theorem dX3_isSmall_11 : decode cX3_isSmall 11 = .ok (.iload_n 1, 1) := by decide +kernel
theorem dX3_isSmall_12 : decode cX3_isSmall 12 = .ok (.iload_n 3, 1) := by decide +kernel
theorem dX3_isSmall_13 : decode cX3_isSmall 13 = .ok (.iadd, 1) := by decide +kernel
theorem dX3_isSmall_14 : decode cX3_isSmall 14 = .ok (.laload, 1) := by decide +kernel
theorem dX3_isSmall_15 : decode cX3_isSmall 15 = .ok (.ldc2_w 32, 3) := by decide +kernel
theorem dX3_isSmall_18 : decode cX3_isSmall 18 = .ok (.lcmp, 1) := by decide +kernel
theorem dX3_isSmall_19 : decode cX3_isSmall 19 = .ok (.ifCond .lt 18, 3) := by decide +kernel
theorem dX3_isSmall_22 : decode cX3_isSmall 22 = .ok (.aload_n 0, 1) := by decide +kernel
theorem dX3_isSmall_23 : decode cX3_isSmall 23 = .ok (.getfield 9, 3) := by decide +kernel
theorem dX3_isSmall_26 : decode cX3_isSmall 26 = .ok (.iload_n 1, 1) := by decide +kernel
theorem dX3_isSmall_27 : decode cX3_isSmall 27 = .ok (.iload_n 3, 1) := by decide +kernel
theorem dX3_isSmall_28 : decode cX3_isSmall 28 = .ok (.iadd, 1) := by decide +kernel
theorem dX3_isSmall_29 : decode cX3_isSmall 29 = .ok (.laload, 1) := by decide +kernel
theorem dX3_isSmall_30 : decode cX3_isSmall 30 = .ok (.ldc2_w 34, 3) := by decide +kernel
theorem dX3_isSmall_33 : decode cX3_isSmall 33 = .ok (.lcmp, 1) := by decide +kernel
theorem dX3_isSmall_34 : decode cX3_isSmall 34 = .ok (.ifCond .le 5, 3) := by decide +kernel
theorem dX3_isSmall_37 : decode cX3_isSmall 37 = .ok (.iconst 0, 1) := by decide +kernel
theorem dX3_isSmall_38 : decode cX3_isSmall 38 = .ok (.ireturn, 1) := by decide +kernel
theorem dX3_isSmall_39 : decode cX3_isSmall 39 = .ok (.iinc 3 1, 3) := by decide +kernel
theorem dX3_isSmall_42 : decode cX3_isSmall 42 = .ok (.goto (-40), 3) := by decide +kernel
theorem dX3_isSmall_45 : decode cX3_isSmall 45 = .ok (.iconst 1, 1) := by decide +kernel
theorem dX3_isSmall_46 : decode cX3_isSmall 46 = .ok (.ireturn, 1) := by decide +kernel
theorem dX4_init_0 : decode cX4_init 0 = .ok (.aload_n 0, 1) := by decide +kernel
theorem dX4_init_1 : decode cX4_init 1 = .ok (.invokespecial 3, 3) := by decide +kernel
theorem dX4_init_4 : decode cX4_init 4 = .ok (.aload_n 0, 1) := by decide +kernel
theorem dX4_init_5 : decode cX4_init 5 = .ok (.lconst 1, 1) := by decide +kernel
theorem dX4_init_6 : decode cX4_init 6 = .ok (.putfield 9, 3) := by decide +kernel
theorem dX4_init_9 : decode cX4_init 9 = .ok (.aload_n 0, 1) := by decide +kernel
theorem dX4_init_10 : decode cX4_init 10 = .ok (.bipush 81, 2) := by decide +kernel
theorem dX4_init_12 : decode cX4_init 12 = .ok (.newarray .long, 2) := by decide +kernel
theorem dX4_init_14 : decode cX4_init 14 = .ok (.putfield 15, 3) := by decide +kernel
theorem dX4_init_17 : decode cX4_init 17 = .ok (.aload_n 0, 1) := by decide +kernel
theorem dX4_init_18 : decode cX4_init 18 = .ok (.bipush 9, 2) := by decide +kernel
theorem dX4_init_20 : decode cX4_init 20 = .ok (.newarray .long, 2) := by decide +kernel
theorem dX4_init_22 : decode cX4_init 22 = .ok (.putfield 19, 3) := by decide +kernel
theorem dX4_init_25 : decode cX4_init 25 = .ok (.aload_n 0, 1) := by decide +kernel
theorem dX4_init_26 : decode cX4_init 26 = .ok (.bipush 108, 2) := by decide +kernel
theorem dX4_init_28 : decode cX4_init 28 = .ok (.newarray .long, 2) := by decide +kernel
theorem dX4_init_30 : decode cX4_init 30 = .ok (.putfield 22, 3) := by decide +kernel
theorem dX4_init_33 : decode cX4_init 33 = .ok (.aload_n 0, 1) := by decide +kernel
theorem dX4_init_34 : decode cX4_init 34 = .ok (.bipush 9, 2) := by decide +kernel
theorem dX4_init_36 : decode cX4_init 36 = .ok (.newarray .int, 2) := by decide +kernel
theorem dX4_init_38 : decode cX4_init 38 = .ok (.putfield 25, 3) := by decide +kernel
theorem dX4_init_41 : decode cX4_init 41 = .ok (.return_, 1) := by decide +kernel
theorem dX4_solve_0 : decode cX4_solve 0 = .ok (.aload_n 0, 1) := by decide +kernel
theorem dX4_solve_1 : decode cX4_solve 1 = .ok (.aload_n 1, 1) := by decide +kernel
theorem dX4_solve_2 : decode cX4_solve 2 = .ok (.getfield 29, 3) := by decide +kernel
theorem dX4_solve_5 : decode cX4_solve 5 = .ok (.putfield 35, 3) := by decide +kernel
theorem dX4_solve_8 : decode cX4_solve 8 = .ok (.aload_n 0, 1) := by decide +kernel
theorem dX4_solve_9 : decode cX4_solve 9 = .ok (.iconst 2, 1) := by decide +kernel
theorem dX4_solve_10 : decode cX4_solve 10 = .ok (.aload_n 1, 1) := by decide +kernel
theorem dX4_solve_11 : decode cX4_solve 11 = .ok (.getfield 36, 3) := by decide +kernel
theorem dX4_solve_14 : decode cX4_solve 14 = .ok (.imul, 1) := by decide +kernel
theorem dX4_solve_15 : decode cX4_solve 15 = .ok (.putfield 39, 3) := by decide +kernel
theorem dX4_solve_18 : decode cX4_solve 18 = .ok (.aload_n 0, 1) := by decide +kernel
theorem dX4_solve_19 : decode cX4_solve 19 = .ok (.aload_n 1, 1) := by decide +kernel
theorem dX4_solve_20 : decode cX4_solve 20 = .ok (.invokevirtual 42, 3) := by decide +kernel
theorem dX4_solve_23 : decode cX4_solve 23 = .ok (.aload_n 0, 1) := by decide +kernel
theorem dX4_solve_24 : decode cX4_solve 24 = .ok (.invokevirtual 46, 3) := by decide +kernel
theorem dX4_solve_27 : decode cX4_solve 27 = .ok (.aload_n 0, 1) := by decide +kernel
theorem dX4_solve_28 : decode cX4_solve 28 = .ok (.invokevirtual 49, 3) := by decide +kernel
theorem dX4_solve_31 : decode cX4_solve 31 = .ok (.aload_n 0, 1) := by decide +kernel
theorem dX4_solve_32 : decode cX4_solve 32 = .ok (.aload_n 1, 1) := by decide +kernel
theorem dX4_solve_33 : decode cX4_solve 33 = .ok (.getfield 52, 3) := by decide +kernel
theorem dX4_solve_36 : decode cX4_solve 36 = .ok (.invokevirtual 55, 3) := by decide +kernel
theorem dX4_solve_39 : decode cX4_solve 39 = .ok (.return_, 1) := by decide +kernel
theorem dX4_isLeading_0 : decode cX4_isLeading 0 = .ok (.aload_n 0, 1) := by decide +kernel
theorem dX4_isLeading_1 : decode cX4_isLeading 1 = .ok (.getfield 25, 3) := by decide +kernel
theorem dX4_isLeading_4 : decode cX4_isLeading 4 = .ok (.iload_n 1, 1) := by decide +kernel
theorem dX4_isLeading_5 : decode cX4_isLeading 5 = .ok (.iaload, 1) := by decide +kernel
theorem dX4_isLeading_6 : decode cX4_isLeading 6 = .ok (.ifCond .ge 7, 3) := by decide +kernel
theorem dX4_isLeading_9 : decode cX4_isLeading 9 = .ok (.iconst 1, 1) := by decide +kernel
theorem dX4_isLeading_10 : decode cX4_isLeading 10 = .ok (.goto 4, 3) := by decide +kernel
theorem dX4_isLeading_13 : decode cX4_isLeading 13 = .ok (.iconst 0, 1) := by decide +kernel
theorem dX4_isLeading_14 : decode cX4_isLeading 14 = .ok (.ireturn, 1) := by decide +kernel
theorem dX4_isNeeded_0 : decode cX4_isNeeded 0 = .ok (.iconst 0, 1) := by decide +kernel
theorem dX4_isNeeded_1 : decode cX4_isNeeded 1 = .ok (.istore_n 2, 1) := by decide +kernel
theorem dX4_isNeeded_2 : decode cX4_isNeeded 2 = .ok (.iload_n 2, 1) := by decide +kernel
theorem dX4_isNeeded_3 : decode cX4_isNeeded 3 = .ok (.aload_n 0, 1) := by decide +kernel
theorem dX4_isNeeded_4 : decode cX4_isNeeded 4 = .ok (.getfield 59, 3) := by decide +kernel
theorem dX4_isNeeded_7 : decode cX4_isNeeded 7 = .ok (.if_icmp .ge 27, 3) := by decide +kernel
theorem dX4_isNeeded_10 : decode cX4_isNeeded 10 = .ok (.aload_n 0, 1) := by decide +kernel
theorem dX4_isNeeded_11 : decode cX4_isNeeded 11 = .ok (.getfield 15, 3) := by decide +kernel
theorem dX4_isNeeded_14 : decode cX4_isNeeded 14 = .ok (.iload_n 2, 1) := by decide +kernel
theorem dX4_isNeeded_15 : decode cX4_isNeeded 15 = .ok (.bipush 9, 2) := by decide +kernel
theorem dX4_isNeeded_17 : decode cX4_isNeeded 17 = .ok (.imul, 1) := by decide +kernel
theorem dX4_isNeeded_18 : decode cX4_isNeeded 18 = .ok (.iload_n 1, 1) := by decide +kernel
theorem dX4_isNeeded_19 : decode cX4_isNeeded 19 = .ok (.iadd, 1) := by decide +kernel
theorem dX4_isNeeded_20 : decode cX4_isNeeded 20 = .ok (.laload, 1) := by decide +kernel
theorem dX4_isNeeded_21 : decode cX4_isNeeded 21 = .ok (.lconst 0, 1) := by decide +kernel
theorem dX4_isNeeded_22 : decode cX4_isNeeded 22 = .ok (.lcmp, 1) := by decide +kernel
theorem dX4_isNeeded_23 : decode cX4_isNeeded 23 = .ok (.ifCond .eq 5, 3) := by decide +kernel
theorem dX4_isNeeded_26 : decode cX4_isNeeded 26 = .ok (.iconst 0, 1) := by decide +kernel
theorem dX4_isNeeded_27 : decode cX4_isNeeded 27 = .ok (.ireturn, 1) := by decide +kernel
theorem dX4_isNeeded_28 : decode cX4_isNeeded 28 = .ok (.iinc 2 1, 3) := by decide +kernel
theorem dX4_isNeeded_31 : decode cX4_isNeeded 31 = .ok (.goto (-29), 3) := by decide +kernel
theorem dX4_isNeeded_34 : decode cX4_isNeeded 34 = .ok (.iconst 1, 1) := by decide +kernel
theorem dX4_isNeeded_35 : decode cX4_isNeeded 35 = .ok (.ireturn, 1) := by decide +kernel
theorem dX4_freeBars_0 : decode cX4_freeBars 0 = .ok (.lconst 0, 1) := by decide +kernel
theorem dX4_freeBars_1 : decode cX4_freeBars 1 = .ok (.lstore_n 1, 1) := by decide +kernel
theorem dX4_freeBars_2 : decode cX4_freeBars 2 = .ok (.iconst 0, 1) := by decide +kernel
theorem dX4_freeBars_3 : decode cX4_freeBars 3 = .ok (.istore_n 3, 1) := by decide +kernel
theorem dX4_freeBars_4 : decode cX4_freeBars 4 = .ok (.iload_n 3, 1) := by decide +kernel
theorem dX4_freeBars_5 : decode cX4_freeBars 5 = .ok (.aload_n 0, 1) := by decide +kernel
theorem dX4_freeBars_6 : decode cX4_freeBars 6 = .ok (.getfield 35, 3) := by decide +kernel
theorem dX4_freeBars_9 : decode cX4_freeBars 9 = .ok (.if_icmp .ge 29, 3) := by decide +kernel
theorem dX4_freeBars_12 : decode cX4_freeBars 12 = .ok (.lload_n 1, 1) := by decide +kernel
theorem dX4_freeBars_13 : decode cX4_freeBars 13 = .ok (.aload_n 0, 1) := by decide +kernel
theorem dX4_freeBars_14 : decode cX4_freeBars 14 = .ok (.iload_n 3, 1) := by decide +kernel
theorem dX4_freeBars_15 : decode cX4_freeBars 15 = .ok (.invokevirtual 62, 3) := by decide +kernel
theorem dX4_freeBars_18 : decode cX4_freeBars 18 = .ok (.ifCond .ne 7, 3) := by decide +kernel
theorem dX4_freeBars_21 : decode cX4_freeBars 21 = .ok (.iconst 1, 1) := by decide +kernel
theorem dX4_freeBars_22 : decode cX4_freeBars 22 = .ok (.goto 4, 3) := by decide +kernel
theorem dX4_freeBars_25 : decode cX4_freeBars 25 = .ok (.iconst 0, 1) := by decide +kernel
theorem dX4_freeBars_26 : decode cX4_freeBars 26 = .ok (.invokestatic 66, 3) := by decide +kernel
theorem dX4_freeBars_29 : decode cX4_freeBars 29 = .ok (.i2l, 1) := by decide +kernel
theorem dX4_freeBars_30 : decode cX4_freeBars 30 = .ok (.ladd, 1) := by decide +kernel
theorem dX4_freeBars_31 : decode cX4_freeBars 31 = .ok (.lstore_n 1, 1) := by decide +kernel
theorem dX4_freeBars_32 : decode cX4_freeBars 32 = .ok (.iinc 3 1, 3) := by decide +kernel
theorem dX4_freeBars_35 : decode cX4_freeBars 35 = .ok (.goto (-31), 3) := by decide +kernel
theorem dX4_freeBars_38 : decode cX4_freeBars 38 = .ok (.lload_n 1, 1) := by decide +kernel
theorem dX4_freeBars_39 : decode cX4_freeBars 39 = .ok (.lreturn, 1) := by decide +kernel
theorem dX4_freePairs_0 : decode cX4_freePairs 0 = .ok (.lconst 0, 1) := by decide +kernel
theorem dX4_freePairs_1 : decode cX4_freePairs 1 = .ok (.lstore_n 1, 1) := by decide +kernel
theorem dX4_freePairs_2 : decode cX4_freePairs 2 = .ok (.iconst 0, 1) := by decide +kernel
theorem dX4_freePairs_3 : decode cX4_freePairs 3 = .ok (.istore_n 3, 1) := by decide +kernel
theorem dX4_freePairs_4 : decode cX4_freePairs 4 = .ok (.iload_n 3, 1) := by decide +kernel
theorem dX4_freePairs_5 : decode cX4_freePairs 5 = .ok (.aload_n 0, 1) := by decide +kernel
theorem dX4_freePairs_6 : decode cX4_freePairs 6 = .ok (.getfield 35, 3) := by decide +kernel
theorem dX4_freePairs_9 : decode cX4_freePairs 9 = .ok (.if_icmp .ge 82, 3) := by decide +kernel
theorem dX4_freePairs_12 : decode cX4_freePairs 12 = .ok (.iconst 0, 1) := by decide +kernel
theorem dX4_freePairs_13 : decode cX4_freePairs 13 = .ok (.istore 4, 2) := by decide +kernel
theorem dX4_freePairs_15 : decode cX4_freePairs 15 = .ok (.iload 4, 2) := by decide +kernel
theorem dX4_freePairs_17 : decode cX4_freePairs 17 = .ok (.iload_n 3, 1) := by decide +kernel
theorem dX4_freePairs_18 : decode cX4_freePairs 18 = .ok (.if_icmp .ge 67, 3) := by decide +kernel
theorem dX4_freePairs_21 : decode cX4_freePairs 21 = .ok (.aload_n 0, 1) := by decide +kernel
theorem dX4_freePairs_22 : decode cX4_freePairs 22 = .ok (.getfield 15, 3) := by decide +kernel
theorem dX4_freePairs_25 : decode cX4_freePairs 25 = .ok (.iload 4, 2) := by decide +kernel
theorem dX4_freePairs_27 : decode cX4_freePairs 27 = .ok (.laload, 1) := by decide +kernel
theorem dX4_freePairs_28 : decode cX4_freePairs 28 = .ok (.aload_n 0, 1) := by decide +kernel
theorem dX4_freePairs_29 : decode cX4_freePairs 29 = .ok (.getfield 15, 3) := by decide +kernel
theorem dX4_freePairs_32 : decode cX4_freePairs 32 = .ok (.bipush 9, 2) := by decide +kernel
theorem dX4_freePairs_34 : decode cX4_freePairs 34 = .ok (.iload_n 3, 1) := by decide +kernel
theorem dX4_freePairs_35 : decode cX4_freePairs 35 = .ok (.iadd, 1) := by decide +kernel
theorem dX4_freePairs_36 : decode cX4_freePairs 36 = .ok (.laload, 1) := by decide +kernel
theorem dX4_freePairs_37 : decode cX4_freePairs 37 = .ok (.lmul, 1) := by decide +kernel
theorem dX4_freePairs_38 : decode cX4_freePairs 38 = .ok (.lstore 5, 2) := by decide +kernel
theorem dX4_freePairs_40 : decode cX4_freePairs 40 = .ok (.aload_n 0, 1) := by decide +kernel
theorem dX4_freePairs_41 : decode cX4_freePairs 41 = .ok (.getfield 15, 3) := by decide +kernel
theorem dX4_freePairs_44 : decode cX4_freePairs 44 = .ok (.iload_n 3, 1) := by decide +kernel
theorem dX4_freePairs_45 : decode cX4_freePairs 45 = .ok (.laload, 1) := by decide +kernel
theorem dX4_freePairs_46 : decode cX4_freePairs 46 = .ok (.aload_n 0, 1) := by decide +kernel
theorem dX4_freePairs_47 : decode cX4_freePairs 47 = .ok (.getfield 15, 3) := by decide +kernel
theorem dX4_freePairs_50 : decode cX4_freePairs 50 = .ok (.bipush 9, 2) := by decide +kernel
theorem dX4_freePairs_52 : decode cX4_freePairs 52 = .ok (.iload 4, 2) := by decide +kernel
theorem dX4_freePairs_54 : decode cX4_freePairs 54 = .ok (.iadd, 1) := by decide +kernel
theorem dX4_freePairs_55 : decode cX4_freePairs 55 = .ok (.laload, 1) := by decide +kernel
theorem dX4_freePairs_56 : decode cX4_freePairs 56 = .ok (.lmul, 1) := by decide +kernel
theorem dX4_freePairs_57 : decode cX4_freePairs 57 = .ok (.lstore 7, 2) := by decide +kernel
theorem dX4_freePairs_59 : decode cX4_freePairs 59 = .ok (.lload_n 1, 1) := by decide +kernel
theorem dX4_freePairs_60 : decode cX4_freePairs 60 = .ok (.lload 5, 2) := by decide +kernel
theorem dX4_freePairs_62 : decode cX4_freePairs 62 = .ok (.lload 7, 2) := by decide +kernel
theorem dX4_freePairs_64 : decode cX4_freePairs 64 = .ok (.lcmp, 1) := by decide +kernel
theorem dX4_freePairs_65 : decode cX4_freePairs 65 = .ok (.ifCond .eq 7, 3) := by decide +kernel
theorem dX4_freePairs_68 : decode cX4_freePairs 68 = .ok (.iconst 1, 1) := by decide +kernel
theorem dX4_freePairs_69 : decode cX4_freePairs 69 = .ok (.goto 4, 3) := by decide +kernel
theorem dX4_freePairs_72 : decode cX4_freePairs 72 = .ok (.iconst 0, 1) := by decide +kernel
theorem dX4_freePairs_73 : decode cX4_freePairs 73 = .ok (.invokestatic 66, 3) := by decide +kernel
theorem dX4_freePairs_76 : decode cX4_freePairs 76 = .ok (.i2l, 1) := by decide +kernel
theorem dX4_freePairs_77 : decode cX4_freePairs 77 = .ok (.ladd, 1) := by decide +kernel
theorem dX4_freePairs_78 : decode cX4_freePairs 78 = .ok (.lstore_n 1, 1) := by decide +kernel
theorem dX4_freePairs_79 : decode cX4_freePairs 79 = .ok (.iinc 4 1, 3) := by decide +kernel
theorem dX4_freePairs_82 : decode cX4_freePairs 82 = .ok (.goto (-67), 3) := by decide +kernel
theorem dX4_freePairs_85 : decode cX4_freePairs 85 = .ok (.iinc 3 1, 3) := by decide +kernel
theorem dX4_freePairs_88 : decode cX4_freePairs 88 = .ok (.goto (-84), 3) := by decide +kernel
theorem dX4_freePairs_91 : decode cX4_freePairs 91 = .ok (.lload_n 1, 1) := by decide +kernel
theorem dX4_freePairs_92 : decode cX4_freePairs 92 = .ok (.lreturn, 1) := by decide +kernel
theorem dX4_signOf_0 : decode cX4_signOf 0 = .ok (.aload_n 0, 1) := by decide +kernel
theorem dX4_signOf_1 : decode cX4_signOf 1 = .ok (.getfield 19, 3) := by decide +kernel
theorem dX4_signOf_4 : decode cX4_signOf 4 = .ok (.iload_n 1, 1) := by decide +kernel
theorem dX4_signOf_5 : decode cX4_signOf 5 = .ok (.laload, 1) := by decide +kernel
theorem dX4_signOf_6 : decode cX4_signOf 6 = .ok (.lconst 0, 1) := by decide +kernel
theorem dX4_signOf_7 : decode cX4_signOf 7 = .ok (.lcmp, 1) := by decide +kernel
theorem dX4_signOf_8 : decode cX4_signOf 8 = .ok (.ifCond .ne 5, 3) := by decide +kernel
theorem dX4_signOf_11 : decode cX4_signOf 11 = .ok (.iconst 0, 1) := by decide +kernel
theorem dX4_signOf_12 : decode cX4_signOf 12 = .ok (.ireturn, 1) := by decide +kernel
theorem dX4_signOf_13 : decode cX4_signOf 13 = .ok (.aload_n 0, 1) := by decide +kernel
theorem dX4_signOf_14 : decode cX4_signOf 14 = .ok (.getfield 19, 3) := by decide +kernel
theorem dX4_signOf_17 : decode cX4_signOf 17 = .ok (.iload_n 1, 1) := by decide +kernel
theorem dX4_signOf_18 : decode cX4_signOf 18 = .ok (.laload, 1) := by decide +kernel
theorem dX4_signOf_19 : decode cX4_signOf 19 = .ok (.lconst 0, 1) := by decide +kernel
theorem dX4_signOf_20 : decode cX4_signOf 20 = .ok (.lcmp, 1) := by decide +kernel
theorem dX4_signOf_21 : decode cX4_signOf 21 = .ok (.ifCond .ge 7, 3) := by decide +kernel
theorem dX4_signOf_24 : decode cX4_signOf 24 = .ok (.iconst 1, 1) := by decide +kernel
theorem dX4_signOf_25 : decode cX4_signOf 25 = .ok (.goto 4, 3) := by decide +kernel
theorem dX4_signOf_28 : decode cX4_signOf 28 = .ok (.iconst 0, 1) := by decide +kernel
theorem dX4_signOf_29 : decode cX4_signOf 29 = .ok (.aload_n 0, 1) := by decide +kernel
theorem dX4_signOf_30 : decode cX4_signOf 30 = .ok (.getfield 9, 3) := by decide +kernel
theorem dX4_signOf_33 : decode cX4_signOf 33 = .ok (.lconst 0, 1) := by decide +kernel
theorem dX4_signOf_34 : decode cX4_signOf 34 = .ok (.lcmp, 1) := by decide +kernel
theorem dX4_signOf_35 : decode cX4_signOf 35 = .ok (.ifCond .ge 7, 3) := by decide +kernel
theorem dX4_signOf_38 : decode cX4_signOf 38 = .ok (.iconst 1, 1) := by decide +kernel
theorem dX4_signOf_39 : decode cX4_signOf 39 = .ok (.goto 4, 3) := by decide +kernel
theorem dX4_signOf_42 : decode cX4_signOf 42 = .ok (.iconst 0, 1) := by decide +kernel
theorem dX4_signOf_43 : decode cX4_signOf 43 = .ok (.if_icmp .ne 7, 3) := by decide +kernel
theorem dX4_signOf_46 : decode cX4_signOf 46 = .ok (.iconst 1, 1) := by decide +kernel
theorem dX4_signOf_47 : decode cX4_signOf 47 = .ok (.goto 4, 3) := by decide +kernel
theorem dX4_signOf_50 : decode cX4_signOf 50 = .ok (.iconst (-1), 1) := by decide +kernel
theorem dX4_signOf_51 : decode cX4_signOf 51 = .ok (.ireturn, 1) := by decide +kernel
theorem dX4_isMultiple_0 : decode cX4_isMultiple 0 = .ok (.iconst 0, 1) := by decide +kernel
theorem dX4_isMultiple_1 : decode cX4_isMultiple 1 = .ok (.istore_n 3, 1) := by decide +kernel
theorem dX4_isMultiple_2 : decode cX4_isMultiple 2 = .ok (.iconst 0, 1) := by decide +kernel
theorem dX4_isMultiple_3 : decode cX4_isMultiple 3 = .ok (.istore 4, 2) := by decide +kernel
theorem dX4_isMultiple_5 : decode cX4_isMultiple 5 = .ok (.iload 4, 2) := by decide +kernel
theorem dX4_isMultiple_7 : decode cX4_isMultiple 7 = .ok (.aload_n 0, 1) := by decide +kernel
theorem dX4_isMultiple_8 : decode cX4_isMultiple 8 = .ok (.getfield 35, 3) := by decide +kernel
theorem dX4_isMultiple_11 : decode cX4_isMultiple 11 = .ok (.if_icmp .ge 24, 3) := by decide +kernel
theorem dX4_isMultiple_14 : decode cX4_isMultiple 14 = .ok (.aload_n 0, 1) := by decide +kernel
theorem dX4_isMultiple_15 : decode cX4_isMultiple 15 = .ok (.getfield 19, 3) := by decide +kernel
theorem dX4_isMultiple_18 : decode cX4_isMultiple 18 = .ok (.iload 4, 2) := by decide +kernel
theorem dX4_isMultiple_20 : decode cX4_isMultiple 20 = .ok (.laload, 1) := by decide +kernel
theorem dX4_isMultiple_21 : decode cX4_isMultiple 21 = .ok (.lconst 0, 1) := by decide +kernel
theorem dX4_isMultiple_22 : decode cX4_isMultiple 22 = .ok (.lcmp, 1) := by decide +kernel
theorem dX4_isMultiple_23 : decode cX4_isMultiple 23 = .ok (.ifCond .eq 6, 3) := by decide +kernel
theorem dX4_isMultiple_26 : decode cX4_isMultiple 26 = .ok (.iload 4, 2) := by decide +kernel
theorem dX4_isMultiple_28 : decode cX4_isMultiple 28 = .ok (.istore_n 3, 1) := by decide +kernel
theorem dX4_isMultiple_29 : decode cX4_isMultiple 29 = .ok (.iinc 4 1, 3) := by decide +kernel
theorem dX4_isMultiple_32 : decode cX4_isMultiple 32 = .ok (.goto (-27), 3) := by decide +kernel
theorem dX4_isMultiple_35 : decode cX4_isMultiple 35 = .ok (.iconst 0, 1) := by decide +kernel
theorem dX4_isMultiple_36 : decode cX4_isMultiple 36 = .ok (.istore 4, 2) := by decide +kernel
theorem dX4_isMultiple_38 : decode cX4_isMultiple 38 = .ok (.iload 4, 2) := by decide +kernel
theorem dX4_isMultiple_40 : decode cX4_isMultiple 40 = .ok (.aload_n 0, 1) := by decide +kernel
theorem dX4_isMultiple_41 : decode cX4_isMultiple 41 = .ok (.getfield 35, 3) := by decide +kernel
theorem dX4_isMultiple_44 : decode cX4_isMultiple 44 = .ok (.if_icmp .ge 66, 3) := by decide +kernel
theorem dX4_isMultiple_47 : decode cX4_isMultiple 47 = .ok (.aload_n 1, 1) := by decide +kernel
theorem dX4_isMultiple_48 : decode cX4_isMultiple 48 = .ok (.iload_n 2, 1) := by decide +kernel
theorem dX4_isMultiple_49 : decode cX4_isMultiple 49 = .ok (.iload 4, 2) := by decide +kernel
theorem dX4_isMultiple_51 : decode cX4_isMultiple 51 = .ok (.iadd, 1) := by decide +kernel
theorem dX4_isMultiple_52 : decode cX4_isMultiple 52 = .ok (.laload, 1) := by decide +kernel
theorem dX4_isMultiple_53 : decode cX4_isMultiple 53 = .ok (.aload_n 0, 1) := by decide +kernel
theorem dX4_isMultiple_54 : decode cX4_isMultiple 54 = .ok (.getfield 19, 3) := by decide +kernel
theorem dX4_isMultiple_57 : decode cX4_isMultiple 57 = .ok (.iload_n 3, 1) := by decide +kernel
theorem dX4_isMultiple_58 : decode cX4_isMultiple 58 = .ok (.laload, 1) := by decide +kernel
theorem dX4_isMultiple_59 : decode cX4_isMultiple 59 = .ok (.lmul, 1) := by decide +kernel
theorem dX4_isMultiple_60 : decode cX4_isMultiple 60 = .ok (.aload_n 1, 1) := by decide +kernel
theorem dX4_isMultiple_61 : decode cX4_isMultiple 61 = .ok (.iload_n 2, 1) := by decide +kernel
theorem dX4_isMultiple_62 : decode cX4_isMultiple 62 = .ok (.iload_n 3, 1) := by decide +kernel
theorem dX4_isMultiple_63 : decode cX4_isMultiple 63 = .ok (.iadd, 1) := by decide +kernel
theorem dX4_isMultiple_64 : decode cX4_isMultiple 64 = .ok (.laload, 1) := by decide +kernel
theorem dX4_isMultiple_65 : decode cX4_isMultiple 65 = .ok (.aload_n 0, 1) := by decide +kernel
theorem dX4_isMultiple_66 : decode cX4_isMultiple 66 = .ok (.getfield 19, 3) := by decide +kernel
theorem dX4_isMultiple_69 : decode cX4_isMultiple 69 = .ok (.iload 4, 2) := by decide +kernel
theorem dX4_isMultiple_71 : decode cX4_isMultiple 71 = .ok (.laload, 1) := by decide +kernel
theorem dX4_isMultiple_72 : decode cX4_isMultiple 72 = .ok (.lmul, 1) := by decide +kernel
theorem dX4_isMultiple_73 : decode cX4_isMultiple 73 = .ok (.lcmp, 1) := by decide +kernel
theorem dX4_isMultiple_74 : decode cX4_isMultiple 74 = .ok (.ifCond .eq 5, 3) := by decide +kernel
theorem dX4_isMultiple_77 : decode cX4_isMultiple 77 = .ok (.iconst 0, 1) := by decide +kernel
theorem dX4_isMultiple_78 : decode cX4_isMultiple 78 = .ok (.ireturn, 1) := by decide +kernel
theorem dX4_isMultiple_79 : decode cX4_isMultiple 79 = .ok (.aload_n 0, 1) := by decide +kernel
theorem dX4_isMultiple_80 : decode cX4_isMultiple 80 = .ok (.getfield 19, 3) := by decide +kernel
theorem dX4_isMultiple_83 : decode cX4_isMultiple 83 = .ok (.iload 4, 2) := by decide +kernel
theorem dX4_isMultiple_85 : decode cX4_isMultiple 85 = .ok (.laload, 1) := by decide +kernel
theorem dX4_isMultiple_86 : decode cX4_isMultiple 86 = .ok (.lconst 0, 1) := by decide +kernel
theorem dX4_isMultiple_87 : decode cX4_isMultiple 87 = .ok (.lcmp, 1) := by decide +kernel
theorem dX4_isMultiple_88 : decode cX4_isMultiple 88 = .ok (.ifCond .ne 16, 3) := by decide +kernel
theorem dX4_isMultiple_91 : decode cX4_isMultiple 91 = .ok (.aload_n 1, 1) := by decide +kernel
theorem dX4_isMultiple_92 : decode cX4_isMultiple 92 = .ok (.iload_n 2, 1) := by decide +kernel
theorem dX4_isMultiple_93 : decode cX4_isMultiple 93 = .ok (.iload 4, 2) := by decide +kernel
theorem dX4_isMultiple_95 : decode cX4_isMultiple 95 = .ok (.iadd, 1) := by decide +kernel
theorem dX4_isMultiple_96 : decode cX4_isMultiple 96 = .ok (.laload, 1) := by decide +kernel
theorem dX4_isMultiple_97 : decode cX4_isMultiple 97 = .ok (.lconst 0, 1) := by decide +kernel
theorem dX4_isMultiple_98 : decode cX4_isMultiple 98 = .ok (.lcmp, 1) := by decide +kernel
theorem dX4_isMultiple_99 : decode cX4_isMultiple 99 = .ok (.ifCond .eq 5, 3) := by decide +kernel
theorem dX4_isMultiple_102 : decode cX4_isMultiple 102 = .ok (.iconst 0, 1) := by decide +kernel
theorem dX4_isMultiple_103 : decode cX4_isMultiple 103 = .ok (.ireturn, 1) := by decide +kernel
theorem dX4_isMultiple_104 : decode cX4_isMultiple 104 = .ok (.iinc 4 1, 3) := by decide +kernel
theorem dX4_isMultiple_107 : decode cX4_isMultiple 107 = .ok (.goto (-69), 3) := by decide +kernel
theorem dX4_isMultiple_110 : decode cX4_isMultiple 110 = .ok (.iconst 1, 1) := by decide +kernel
theorem dX4_isMultiple_111 : decode cX4_isMultiple 111 = .ok (.ireturn, 1) := by decide +kernel
theorem dX4_fillGrid_0 : decode cX4_fillGrid 0 = .ok (.aload_n 0, 1) := by decide +kernel
theorem dX4_fillGrid_1 : decode cX4_fillGrid 1 = .ok (.getfield 22, 3) := by decide +kernel
theorem dX4_fillGrid_4 : decode cX4_fillGrid 4 = .ok (.lconst 0, 1) := by decide +kernel
theorem dX4_fillGrid_5 : decode cX4_fillGrid 5 = .ok (.invokestatic 70, 3) := by decide +kernel
theorem dX4_fillGrid_8 : decode cX4_fillGrid 8 = .ok (.iconst 0, 1) := by decide +kernel
theorem dX4_fillGrid_9 : decode cX4_fillGrid 9 = .ok (.istore_n 2, 1) := by decide +kernel
theorem dX4_fillGrid_10 : decode cX4_fillGrid 10 = .ok (.iload_n 2, 1) := by decide +kernel
theorem dX4_fillGrid_11 : decode cX4_fillGrid 11 = .ok (.iconst 2, 1) := by decide +kernel
theorem dX4_fillGrid_12 : decode cX4_fillGrid 12 = .ok (.aload_n 0, 1) := by decide +kernel
theorem dX4_fillGrid_13 : decode cX4_fillGrid 13 = .ok (.getfield 35, 3) := by decide +kernel
theorem dX4_fillGrid_16 : decode cX4_fillGrid 16 = .ok (.imul, 1) := by decide +kernel
theorem dX4_fillGrid_17 : decode cX4_fillGrid 17 = .ok (.if_icmp .ge 57, 3) := by decide +kernel
theorem dX4_fillGrid_20 : decode cX4_fillGrid 20 = .ok (.iconst 2, 1) := by decide +kernel
theorem dX4_fillGrid_21 : decode cX4_fillGrid 21 = .ok (.aload_n 1, 1) := by decide +kernel
theorem dX4_fillGrid_22 : decode cX4_fillGrid 22 = .ok (.iload_n 2, 1) := by decide +kernel
theorem dX4_fillGrid_23 : decode cX4_fillGrid 23 = .ok (.invokevirtual 76, 3) := by decide +kernel
theorem dX4_fillGrid_26 : decode cX4_fillGrid 26 = .ok (.imul, 1) := by decide +kernel
theorem dX4_fillGrid_27 : decode cX4_fillGrid 27 = .ok (.istore_n 3, 1) := by decide +kernel
theorem dX4_fillGrid_28 : decode cX4_fillGrid 28 = .ok (.aload_n 0, 1) := by decide +kernel
theorem dX4_fillGrid_29 : decode cX4_fillGrid 29 = .ok (.getfield 22, 3) := by decide +kernel
theorem dX4_fillGrid_32 : decode cX4_fillGrid 32 = .ok (.iload_n 3, 1) := by decide +kernel
theorem dX4_fillGrid_33 : decode cX4_fillGrid 33 = .ok (.bipush 9, 2) := by decide +kernel
theorem dX4_fillGrid_35 : decode cX4_fillGrid 35 = .ok (.imul, 1) := by decide +kernel
theorem dX4_fillGrid_36 : decode cX4_fillGrid 36 = .ok (.iload_n 2, 1) := by decide +kernel
theorem dX4_fillGrid_37 : decode cX4_fillGrid 37 = .ok (.iconst 2, 1) := by decide +kernel
theorem dX4_fillGrid_38 : decode cX4_fillGrid 38 = .ok (.idiv, 1) := by decide +kernel
theorem dX4_fillGrid_39 : decode cX4_fillGrid 39 = .ok (.iadd, 1) := by decide +kernel
theorem dX4_fillGrid_40 : decode cX4_fillGrid 40 = .ok (.aload_n 1, 1) := by decide +kernel
theorem dX4_fillGrid_41 : decode cX4_fillGrid 41 = .ok (.iload_n 2, 1) := by decide +kernel
theorem dX4_fillGrid_42 : decode cX4_fillGrid 42 = .ok (.invokevirtual 80, 3) := by decide +kernel
theorem dX4_fillGrid_45 : decode cX4_fillGrid 45 = .ok (.i2l, 1) := by decide +kernel
theorem dX4_fillGrid_46 : decode cX4_fillGrid 46 = .ok (.lastore, 1) := by decide +kernel
theorem dX4_fillGrid_47 : decode cX4_fillGrid 47 = .ok (.aload_n 0, 1) := by decide +kernel
theorem dX4_fillGrid_48 : decode cX4_fillGrid 48 = .ok (.getfield 22, 3) := by decide +kernel
theorem dX4_fillGrid_51 : decode cX4_fillGrid 51 = .ok (.iload_n 3, 1) := by decide +kernel
theorem dX4_fillGrid_52 : decode cX4_fillGrid 52 = .ok (.iconst 1, 1) := by decide +kernel
theorem dX4_fillGrid_53 : decode cX4_fillGrid 53 = .ok (.iadd, 1) := by decide +kernel
theorem dX4_fillGrid_54 : decode cX4_fillGrid 54 = .ok (.bipush 9, 2) := by decide +kernel
theorem dX4_fillGrid_56 : decode cX4_fillGrid 56 = .ok (.imul, 1) := by decide +kernel
theorem dX4_fillGrid_57 : decode cX4_fillGrid 57 = .ok (.iload_n 2, 1) := by decide +kernel
theorem dX4_fillGrid_58 : decode cX4_fillGrid 58 = .ok (.iconst 2, 1) := by decide +kernel
theorem dX4_fillGrid_59 : decode cX4_fillGrid 59 = .ok (.idiv, 1) := by decide +kernel
theorem dX4_fillGrid_60 : decode cX4_fillGrid 60 = .ok (.iadd, 1) := by decide +kernel
theorem dX4_fillGrid_61 : decode cX4_fillGrid 61 = .ok (.aload_n 1, 1) := by decide +kernel
theorem dX4_fillGrid_62 : decode cX4_fillGrid 62 = .ok (.iload_n 2, 1) := by decide +kernel
theorem dX4_fillGrid_63 : decode cX4_fillGrid 63 = .ok (.invokevirtual 83, 3) := by decide +kernel
theorem dX4_fillGrid_66 : decode cX4_fillGrid 66 = .ok (.i2l, 1) := by decide +kernel
theorem dX4_fillGrid_67 : decode cX4_fillGrid 67 = .ok (.lastore, 1) := by decide +kernel
theorem dX4_fillGrid_68 : decode cX4_fillGrid 68 = .ok (.iinc 2 1, 3) := by decide +kernel
theorem dX4_fillGrid_71 : decode cX4_fillGrid 71 = .ok (.goto (-61), 3) := by decide +kernel
theorem dX4_fillGrid_74 : decode cX4_fillGrid 74 = .ok (.return_, 1) := by decide +kernel
theorem dX4_reduce_0 : decode cX4_reduce 0 = .ok (.iconst 0, 1) := by decide +kernel
theorem dX4_reduce_1 : decode cX4_reduce 1 = .ok (.istore_n 1, 1) := by decide +kernel
theorem dX4_reduce_2 : decode cX4_reduce 2 = .ok (.aload_n 0, 1) := by decide +kernel
theorem dX4_reduce_3 : decode cX4_reduce 3 = .ok (.lconst 1, 1) := by decide +kernel
theorem dX4_reduce_4 : decode cX4_reduce 4 = .ok (.putfield 9, 3) := by decide +kernel
theorem dX4_reduce_7 : decode cX4_reduce 7 = .ok (.aload_n 0, 1) := by decide +kernel
theorem dX4_reduce_8 : decode cX4_reduce 8 = .ok (.getfield 35, 3) := by decide +kernel
theorem dX4_reduce_11 : decode cX4_reduce 11 = .ok (.iconst 1, 1) := by decide +kernel
theorem dX4_reduce_12 : decode cX4_reduce 12 = .ok (.isub, 1) := by decide +kernel
theorem dX4_reduce_13 : decode cX4_reduce 13 = .ok (.istore_n 2, 1) := by decide +kernel
theorem dX4_reduce_14 : decode cX4_reduce 14 = .ok (.iload_n 2, 1) := by decide +kernel
theorem dX4_reduce_15 : decode cX4_reduce 15 = .ok (.ifCond .lt 64, 3) := by decide +kernel
theorem dX4_reduce_18 : decode cX4_reduce 18 = .ok (.aload_n 0, 1) := by decide +kernel
theorem dX4_reduce_19 : decode cX4_reduce 19 = .ok (.iload_n 2, 1) := by decide +kernel
theorem dX4_reduce_20 : decode cX4_reduce 20 = .ok (.iload_n 1, 1) := by decide +kernel
theorem dX4_reduce_21 : decode cX4_reduce 21 = .ok (.invokevirtual 86, 3) := by decide +kernel
theorem dX4_reduce_24 : decode cX4_reduce 24 = .ok (.istore_n 3, 1) := by decide +kernel
theorem dX4_reduce_25 : decode cX4_reduce 25 = .ok (.aload_n 0, 1) := by decide +kernel
theorem dX4_reduce_26 : decode cX4_reduce 26 = .ok (.getfield 25, 3) := by decide +kernel
theorem dX4_reduce_29 : decode cX4_reduce 29 = .ok (.iload_n 2, 1) := by decide +kernel
theorem dX4_reduce_30 : decode cX4_reduce 30 = .ok (.iconst (-1), 1) := by decide +kernel
theorem dX4_reduce_31 : decode cX4_reduce 31 = .ok (.iastore, 1) := by decide +kernel
theorem dX4_reduce_32 : decode cX4_reduce 32 = .ok (.iload_n 3, 1) := by decide +kernel
theorem dX4_reduce_33 : decode cX4_reduce 33 = .ok (.ifCond .lt 40, 3) := by decide +kernel
theorem dX4_reduce_36 : decode cX4_reduce 36 = .ok (.aload_n 0, 1) := by decide +kernel
theorem dX4_reduce_37 : decode cX4_reduce 37 = .ok (.iload_n 3, 1) := by decide +kernel
theorem dX4_reduce_38 : decode cX4_reduce 38 = .ok (.iload_n 1, 1) := by decide +kernel
theorem dX4_reduce_39 : decode cX4_reduce 39 = .ok (.invokevirtual 90, 3) := by decide +kernel
theorem dX4_reduce_42 : decode cX4_reduce 42 = .ok (.aload_n 0, 1) := by decide +kernel
theorem dX4_reduce_43 : decode cX4_reduce 43 = .ok (.iload_n 2, 1) := by decide +kernel
theorem dX4_reduce_44 : decode cX4_reduce 44 = .ok (.iload_n 1, 1) := by decide +kernel
theorem dX4_reduce_45 : decode cX4_reduce 45 = .ok (.invokevirtual 94, 3) := by decide +kernel
theorem dX4_reduce_48 : decode cX4_reduce 48 = .ok (.aload_n 0, 1) := by decide +kernel
theorem dX4_reduce_49 : decode cX4_reduce 49 = .ok (.aload_n 0, 1) := by decide +kernel
theorem dX4_reduce_50 : decode cX4_reduce 50 = .ok (.getfield 22, 3) := by decide +kernel
theorem dX4_reduce_53 : decode cX4_reduce 53 = .ok (.iload_n 1, 1) := by decide +kernel
theorem dX4_reduce_54 : decode cX4_reduce 54 = .ok (.bipush 9, 2) := by decide +kernel
theorem dX4_reduce_56 : decode cX4_reduce 56 = .ok (.imul, 1) := by decide +kernel
theorem dX4_reduce_57 : decode cX4_reduce 57 = .ok (.iload_n 2, 1) := by decide +kernel
theorem dX4_reduce_58 : decode cX4_reduce 58 = .ok (.iadd, 1) := by decide +kernel
theorem dX4_reduce_59 : decode cX4_reduce 59 = .ok (.laload, 1) := by decide +kernel
theorem dX4_reduce_60 : decode cX4_reduce 60 = .ok (.putfield 9, 3) := by decide +kernel
theorem dX4_reduce_63 : decode cX4_reduce 63 = .ok (.aload_n 0, 1) := by decide +kernel
theorem dX4_reduce_64 : decode cX4_reduce 64 = .ok (.getfield 25, 3) := by decide +kernel
theorem dX4_reduce_67 : decode cX4_reduce 67 = .ok (.iload_n 2, 1) := by decide +kernel
theorem dX4_reduce_68 : decode cX4_reduce 68 = .ok (.iload_n 1, 1) := by decide +kernel
theorem dX4_reduce_69 : decode cX4_reduce 69 = .ok (.iastore, 1) := by decide +kernel
theorem dX4_reduce_70 : decode cX4_reduce 70 = .ok (.iinc 1 1, 3) := by decide +kernel
theorem dX4_reduce_73 : decode cX4_reduce 73 = .ok (.iinc 2 (-1), 3) := by decide +kernel
theorem dX4_reduce_76 : decode cX4_reduce 76 = .ok (.goto (-62), 3) := by decide +kernel
theorem dX4_reduce_79 : decode cX4_reduce 79 = .ok (.return_, 1) := by decide +kernel
theorem dX4_rowWith_0 : decode cX4_rowWith 0 = .ok (.iload_n 2, 1) := by decide +kernel
theorem dX4_rowWith_1 : decode cX4_rowWith 1 = .ok (.istore_n 3, 1) := by decide +kernel
theorem dX4_rowWith_2 : decode cX4_rowWith 2 = .ok (.iload_n 3, 1) := by decide +kernel
theorem dX4_rowWith_3 : decode cX4_rowWith 3 = .ok (.aload_n 0, 1) := by decide +kernel
theorem dX4_rowWith_4 : decode cX4_rowWith 4 = .ok (.getfield 39, 3) := by decide +kernel
theorem dX4_rowWith_7 : decode cX4_rowWith 7 = .ok (.if_icmp .ge 27, 3) := by decide +kernel
theorem dX4_rowWith_10 : decode cX4_rowWith 10 = .ok (.aload_n 0, 1) := by decide +kernel
theorem dX4_rowWith_11 : decode cX4_rowWith 11 = .ok (.getfield 22, 3) := by decide +kernel
theorem dX4_rowWith_14 : decode cX4_rowWith 14 = .ok (.iload_n 3, 1) := by decide +kernel
theorem dX4_rowWith_15 : decode cX4_rowWith 15 = .ok (.bipush 9, 2) := by decide +kernel
theorem dX4_rowWith_17 : decode cX4_rowWith 17 = .ok (.imul, 1) := by decide +kernel
theorem dX4_rowWith_18 : decode cX4_rowWith 18 = .ok (.iload_n 1, 1) := by decide +kernel
theorem dX4_rowWith_19 : decode cX4_rowWith 19 = .ok (.iadd, 1) := by decide +kernel
theorem dX4_rowWith_20 : decode cX4_rowWith 20 = .ok (.laload, 1) := by decide +kernel
theorem dX4_rowWith_21 : decode cX4_rowWith 21 = .ok (.lconst 0, 1) := by decide +kernel
theorem dX4_rowWith_22 : decode cX4_rowWith 22 = .ok (.lcmp, 1) := by decide +kernel
theorem dX4_rowWith_23 : decode cX4_rowWith 23 = .ok (.ifCond .eq 5, 3) := by decide +kernel
theorem dX4_rowWith_26 : decode cX4_rowWith 26 = .ok (.iload_n 3, 1) := by decide +kernel
theorem dX4_rowWith_27 : decode cX4_rowWith 27 = .ok (.ireturn, 1) := by decide +kernel
theorem dX4_rowWith_28 : decode cX4_rowWith 28 = .ok (.iinc 3 1, 3) := by decide +kernel
theorem dX4_rowWith_31 : decode cX4_rowWith 31 = .ok (.goto (-29), 3) := by decide +kernel
theorem dX4_rowWith_34 : decode cX4_rowWith 34 = .ok (.iconst (-1), 1) := by decide +kernel
theorem dX4_rowWith_35 : decode cX4_rowWith 35 = .ok (.ireturn, 1) := by decide +kernel
theorem dX4_swapRows_0 : decode cX4_swapRows 0 = .ok (.iconst 0, 1) := by decide +kernel
theorem dX4_swapRows_1 : decode cX4_swapRows 1 = .ok (.istore_n 3, 1) := by decide +kernel
theorem dX4_swapRows_2 : decode cX4_swapRows 2 = .ok (.iload_n 3, 1) := by decide +kernel
theorem dX4_swapRows_3 : decode cX4_swapRows 3 = .ok (.aload_n 0, 1) := by decide +kernel
theorem dX4_swapRows_4 : decode cX4_swapRows 4 = .ok (.getfield 35, 3) := by decide +kernel
theorem dX4_swapRows_7 : decode cX4_swapRows 7 = .ok (.if_icmp .ge 57, 3) := by decide +kernel
theorem dX4_swapRows_10 : decode cX4_swapRows 10 = .ok (.aload_n 0, 1) := by decide +kernel
theorem dX4_swapRows_11 : decode cX4_swapRows 11 = .ok (.getfield 22, 3) := by decide +kernel
theorem dX4_swapRows_14 : decode cX4_swapRows 14 = .ok (.iload_n 1, 1) := by decide +kernel
theorem dX4_swapRows_15 : decode cX4_swapRows 15 = .ok (.bipush 9, 2) := by decide +kernel
theorem dX4_swapRows_17 : decode cX4_swapRows 17 = .ok (.imul, 1) := by decide +kernel
theorem dX4_swapRows_18 : decode cX4_swapRows 18 = .ok (.iload_n 3, 1) := by decide +kernel
theorem dX4_swapRows_19 : decode cX4_swapRows 19 = .ok (.iadd, 1) := by decide +kernel
theorem dX4_swapRows_20 : decode cX4_swapRows 20 = .ok (.laload, 1) := by decide +kernel
theorem dX4_swapRows_21 : decode cX4_swapRows 21 = .ok (.lstore 4, 2) := by decide +kernel
theorem dX4_swapRows_23 : decode cX4_swapRows 23 = .ok (.aload_n 0, 1) := by decide +kernel
theorem dX4_swapRows_24 : decode cX4_swapRows 24 = .ok (.getfield 22, 3) := by decide +kernel
theorem dX4_swapRows_27 : decode cX4_swapRows 27 = .ok (.iload_n 1, 1) := by decide +kernel
theorem dX4_swapRows_28 : decode cX4_swapRows 28 = .ok (.bipush 9, 2) := by decide +kernel
theorem dX4_swapRows_30 : decode cX4_swapRows 30 = .ok (.imul, 1) := by decide +kernel
theorem dX4_swapRows_31 : decode cX4_swapRows 31 = .ok (.iload_n 3, 1) := by decide +kernel
theorem dX4_swapRows_32 : decode cX4_swapRows 32 = .ok (.iadd, 1) := by decide +kernel
theorem dX4_swapRows_33 : decode cX4_swapRows 33 = .ok (.aload_n 0, 1) := by decide +kernel
theorem dX4_swapRows_34 : decode cX4_swapRows 34 = .ok (.getfield 22, 3) := by decide +kernel
theorem dX4_swapRows_37 : decode cX4_swapRows 37 = .ok (.iload_n 2, 1) := by decide +kernel
theorem dX4_swapRows_38 : decode cX4_swapRows 38 = .ok (.bipush 9, 2) := by decide +kernel
theorem dX4_swapRows_40 : decode cX4_swapRows 40 = .ok (.imul, 1) := by decide +kernel
theorem dX4_swapRows_41 : decode cX4_swapRows 41 = .ok (.iload_n 3, 1) := by decide +kernel
theorem dX4_swapRows_42 : decode cX4_swapRows 42 = .ok (.iadd, 1) := by decide +kernel
theorem dX4_swapRows_43 : decode cX4_swapRows 43 = .ok (.laload, 1) := by decide +kernel
theorem dX4_swapRows_44 : decode cX4_swapRows 44 = .ok (.lastore, 1) := by decide +kernel
theorem dX4_swapRows_45 : decode cX4_swapRows 45 = .ok (.aload_n 0, 1) := by decide +kernel
theorem dX4_swapRows_46 : decode cX4_swapRows 46 = .ok (.getfield 22, 3) := by decide +kernel
theorem dX4_swapRows_49 : decode cX4_swapRows 49 = .ok (.iload_n 2, 1) := by decide +kernel
theorem dX4_swapRows_50 : decode cX4_swapRows 50 = .ok (.bipush 9, 2) := by decide +kernel
theorem dX4_swapRows_52 : decode cX4_swapRows 52 = .ok (.imul, 1) := by decide +kernel
theorem dX4_swapRows_53 : decode cX4_swapRows 53 = .ok (.iload_n 3, 1) := by decide +kernel
theorem dX4_swapRows_54 : decode cX4_swapRows 54 = .ok (.iadd, 1) := by decide +kernel
theorem dX4_swapRows_55 : decode cX4_swapRows 55 = .ok (.lload 4, 2) := by decide +kernel
theorem dX4_swapRows_57 : decode cX4_swapRows 57 = .ok (.lastore, 1) := by decide +kernel
theorem dX4_swapRows_58 : decode cX4_swapRows 58 = .ok (.iinc 3 1, 3) := by decide +kernel
theorem dX4_swapRows_61 : decode cX4_swapRows 61 = .ok (.goto (-59), 3) := by decide +kernel
theorem dX4_swapRows_64 : decode cX4_swapRows 64 = .ok (.return_, 1) := by decide +kernel
theorem dX4_clearColumn_0 : decode cX4_clearColumn 0 = .ok (.aload_n 0, 1) := by decide +kernel
theorem dX4_clearColumn_1 : decode cX4_clearColumn 1 = .ok (.getfield 22, 3) := by decide +kernel
theorem dX4_clearColumn_4 : decode cX4_clearColumn 4 = .ok (.iload_n 2, 1) := by decide +kernel
theorem dX4_clearColumn_5 : decode cX4_clearColumn 5 = .ok (.bipush 9, 2) := by decide +kernel
theorem dX4_clearColumn_7 : decode cX4_clearColumn 7 = .ok (.imul, 1) := by decide +kernel
theorem dX4_clearColumn_8 : decode cX4_clearColumn 8 = .ok (.iload_n 1, 1) := by decide +kernel
theorem dX4_clearColumn_9 : decode cX4_clearColumn 9 = .ok (.iadd, 1) := by decide +kernel
theorem dX4_clearColumn_10 : decode cX4_clearColumn 10 = .ok (.laload, 1) := by decide +kernel
theorem dX4_clearColumn_11 : decode cX4_clearColumn 11 = .ok (.lstore_n 3, 1) := by decide +kernel
theorem dX4_clearColumn_12 : decode cX4_clearColumn 12 = .ok (.iconst 0, 1) := by decide +kernel
theorem dX4_clearColumn_13 : decode cX4_clearColumn 13 = .ok (.istore 5, 2) := by decide +kernel
theorem dX4_clearColumn_15 : decode cX4_clearColumn 15 = .ok (.iload 5, 2) := by decide +kernel
theorem dX4_clearColumn_17 : decode cX4_clearColumn 17 = .ok (.aload_n 0, 1) := by decide +kernel
theorem dX4_clearColumn_18 : decode cX4_clearColumn 18 = .ok (.getfield 39, 3) := by decide +kernel
theorem dX4_clearColumn_21 : decode cX4_clearColumn 21 = .ok (.if_icmp .ge 103, 3) := by decide +kernel
theorem dX4_clearColumn_24 : decode cX4_clearColumn 24 = .ok (.aload_n 0, 1) := by decide +kernel
theorem dX4_clearColumn_25 : decode cX4_clearColumn 25 = .ok (.getfield 22, 3) := by decide +kernel
theorem dX4_clearColumn_28 : decode cX4_clearColumn 28 = .ok (.iload 5, 2) := by decide +kernel
theorem dX4_clearColumn_30 : decode cX4_clearColumn 30 = .ok (.bipush 9, 2) := by decide +kernel
theorem dX4_clearColumn_32 : decode cX4_clearColumn 32 = .ok (.imul, 1) := by decide +kernel
theorem dX4_clearColumn_33 : decode cX4_clearColumn 33 = .ok (.iload_n 1, 1) := by decide +kernel
theorem dX4_clearColumn_34 : decode cX4_clearColumn 34 = .ok (.iadd, 1) := by decide +kernel
theorem dX4_clearColumn_35 : decode cX4_clearColumn 35 = .ok (.laload, 1) := by decide +kernel
theorem dX4_clearColumn_36 : decode cX4_clearColumn 36 = .ok (.lstore 6, 2) := by decide +kernel
theorem dX4_clearColumn_38 : decode cX4_clearColumn 38 = .ok (.iconst 0, 1) := by decide +kernel
theorem dX4_clearColumn_39 : decode cX4_clearColumn 39 = .ok (.istore 8, 2) := by decide +kernel
theorem dX4_clearColumn_41 : decode cX4_clearColumn 41 = .ok (.iload 8, 2) := by decide +kernel
theorem dX4_clearColumn_43 : decode cX4_clearColumn 43 = .ok (.aload_n 0, 1) := by decide +kernel
theorem dX4_clearColumn_44 : decode cX4_clearColumn 44 = .ok (.getfield 35, 3) := by decide +kernel
theorem dX4_clearColumn_47 : decode cX4_clearColumn 47 = .ok (.if_icmp .ge 71, 3) := by decide +kernel
theorem dX4_clearColumn_50 : decode cX4_clearColumn 50 = .ok (.iload 5, 2) := by decide +kernel
theorem dX4_clearColumn_52 : decode cX4_clearColumn 52 = .ok (.iload_n 2, 1) := by decide +kernel
theorem dX4_clearColumn_53 : decode cX4_clearColumn 53 = .ok (.if_icmp .eq 65, 3) := by decide +kernel
theorem dX4_clearColumn_56 : decode cX4_clearColumn 56 = .ok (.aload_n 0, 1) := by decide +kernel
theorem dX4_clearColumn_57 : decode cX4_clearColumn 57 = .ok (.getfield 9, 3) := by decide +kernel
theorem dX4_clearColumn_60 : decode cX4_clearColumn 60 = .ok (.lconst 0, 1) := by decide +kernel
theorem dX4_clearColumn_61 : decode cX4_clearColumn 61 = .ok (.lcmp, 1) := by decide +kernel
theorem dX4_clearColumn_62 : decode cX4_clearColumn 62 = .ok (.ifCond .eq 56, 3) := by decide +kernel
theorem dX4_clearColumn_65 : decode cX4_clearColumn 65 = .ok (.iload 5, 2) := by decide +kernel
theorem dX4_clearColumn_67 : decode cX4_clearColumn 67 = .ok (.bipush 9, 2) := by decide +kernel
theorem dX4_clearColumn_69 : decode cX4_clearColumn 69 = .ok (.imul, 1) := by decide +kernel
theorem dX4_clearColumn_70 : decode cX4_clearColumn 70 = .ok (.iload 8, 2) := by decide +kernel
theorem dX4_clearColumn_72 : decode cX4_clearColumn 72 = .ok (.iadd, 1) := by decide +kernel
theorem dX4_clearColumn_73 : decode cX4_clearColumn 73 = .ok (.istore 9, 2) := by decide +kernel
theorem dX4_clearColumn_75 : decode cX4_clearColumn 75 = .ok (.aload_n 0, 1) := by decide +kernel
theorem dX4_clearColumn_76 : decode cX4_clearColumn 76 = .ok (.getfield 22, 3) := by decide +kernel
theorem dX4_clearColumn_79 : decode cX4_clearColumn 79 = .ok (.iload 9, 2) := by decide +kernel
theorem dX4_clearColumn_81 : decode cX4_clearColumn 81 = .ok (.lload_n 3, 1) := by decide +kernel
theorem dX4_clearColumn_82 : decode cX4_clearColumn 82 = .ok (.aload_n 0, 1) := by decide +kernel
theorem dX4_clearColumn_83 : decode cX4_clearColumn 83 = .ok (.getfield 22, 3) := by decide +kernel
theorem dX4_clearColumn_86 : decode cX4_clearColumn 86 = .ok (.iload 9, 2) := by decide +kernel
theorem dX4_clearColumn_88 : decode cX4_clearColumn 88 = .ok (.laload, 1) := by decide +kernel
theorem dX4_clearColumn_89 : decode cX4_clearColumn 89 = .ok (.lmul, 1) := by decide +kernel
theorem dX4_clearColumn_90 : decode cX4_clearColumn 90 = .ok (.lload 6, 2) := by decide +kernel
theorem dX4_clearColumn_92 : decode cX4_clearColumn 92 = .ok (.aload_n 0, 1) := by decide +kernel
theorem dX4_clearColumn_93 : decode cX4_clearColumn 93 = .ok (.getfield 22, 3) := by decide +kernel
theorem dX4_clearColumn_96 : decode cX4_clearColumn 96 = .ok (.iload_n 2, 1) := by decide +kernel
theorem dX4_clearColumn_97 : decode cX4_clearColumn 97 = .ok (.bipush 9, 2) := by decide +kernel
theorem dX4_clearColumn_99 : decode cX4_clearColumn 99 = .ok (.imul, 1) := by decide +kernel
theorem dX4_clearColumn_100 : decode cX4_clearColumn 100 = .ok (.iload 8, 2) := by decide +kernel
theorem dX4_clearColumn_102 : decode cX4_clearColumn 102 = .ok (.iadd, 1) := by decide +kernel
theorem dX4_clearColumn_103 : decode cX4_clearColumn 103 = .ok (.laload, 1) := by decide +kernel
theorem dX4_clearColumn_104 : decode cX4_clearColumn 104 = .ok (.lmul, 1) := by decide +kernel
theorem dX4_clearColumn_105 : decode cX4_clearColumn 105 = .ok (.lsub, 1) := by decide +kernel
theorem dX4_clearColumn_106 : decode cX4_clearColumn 106 = .ok (.aload_n 0, 1) := by decide +kernel
theorem dX4_clearColumn_107 : decode cX4_clearColumn 107 = .ok (.getfield 9, 3) := by decide +kernel
theorem dX4_clearColumn_110 : decode cX4_clearColumn 110 = .ok (.ldiv, 1) := by decide +kernel
theorem dX4_clearColumn_111 : decode cX4_clearColumn 111 = .ok (.lastore, 1) := by decide +kernel
theorem dX4_clearColumn_112 : decode cX4_clearColumn 112 = .ok (.iinc 8 1, 3) := by decide +kernel
theorem dX4_clearColumn_115 : decode cX4_clearColumn 115 = .ok (.goto (-74), 3) := by decide +kernel
theorem dX4_clearColumn_118 : decode cX4_clearColumn 118 = .ok (.iinc 5 1, 3) := by decide +kernel
theorem dX4_clearColumn_121 : decode cX4_clearColumn 121 = .ok (.goto (-106), 3) := by decide +kernel
theorem dX4_clearColumn_124 : decode cX4_clearColumn 124 = .ok (.return_, 1) := by decide +kernel
theorem dX4_listStresses_0 : decode cX4_listStresses 0 = .ok (.aload_n 0, 1) := by decide +kernel
theorem dX4_listStresses_1 : decode cX4_listStresses 1 = .ok (.iconst 0, 1) := by decide +kernel
theorem dX4_listStresses_2 : decode cX4_listStresses 2 = .ok (.putfield 59, 3) := by decide +kernel
theorem dX4_listStresses_5 : decode cX4_listStresses 5 = .ok (.iconst 0, 1) := by decide +kernel
theorem dX4_listStresses_6 : decode cX4_listStresses 6 = .ok (.istore_n 1, 1) := by decide +kernel
theorem dX4_listStresses_7 : decode cX4_listStresses 7 = .ok (.iload_n 1, 1) := by decide +kernel
theorem dX4_listStresses_8 : decode cX4_listStresses 8 = .ok (.aload_n 0, 1) := by decide +kernel
theorem dX4_listStresses_9 : decode cX4_listStresses 9 = .ok (.getfield 35, 3) := by decide +kernel
theorem dX4_listStresses_12 : decode cX4_listStresses 12 = .ok (.if_icmp .ge 63, 3) := by decide +kernel
theorem dX4_listStresses_15 : decode cX4_listStresses 15 = .ok (.aload_n 0, 1) := by decide +kernel
theorem dX4_listStresses_16 : decode cX4_listStresses 16 = .ok (.iload_n 1, 1) := by decide +kernel
theorem dX4_listStresses_17 : decode cX4_listStresses 17 = .ok (.invokevirtual 97, 3) := by decide +kernel
theorem dX4_listStresses_20 : decode cX4_listStresses 20 = .ok (.ifCond .eq 49, 3) := by decide +kernel
theorem dX4_listStresses_23 : decode cX4_listStresses 23 = .ok (.iconst 0, 1) := by decide +kernel
theorem dX4_listStresses_24 : decode cX4_listStresses 24 = .ok (.istore_n 2, 1) := by decide +kernel
theorem dX4_listStresses_25 : decode cX4_listStresses 25 = .ok (.iload_n 2, 1) := by decide +kernel
theorem dX4_listStresses_26 : decode cX4_listStresses 26 = .ok (.aload_n 0, 1) := by decide +kernel
theorem dX4_listStresses_27 : decode cX4_listStresses 27 = .ok (.getfield 35, 3) := by decide +kernel
theorem dX4_listStresses_30 : decode cX4_listStresses 30 = .ok (.if_icmp .ge 29, 3) := by decide +kernel
theorem dX4_listStresses_33 : decode cX4_listStresses 33 = .ok (.aload_n 0, 1) := by decide +kernel
theorem dX4_listStresses_34 : decode cX4_listStresses 34 = .ok (.getfield 15, 3) := by decide +kernel
theorem dX4_listStresses_37 : decode cX4_listStresses 37 = .ok (.aload_n 0, 1) := by decide +kernel
theorem dX4_listStresses_38 : decode cX4_listStresses 38 = .ok (.getfield 59, 3) := by decide +kernel
theorem dX4_listStresses_41 : decode cX4_listStresses 41 = .ok (.bipush 9, 2) := by decide +kernel
theorem dX4_listStresses_43 : decode cX4_listStresses 43 = .ok (.imul, 1) := by decide +kernel
theorem dX4_listStresses_44 : decode cX4_listStresses 44 = .ok (.iload_n 2, 1) := by decide +kernel
theorem dX4_listStresses_45 : decode cX4_listStresses 45 = .ok (.iadd, 1) := by decide +kernel
theorem dX4_listStresses_46 : decode cX4_listStresses 46 = .ok (.aload_n 0, 1) := by decide +kernel
theorem dX4_listStresses_47 : decode cX4_listStresses 47 = .ok (.iload_n 1, 1) := by decide +kernel
theorem dX4_listStresses_48 : decode cX4_listStresses 48 = .ok (.iload_n 2, 1) := by decide +kernel
theorem dX4_listStresses_49 : decode cX4_listStresses 49 = .ok (.invokevirtual 100, 3) := by decide +kernel
theorem dX4_listStresses_52 : decode cX4_listStresses 52 = .ok (.lastore, 1) := by decide +kernel
theorem dX4_listStresses_53 : decode cX4_listStresses 53 = .ok (.iinc 2 1, 3) := by decide +kernel
theorem dX4_listStresses_56 : decode cX4_listStresses 56 = .ok (.goto (-31), 3) := by decide +kernel
theorem dX4_listStresses_59 : decode cX4_listStresses 59 = .ok (.aload_n 0, 1) := by decide +kernel
theorem dX4_listStresses_60 : decode cX4_listStresses 60 = .ok (.dup, 1) := by decide +kernel
theorem dX4_listStresses_61 : decode cX4_listStresses 61 = .ok (.getfield 59, 3) := by decide +kernel
theorem dX4_listStresses_64 : decode cX4_listStresses 64 = .ok (.iconst 1, 1) := by decide +kernel
theorem dX4_listStresses_65 : decode cX4_listStresses 65 = .ok (.iadd, 1) := by decide +kernel
theorem dX4_listStresses_66 : decode cX4_listStresses 66 = .ok (.putfield 59, 3) := by decide +kernel
theorem dX4_listStresses_69 : decode cX4_listStresses 69 = .ok (.iinc 1 1, 3) := by decide +kernel
theorem dX4_listStresses_72 : decode cX4_listStresses 72 = .ok (.goto (-65), 3) := by decide +kernel
theorem dX4_listStresses_75 : decode cX4_listStresses 75 = .ok (.return_, 1) := by decide +kernel
theorem dX4_numberBeside_0 : decode cX4_numberBeside 0 = .ok (.aload_n 0, 1) := by decide +kernel
theorem dX4_numberBeside_1 : decode cX4_numberBeside 1 = .ok (.iload_n 2, 1) := by decide +kernel
theorem dX4_numberBeside_2 : decode cX4_numberBeside 2 = .ok (.invokevirtual 97, 3) := by decide +kernel
theorem dX4_numberBeside_5 : decode cX4_numberBeside 5 = .ok (.ifCond .eq 17, 3) := by decide +kernel
theorem dX4_numberBeside_8 : decode cX4_numberBeside 8 = .ok (.iload_n 2, 1) := by decide +kernel
theorem dX4_numberBeside_9 : decode cX4_numberBeside 9 = .ok (.iload_n 1, 1) := by decide +kernel
theorem dX4_numberBeside_10 : decode cX4_numberBeside 10 = .ok (.if_icmp .ne 10, 3) := by decide +kernel
theorem dX4_numberBeside_13 : decode cX4_numberBeside 13 = .ok (.aload_n 0, 1) := by decide +kernel
theorem dX4_numberBeside_14 : decode cX4_numberBeside 14 = .ok (.getfield 9, 3) := by decide +kernel
theorem dX4_numberBeside_17 : decode cX4_numberBeside 17 = .ok (.goto 4, 3) := by decide +kernel
theorem dX4_numberBeside_20 : decode cX4_numberBeside 20 = .ok (.lconst 0, 1) := by decide +kernel
theorem dX4_numberBeside_21 : decode cX4_numberBeside 21 = .ok (.lreturn, 1) := by decide +kernel
theorem dX4_numberBeside_22 : decode cX4_numberBeside 22 = .ok (.aload_n 0, 1) := by decide +kernel
theorem dX4_numberBeside_23 : decode cX4_numberBeside 23 = .ok (.getfield 22, 3) := by decide +kernel
theorem dX4_numberBeside_26 : decode cX4_numberBeside 26 = .ok (.aload_n 0, 1) := by decide +kernel
theorem dX4_numberBeside_27 : decode cX4_numberBeside 27 = .ok (.getfield 25, 3) := by decide +kernel
theorem dX4_numberBeside_30 : decode cX4_numberBeside 30 = .ok (.iload_n 2, 1) := by decide +kernel
theorem dX4_numberBeside_31 : decode cX4_numberBeside 31 = .ok (.iaload, 1) := by decide +kernel
theorem dX4_numberBeside_32 : decode cX4_numberBeside 32 = .ok (.bipush 9, 2) := by decide +kernel
theorem dX4_numberBeside_34 : decode cX4_numberBeside 34 = .ok (.imul, 1) := by decide +kernel
theorem dX4_numberBeside_35 : decode cX4_numberBeside 35 = .ok (.iload_n 1, 1) := by decide +kernel
theorem dX4_numberBeside_36 : decode cX4_numberBeside 36 = .ok (.iadd, 1) := by decide +kernel
theorem dX4_numberBeside_37 : decode cX4_numberBeside 37 = .ok (.laload, 1) := by decide +kernel
theorem dX4_numberBeside_38 : decode cX4_numberBeside 38 = .ok (.lneg, 1) := by decide +kernel
theorem dX4_numberBeside_39 : decode cX4_numberBeside 39 = .ok (.lreturn, 1) := by decide +kernel
theorem dX4_addUp_0 : decode cX4_addUp 0 = .ok (.iconst 0, 1) := by decide +kernel
theorem dX4_addUp_1 : decode cX4_addUp 1 = .ok (.istore_n 2, 1) := by decide +kernel
theorem dX4_addUp_2 : decode cX4_addUp 2 = .ok (.iload_n 2, 1) := by decide +kernel
theorem dX4_addUp_3 : decode cX4_addUp 3 = .ok (.aload_n 0, 1) := by decide +kernel
theorem dX4_addUp_4 : decode cX4_addUp 4 = .ok (.getfield 35, 3) := by decide +kernel
theorem dX4_addUp_7 : decode cX4_addUp 7 = .ok (.if_icmp .ge 57, 3) := by decide +kernel
theorem dX4_addUp_10 : decode cX4_addUp 10 = .ok (.aload_n 0, 1) := by decide +kernel
theorem dX4_addUp_11 : decode cX4_addUp 11 = .ok (.getfield 19, 3) := by decide +kernel
theorem dX4_addUp_14 : decode cX4_addUp 14 = .ok (.iload_n 2, 1) := by decide +kernel
theorem dX4_addUp_15 : decode cX4_addUp 15 = .ok (.lconst 0, 1) := by decide +kernel
theorem dX4_addUp_16 : decode cX4_addUp 16 = .ok (.lastore, 1) := by decide +kernel
theorem dX4_addUp_17 : decode cX4_addUp 17 = .ok (.iconst 0, 1) := by decide +kernel
theorem dX4_addUp_18 : decode cX4_addUp 18 = .ok (.istore_n 3, 1) := by decide +kernel
theorem dX4_addUp_19 : decode cX4_addUp 19 = .ok (.iload_n 3, 1) := by decide +kernel
theorem dX4_addUp_20 : decode cX4_addUp 20 = .ok (.aload_n 0, 1) := by decide +kernel
theorem dX4_addUp_21 : decode cX4_addUp 21 = .ok (.getfield 59, 3) := by decide +kernel
theorem dX4_addUp_24 : decode cX4_addUp 24 = .ok (.if_icmp .ge 34, 3) := by decide +kernel
theorem dX4_addUp_27 : decode cX4_addUp 27 = .ok (.aload_n 0, 1) := by decide +kernel
theorem dX4_addUp_28 : decode cX4_addUp 28 = .ok (.getfield 19, 3) := by decide +kernel
theorem dX4_addUp_31 : decode cX4_addUp 31 = .ok (.iload_n 2, 1) := by decide +kernel
theorem dX4_addUp_32 : decode cX4_addUp 32 = .ok (.dup2, 1) := by decide +kernel
theorem dX4_addUp_33 : decode cX4_addUp 33 = .ok (.laload, 1) := by decide +kernel
theorem dX4_addUp_34 : decode cX4_addUp 34 = .ok (.aload_n 1, 1) := by decide +kernel
theorem dX4_addUp_35 : decode cX4_addUp 35 = .ok (.iload_n 3, 1) := by decide +kernel
theorem dX4_addUp_36 : decode cX4_addUp 36 = .ok (.iaload, 1) := by decide +kernel
theorem dX4_addUp_37 : decode cX4_addUp 37 = .ok (.i2l, 1) := by decide +kernel
theorem dX4_addUp_38 : decode cX4_addUp 38 = .ok (.aload_n 0, 1) := by decide +kernel
theorem dX4_addUp_39 : decode cX4_addUp 39 = .ok (.getfield 15, 3) := by decide +kernel
theorem dX4_addUp_42 : decode cX4_addUp 42 = .ok (.iload_n 3, 1) := by decide +kernel
theorem dX4_addUp_43 : decode cX4_addUp 43 = .ok (.bipush 9, 2) := by decide +kernel
theorem dX4_addUp_45 : decode cX4_addUp 45 = .ok (.imul, 1) := by decide +kernel
theorem dX4_addUp_46 : decode cX4_addUp 46 = .ok (.iload_n 2, 1) := by decide +kernel
theorem dX4_addUp_47 : decode cX4_addUp 47 = .ok (.iadd, 1) := by decide +kernel
theorem dX4_addUp_48 : decode cX4_addUp 48 = .ok (.laload, 1) := by decide +kernel
theorem dX4_addUp_49 : decode cX4_addUp 49 = .ok (.lmul, 1) := by decide +kernel
theorem dX4_addUp_50 : decode cX4_addUp 50 = .ok (.ladd, 1) := by decide +kernel
theorem dX4_addUp_51 : decode cX4_addUp 51 = .ok (.lastore, 1) := by decide +kernel
theorem dX4_addUp_52 : decode cX4_addUp 52 = .ok (.iinc 3 1, 3) := by decide +kernel
theorem dX4_addUp_55 : decode cX4_addUp 55 = .ok (.goto (-36), 3) := by decide +kernel
theorem dX4_addUp_58 : decode cX4_addUp 58 = .ok (.iinc 2 1, 3) := by decide +kernel
theorem dX4_addUp_61 : decode cX4_addUp 61 = .ok (.goto (-59), 3) := by decide +kernel
theorem dX4_addUp_64 : decode cX4_addUp 64 = .ok (.return_, 1) := by decide +kernel
theorem dX5_init_0 : decode cX5_init 0 = .ok (.aload_n 0, 1) := by decide +kernel
theorem dX5_init_1 : decode cX5_init 1 = .ok (.invokespecial 3, 3) := by decide +kernel
theorem dX5_init_4 : decode cX5_init 4 = .ok (.aload_n 0, 1) := by decide +kernel
theorem dX5_init_5 : decode cX5_init 5 = .ok (.bipush 60, 2) := by decide +kernel
theorem dX5_init_7 : decode cX5_init 7 = .ok (.newarray .char, 2) := by decide +kernel
theorem dX5_init_9 : decode cX5_init 9 = .ok (.putfield 9, 3) := by decide +kernel
theorem dX5_init_12 : decode cX5_init 12 = .ok (.return_, 1) := by decide +kernel
theorem dX5_put_0 : decode cX5_put 0 = .ok (.aload_n 0, 1) := by decide +kernel
theorem dX5_put_1 : decode cX5_put 1 = .ok (.getfield 15, 3) := by decide +kernel
theorem dX5_put_4 : decode cX5_put 4 = .ok (.bipush 60, 2) := by decide +kernel
theorem dX5_put_6 : decode cX5_put 6 = .ok (.if_icmp .lt 5, 3) := by decide +kernel
theorem dX5_put_9 : decode cX5_put 9 = .ok (.iconst 0, 1) := by decide +kernel
theorem dX5_put_10 : decode cX5_put 10 = .ok (.ireturn, 1) := by decide +kernel
theorem dX5_put_11 : decode cX5_put 11 = .ok (.aload_n 0, 1) := by decide +kernel
theorem dX5_put_12 : decode cX5_put 12 = .ok (.getfield 9, 3) := by decide +kernel
theorem dX5_put_15 : decode cX5_put 15 = .ok (.aload_n 0, 1) := by decide +kernel
theorem dX5_put_16 : decode cX5_put 16 = .ok (.getfield 15, 3) := by decide +kernel
theorem dX5_put_19 : decode cX5_put 19 = .ok (.iload_n 1, 1) := by decide +kernel
theorem dX5_put_20 : decode cX5_put 20 = .ok (.i2c, 1) := by decide +kernel
theorem dX5_put_21 : decode cX5_put 21 = .ok (.castore, 1) := by decide +kernel
theorem dX5_put_22 : decode cX5_put 22 = .ok (.aload_n 0, 1) := by decide +kernel
theorem dX5_put_23 : decode cX5_put 23 = .ok (.dup, 1) := by decide +kernel
theorem dX5_put_24 : decode cX5_put 24 = .ok (.getfield 15, 3) := by decide +kernel
theorem dX5_put_27 : decode cX5_put 27 = .ok (.iconst 1, 1) := by decide +kernel
theorem dX5_put_28 : decode cX5_put 28 = .ok (.iadd, 1) := by decide +kernel
theorem dX5_put_29 : decode cX5_put 29 = .ok (.putfield 15, 3) := by decide +kernel
theorem dX5_put_32 : decode cX5_put 32 = .ok (.iconst 1, 1) := by decide +kernel
theorem dX5_put_33 : decode cX5_put 33 = .ok (.ireturn, 1) := by decide +kernel
theorem dX5_tells_0 : decode cX5_tells 0 = .ok (.aload_n 0, 1) := by decide +kernel
theorem dX5_tells_1 : decode cX5_tells 1 = .ok (.iconst 0, 1) := by decide +kernel
theorem dX5_tells_2 : decode cX5_tells 2 = .ok (.putfield 19, 3) := by decide +kernel
theorem dX5_tells_5 : decode cX5_tells 5 = .ok (.aload_n 1, 1) := by decide +kernel
theorem dX5_tells_6 : decode cX5_tells 6 = .ok (.iconst 0, 1) := by decide +kernel
theorem dX5_tells_7 : decode cX5_tells 7 = .ok (.putfield 22, 3) := by decide +kernel
theorem dX5_tells_10 : decode cX5_tells 10 = .ok (.aload_n 1, 1) := by decide +kernel
theorem dX5_tells_11 : decode cX5_tells 11 = .ok (.iconst 0, 1) := by decide +kernel
theorem dX5_tells_12 : decode cX5_tells 12 = .ok (.putfield 27, 3) := by decide +kernel
theorem dX5_tells_15 : decode cX5_tells 15 = .ok (.aload_n 0, 1) := by decide +kernel
theorem dX5_tells_16 : decode cX5_tells 16 = .ok (.aload_n 1, 1) := by decide +kernel
theorem dX5_tells_17 : decode cX5_tells 17 = .ok (.invokevirtual 30, 3) := by decide +kernel
theorem dX5_tells_20 : decode cX5_tells 20 = .ok (.ifCond .ne 5, 3) := by decide +kernel
theorem dX5_tells_23 : decode cX5_tells 23 = .ok (.iconst 0, 1) := by decide +kernel
theorem dX5_tells_24 : decode cX5_tells 24 = .ok (.ireturn, 1) := by decide +kernel
theorem dX5_tells_25 : decode cX5_tells 25 = .ok (.aload_n 0, 1) := by decide +kernel
theorem dX5_tells_26 : decode cX5_tells 26 = .ok (.invokevirtual 34, 3) := by decide +kernel
theorem dX5_tells_29 : decode cX5_tells 29 = .ok (.bipush 59, 2) := by decide +kernel
theorem dX5_tells_31 : decode cX5_tells 31 = .ok (.if_icmp .ne 23, 3) := by decide +kernel
theorem dX5_tells_34 : decode cX5_tells 34 = .ok (.aload_n 0, 1) := by decide +kernel
theorem dX5_tells_35 : decode cX5_tells 35 = .ok (.dup, 1) := by decide +kernel
theorem dX5_tells_36 : decode cX5_tells 36 = .ok (.getfield 19, 3) := by decide +kernel
theorem dX5_tells_39 : decode cX5_tells 39 = .ok (.iconst 1, 1) := by decide +kernel
theorem dX5_tells_40 : decode cX5_tells 40 = .ok (.iadd, 1) := by decide +kernel
theorem dX5_tells_41 : decode cX5_tells 41 = .ok (.putfield 19, 3) := by decide +kernel
theorem dX5_tells_44 : decode cX5_tells 44 = .ok (.aload_n 0, 1) := by decide +kernel
theorem dX5_tells_45 : decode cX5_tells 45 = .ok (.aload_n 1, 1) := by decide +kernel
theorem dX5_tells_46 : decode cX5_tells 46 = .ok (.invokevirtual 38, 3) := by decide +kernel
theorem dX5_tells_49 : decode cX5_tells 49 = .ok (.ifCond .ne 5, 3) := by decide +kernel
theorem dX5_tells_52 : decode cX5_tells 52 = .ok (.iconst 0, 1) := by decide +kernel
theorem dX5_tells_53 : decode cX5_tells 53 = .ok (.ireturn, 1) := by decide +kernel
theorem dX5_tells_54 : decode cX5_tells 54 = .ok (.aload_n 0, 1) := by decide +kernel
theorem dX5_tells_55 : decode cX5_tells 55 = .ok (.invokevirtual 34, 3) := by decide +kernel
theorem dX5_tells_58 : decode cX5_tells 58 = .ok (.ifCond .ne 7, 3) := by decide +kernel
theorem dX5_tells_61 : decode cX5_tells 61 = .ok (.iconst 1, 1) := by decide +kernel
theorem dX5_tells_62 : decode cX5_tells 62 = .ok (.goto 4, 3) := by decide +kernel
theorem dX5_tells_65 : decode cX5_tells 65 = .ok (.iconst 0, 1) := by decide +kernel
theorem dX5_tells_66 : decode cX5_tells 66 = .ok (.ireturn, 1) := by decide +kernel
theorem dX5_tellsJoints_0 : decode cX5_tellsJoints 0 = .ok (.iconst 0, 1) := by decide +kernel
theorem dX5_tellsJoints_1 : decode cX5_tellsJoints 1 = .ok (.istore_n 2, 1) := by decide +kernel
theorem dX5_tellsJoints_2 : decode cX5_tellsJoints 2 = .ok (.iload_n 2, 1) := by decide +kernel
theorem dX5_tellsJoints_3 : decode cX5_tellsJoints 3 = .ok (.bipush 6, 2) := by decide +kernel
theorem dX5_tellsJoints_5 : decode cX5_tellsJoints 5 = .ok (.if_icmp .gt 40, 3) := by decide +kernel
theorem dX5_tellsJoints_8 : decode cX5_tellsJoints 8 = .ok (.aload_n 0, 1) := by decide +kernel
theorem dX5_tellsJoints_9 : decode cX5_tellsJoints 9 = .ok (.aload_n 1, 1) := by decide +kernel
theorem dX5_tellsJoints_10 : decode cX5_tellsJoints 10 = .ok (.invokevirtual 41, 3) := by decide +kernel
theorem dX5_tellsJoints_13 : decode cX5_tellsJoints 13 = .ok (.ifCond .ne 5, 3) := by decide +kernel
theorem dX5_tellsJoints_16 : decode cX5_tellsJoints 16 = .ok (.iconst 0, 1) := by decide +kernel
theorem dX5_tellsJoints_17 : decode cX5_tellsJoints 17 = .ok (.ireturn, 1) := by decide +kernel
theorem dX5_tellsJoints_18 : decode cX5_tellsJoints 18 = .ok (.aload_n 0, 1) := by decide +kernel
theorem dX5_tellsJoints_19 : decode cX5_tellsJoints 19 = .ok (.invokevirtual 34, 3) := by decide +kernel
theorem dX5_tellsJoints_22 : decode cX5_tellsJoints 22 = .ok (.bipush 44, 2) := by decide +kernel
theorem dX5_tellsJoints_24 : decode cX5_tellsJoints 24 = .ok (.if_icmp .eq 5, 3) := by decide +kernel
theorem dX5_tellsJoints_27 : decode cX5_tellsJoints 27 = .ok (.iconst 1, 1) := by decide +kernel
theorem dX5_tellsJoints_28 : decode cX5_tellsJoints 28 = .ok (.ireturn, 1) := by decide +kernel
theorem dX5_tellsJoints_29 : decode cX5_tellsJoints 29 = .ok (.aload_n 0, 1) := by decide +kernel
theorem dX5_tellsJoints_30 : decode cX5_tellsJoints 30 = .ok (.dup, 1) := by decide +kernel
theorem dX5_tellsJoints_31 : decode cX5_tellsJoints 31 = .ok (.getfield 19, 3) := by decide +kernel
theorem dX5_tellsJoints_34 : decode cX5_tellsJoints 34 = .ok (.iconst 1, 1) := by decide +kernel
theorem dX5_tellsJoints_35 : decode cX5_tellsJoints 35 = .ok (.iadd, 1) := by decide +kernel
theorem dX5_tellsJoints_36 : decode cX5_tellsJoints 36 = .ok (.putfield 19, 3) := by decide +kernel
theorem dX5_tellsJoints_39 : decode cX5_tellsJoints 39 = .ok (.iinc 2 1, 3) := by decide +kernel
theorem dX5_tellsJoints_42 : decode cX5_tellsJoints 42 = .ok (.goto (-40), 3) := by decide +kernel
theorem dX5_tellsJoints_45 : decode cX5_tellsJoints 45 = .ok (.iconst 0, 1) := by decide +kernel
theorem dX5_tellsJoints_46 : decode cX5_tellsJoints 46 = .ok (.ireturn, 1) := by decide +kernel
theorem dX5_tellsJoint_0 : decode cX5_tellsJoint 0 = .ok (.aload_n 0, 1) := by decide +kernel
theorem dX5_tellsJoint_1 : decode cX5_tellsJoint 1 = .ok (.iconst 5, 1) := by decide +kernel
theorem dX5_tellsJoint_2 : decode cX5_tellsJoint 2 = .ok (.invokevirtual 44, 3) := by decide +kernel
theorem dX5_tellsJoint_5 : decode cX5_tellsJoint 5 = .ok (.istore_n 2, 1) := by decide +kernel
theorem dX5_tellsJoint_6 : decode cX5_tellsJoint 6 = .ok (.iload_n 2, 1) := by decide +kernel
theorem dX5_tellsJoint_7 : decode cX5_tellsJoint 7 = .ok (.ifCond .lt 12, 3) := by decide +kernel
theorem dX5_tellsJoint_10 : decode cX5_tellsJoint 10 = .ok (.aload_n 1, 1) := by decide +kernel
theorem dX5_tellsJoint_11 : decode cX5_tellsJoint 11 = .ok (.getfield 22, 3) := by decide +kernel
theorem dX5_tellsJoint_14 : decode cX5_tellsJoint 14 = .ok (.bipush 6, 2) := by decide +kernel
theorem dX5_tellsJoint_16 : decode cX5_tellsJoint 16 = .ok (.if_icmp .lt 5, 3) := by decide +kernel
theorem dX5_tellsJoint_19 : decode cX5_tellsJoint 19 = .ok (.iconst 0, 1) := by decide +kernel
theorem dX5_tellsJoint_20 : decode cX5_tellsJoint 20 = .ok (.ireturn, 1) := by decide +kernel
theorem dX5_tellsJoint_21 : decode cX5_tellsJoint 21 = .ok (.aload_n 0, 1) := by decide +kernel
theorem dX5_tellsJoint_22 : decode cX5_tellsJoint 22 = .ok (.dup, 1) := by decide +kernel
theorem dX5_tellsJoint_23 : decode cX5_tellsJoint 23 = .ok (.getfield 19, 3) := by decide +kernel
theorem dX5_tellsJoint_26 : decode cX5_tellsJoint 26 = .ok (.iconst 1, 1) := by decide +kernel
theorem dX5_tellsJoint_27 : decode cX5_tellsJoint 27 = .ok (.iadd, 1) := by decide +kernel
theorem dX5_tellsJoint_28 : decode cX5_tellsJoint 28 = .ok (.putfield 19, 3) := by decide +kernel
theorem dX5_tellsJoint_31 : decode cX5_tellsJoint 31 = .ok (.aload_n 0, 1) := by decide +kernel
theorem dX5_tellsJoint_32 : decode cX5_tellsJoint 32 = .ok (.iconst 5, 1) := by decide +kernel
theorem dX5_tellsJoint_33 : decode cX5_tellsJoint 33 = .ok (.invokevirtual 44, 3) := by decide +kernel
theorem dX5_tellsJoint_36 : decode cX5_tellsJoint 36 = .ok (.istore_n 3, 1) := by decide +kernel
theorem dX5_tellsJoint_37 : decode cX5_tellsJoint 37 = .ok (.iload_n 3, 1) := by decide +kernel
theorem dX5_tellsJoint_38 : decode cX5_tellsJoint 38 = .ok (.ifCond .lt 12, 3) := by decide +kernel
theorem dX5_tellsJoint_41 : decode cX5_tellsJoint 41 = .ok (.aload_n 1, 1) := by decide +kernel
theorem dX5_tellsJoint_42 : decode cX5_tellsJoint 42 = .ok (.iload_n 2, 1) := by decide +kernel
theorem dX5_tellsJoint_43 : decode cX5_tellsJoint 43 = .ok (.iload_n 3, 1) := by decide +kernel
theorem dX5_tellsJoint_44 : decode cX5_tellsJoint 44 = .ok (.invokevirtual 48, 3) := by decide +kernel
theorem dX5_tellsJoint_47 : decode cX5_tellsJoint 47 = .ok (.ifCond .eq 5, 3) := by decide +kernel
theorem dX5_tellsJoint_50 : decode cX5_tellsJoint 50 = .ok (.iconst 0, 1) := by decide +kernel
theorem dX5_tellsJoint_51 : decode cX5_tellsJoint 51 = .ok (.ireturn, 1) := by decide +kernel
theorem dX5_tellsJoint_52 : decode cX5_tellsJoint 52 = .ok (.aload_n 0, 1) := by decide +kernel
theorem dX5_tellsJoint_53 : decode cX5_tellsJoint 53 = .ok (.dup, 1) := by decide +kernel
theorem dX5_tellsJoint_54 : decode cX5_tellsJoint 54 = .ok (.getfield 19, 3) := by decide +kernel
theorem dX5_tellsJoint_57 : decode cX5_tellsJoint 57 = .ok (.iconst 1, 1) := by decide +kernel
theorem dX5_tellsJoint_58 : decode cX5_tellsJoint 58 = .ok (.iadd, 1) := by decide +kernel
theorem dX5_tellsJoint_59 : decode cX5_tellsJoint 59 = .ok (.putfield 19, 3) := by decide +kernel
theorem dX5_tellsJoint_62 : decode cX5_tellsJoint 62 = .ok (.aload_n 1, 1) := by decide +kernel
theorem dX5_tellsJoint_63 : decode cX5_tellsJoint 63 = .ok (.iload_n 2, 1) := by decide +kernel
theorem dX5_tellsJoint_64 : decode cX5_tellsJoint 64 = .ok (.iload_n 3, 1) := by decide +kernel
theorem dX5_tellsJoint_65 : decode cX5_tellsJoint 65 = .ok (.invokevirtual 52, 3) := by decide +kernel
theorem dX5_tellsJoint_68 : decode cX5_tellsJoint 68 = .ok (.pop, 1) := by decide +kernel
theorem dX5_tellsJoint_69 : decode cX5_tellsJoint 69 = .ok (.iconst 1, 1) := by decide +kernel
theorem dX5_tellsJoint_70 : decode cX5_tellsJoint 70 = .ok (.ireturn, 1) := by decide +kernel
theorem dX5_tellsBars_0 : decode cX5_tellsBars 0 = .ok (.iconst 0, 1) := by decide +kernel
theorem dX5_tellsBars_1 : decode cX5_tellsBars 1 = .ok (.istore_n 2, 1) := by decide +kernel
theorem dX5_tellsBars_2 : decode cX5_tellsBars 2 = .ok (.iload_n 2, 1) := by decide +kernel
theorem dX5_tellsBars_3 : decode cX5_tellsBars 3 = .ok (.bipush 9, 2) := by decide +kernel
theorem dX5_tellsBars_5 : decode cX5_tellsBars 5 = .ok (.if_icmp .gt 40, 3) := by decide +kernel
theorem dX5_tellsBars_8 : decode cX5_tellsBars 8 = .ok (.aload_n 0, 1) := by decide +kernel
theorem dX5_tellsBars_9 : decode cX5_tellsBars 9 = .ok (.aload_n 1, 1) := by decide +kernel
theorem dX5_tellsBars_10 : decode cX5_tellsBars 10 = .ok (.invokevirtual 56, 3) := by decide +kernel
theorem dX5_tellsBars_13 : decode cX5_tellsBars 13 = .ok (.ifCond .ne 5, 3) := by decide +kernel
theorem dX5_tellsBars_16 : decode cX5_tellsBars 16 = .ok (.iconst 0, 1) := by decide +kernel
theorem dX5_tellsBars_17 : decode cX5_tellsBars 17 = .ok (.ireturn, 1) := by decide +kernel
theorem dX5_tellsBars_18 : decode cX5_tellsBars 18 = .ok (.aload_n 0, 1) := by decide +kernel
theorem dX5_tellsBars_19 : decode cX5_tellsBars 19 = .ok (.invokevirtual 34, 3) := by decide +kernel
theorem dX5_tellsBars_22 : decode cX5_tellsBars 22 = .ok (.bipush 44, 2) := by decide +kernel
theorem dX5_tellsBars_24 : decode cX5_tellsBars 24 = .ok (.if_icmp .eq 5, 3) := by decide +kernel
theorem dX5_tellsBars_27 : decode cX5_tellsBars 27 = .ok (.iconst 1, 1) := by decide +kernel
theorem dX5_tellsBars_28 : decode cX5_tellsBars 28 = .ok (.ireturn, 1) := by decide +kernel
theorem dX5_tellsBars_29 : decode cX5_tellsBars 29 = .ok (.aload_n 0, 1) := by decide +kernel
theorem dX5_tellsBars_30 : decode cX5_tellsBars 30 = .ok (.dup, 1) := by decide +kernel
theorem dX5_tellsBars_31 : decode cX5_tellsBars 31 = .ok (.getfield 19, 3) := by decide +kernel
theorem dX5_tellsBars_34 : decode cX5_tellsBars 34 = .ok (.iconst 1, 1) := by decide +kernel
theorem dX5_tellsBars_35 : decode cX5_tellsBars 35 = .ok (.iadd, 1) := by decide +kernel
theorem dX5_tellsBars_36 : decode cX5_tellsBars 36 = .ok (.putfield 19, 3) := by decide +kernel
theorem dX5_tellsBars_39 : decode cX5_tellsBars 39 = .ok (.iinc 2 1, 3) := by decide +kernel
theorem dX5_tellsBars_42 : decode cX5_tellsBars 42 = .ok (.goto (-40), 3) := by decide +kernel
theorem dX5_tellsBars_45 : decode cX5_tellsBars 45 = .ok (.iconst 0, 1) := by decide +kernel
theorem dX5_tellsBars_46 : decode cX5_tellsBars 46 = .ok (.ireturn, 1) := by decide +kernel
theorem dX5_tellsBar_0 : decode cX5_tellsBar 0 = .ok (.aload_n 0, 1) := by decide +kernel
theorem dX5_tellsBar_1 : decode cX5_tellsBar 1 = .ok (.aload_n 1, 1) := by decide +kernel
theorem dX5_tellsBar_2 : decode cX5_tellsBar 2 = .ok (.getfield 22, 3) := by decide +kernel
theorem dX5_tellsBar_5 : decode cX5_tellsBar 5 = .ok (.iconst 1, 1) := by decide +kernel
theorem dX5_tellsBar_6 : decode cX5_tellsBar 6 = .ok (.isub, 1) := by decide +kernel
theorem dX5_tellsBar_7 : decode cX5_tellsBar 7 = .ok (.invokevirtual 44, 3) := by decide +kernel
theorem dX5_tellsBar_10 : decode cX5_tellsBar 10 = .ok (.istore_n 2, 1) := by decide +kernel
theorem dX5_tellsBar_11 : decode cX5_tellsBar 11 = .ok (.iload_n 2, 1) := by decide +kernel
theorem dX5_tellsBar_12 : decode cX5_tellsBar 12 = .ok (.ifCond .lt 12, 3) := by decide +kernel
theorem dX5_tellsBar_15 : decode cX5_tellsBar 15 = .ok (.aload_n 1, 1) := by decide +kernel
theorem dX5_tellsBar_16 : decode cX5_tellsBar 16 = .ok (.getfield 27, 3) := by decide +kernel
theorem dX5_tellsBar_19 : decode cX5_tellsBar 19 = .ok (.bipush 9, 2) := by decide +kernel
theorem dX5_tellsBar_21 : decode cX5_tellsBar 21 = .ok (.if_icmp .lt 5, 3) := by decide +kernel
theorem dX5_tellsBar_24 : decode cX5_tellsBar 24 = .ok (.iconst 0, 1) := by decide +kernel
theorem dX5_tellsBar_25 : decode cX5_tellsBar 25 = .ok (.ireturn, 1) := by decide +kernel
theorem dX5_tellsBar_26 : decode cX5_tellsBar 26 = .ok (.aload_n 0, 1) := by decide +kernel
theorem dX5_tellsBar_27 : decode cX5_tellsBar 27 = .ok (.dup, 1) := by decide +kernel
theorem dX5_tellsBar_28 : decode cX5_tellsBar 28 = .ok (.getfield 19, 3) := by decide +kernel
theorem dX5_tellsBar_31 : decode cX5_tellsBar 31 = .ok (.iconst 1, 1) := by decide +kernel
theorem dX5_tellsBar_32 : decode cX5_tellsBar 32 = .ok (.iadd, 1) := by decide +kernel
theorem dX5_tellsBar_33 : decode cX5_tellsBar 33 = .ok (.putfield 19, 3) := by decide +kernel
theorem dX5_tellsBar_36 : decode cX5_tellsBar 36 = .ok (.aload_n 0, 1) := by decide +kernel
theorem dX5_tellsBar_37 : decode cX5_tellsBar 37 = .ok (.aload_n 1, 1) := by decide +kernel
theorem dX5_tellsBar_38 : decode cX5_tellsBar 38 = .ok (.getfield 22, 3) := by decide +kernel
theorem dX5_tellsBar_41 : decode cX5_tellsBar 41 = .ok (.iconst 1, 1) := by decide +kernel
theorem dX5_tellsBar_42 : decode cX5_tellsBar 42 = .ok (.isub, 1) := by decide +kernel
theorem dX5_tellsBar_43 : decode cX5_tellsBar 43 = .ok (.invokevirtual 44, 3) := by decide +kernel
theorem dX5_tellsBar_46 : decode cX5_tellsBar 46 = .ok (.istore_n 3, 1) := by decide +kernel
theorem dX5_tellsBar_47 : decode cX5_tellsBar 47 = .ok (.iload_n 3, 1) := by decide +kernel
theorem dX5_tellsBar_48 : decode cX5_tellsBar 48 = .ok (.ifCond .lt 12, 3) := by decide +kernel
theorem dX5_tellsBar_51 : decode cX5_tellsBar 51 = .ok (.aload_n 1, 1) := by decide +kernel
theorem dX5_tellsBar_52 : decode cX5_tellsBar 52 = .ok (.iload_n 2, 1) := by decide +kernel
theorem dX5_tellsBar_53 : decode cX5_tellsBar 53 = .ok (.iload_n 3, 1) := by decide +kernel
theorem dX5_tellsBar_54 : decode cX5_tellsBar 54 = .ok (.invokevirtual 59, 3) := by decide +kernel
theorem dX5_tellsBar_57 : decode cX5_tellsBar 57 = .ok (.ifCond .eq 5, 3) := by decide +kernel
theorem dX5_tellsBar_60 : decode cX5_tellsBar 60 = .ok (.iconst 0, 1) := by decide +kernel
theorem dX5_tellsBar_61 : decode cX5_tellsBar 61 = .ok (.ireturn, 1) := by decide +kernel
theorem dX5_tellsBar_62 : decode cX5_tellsBar 62 = .ok (.aload_n 0, 1) := by decide +kernel
theorem dX5_tellsBar_63 : decode cX5_tellsBar 63 = .ok (.dup, 1) := by decide +kernel
theorem dX5_tellsBar_64 : decode cX5_tellsBar 64 = .ok (.getfield 19, 3) := by decide +kernel
theorem dX5_tellsBar_67 : decode cX5_tellsBar 67 = .ok (.iconst 1, 1) := by decide +kernel
theorem dX5_tellsBar_68 : decode cX5_tellsBar 68 = .ok (.iadd, 1) := by decide +kernel
theorem dX5_tellsBar_69 : decode cX5_tellsBar 69 = .ok (.putfield 19, 3) := by decide +kernel
theorem dX5_tellsBar_72 : decode cX5_tellsBar 72 = .ok (.aload_n 1, 1) := by decide +kernel
theorem dX5_tellsBar_73 : decode cX5_tellsBar 73 = .ok (.iload_n 2, 1) := by decide +kernel
theorem dX5_tellsBar_74 : decode cX5_tellsBar 74 = .ok (.iload_n 3, 1) := by decide +kernel
theorem dX5_tellsBar_75 : decode cX5_tellsBar 75 = .ok (.invokevirtual 62, 3) := by decide +kernel
theorem dX5_tellsBar_78 : decode cX5_tellsBar 78 = .ok (.pop, 1) := by decide +kernel
theorem dX5_tellsBar_79 : decode cX5_tellsBar 79 = .ok (.iconst 1, 1) := by decide +kernel
theorem dX5_tellsBar_80 : decode cX5_tellsBar 80 = .ok (.ireturn, 1) := by decide +kernel
theorem dX5_figureHere_0 : decode cX5_figureHere 0 = .ok (.aload_n 0, 1) := by decide +kernel
theorem dX5_figureHere_1 : decode cX5_figureHere 1 = .ok (.invokevirtual 34, 3) := by decide +kernel
theorem dX5_figureHere_4 : decode cX5_figureHere 4 = .ok (.bipush 48, 2) := by decide +kernel
theorem dX5_figureHere_6 : decode cX5_figureHere 6 = .ok (.isub, 1) := by decide +kernel
theorem dX5_figureHere_7 : decode cX5_figureHere 7 = .ok (.istore_n 2, 1) := by decide +kernel
theorem dX5_figureHere_8 : decode cX5_figureHere 8 = .ok (.iload_n 2, 1) := by decide +kernel
theorem dX5_figureHere_9 : decode cX5_figureHere 9 = .ok (.ifCond .lt 12, 3) := by decide +kernel
theorem dX5_figureHere_12 : decode cX5_figureHere 12 = .ok (.iload_n 2, 1) := by decide +kernel
theorem dX5_figureHere_13 : decode cX5_figureHere 13 = .ok (.iload_n 1, 1) := by decide +kernel
theorem dX5_figureHere_14 : decode cX5_figureHere 14 = .ok (.if_icmp .gt 7, 3) := by decide +kernel
theorem dX5_figureHere_17 : decode cX5_figureHere 17 = .ok (.iload_n 2, 1) := by decide +kernel
theorem dX5_figureHere_18 : decode cX5_figureHere 18 = .ok (.goto 4, 3) := by decide +kernel
theorem dX5_figureHere_21 : decode cX5_figureHere 21 = .ok (.iconst (-1), 1) := by decide +kernel
theorem dX5_figureHere_22 : decode cX5_figureHere 22 = .ok (.ireturn, 1) := by decide +kernel
theorem dX5_letterHere_0 : decode cX5_letterHere 0 = .ok (.aload_n 0, 1) := by decide +kernel
theorem dX5_letterHere_1 : decode cX5_letterHere 1 = .ok (.getfield 19, 3) := by decide +kernel
theorem dX5_letterHere_4 : decode cX5_letterHere 4 = .ok (.aload_n 0, 1) := by decide +kernel
theorem dX5_letterHere_5 : decode cX5_letterHere 5 = .ok (.getfield 15, 3) := by decide +kernel
theorem dX5_letterHere_8 : decode cX5_letterHere 8 = .ok (.if_icmp .ge 30, 3) := by decide +kernel
theorem dX5_letterHere_11 : decode cX5_letterHere 11 = .ok (.aload_n 0, 1) := by decide +kernel
theorem dX5_letterHere_12 : decode cX5_letterHere 12 = .ok (.getfield 9, 3) := by decide +kernel
theorem dX5_letterHere_15 : decode cX5_letterHere 15 = .ok (.aload_n 0, 1) := by decide +kernel
theorem dX5_letterHere_16 : decode cX5_letterHere 16 = .ok (.getfield 19, 3) := by decide +kernel
theorem dX5_letterHere_19 : decode cX5_letterHere 19 = .ok (.caload, 1) := by decide +kernel
theorem dX5_letterHere_20 : decode cX5_letterHere 20 = .ok (.bipush 32, 2) := by decide +kernel
theorem dX5_letterHere_22 : decode cX5_letterHere 22 = .ok (.if_icmp .ne 16, 3) := by decide +kernel
theorem dX5_letterHere_25 : decode cX5_letterHere 25 = .ok (.aload_n 0, 1) := by decide +kernel
theorem dX5_letterHere_26 : decode cX5_letterHere 26 = .ok (.dup, 1) := by decide +kernel
theorem dX5_letterHere_27 : decode cX5_letterHere 27 = .ok (.getfield 19, 3) := by decide +kernel
theorem dX5_letterHere_30 : decode cX5_letterHere 30 = .ok (.iconst 1, 1) := by decide +kernel
theorem dX5_letterHere_31 : decode cX5_letterHere 31 = .ok (.iadd, 1) := by decide +kernel
theorem dX5_letterHere_32 : decode cX5_letterHere 32 = .ok (.putfield 19, 3) := by decide +kernel
theorem dX5_letterHere_35 : decode cX5_letterHere 35 = .ok (.goto (-35), 3) := by decide +kernel
theorem dX5_letterHere_38 : decode cX5_letterHere 38 = .ok (.aload_n 0, 1) := by decide +kernel
theorem dX5_letterHere_39 : decode cX5_letterHere 39 = .ok (.getfield 19, 3) := by decide +kernel
theorem dX5_letterHere_42 : decode cX5_letterHere 42 = .ok (.aload_n 0, 1) := by decide +kernel
theorem dX5_letterHere_43 : decode cX5_letterHere 43 = .ok (.getfield 15, 3) := by decide +kernel
theorem dX5_letterHere_46 : decode cX5_letterHere 46 = .ok (.if_icmp .ge 15, 3) := by decide +kernel
theorem dX5_letterHere_49 : decode cX5_letterHere 49 = .ok (.aload_n 0, 1) := by decide +kernel
theorem dX5_letterHere_50 : decode cX5_letterHere 50 = .ok (.getfield 9, 3) := by decide +kernel
theorem dX5_letterHere_53 : decode cX5_letterHere 53 = .ok (.aload_n 0, 1) := by decide +kernel
theorem dX5_letterHere_54 : decode cX5_letterHere 54 = .ok (.getfield 19, 3) := by decide +kernel
theorem dX5_letterHere_57 : decode cX5_letterHere 57 = .ok (.caload, 1) := by decide +kernel
theorem dX5_letterHere_58 : decode cX5_letterHere 58 = .ok (.goto 4, 3) := by decide +kernel
theorem dX5_letterHere_61 : decode cX5_letterHere 61 = .ok (.iconst 0, 1) := by decide +kernel
theorem dX5_letterHere_62 : decode cX5_letterHere 62 = .ok (.ireturn, 1) := by decide +kernel
theorem dX6_init_0 : decode cX6_init 0 = .ok (.aload_n 0, 1) := by decide +kernel
theorem dX6_init_1 : decode cX6_init 1 = .ok (.invokespecial 3, 3) := by decide +kernel
theorem dX6_init_4 : decode cX6_init 4 = .ok (.aload_n 0, 1) := by decide +kernel
theorem dX6_init_5 : decode cX6_init 5 = .ok (.new 9, 3) := by decide +kernel
theorem dX6_init_8 : decode cX6_init 8 = .ok (.dup, 1) := by decide +kernel
theorem dX6_init_9 : decode cX6_init 9 = .ok (.invokespecial 11, 3) := by decide +kernel
theorem dX6_init_12 : decode cX6_init 12 = .ok (.putfield 12, 3) := by decide +kernel
theorem dX6_init_15 : decode cX6_init 15 = .ok (.aload_n 0, 1) := by decide +kernel
theorem dX6_init_16 : decode cX6_init 16 = .ok (.new 9, 3) := by decide +kernel
theorem dX6_init_19 : decode cX6_init 19 = .ok (.dup, 1) := by decide +kernel
theorem dX6_init_20 : decode cX6_init 20 = .ok (.invokespecial 11, 3) := by decide +kernel
theorem dX6_init_23 : decode cX6_init 23 = .ok (.putfield 16, 3) := by decide +kernel
theorem dX6_init_26 : decode cX6_init 26 = .ok (.aload_n 0, 1) := by decide +kernel
theorem dX6_init_27 : decode cX6_init 27 = .ok (.new 9, 3) := by decide +kernel
theorem dX6_init_30 : decode cX6_init 30 = .ok (.dup, 1) := by decide +kernel
theorem dX6_init_31 : decode cX6_init 31 = .ok (.invokespecial 11, 3) := by decide +kernel
theorem dX6_init_34 : decode cX6_init 34 = .ok (.putfield 19, 3) := by decide +kernel
theorem dX6_init_37 : decode cX6_init 37 = .ok (.aload_n 0, 1) := by decide +kernel
theorem dX6_init_38 : decode cX6_init 38 = .ok (.new 22, 3) := by decide +kernel
theorem dX6_init_41 : decode cX6_init 41 = .ok (.dup, 1) := by decide +kernel
theorem dX6_init_42 : decode cX6_init 42 = .ok (.invokespecial 24, 3) := by decide +kernel
theorem dX6_init_45 : decode cX6_init 45 = .ok (.putfield 25, 3) := by decide +kernel
theorem dX6_init_48 : decode cX6_init 48 = .ok (.aload_n 0, 1) := by decide +kernel
theorem dX6_init_49 : decode cX6_init 49 = .ok (.new 22, 3) := by decide +kernel
theorem dX6_init_52 : decode cX6_init 52 = .ok (.dup, 1) := by decide +kernel
theorem dX6_init_53 : decode cX6_init 53 = .ok (.invokespecial 24, 3) := by decide +kernel
theorem dX6_init_56 : decode cX6_init 56 = .ok (.putfield 29, 3) := by decide +kernel
theorem dX6_init_59 : decode cX6_init 59 = .ok (.aload_n 0, 1) := by decide +kernel
theorem dX6_init_60 : decode cX6_init 60 = .ok (.new 32, 3) := by decide +kernel
theorem dX6_init_63 : decode cX6_init 63 = .ok (.dup, 1) := by decide +kernel
theorem dX6_init_64 : decode cX6_init 64 = .ok (.invokespecial 34, 3) := by decide +kernel
theorem dX6_init_67 : decode cX6_init 67 = .ok (.putfield 35, 3) := by decide +kernel
theorem dX6_init_70 : decode cX6_init 70 = .ok (.aload_n 0, 1) := by decide +kernel
theorem dX6_init_71 : decode cX6_init 71 = .ok (.new 39, 3) := by decide +kernel
theorem dX6_init_74 : decode cX6_init 74 = .ok (.dup, 1) := by decide +kernel
theorem dX6_init_75 : decode cX6_init 75 = .ok (.invokespecial 41, 3) := by decide +kernel
theorem dX6_init_78 : decode cX6_init 78 = .ok (.putfield 42, 3) := by decide +kernel
theorem dX6_init_81 : decode cX6_init 81 = .ok (.aload_n 0, 1) := by decide +kernel
theorem dX6_init_82 : decode cX6_init 82 = .ok (.new 46, 3) := by decide +kernel
theorem dX6_init_85 : decode cX6_init 85 = .ok (.dup, 1) := by decide +kernel
theorem dX6_init_86 : decode cX6_init 86 = .ok (.invokespecial 48, 3) := by decide +kernel
theorem dX6_init_89 : decode cX6_init 89 = .ok (.putfield 49, 3) := by decide +kernel
theorem dX6_init_92 : decode cX6_init 92 = .ok (.aload_n 0, 1) := by decide +kernel
theorem dX6_init_93 : decode cX6_init 93 = .ok (.iconst 4, 1) := by decide +kernel
theorem dX6_init_94 : decode cX6_init 94 = .ok (.anewarray 53, 3) := by decide +kernel
theorem dX6_init_97 : decode cX6_init 97 = .ok (.putfield 55, 3) := by decide +kernel
theorem dX6_init_100 : decode cX6_init 100 = .ok (.iconst 0, 1) := by decide +kernel
theorem dX6_init_101 : decode cX6_init 101 = .ok (.istore_n 1, 1) := by decide +kernel
theorem dX6_init_102 : decode cX6_init 102 = .ok (.iload_n 1, 1) := by decide +kernel
theorem dX6_init_103 : decode cX6_init 103 = .ok (.iconst 4, 1) := by decide +kernel
theorem dX6_init_104 : decode cX6_init 104 = .ok (.if_icmp .ge 22, 3) := by decide +kernel
theorem dX6_init_107 : decode cX6_init 107 = .ok (.aload_n 0, 1) := by decide +kernel
theorem dX6_init_108 : decode cX6_init 108 = .ok (.getfield 55, 3) := by decide +kernel
theorem dX6_init_111 : decode cX6_init 111 = .ok (.iload_n 1, 1) := by decide +kernel
theorem dX6_init_112 : decode cX6_init 112 = .ok (.new 53, 3) := by decide +kernel
theorem dX6_init_115 : decode cX6_init 115 = .ok (.dup, 1) := by decide +kernel
theorem dX6_init_116 : decode cX6_init 116 = .ok (.invokespecial 59, 3) := by decide +kernel
theorem dX6_init_119 : decode cX6_init 119 = .ok (.aastore, 1) := by decide +kernel
theorem dX6_init_120 : decode cX6_init 120 = .ok (.iinc 1 1, 3) := by decide +kernel
theorem dX6_init_123 : decode cX6_init 123 = .ok (.goto (-21), 3) := by decide +kernel
theorem dX6_init_126 : decode cX6_init 126 = .ok (.return_, 1) := by decide +kernel
theorem dX6_joint_0 : decode cX6_joint 0 = .ok (.aload_n 0, 1) := by decide +kernel
theorem dX6_joint_1 : decode cX6_joint 1 = .ok (.getfield 12, 3) := by decide +kernel
theorem dX6_joint_4 : decode cX6_joint 4 = .ok (.iload_n 1, 1) := by decide +kernel
theorem dX6_joint_5 : decode cX6_joint 5 = .ok (.iload_n 2, 1) := by decide +kernel
theorem dX6_joint_6 : decode cX6_joint 6 = .ok (.invokevirtual 60, 3) := by decide +kernel
theorem dX6_joint_9 : decode cX6_joint 9 = .ok (.istore_n 3, 1) := by decide +kernel
theorem dX6_joint_10 : decode cX6_joint 10 = .ok (.iload_n 3, 1) := by decide +kernel
theorem dX6_joint_11 : decode cX6_joint 11 = .ok (.ifCond .eq 5, 3) := by decide +kernel
theorem dX6_joint_14 : decode cX6_joint 14 = .ok (.iload_n 3, 1) := by decide +kernel
theorem dX6_joint_15 : decode cX6_joint 15 = .ok (.ireturn, 1) := by decide +kernel
theorem dX6_joint_16 : decode cX6_joint 16 = .ok (.aload_n 0, 1) := by decide +kernel
theorem dX6_joint_17 : decode cX6_joint 17 = .ok (.invokevirtual 64, 3) := by decide +kernel
theorem dX6_joint_20 : decode cX6_joint 20 = .ok (.aload_n 0, 1) := by decide +kernel
theorem dX6_joint_21 : decode cX6_joint 21 = .ok (.getfield 12, 3) := by decide +kernel
theorem dX6_joint_24 : decode cX6_joint 24 = .ok (.iload_n 1, 1) := by decide +kernel
theorem dX6_joint_25 : decode cX6_joint 25 = .ok (.iload_n 2, 1) := by decide +kernel
theorem dX6_joint_26 : decode cX6_joint 26 = .ok (.invokevirtual 67, 3) := by decide +kernel
theorem dX6_joint_29 : decode cX6_joint 29 = .ok (.ireturn, 1) := by decide +kernel
theorem dX6_move_0 : decode cX6_move 0 = .ok (.aload_n 0, 1) := by decide +kernel
theorem dX6_move_1 : decode cX6_move 1 = .ok (.getfield 12, 3) := by decide +kernel
theorem dX6_move_4 : decode cX6_move 4 = .ok (.iload_n 1, 1) := by decide +kernel
theorem dX6_move_5 : decode cX6_move 5 = .ok (.iload_n 2, 1) := by decide +kernel
theorem dX6_move_6 : decode cX6_move 6 = .ok (.iload_n 3, 1) := by decide +kernel
theorem dX6_move_7 : decode cX6_move 7 = .ok (.invokevirtual 70, 3) := by decide +kernel
theorem dX6_move_10 : decode cX6_move 10 = .ok (.istore 4, 2) := by decide +kernel
theorem dX6_move_12 : decode cX6_move 12 = .ok (.iload 4, 2) := by decide +kernel
theorem dX6_move_14 : decode cX6_move 14 = .ok (.ifCond .eq 6, 3) := by decide +kernel
theorem dX6_move_17 : decode cX6_move 17 = .ok (.iload 4, 2) := by decide +kernel
theorem dX6_move_19 : decode cX6_move 19 = .ok (.ireturn, 1) := by decide +kernel
theorem dX6_move_20 : decode cX6_move 20 = .ok (.aload_n 0, 1) := by decide +kernel
theorem dX6_move_21 : decode cX6_move 21 = .ok (.invokevirtual 64, 3) := by decide +kernel
theorem dX6_move_24 : decode cX6_move 24 = .ok (.aload_n 0, 1) := by decide +kernel
theorem dX6_move_25 : decode cX6_move 25 = .ok (.getfield 12, 3) := by decide +kernel
theorem dX6_move_28 : decode cX6_move 28 = .ok (.iload_n 1, 1) := by decide +kernel
theorem dX6_move_29 : decode cX6_move 29 = .ok (.iload_n 2, 1) := by decide +kernel
theorem dX6_move_30 : decode cX6_move 30 = .ok (.iload_n 3, 1) := by decide +kernel
theorem dX6_move_31 : decode cX6_move 31 = .ok (.invokevirtual 74, 3) := by decide +kernel
theorem dX6_move_34 : decode cX6_move 34 = .ok (.aload_n 0, 1) := by decide +kernel
theorem dX6_move_35 : decode cX6_move 35 = .ok (.getfield 12, 3) := by decide +kernel
theorem dX6_move_38 : decode cX6_move 38 = .ok (.iload_n 1, 1) := by decide +kernel
theorem dX6_move_39 : decode cX6_move 39 = .ok (.invokevirtual 78, 3) := by decide +kernel
theorem dX6_move_42 : decode cX6_move 42 = .ok (.ireturn, 1) := by decide +kernel
theorem dX6_lose_0 : decode cX6_lose 0 = .ok (.aload_n 0, 1) := by decide +kernel
theorem dX6_lose_1 : decode cX6_lose 1 = .ok (.getfield 12, 3) := by decide +kernel
theorem dX6_lose_4 : decode cX6_lose 4 = .ok (.iload_n 1, 1) := by decide +kernel
theorem dX6_lose_5 : decode cX6_lose 5 = .ok (.invokevirtual 82, 3) := by decide +kernel
theorem dX6_lose_8 : decode cX6_lose 8 = .ok (.ifCond .ne 5, 3) := by decide +kernel
theorem dX6_lose_11 : decode cX6_lose 11 = .ok (.iconst (-1), 1) := by decide +kernel
theorem dX6_lose_12 : decode cX6_lose 12 = .ok (.ireturn, 1) := by decide +kernel
theorem dX6_lose_13 : decode cX6_lose 13 = .ok (.aload_n 0, 1) := by decide +kernel
theorem dX6_lose_14 : decode cX6_lose 14 = .ok (.invokevirtual 64, 3) := by decide +kernel
theorem dX6_lose_17 : decode cX6_lose 17 = .ok (.aload_n 0, 1) := by decide +kernel
theorem dX6_lose_18 : decode cX6_lose 18 = .ok (.getfield 12, 3) := by decide +kernel
theorem dX6_lose_21 : decode cX6_lose 21 = .ok (.iload_n 1, 1) := by decide +kernel
theorem dX6_lose_22 : decode cX6_lose 22 = .ok (.invokevirtual 86, 3) := by decide +kernel
theorem dX6_lose_25 : decode cX6_lose 25 = .ok (.aload_n 0, 1) := by decide +kernel
theorem dX6_lose_26 : decode cX6_lose 26 = .ok (.getfield 12, 3) := by decide +kernel
theorem dX6_lose_29 : decode cX6_lose 29 = .ok (.getfield 90, 3) := by decide +kernel
theorem dX6_lose_32 : decode cX6_lose 32 = .ok (.ireturn, 1) := by decide +kernel
theorem dX6_bar_0 : decode cX6_bar 0 = .ok (.aload_n 0, 1) := by decide +kernel
theorem dX6_bar_1 : decode cX6_bar 1 = .ok (.getfield 12, 3) := by decide +kernel
theorem dX6_bar_4 : decode cX6_bar 4 = .ok (.iload_n 1, 1) := by decide +kernel
theorem dX6_bar_5 : decode cX6_bar 5 = .ok (.iload_n 2, 1) := by decide +kernel
theorem dX6_bar_6 : decode cX6_bar 6 = .ok (.invokevirtual 94, 3) := by decide +kernel
theorem dX6_bar_9 : decode cX6_bar 9 = .ok (.istore_n 3, 1) := by decide +kernel
theorem dX6_bar_10 : decode cX6_bar 10 = .ok (.iload_n 3, 1) := by decide +kernel
theorem dX6_bar_11 : decode cX6_bar 11 = .ok (.ifCond .eq 5, 3) := by decide +kernel
theorem dX6_bar_14 : decode cX6_bar 14 = .ok (.iload_n 3, 1) := by decide +kernel
theorem dX6_bar_15 : decode cX6_bar 15 = .ok (.ireturn, 1) := by decide +kernel
theorem dX6_bar_16 : decode cX6_bar 16 = .ok (.aload_n 0, 1) := by decide +kernel
theorem dX6_bar_17 : decode cX6_bar 17 = .ok (.invokevirtual 64, 3) := by decide +kernel
theorem dX6_bar_20 : decode cX6_bar 20 = .ok (.aload_n 0, 1) := by decide +kernel
theorem dX6_bar_21 : decode cX6_bar 21 = .ok (.getfield 12, 3) := by decide +kernel
theorem dX6_bar_24 : decode cX6_bar 24 = .ok (.iload_n 1, 1) := by decide +kernel
theorem dX6_bar_25 : decode cX6_bar 25 = .ok (.iload_n 2, 1) := by decide +kernel
theorem dX6_bar_26 : decode cX6_bar 26 = .ok (.invokevirtual 97, 3) := by decide +kernel
theorem dX6_bar_29 : decode cX6_bar 29 = .ok (.ireturn, 1) := by decide +kernel
theorem dX6_out_0 : decode cX6_out 0 = .ok (.aload_n 0, 1) := by decide +kernel
theorem dX6_out_1 : decode cX6_out 1 = .ok (.getfield 12, 3) := by decide +kernel
theorem dX6_out_4 : decode cX6_out 4 = .ok (.iload_n 1, 1) := by decide +kernel
theorem dX6_out_5 : decode cX6_out 5 = .ok (.invokevirtual 100, 3) := by decide +kernel
theorem dX6_out_8 : decode cX6_out 8 = .ok (.ifCond .ne 5, 3) := by decide +kernel
theorem dX6_out_11 : decode cX6_out 11 = .ok (.iconst (-1), 1) := by decide +kernel
theorem dX6_out_12 : decode cX6_out 12 = .ok (.ireturn, 1) := by decide +kernel
theorem dX6_out_13 : decode cX6_out 13 = .ok (.aload_n 0, 1) := by decide +kernel
theorem dX6_out_14 : decode cX6_out 14 = .ok (.invokevirtual 64, 3) := by decide +kernel
theorem dX6_out_17 : decode cX6_out 17 = .ok (.aload_n 0, 1) := by decide +kernel
theorem dX6_out_18 : decode cX6_out 18 = .ok (.getfield 12, 3) := by decide +kernel
theorem dX6_out_21 : decode cX6_out 21 = .ok (.iload_n 1, 1) := by decide +kernel
theorem dX6_out_22 : decode cX6_out 22 = .ok (.invokevirtual 103, 3) := by decide +kernel
theorem dX6_out_25 : decode cX6_out 25 = .ok (.aload_n 0, 1) := by decide +kernel
theorem dX6_out_26 : decode cX6_out 26 = .ok (.getfield 12, 3) := by decide +kernel
theorem dX6_out_29 : decode cX6_out 29 = .ok (.getfield 90, 3) := by decide +kernel
theorem dX6_out_32 : decode cX6_out 32 = .ok (.ireturn, 1) := by decide +kernel
theorem dX6_weight_0 : decode cX6_weight 0 = .ok (.aload_n 0, 1) := by decide +kernel
theorem dX6_weight_1 : decode cX6_weight 1 = .ok (.getfield 12, 3) := by decide +kernel
theorem dX6_weight_4 : decode cX6_weight 4 = .ok (.iload_n 1, 1) := by decide +kernel
theorem dX6_weight_5 : decode cX6_weight 5 = .ok (.iload_n 2, 1) := by decide +kernel
theorem dX6_weight_6 : decode cX6_weight 6 = .ok (.invokevirtual 106, 3) := by decide +kernel
theorem dX6_weight_9 : decode cX6_weight 9 = .ok (.istore_n 3, 1) := by decide +kernel
theorem dX6_weight_10 : decode cX6_weight 10 = .ok (.iload_n 3, 1) := by decide +kernel
theorem dX6_weight_11 : decode cX6_weight 11 = .ok (.ifCond .eq 5, 3) := by decide +kernel
theorem dX6_weight_14 : decode cX6_weight 14 = .ok (.iload_n 3, 1) := by decide +kernel
theorem dX6_weight_15 : decode cX6_weight 15 = .ok (.ireturn, 1) := by decide +kernel
theorem dX6_weight_16 : decode cX6_weight 16 = .ok (.aload_n 0, 1) := by decide +kernel
theorem dX6_weight_17 : decode cX6_weight 17 = .ok (.invokevirtual 64, 3) := by decide +kernel
theorem dX6_weight_20 : decode cX6_weight 20 = .ok (.aload_n 0, 1) := by decide +kernel
theorem dX6_weight_21 : decode cX6_weight 21 = .ok (.getfield 12, 3) := by decide +kernel
theorem dX6_weight_24 : decode cX6_weight 24 = .ok (.getfield 109, 3) := by decide +kernel
theorem dX6_weight_27 : decode cX6_weight 27 = .ok (.iload_n 1, 1) := by decide +kernel
theorem dX6_weight_28 : decode cX6_weight 28 = .ok (.iaload, 1) := by decide +kernel
theorem dX6_weight_29 : decode cX6_weight 29 = .ok (.istore 4, 2) := by decide +kernel
theorem dX6_weight_31 : decode cX6_weight 31 = .ok (.aload_n 0, 1) := by decide +kernel
theorem dX6_weight_32 : decode cX6_weight 32 = .ok (.getfield 12, 3) := by decide +kernel
theorem dX6_weight_35 : decode cX6_weight 35 = .ok (.getfield 109, 3) := by decide +kernel
theorem dX6_weight_38 : decode cX6_weight 38 = .ok (.iload_n 1, 1) := by decide +kernel
theorem dX6_weight_39 : decode cX6_weight 39 = .ok (.iload_n 2, 1) := by decide +kernel
theorem dX6_weight_40 : decode cX6_weight 40 = .ok (.iastore, 1) := by decide +kernel
theorem dX6_weight_41 : decode cX6_weight 41 = .ok (.iload 4, 2) := by decide +kernel
theorem dX6_weight_43 : decode cX6_weight 43 = .ok (.bipush 9, 2) := by decide +kernel
theorem dX6_weight_45 : decode cX6_weight 45 = .ok (.iadd, 1) := by decide +kernel
theorem dX6_weight_46 : decode cX6_weight 46 = .ok (.ireturn, 1) := by decide +kernel
theorem dX6_at_0 : decode cX6_at 0 = .ok (.aload_n 0, 1) := by decide +kernel
theorem dX6_at_1 : decode cX6_at 1 = .ok (.getfield 12, 3) := by decide +kernel
theorem dX6_at_4 : decode cX6_at 4 = .ok (.iload_n 1, 1) := by decide +kernel
theorem dX6_at_5 : decode cX6_at 5 = .ok (.invokevirtual 82, 3) := by decide +kernel
theorem dX6_at_8 : decode cX6_at 8 = .ok (.ifCond .ne 5, 3) := by decide +kernel
theorem dX6_at_11 : decode cX6_at 11 = .ok (.iconst (-1), 1) := by decide +kernel
theorem dX6_at_12 : decode cX6_at 12 = .ok (.ireturn, 1) := by decide +kernel
theorem dX6_at_13 : decode cX6_at 13 = .ok (.iload_n 2, 1) := by decide +kernel
theorem dX6_at_14 : decode cX6_at 14 = .ok (.tableswitch 68 0 3 #[30, 40, 50, 59], 30) := by decide +kernel
theorem dX6_at_44 : decode cX6_at 44 = .ok (.aload_n 0, 1) := by decide +kernel
theorem dX6_at_45 : decode cX6_at 45 = .ok (.getfield 12, 3) := by decide +kernel
theorem dX6_at_48 : decode cX6_at 48 = .ok (.getfield 113, 3) := by decide +kernel
theorem dX6_at_51 : decode cX6_at 51 = .ok (.iload_n 1, 1) := by decide +kernel
theorem dX6_at_52 : decode cX6_at 52 = .ok (.iaload, 1) := by decide +kernel
theorem dX6_at_53 : decode cX6_at 53 = .ok (.ireturn, 1) := by decide +kernel
theorem dX6_at_54 : decode cX6_at 54 = .ok (.aload_n 0, 1) := by decide +kernel
theorem dX6_at_55 : decode cX6_at 55 = .ok (.getfield 12, 3) := by decide +kernel
theorem dX6_at_58 : decode cX6_at 58 = .ok (.getfield 116, 3) := by decide +kernel
theorem dX6_at_61 : decode cX6_at 61 = .ok (.iload_n 1, 1) := by decide +kernel
theorem dX6_at_62 : decode cX6_at 62 = .ok (.iaload, 1) := by decide +kernel
theorem dX6_at_63 : decode cX6_at 63 = .ok (.ireturn, 1) := by decide +kernel
theorem dX6_at_64 : decode cX6_at 64 = .ok (.aload_n 0, 1) := by decide +kernel
theorem dX6_at_65 : decode cX6_at 65 = .ok (.getfield 12, 3) := by decide +kernel
theorem dX6_at_68 : decode cX6_at 68 = .ok (.iload_n 1, 1) := by decide +kernel
theorem dX6_at_69 : decode cX6_at 69 = .ok (.invokevirtual 78, 3) := by decide +kernel
theorem dX6_at_72 : decode cX6_at 72 = .ok (.ireturn, 1) := by decide +kernel
theorem dX6_at_73 : decode cX6_at 73 = .ok (.aload_n 0, 1) := by decide +kernel
theorem dX6_at_74 : decode cX6_at 74 = .ok (.getfield 12, 3) := by decide +kernel
theorem dX6_at_77 : decode cX6_at 77 = .ok (.iload_n 1, 1) := by decide +kernel
theorem dX6_at_78 : decode cX6_at 78 = .ok (.invokevirtual 119, 3) := by decide +kernel
theorem dX6_at_81 : decode cX6_at 81 = .ok (.ireturn, 1) := by decide +kernel
theorem dX6_at_82 : decode cX6_at 82 = .ok (.iconst (-1), 1) := by decide +kernel
theorem dX6_at_83 : decode cX6_at 83 = .ok (.ireturn, 1) := by decide +kernel
theorem dX6_of_0 : decode cX6_of 0 = .ok (.aload_n 0, 1) := by decide +kernel
theorem dX6_of_1 : decode cX6_of 1 = .ok (.getfield 12, 3) := by decide +kernel
theorem dX6_of_4 : decode cX6_of 4 = .ok (.iload_n 1, 1) := by decide +kernel
theorem dX6_of_5 : decode cX6_of 5 = .ok (.invokevirtual 100, 3) := by decide +kernel
theorem dX6_of_8 : decode cX6_of 8 = .ok (.ifCond .ne 5, 3) := by decide +kernel
theorem dX6_of_11 : decode cX6_of 11 = .ok (.iconst (-1), 1) := by decide +kernel
theorem dX6_of_12 : decode cX6_of 12 = .ok (.ireturn, 1) := by decide +kernel
theorem dX6_of_13 : decode cX6_of 13 = .ok (.aload_n 0, 1) := by decide +kernel
theorem dX6_of_14 : decode cX6_of 14 = .ok (.invokevirtual 122, 3) := by decide +kernel
theorem dX6_of_17 : decode cX6_of 17 = .ok (.iload_n 2, 1) := by decide +kernel
theorem dX6_of_18 : decode cX6_of 18 = .ok (.tableswitch 74 0 3 #[30, 40, 50, 62], 30) := by decide +kernel
theorem dX6_of_48 : decode cX6_of 48 = .ok (.aload_n 0, 1) := by decide +kernel
theorem dX6_of_49 : decode cX6_of 49 = .ok (.getfield 12, 3) := by decide +kernel
theorem dX6_of_52 : decode cX6_of 52 = .ok (.getfield 125, 3) := by decide +kernel
theorem dX6_of_55 : decode cX6_of 55 = .ok (.iload_n 1, 1) := by decide +kernel
theorem dX6_of_56 : decode cX6_of 56 = .ok (.iaload, 1) := by decide +kernel
theorem dX6_of_57 : decode cX6_of 57 = .ok (.ireturn, 1) := by decide +kernel
theorem dX6_of_58 : decode cX6_of 58 = .ok (.aload_n 0, 1) := by decide +kernel
theorem dX6_of_59 : decode cX6_of 59 = .ok (.getfield 12, 3) := by decide +kernel
theorem dX6_of_62 : decode cX6_of 62 = .ok (.getfield 128, 3) := by decide +kernel
theorem dX6_of_65 : decode cX6_of 65 = .ok (.iload_n 1, 1) := by decide +kernel
theorem dX6_of_66 : decode cX6_of 66 = .ok (.iaload, 1) := by decide +kernel
theorem dX6_of_67 : decode cX6_of 67 = .ok (.ireturn, 1) := by decide +kernel
theorem dX6_of_68 : decode cX6_of 68 = .ok (.aload_n 0, 1) := by decide +kernel
theorem dX6_of_69 : decode cX6_of 69 = .ok (.getfield 35, 3) := by decide +kernel
theorem dX6_of_72 : decode cX6_of 72 = .ok (.iload_n 1, 1) := by decide +kernel
theorem dX6_of_73 : decode cX6_of 73 = .ok (.invokevirtual 131, 3) := by decide +kernel
theorem dX6_of_76 : decode cX6_of 76 = .ok (.invokestatic 134, 3) := by decide +kernel
theorem dX6_of_79 : decode cX6_of 79 = .ok (.ireturn, 1) := by decide +kernel
theorem dX6_of_80 : decode cX6_of 80 = .ok (.aload_n 0, 1) := by decide +kernel
theorem dX6_of_81 : decode cX6_of 81 = .ok (.getfield 35, 3) := by decide +kernel
theorem dX6_of_84 : decode cX6_of 84 = .ok (.iload_n 1, 1) := by decide +kernel
theorem dX6_of_85 : decode cX6_of 85 = .ok (.invokevirtual 138, 3) := by decide +kernel
theorem dX6_of_88 : decode cX6_of 88 = .ok (.invokestatic 134, 3) := by decide +kernel
theorem dX6_of_91 : decode cX6_of 91 = .ok (.ireturn, 1) := by decide +kernel
theorem dX6_of_92 : decode cX6_of 92 = .ok (.iconst (-1), 1) := by decide +kernel
theorem dX6_of_93 : decode cX6_of 93 = .ok (.ireturn, 1) := by decide +kernel
theorem dX6_count_0 : decode cX6_count 0 = .ok (.aload_n 0, 1) := by decide +kernel
theorem dX6_count_1 : decode cX6_count 1 = .ok (.invokevirtual 122, 3) := by decide +kernel
theorem dX6_count_4 : decode cX6_count 4 = .ok (.iload_n 1, 1) := by decide +kernel
theorem dX6_count_5 : decode cX6_count 5 = .ok (.tableswitch 129 0 8 #[51, 59, 67, 75, 83, 94, 102, 110, 121], 51) := by decide +kernel
theorem dX6_count_56 : decode cX6_count 56 = .ok (.aload_n 0, 1) := by decide +kernel
theorem dX6_count_57 : decode cX6_count 57 = .ok (.getfield 12, 3) := by decide +kernel
theorem dX6_count_60 : decode cX6_count 60 = .ok (.getfield 141, 3) := by decide +kernel
theorem dX6_count_63 : decode cX6_count 63 = .ok (.ireturn, 1) := by decide +kernel
theorem dX6_count_64 : decode cX6_count 64 = .ok (.aload_n 0, 1) := by decide +kernel
theorem dX6_count_65 : decode cX6_count 65 = .ok (.getfield 12, 3) := by decide +kernel
theorem dX6_count_68 : decode cX6_count 68 = .ok (.getfield 90, 3) := by decide +kernel
theorem dX6_count_71 : decode cX6_count 71 = .ok (.ireturn, 1) := by decide +kernel
theorem dX6_count_72 : decode cX6_count 72 = .ok (.aload_n 0, 1) := by decide +kernel
theorem dX6_count_73 : decode cX6_count 73 = .ok (.getfield 35, 3) := by decide +kernel
theorem dX6_count_76 : decode cX6_count 76 = .ok (.getfield 144, 3) := by decide +kernel
theorem dX6_count_79 : decode cX6_count 79 = .ok (.ireturn, 1) := by decide +kernel
theorem dX6_count_80 : decode cX6_count 80 = .ok (.aload_n 0, 1) := by decide +kernel
theorem dX6_count_81 : decode cX6_count 81 = .ok (.invokevirtual 147, 3) := by decide +kernel
theorem dX6_count_84 : decode cX6_count 84 = .ok (.invokestatic 134, 3) := by decide +kernel
theorem dX6_count_87 : decode cX6_count 87 = .ok (.ireturn, 1) := by decide +kernel
theorem dX6_count_88 : decode cX6_count 88 = .ok (.aload_n 0, 1) := by decide +kernel
theorem dX6_count_89 : decode cX6_count 89 = .ok (.getfield 12, 3) := by decide +kernel
theorem dX6_count_92 : decode cX6_count 92 = .ok (.invokevirtual 151, 3) := by decide +kernel
theorem dX6_count_95 : decode cX6_count 95 = .ok (.invokestatic 134, 3) := by decide +kernel
theorem dX6_count_98 : decode cX6_count 98 = .ok (.ireturn, 1) := by decide +kernel
theorem dX6_count_99 : decode cX6_count 99 = .ok (.aload_n 0, 1) := by decide +kernel
theorem dX6_count_100 : decode cX6_count 100 = .ok (.getfield 42, 3) := by decide +kernel
theorem dX6_count_103 : decode cX6_count 103 = .ok (.getfield 154, 3) := by decide +kernel
theorem dX6_count_106 : decode cX6_count 106 = .ok (.ireturn, 1) := by decide +kernel
theorem dX6_count_107 : decode cX6_count 107 = .ok (.aload_n 0, 1) := by decide +kernel
theorem dX6_count_108 : decode cX6_count 108 = .ok (.getfield 42, 3) := by decide +kernel
theorem dX6_count_111 : decode cX6_count 111 = .ok (.getfield 157, 3) := by decide +kernel
theorem dX6_count_114 : decode cX6_count 114 = .ok (.ireturn, 1) := by decide +kernel
theorem dX6_count_115 : decode cX6_count 115 = .ok (.aload_n 0, 1) := by decide +kernel
theorem dX6_count_116 : decode cX6_count 116 = .ok (.getfield 12, 3) := by decide +kernel
theorem dX6_count_119 : decode cX6_count 119 = .ok (.invokevirtual 160, 3) := by decide +kernel
theorem dX6_count_122 : decode cX6_count 122 = .ok (.bipush 81, 2) := by decide +kernel
theorem dX6_count_124 : decode cX6_count 124 = .ok (.iadd, 1) := by decide +kernel
theorem dX6_count_125 : decode cX6_count 125 = .ok (.ireturn, 1) := by decide +kernel
theorem dX6_count_126 : decode cX6_count 126 = .ok (.aload_n 0, 1) := by decide +kernel
theorem dX6_count_127 : decode cX6_count 127 = .ok (.getfield 25, 3) := by decide +kernel
theorem dX6_count_130 : decode cX6_count 130 = .ok (.getfield 164, 3) := by decide +kernel
theorem dX6_count_133 : decode cX6_count 133 = .ok (.ireturn, 1) := by decide +kernel
theorem dX6_count_134 : decode cX6_count 134 = .ok (.iconst (-1), 1) := by decide +kernel
theorem dX6_count_135 : decode cX6_count 135 = .ok (.ireturn, 1) := by decide +kernel
theorem dX6_stress_0 : decode cX6_stress 0 = .ok (.aload_n 0, 1) := by decide +kernel
theorem dX6_stress_1 : decode cX6_stress 1 = .ok (.invokevirtual 122, 3) := by decide +kernel
theorem dX6_stress_4 : decode cX6_stress 4 = .ok (.iload_n 1, 1) := by decide +kernel
theorem dX6_stress_5 : decode cX6_stress 5 = .ok (.ifCond .lt 32, 3) := by decide +kernel
theorem dX6_stress_8 : decode cX6_stress 8 = .ok (.iload_n 1, 1) := by decide +kernel
theorem dX6_stress_9 : decode cX6_stress 9 = .ok (.aload_n 0, 1) := by decide +kernel
theorem dX6_stress_10 : decode cX6_stress 10 = .ok (.getfield 35, 3) := by decide +kernel
theorem dX6_stress_13 : decode cX6_stress 13 = .ok (.getfield 144, 3) := by decide +kernel
theorem dX6_stress_16 : decode cX6_stress 16 = .ok (.if_icmp .ge 21, 3) := by decide +kernel
theorem dX6_stress_19 : decode cX6_stress 19 = .ok (.aload_n 0, 1) := by decide +kernel
theorem dX6_stress_20 : decode cX6_stress 20 = .ok (.getfield 12, 3) := by decide +kernel
theorem dX6_stress_23 : decode cX6_stress 23 = .ok (.iload_n 2, 1) := by decide +kernel
theorem dX6_stress_24 : decode cX6_stress 24 = .ok (.invokevirtual 100, 3) := by decide +kernel
theorem dX6_stress_27 : decode cX6_stress 27 = .ok (.ifCond .eq 10, 3) := by decide +kernel
theorem dX6_stress_30 : decode cX6_stress 30 = .ok (.iload_n 3, 1) := by decide +kernel
theorem dX6_stress_31 : decode cX6_stress 31 = .ok (.invokestatic 167, 3) := by decide +kernel
theorem dX6_stress_34 : decode cX6_stress 34 = .ok (.ifCond .ne 7, 3) := by decide +kernel
theorem dX6_stress_37 : decode cX6_stress 37 = .ok (.ldc2_w 170, 3) := by decide +kernel
theorem dX6_stress_40 : decode cX6_stress 40 = .ok (.lreturn, 1) := by decide +kernel
theorem dX6_stress_41 : decode cX6_stress 41 = .ok (.aload_n 0, 1) := by decide +kernel
theorem dX6_stress_42 : decode cX6_stress 42 = .ok (.getfield 35, 3) := by decide +kernel
theorem dX6_stress_45 : decode cX6_stress 45 = .ok (.getfield 172, 3) := by decide +kernel
theorem dX6_stress_48 : decode cX6_stress 48 = .ok (.iload_n 1, 1) := by decide +kernel
theorem dX6_stress_49 : decode cX6_stress 49 = .ok (.bipush 9, 2) := by decide +kernel
theorem dX6_stress_51 : decode cX6_stress 51 = .ok (.imul, 1) := by decide +kernel
theorem dX6_stress_52 : decode cX6_stress 52 = .ok (.iload_n 2, 1) := by decide +kernel
theorem dX6_stress_53 : decode cX6_stress 53 = .ok (.iadd, 1) := by decide +kernel
theorem dX6_stress_54 : decode cX6_stress 54 = .ok (.laload, 1) := by decide +kernel
theorem dX6_stress_55 : decode cX6_stress 55 = .ok (.aload_n 0, 1) := by decide +kernel
theorem dX6_stress_56 : decode cX6_stress 56 = .ok (.getfield 35, 3) := by decide +kernel
theorem dX6_stress_59 : decode cX6_stress 59 = .ok (.getfield 176, 3) := by decide +kernel
theorem dX6_stress_62 : decode cX6_stress 62 = .ok (.iload_n 3, 1) := by decide +kernel
theorem dX6_stress_63 : decode cX6_stress 63 = .ok (.invokestatic 180, 3) := by decide +kernel
theorem dX6_stress_66 : decode cX6_stress 66 = .ok (.lreturn, 1) := by decide +kernel
theorem dX6_pull_0 : decode cX6_pull 0 = .ok (.aload_n 0, 1) := by decide +kernel
theorem dX6_pull_1 : decode cX6_pull 1 = .ok (.getfield 12, 3) := by decide +kernel
theorem dX6_pull_4 : decode cX6_pull 4 = .ok (.iload_n 1, 1) := by decide +kernel
theorem dX6_pull_5 : decode cX6_pull 5 = .ok (.invokevirtual 100, 3) := by decide +kernel
theorem dX6_pull_8 : decode cX6_pull 8 = .ok (.ifCond .eq 10, 3) := by decide +kernel
theorem dX6_pull_11 : decode cX6_pull 11 = .ok (.iload_n 2, 1) := by decide +kernel
theorem dX6_pull_12 : decode cX6_pull 12 = .ok (.invokestatic 167, 3) := by decide +kernel
theorem dX6_pull_15 : decode cX6_pull 15 = .ok (.ifCond .ne 7, 3) := by decide +kernel
theorem dX6_pull_18 : decode cX6_pull 18 = .ok (.ldc2_w 170, 3) := by decide +kernel
theorem dX6_pull_21 : decode cX6_pull 21 = .ok (.lreturn, 1) := by decide +kernel
theorem dX6_pull_22 : decode cX6_pull 22 = .ok (.aload_n 0, 1) := by decide +kernel
theorem dX6_pull_23 : decode cX6_pull 23 = .ok (.invokevirtual 122, 3) := by decide +kernel
theorem dX6_pull_26 : decode cX6_pull 26 = .ok (.aload_n 0, 1) := by decide +kernel
theorem dX6_pull_27 : decode cX6_pull 27 = .ok (.getfield 35, 3) := by decide +kernel
theorem dX6_pull_30 : decode cX6_pull 30 = .ok (.getfield 184, 3) := by decide +kernel
theorem dX6_pull_33 : decode cX6_pull 33 = .ok (.iload_n 1, 1) := by decide +kernel
theorem dX6_pull_34 : decode cX6_pull 34 = .ok (.laload, 1) := by decide +kernel
theorem dX6_pull_35 : decode cX6_pull 35 = .ok (.aload_n 0, 1) := by decide +kernel
theorem dX6_pull_36 : decode cX6_pull 36 = .ok (.getfield 35, 3) := by decide +kernel
theorem dX6_pull_39 : decode cX6_pull 39 = .ok (.getfield 176, 3) := by decide +kernel
theorem dX6_pull_42 : decode cX6_pull 42 = .ok (.iload_n 2, 1) := by decide +kernel
theorem dX6_pull_43 : decode cX6_pull 43 = .ok (.invokestatic 180, 3) := by decide +kernel
theorem dX6_pull_46 : decode cX6_pull 46 = .ok (.lreturn, 1) := by decide +kernel
theorem dX6_fail_0 : decode cX6_fail 0 = .ok (.iload_n 1, 1) := by decide +kernel
theorem dX6_fail_1 : decode cX6_fail 1 = .ok (.ifCond .lt 18, 3) := by decide +kernel
theorem dX6_fail_4 : decode cX6_fail 4 = .ok (.iload_n 1, 1) := by decide +kernel
theorem dX6_fail_5 : decode cX6_fail 5 = .ok (.bipush 10, 2) := by decide +kernel
theorem dX6_fail_7 : decode cX6_fail 7 = .ok (.if_icmp .gt 12, 3) := by decide +kernel
theorem dX6_fail_10 : decode cX6_fail 10 = .ok (.iload_n 2, 1) := by decide +kernel
theorem dX6_fail_11 : decode cX6_fail 11 = .ok (.ifCond .lt 8, 3) := by decide +kernel
theorem dX6_fail_14 : decode cX6_fail 14 = .ok (.iload_n 2, 1) := by decide +kernel
theorem dX6_fail_15 : decode cX6_fail 15 = .ok (.iconst 1, 1) := by decide +kernel
theorem dX6_fail_16 : decode cX6_fail 16 = .ok (.if_icmp .le 7, 3) := by decide +kernel
theorem dX6_fail_19 : decode cX6_fail 19 = .ok (.ldc2_w 170, 3) := by decide +kernel
theorem dX6_fail_22 : decode cX6_fail 22 = .ok (.lreturn, 1) := by decide +kernel
theorem dX6_fail_23 : decode cX6_fail 23 = .ok (.aload_n 0, 1) := by decide +kernel
theorem dX6_fail_24 : decode cX6_fail 24 = .ok (.invokevirtual 122, 3) := by decide +kernel
theorem dX6_fail_27 : decode cX6_fail 27 = .ok (.aload_n 0, 1) := by decide +kernel
theorem dX6_fail_28 : decode cX6_fail 28 = .ok (.invokevirtual 147, 3) := by decide +kernel
theorem dX6_fail_31 : decode cX6_fail 31 = .ok (.ifCond .eq 11, 3) := by decide +kernel
theorem dX6_fail_34 : decode cX6_fail 34 = .ok (.aload_n 0, 1) := by decide +kernel
theorem dX6_fail_35 : decode cX6_fail 35 = .ok (.iload_n 1, 1) := by decide +kernel
theorem dX6_fail_36 : decode cX6_fail 36 = .ok (.invokevirtual 187, 3) := by decide +kernel
theorem dX6_fail_39 : decode cX6_fail 39 = .ok (.goto 4, 3) := by decide +kernel
theorem dX6_fail_42 : decode cX6_fail 42 = .ok (.lconst 0, 1) := by decide +kernel
theorem dX6_fail_43 : decode cX6_fail 43 = .ok (.lstore_n 3, 1) := by decide +kernel
theorem dX6_fail_44 : decode cX6_fail 44 = .ok (.lload_n 3, 1) := by decide +kernel
theorem dX6_fail_45 : decode cX6_fail 45 = .ok (.ldc2_w 191, 3) := by decide +kernel
theorem dX6_fail_48 : decode cX6_fail 48 = .ok (.aload_n 0, 1) := by decide +kernel
theorem dX6_fail_49 : decode cX6_fail 49 = .ok (.getfield 12, 3) := by decide +kernel
theorem dX6_fail_52 : decode cX6_fail 52 = .ok (.getfield 90, 3) := by decide +kernel
theorem dX6_fail_55 : decode cX6_fail 55 = .ok (.invokestatic 193, 3) := by decide +kernel
theorem dX6_fail_58 : decode cX6_fail 58 = .ok (.iload_n 2, 1) := by decide +kernel
theorem dX6_fail_59 : decode cX6_fail 59 = .ok (.invokestatic 180, 3) := by decide +kernel
theorem dX6_fail_62 : decode cX6_fail 62 = .ok (.lreturn, 1) := by decide +kernel
theorem dX6_next_0 : decode cX6_next 0 = .ok (.aload_n 0, 1) := by decide +kernel
theorem dX6_next_1 : decode cX6_next 1 = .ok (.getfield 12, 3) := by decide +kernel
theorem dX6_next_4 : decode cX6_next 4 = .ok (.iload_n 1, 1) := by decide +kernel
theorem dX6_next_5 : decode cX6_next 5 = .ok (.invokevirtual 197, 3) := by decide +kernel
theorem dX6_next_8 : decode cX6_next 8 = .ok (.ifCond .ne 5, 3) := by decide +kernel
theorem dX6_next_11 : decode cX6_next 11 = .ok (.iconst (-1), 1) := by decide +kernel
theorem dX6_next_12 : decode cX6_next 12 = .ok (.ireturn, 1) := by decide +kernel
theorem dX6_next_13 : decode cX6_next 13 = .ok (.aload_n 0, 1) := by decide +kernel
theorem dX6_next_14 : decode cX6_next 14 = .ok (.invokevirtual 122, 3) := by decide +kernel
theorem dX6_next_17 : decode cX6_next 17 = .ok (.aload_n 0, 1) := by decide +kernel
theorem dX6_next_18 : decode cX6_next 18 = .ok (.getfield 42, 3) := by decide +kernel
theorem dX6_next_21 : decode cX6_next 21 = .ok (.getfield 200, 3) := by decide +kernel
theorem dX6_next_24 : decode cX6_next 24 = .ok (.iload_n 1, 1) := by decide +kernel
theorem dX6_next_25 : decode cX6_next 25 = .ok (.iaload, 1) := by decide +kernel
theorem dX6_next_26 : decode cX6_next 26 = .ok (.ireturn, 1) := by decide +kernel
theorem dX6_face_0 : decode cX6_face 0 = .ok (.aload_n 0, 1) := by decide +kernel
theorem dX6_face_1 : decode cX6_face 1 = .ok (.invokevirtual 122, 3) := by decide +kernel
theorem dX6_face_4 : decode cX6_face 4 = .ok (.aload_n 0, 1) := by decide +kernel
theorem dX6_face_5 : decode cX6_face 5 = .ok (.getfield 42, 3) := by decide +kernel
theorem dX6_face_8 : decode cX6_face 8 = .ok (.iload_n 1, 1) := by decide +kernel
theorem dX6_face_9 : decode cX6_face 9 = .ok (.invokevirtual 203, 3) := by decide +kernel
theorem dX6_face_12 : decode cX6_face 12 = .ok (.ifCond .ne 5, 3) := by decide +kernel
theorem dX6_face_15 : decode cX6_face 15 = .ok (.iconst (-1), 1) := by decide +kernel
theorem dX6_face_16 : decode cX6_face 16 = .ok (.ireturn, 1) := by decide +kernel
theorem dX6_face_17 : decode cX6_face 17 = .ok (.iload_n 2, 1) := by decide +kernel
theorem dX6_face_18 : decode cX6_face 18 = .ok (.tableswitch 59 0 2 #[26, 36, 49], 26) := by decide +kernel
theorem dX6_face_44 : decode cX6_face 44 = .ok (.aload_n 0, 1) := by decide +kernel
theorem dX6_face_45 : decode cX6_face 45 = .ok (.getfield 42, 3) := by decide +kernel
theorem dX6_face_48 : decode cX6_face 48 = .ok (.getfield 206, 3) := by decide +kernel
theorem dX6_face_51 : decode cX6_face 51 = .ok (.iload_n 1, 1) := by decide +kernel
theorem dX6_face_52 : decode cX6_face 52 = .ok (.iaload, 1) := by decide +kernel
theorem dX6_face_53 : decode cX6_face 53 = .ok (.ireturn, 1) := by decide +kernel
theorem dX6_face_54 : decode cX6_face 54 = .ok (.aload_n 0, 1) := by decide +kernel
theorem dX6_face_55 : decode cX6_face 55 = .ok (.getfield 42, 3) := by decide +kernel
theorem dX6_face_58 : decode cX6_face 58 = .ok (.getfield 209, 3) := by decide +kernel
theorem dX6_face_61 : decode cX6_face 61 = .ok (.iload_n 1, 1) := by decide +kernel
theorem dX6_face_62 : decode cX6_face 62 = .ok (.iaload, 1) := by decide +kernel
theorem dX6_face_63 : decode cX6_face 63 = .ok (.invokestatic 212, 3) := by decide +kernel
theorem dX6_face_66 : decode cX6_face 66 = .ok (.ireturn, 1) := by decide +kernel
theorem dX6_face_67 : decode cX6_face 67 = .ok (.aload_n 0, 1) := by decide +kernel
theorem dX6_face_68 : decode cX6_face 68 = .ok (.getfield 42, 3) := by decide +kernel
theorem dX6_face_71 : decode cX6_face 71 = .ok (.getfield 217, 3) := by decide +kernel
theorem dX6_face_74 : decode cX6_face 74 = .ok (.iload_n 1, 1) := by decide +kernel
theorem dX6_face_75 : decode cX6_face 75 = .ok (.iaload, 1) := by decide +kernel
theorem dX6_face_76 : decode cX6_face 76 = .ok (.ireturn, 1) := by decide +kernel
theorem dX6_face_77 : decode cX6_face 77 = .ok (.iconst (-1), 1) := by decide +kernel
theorem dX6_face_78 : decode cX6_face 78 = .ok (.ireturn, 1) := by decide +kernel
theorem dX6_round_0 : decode cX6_round 0 = .ok (.aload_n 0, 1) := by decide +kernel
theorem dX6_round_1 : decode cX6_round 1 = .ok (.invokevirtual 122, 3) := by decide +kernel
theorem dX6_round_4 : decode cX6_round 4 = .ok (.aload_n 0, 1) := by decide +kernel
theorem dX6_round_5 : decode cX6_round 5 = .ok (.getfield 42, 3) := by decide +kernel
theorem dX6_round_8 : decode cX6_round 8 = .ok (.iload_n 1, 1) := by decide +kernel
theorem dX6_round_9 : decode cX6_round 9 = .ok (.invokevirtual 203, 3) := by decide +kernel
theorem dX6_round_12 : decode cX6_round 12 = .ok (.ifCond .eq 20, 3) := by decide +kernel
theorem dX6_round_15 : decode cX6_round 15 = .ok (.iload_n 2, 1) := by decide +kernel
theorem dX6_round_16 : decode cX6_round 16 = .ok (.ifCond .lt 16, 3) := by decide +kernel
theorem dX6_round_19 : decode cX6_round 19 = .ok (.iload_n 2, 1) := by decide +kernel
theorem dX6_round_20 : decode cX6_round 20 = .ok (.aload_n 0, 1) := by decide +kernel
theorem dX6_round_21 : decode cX6_round 21 = .ok (.getfield 42, 3) := by decide +kernel
theorem dX6_round_24 : decode cX6_round 24 = .ok (.getfield 206, 3) := by decide +kernel
theorem dX6_round_27 : decode cX6_round 27 = .ok (.iload_n 1, 1) := by decide +kernel
theorem dX6_round_28 : decode cX6_round 28 = .ok (.iaload, 1) := by decide +kernel
theorem dX6_round_29 : decode cX6_round 29 = .ok (.if_icmp .lt 5, 3) := by decide +kernel
theorem dX6_round_32 : decode cX6_round 32 = .ok (.iconst (-1), 1) := by decide +kernel
theorem dX6_round_33 : decode cX6_round 33 = .ok (.ireturn, 1) := by decide +kernel
theorem dX6_round_34 : decode cX6_round 34 = .ok (.aload_n 0, 1) := by decide +kernel
theorem dX6_round_35 : decode cX6_round 35 = .ok (.getfield 42, 3) := by decide +kernel
theorem dX6_round_38 : decode cX6_round 38 = .ok (.getfield 217, 3) := by decide +kernel
theorem dX6_round_41 : decode cX6_round 41 = .ok (.iload_n 1, 1) := by decide +kernel
theorem dX6_round_42 : decode cX6_round 42 = .ok (.iaload, 1) := by decide +kernel
theorem dX6_round_43 : decode cX6_round 43 = .ok (.istore_n 3, 1) := by decide +kernel
theorem dX6_round_44 : decode cX6_round 44 = .ok (.iconst 0, 1) := by decide +kernel
theorem dX6_round_45 : decode cX6_round 45 = .ok (.istore 4, 2) := by decide +kernel
theorem dX6_round_47 : decode cX6_round 47 = .ok (.iload 4, 2) := by decide +kernel
theorem dX6_round_49 : decode cX6_round 49 = .ok (.iload_n 2, 1) := by decide +kernel
theorem dX6_round_50 : decode cX6_round 50 = .ok (.if_icmp .ge 19, 3) := by decide +kernel
theorem dX6_round_53 : decode cX6_round 53 = .ok (.aload_n 0, 1) := by decide +kernel
theorem dX6_round_54 : decode cX6_round 54 = .ok (.getfield 42, 3) := by decide +kernel
theorem dX6_round_57 : decode cX6_round 57 = .ok (.getfield 200, 3) := by decide +kernel
theorem dX6_round_60 : decode cX6_round 60 = .ok (.iload_n 3, 1) := by decide +kernel
theorem dX6_round_61 : decode cX6_round 61 = .ok (.iaload, 1) := by decide +kernel
theorem dX6_round_62 : decode cX6_round 62 = .ok (.istore_n 3, 1) := by decide +kernel
theorem dX6_round_63 : decode cX6_round 63 = .ok (.iinc 4 1, 3) := by decide +kernel
theorem dX6_round_66 : decode cX6_round 66 = .ok (.goto (-19), 3) := by decide +kernel
theorem dX6_round_69 : decode cX6_round 69 = .ok (.iload_n 3, 1) := by decide +kernel
theorem dX6_round_70 : decode cX6_round 70 = .ok (.ireturn, 1) := by decide +kernel
theorem dX6_beside_0 : decode cX6_beside 0 = .ok (.aload_n 0, 1) := by decide +kernel
theorem dX6_beside_1 : decode cX6_beside 1 = .ok (.getfield 12, 3) := by decide +kernel
theorem dX6_beside_4 : decode cX6_beside 4 = .ok (.iload_n 1, 1) := by decide +kernel
theorem dX6_beside_5 : decode cX6_beside 5 = .ok (.invokevirtual 197, 3) := by decide +kernel
theorem dX6_beside_8 : decode cX6_beside 8 = .ok (.ifCond .ne 5, 3) := by decide +kernel
theorem dX6_beside_11 : decode cX6_beside 11 = .ok (.iconst (-1), 1) := by decide +kernel
theorem dX6_beside_12 : decode cX6_beside 12 = .ok (.ireturn, 1) := by decide +kernel
theorem dX6_beside_13 : decode cX6_beside 13 = .ok (.aload_n 0, 1) := by decide +kernel
theorem dX6_beside_14 : decode cX6_beside 14 = .ok (.invokevirtual 122, 3) := by decide +kernel
theorem dX6_beside_17 : decode cX6_beside 17 = .ok (.aload_n 0, 1) := by decide +kernel
theorem dX6_beside_18 : decode cX6_beside 18 = .ok (.getfield 42, 3) := by decide +kernel
theorem dX6_beside_21 : decode cX6_beside 21 = .ok (.getfield 220, 3) := by decide +kernel
theorem dX6_beside_24 : decode cX6_beside 24 = .ok (.iload_n 1, 1) := by decide +kernel
theorem dX6_beside_25 : decode cX6_beside 25 = .ok (.iaload, 1) := by decide +kernel
theorem dX6_beside_26 : decode cX6_beside 26 = .ok (.ireturn, 1) := by decide +kernel
theorem dX6_point_0 : decode cX6_point 0 = .ok (.aload_n 0, 1) := by decide +kernel
theorem dX6_point_1 : decode cX6_point 1 = .ok (.invokevirtual 122, 3) := by decide +kernel
theorem dX6_point_4 : decode cX6_point 4 = .ok (.aload_n 0, 1) := by decide +kernel
theorem dX6_point_5 : decode cX6_point 5 = .ok (.getfield 42, 3) := by decide +kernel
theorem dX6_point_8 : decode cX6_point 8 = .ok (.iload_n 1, 1) := by decide +kernel
theorem dX6_point_9 : decode cX6_point 9 = .ok (.invokevirtual 203, 3) := by decide +kernel
theorem dX6_point_12 : decode cX6_point 12 = .ok (.ifCond .eq 19, 3) := by decide +kernel
theorem dX6_point_15 : decode cX6_point 15 = .ok (.iload_n 2, 1) := by decide +kernel
theorem dX6_point_16 : decode cX6_point 16 = .ok (.ifCond .lt 15, 3) := by decide +kernel
theorem dX6_point_19 : decode cX6_point 19 = .ok (.iload_n 2, 1) := by decide +kernel
theorem dX6_point_20 : decode cX6_point 20 = .ok (.iconst 1, 1) := by decide +kernel
theorem dX6_point_21 : decode cX6_point 21 = .ok (.if_icmp .gt 10, 3) := by decide +kernel
theorem dX6_point_24 : decode cX6_point 24 = .ok (.iload_n 3, 1) := by decide +kernel
theorem dX6_point_25 : decode cX6_point 25 = .ok (.invokestatic 167, 3) := by decide +kernel
theorem dX6_point_28 : decode cX6_point 28 = .ok (.ifCond .ne 7, 3) := by decide +kernel
theorem dX6_point_31 : decode cX6_point 31 = .ok (.ldc2_w 170, 3) := by decide +kernel
theorem dX6_point_34 : decode cX6_point 34 = .ok (.lreturn, 1) := by decide +kernel
theorem dX6_point_35 : decode cX6_point 35 = .ok (.aload_n 0, 1) := by decide +kernel
theorem dX6_point_36 : decode cX6_point 36 = .ok (.getfield 42, 3) := by decide +kernel
theorem dX6_point_39 : decode cX6_point 39 = .ok (.getfield 157, 3) := by decide +kernel
theorem dX6_point_42 : decode cX6_point 42 = .ok (.ifCond .ge 7, 3) := by decide +kernel
theorem dX6_point_45 : decode cX6_point 45 = .ok (.ldc2_w 223, 3) := by decide +kernel
theorem dX6_point_48 : decode cX6_point 48 = .ok (.lreturn, 1) := by decide +kernel
theorem dX6_point_49 : decode cX6_point 49 = .ok (.iload_n 2, 1) := by decide +kernel
theorem dX6_point_50 : decode cX6_point 50 = .ok (.ifCond .ne 15, 3) := by decide +kernel
theorem dX6_point_53 : decode cX6_point 53 = .ok (.aload_n 0, 1) := by decide +kernel
theorem dX6_point_54 : decode cX6_point 54 = .ok (.getfield 42, 3) := by decide +kernel
theorem dX6_point_57 : decode cX6_point 57 = .ok (.getfield 225, 3) := by decide +kernel
theorem dX6_point_60 : decode cX6_point 60 = .ok (.iload_n 1, 1) := by decide +kernel
theorem dX6_point_61 : decode cX6_point 61 = .ok (.laload, 1) := by decide +kernel
theorem dX6_point_62 : decode cX6_point 62 = .ok (.goto 12, 3) := by decide +kernel
theorem dX6_point_65 : decode cX6_point 65 = .ok (.aload_n 0, 1) := by decide +kernel
theorem dX6_point_66 : decode cX6_point 66 = .ok (.getfield 42, 3) := by decide +kernel
theorem dX6_point_69 : decode cX6_point 69 = .ok (.getfield 228, 3) := by decide +kernel
theorem dX6_point_72 : decode cX6_point 72 = .ok (.iload_n 1, 1) := by decide +kernel
theorem dX6_point_73 : decode cX6_point 73 = .ok (.laload, 1) := by decide +kernel
theorem dX6_point_74 : decode cX6_point 74 = .ok (.aload_n 0, 1) := by decide +kernel
theorem dX6_point_75 : decode cX6_point 75 = .ok (.getfield 35, 3) := by decide +kernel
theorem dX6_point_78 : decode cX6_point 78 = .ok (.getfield 176, 3) := by decide +kernel
theorem dX6_point_81 : decode cX6_point 81 = .ok (.iload_n 3, 1) := by decide +kernel
theorem dX6_point_82 : decode cX6_point 82 = .ok (.invokestatic 180, 3) := by decide +kernel
theorem dX6_point_85 : decode cX6_point 85 = .ok (.lreturn, 1) := by decide +kernel
theorem dX6_plane_0 : decode cX6_plane 0 = .ok (.aload_n 0, 1) := by decide +kernel
theorem dX6_plane_1 : decode cX6_plane 1 = .ok (.invokevirtual 122, 3) := by decide +kernel
theorem dX6_plane_4 : decode cX6_plane 4 = .ok (.aload_n 0, 1) := by decide +kernel
theorem dX6_plane_5 : decode cX6_plane 5 = .ok (.getfield 42, 3) := by decide +kernel
theorem dX6_plane_8 : decode cX6_plane 8 = .ok (.iload_n 1, 1) := by decide +kernel
theorem dX6_plane_9 : decode cX6_plane 9 = .ok (.invokevirtual 203, 3) := by decide +kernel
theorem dX6_plane_12 : decode cX6_plane 12 = .ok (.ifCond .eq 19, 3) := by decide +kernel
theorem dX6_plane_15 : decode cX6_plane 15 = .ok (.iload_n 2, 1) := by decide +kernel
theorem dX6_plane_16 : decode cX6_plane 16 = .ok (.ifCond .lt 15, 3) := by decide +kernel
theorem dX6_plane_19 : decode cX6_plane 19 = .ok (.iload_n 2, 1) := by decide +kernel
theorem dX6_plane_20 : decode cX6_plane 20 = .ok (.iconst 2, 1) := by decide +kernel
theorem dX6_plane_21 : decode cX6_plane 21 = .ok (.if_icmp .gt 10, 3) := by decide +kernel
theorem dX6_plane_24 : decode cX6_plane 24 = .ok (.iload_n 3, 1) := by decide +kernel
theorem dX6_plane_25 : decode cX6_plane 25 = .ok (.invokestatic 167, 3) := by decide +kernel
theorem dX6_plane_28 : decode cX6_plane 28 = .ok (.ifCond .ne 7, 3) := by decide +kernel
theorem dX6_plane_31 : decode cX6_plane 31 = .ok (.ldc2_w 170, 3) := by decide +kernel
theorem dX6_plane_34 : decode cX6_plane 34 = .ok (.lreturn, 1) := by decide +kernel
theorem dX6_plane_35 : decode cX6_plane 35 = .ok (.aload_n 0, 1) := by decide +kernel
theorem dX6_plane_36 : decode cX6_plane 36 = .ok (.getfield 42, 3) := by decide +kernel
theorem dX6_plane_39 : decode cX6_plane 39 = .ok (.getfield 157, 3) := by decide +kernel
theorem dX6_plane_42 : decode cX6_plane 42 = .ok (.ifCond .ge 7, 3) := by decide +kernel
theorem dX6_plane_45 : decode cX6_plane 45 = .ok (.ldc2_w 223, 3) := by decide +kernel
theorem dX6_plane_48 : decode cX6_plane 48 = .ok (.lreturn, 1) := by decide +kernel
theorem dX6_plane_49 : decode cX6_plane 49 = .ok (.aload_n 0, 1) := by decide +kernel
theorem dX6_plane_50 : decode cX6_plane 50 = .ok (.getfield 42, 3) := by decide +kernel
theorem dX6_plane_53 : decode cX6_plane 53 = .ok (.iload_n 1, 1) := by decide +kernel
theorem dX6_plane_54 : decode cX6_plane 54 = .ok (.iload_n 2, 1) := by decide +kernel
theorem dX6_plane_55 : decode cX6_plane 55 = .ok (.invokevirtual 231, 3) := by decide +kernel
theorem dX6_plane_58 : decode cX6_plane 58 = .ok (.aload_n 0, 1) := by decide +kernel
theorem dX6_plane_59 : decode cX6_plane 59 = .ok (.getfield 35, 3) := by decide +kernel
theorem dX6_plane_62 : decode cX6_plane 62 = .ok (.getfield 176, 3) := by decide +kernel
theorem dX6_plane_65 : decode cX6_plane 65 = .ok (.iload_n 3, 1) := by decide +kernel
theorem dX6_plane_66 : decode cX6_plane 66 = .ok (.invokestatic 180, 3) := by decide +kernel
theorem dX6_plane_69 : decode cX6_plane 69 = .ok (.lreturn, 1) := by decide +kernel
theorem dX6_height_0 : decode cX6_height 0 = .ok (.aload_n 0, 1) := by decide +kernel
theorem dX6_height_1 : decode cX6_height 1 = .ok (.getfield 12, 3) := by decide +kernel
theorem dX6_height_4 : decode cX6_height 4 = .ok (.iload_n 1, 1) := by decide +kernel
theorem dX6_height_5 : decode cX6_height 5 = .ok (.invokevirtual 82, 3) := by decide +kernel
theorem dX6_height_8 : decode cX6_height 8 = .ok (.ifCond .eq 10, 3) := by decide +kernel
theorem dX6_height_11 : decode cX6_height 11 = .ok (.iload_n 2, 1) := by decide +kernel
theorem dX6_height_12 : decode cX6_height 12 = .ok (.invokestatic 167, 3) := by decide +kernel
theorem dX6_height_15 : decode cX6_height 15 = .ok (.ifCond .ne 7, 3) := by decide +kernel
theorem dX6_height_18 : decode cX6_height 18 = .ok (.ldc2_w 170, 3) := by decide +kernel
theorem dX6_height_21 : decode cX6_height 21 = .ok (.lreturn, 1) := by decide +kernel
theorem dX6_height_22 : decode cX6_height 22 = .ok (.aload_n 0, 1) := by decide +kernel
theorem dX6_height_23 : decode cX6_height 23 = .ok (.invokevirtual 122, 3) := by decide +kernel
theorem dX6_height_26 : decode cX6_height 26 = .ok (.aload_n 0, 1) := by decide +kernel
theorem dX6_height_27 : decode cX6_height 27 = .ok (.getfield 42, 3) := by decide +kernel
theorem dX6_height_30 : decode cX6_height 30 = .ok (.getfield 157, 3) := by decide +kernel
theorem dX6_height_33 : decode cX6_height 33 = .ok (.ifCond .ge 7, 3) := by decide +kernel
theorem dX6_height_36 : decode cX6_height 36 = .ok (.ldc2_w 223, 3) := by decide +kernel
theorem dX6_height_39 : decode cX6_height 39 = .ok (.lreturn, 1) := by decide +kernel
theorem dX6_height_40 : decode cX6_height 40 = .ok (.aload_n 0, 1) := by decide +kernel
theorem dX6_height_41 : decode cX6_height 41 = .ok (.getfield 42, 3) := by decide +kernel
theorem dX6_height_44 : decode cX6_height 44 = .ok (.aload_n 0, 1) := by decide +kernel
theorem dX6_height_45 : decode cX6_height 45 = .ok (.getfield 12, 3) := by decide +kernel
theorem dX6_height_48 : decode cX6_height 48 = .ok (.iload_n 1, 1) := by decide +kernel
theorem dX6_height_49 : decode cX6_height 49 = .ok (.invokevirtual 235, 3) := by decide +kernel
theorem dX6_height_52 : decode cX6_height 52 = .ok (.aload_n 0, 1) := by decide +kernel
theorem dX6_height_53 : decode cX6_height 53 = .ok (.getfield 35, 3) := by decide +kernel
theorem dX6_height_56 : decode cX6_height 56 = .ok (.getfield 176, 3) := by decide +kernel
theorem dX6_height_59 : decode cX6_height 59 = .ok (.iload_n 2, 1) := by decide +kernel
theorem dX6_height_60 : decode cX6_height 60 = .ok (.invokestatic 180, 3) := by decide +kernel
theorem dX6_height_63 : decode cX6_height 63 = .ok (.lreturn, 1) := by decide +kernel
theorem dX6_corner_0 : decode cX6_corner 0 = .ok (.aload_n 0, 1) := by decide +kernel
theorem dX6_corner_1 : decode cX6_corner 1 = .ok (.getfield 12, 3) := by decide +kernel
theorem dX6_corner_4 : decode cX6_corner 4 = .ok (.iload_n 1, 1) := by decide +kernel
theorem dX6_corner_5 : decode cX6_corner 5 = .ok (.invokevirtual 82, 3) := by decide +kernel
theorem dX6_corner_8 : decode cX6_corner 8 = .ok (.ifCond .eq 36, 3) := by decide +kernel
theorem dX6_corner_11 : decode cX6_corner 11 = .ok (.iload_n 2, 1) := by decide +kernel
theorem dX6_corner_12 : decode cX6_corner 12 = .ok (.ifCond .lt 32, 3) := by decide +kernel
theorem dX6_corner_15 : decode cX6_corner 15 = .ok (.iload_n 2, 1) := by decide +kernel
theorem dX6_corner_16 : decode cX6_corner 16 = .ok (.aload_n 0, 1) := by decide +kernel
theorem dX6_corner_17 : decode cX6_corner 17 = .ok (.getfield 12, 3) := by decide +kernel
theorem dX6_corner_20 : decode cX6_corner 20 = .ok (.iload_n 1, 1) := by decide +kernel
theorem dX6_corner_21 : decode cX6_corner 21 = .ok (.invokevirtual 78, 3) := by decide +kernel
theorem dX6_corner_24 : decode cX6_corner 24 = .ok (.if_icmp .gt 20, 3) := by decide +kernel
theorem dX6_corner_27 : decode cX6_corner 27 = .ok (.iload_n 3, 1) := by decide +kernel
theorem dX6_corner_28 : decode cX6_corner 28 = .ok (.ifCond .lt 16, 3) := by decide +kernel
theorem dX6_corner_31 : decode cX6_corner 31 = .ok (.iload_n 3, 1) := by decide +kernel
theorem dX6_corner_32 : decode cX6_corner 32 = .ok (.iconst 1, 1) := by decide +kernel
theorem dX6_corner_33 : decode cX6_corner 33 = .ok (.if_icmp .gt 11, 3) := by decide +kernel
