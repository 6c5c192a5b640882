theorem dX10_init_0 : decode cX10_init 0 = .ok (.aload_n 0, 1) := by decide +kernel
theorem dX10_init_1 : decode cX10_init 1 = .ok (.invokespecial 1, 3) := by decide +kernel
theorem dX10_init_4 : decode cX10_init 4 = .ok (.aload_n 0, 1) := by decide +kernel
theorem dX10_init_5 : decode cX10_init 5 = .ok (.bipush 7, 2) := by decide +kernel
theorem dX10_init_7 : decode cX10_init 7 = .ok (.newarray .int, 2) := by decide +kernel
theorem dX10_init_9 : decode cX10_init 9 = .ok (.putfield 7, 3) := by decide +kernel
theorem dX10_init_12 : decode cX10_init 12 = .ok (.aload_n 0, 1) := by decide +kernel
theorem dX10_init_13 : decode cX10_init 13 = .ok (.bipush 7, 2) := by decide +kernel
theorem dX10_init_15 : decode cX10_init 15 = .ok (.newarray .int, 2) := by decide +kernel
theorem dX10_init_17 : decode cX10_init 17 = .ok (.putfield 13, 3) := by decide +kernel
theorem dX10_init_20 : decode cX10_init 20 = .ok (.aload_n 0, 1) := by decide +kernel
theorem dX10_init_21 : decode cX10_init 21 = .ok (.bipush 10, 2) := by decide +kernel
theorem dX10_init_23 : decode cX10_init 23 = .ok (.newarray .long, 2) := by decide +kernel
theorem dX10_init_25 : decode cX10_init 25 = .ok (.putfield 16, 3) := by decide +kernel
theorem dX10_init_28 : decode cX10_init 28 = .ok (.aload_n 0, 1) := by decide +kernel
theorem dX10_init_29 : decode cX10_init 29 = .ok (.iconst 2, 1) := by decide +kernel
theorem dX10_init_30 : decode cX10_init 30 = .ok (.newarray .long, 2) := by decide +kernel
theorem dX10_init_32 : decode cX10_init 32 = .ok (.putfield 20, 3) := by decide +kernel
theorem dX10_init_35 : decode cX10_init 35 = .ok (.aload_n 0, 1) := by decide +kernel
theorem dX10_init_36 : decode cX10_init 36 = .ok (.iconst 2, 1) := by decide +kernel
theorem dX10_init_37 : decode cX10_init 37 = .ok (.newarray .boolean, 2) := by decide +kernel
theorem dX10_init_39 : decode cX10_init 39 = .ok (.putfield 23, 3) := by decide +kernel
theorem dX10_init_42 : decode cX10_init 42 = .ok (.aload_n 0, 1) := by decide +kernel
theorem dX10_init_43 : decode cX10_init 43 = .ok (.bipush 6, 2) := by decide +kernel
theorem dX10_init_45 : decode cX10_init 45 = .ok (.newarray .int, 2) := by decide +kernel
theorem dX10_init_47 : decode cX10_init 47 = .ok (.putfield 27, 3) := by decide +kernel
theorem dX10_init_50 : decode cX10_init 50 = .ok (.aload_n 0, 1) := by decide +kernel
theorem dX10_init_51 : decode cX10_init 51 = .ok (.bipush 6, 2) := by decide +kernel
theorem dX10_init_53 : decode cX10_init 53 = .ok (.newarray .int, 2) := by decide +kernel
theorem dX10_init_55 : decode cX10_init 55 = .ok (.putfield 30, 3) := by decide +kernel
theorem dX10_init_58 : decode cX10_init 58 = .ok (.aload_n 0, 1) := by decide +kernel
theorem dX10_init_59 : decode cX10_init 59 = .ok (.bipush 64, 2) := by decide +kernel
theorem dX10_init_61 : decode cX10_init 61 = .ok (.newarray .int, 2) := by decide +kernel
theorem dX10_init_63 : decode cX10_init 63 = .ok (.putfield 33, 3) := by decide +kernel
theorem dX10_init_66 : decode cX10_init 66 = .ok (.aload_n 0, 1) := by decide +kernel
theorem dX10_init_67 : decode cX10_init 67 = .ok (.bipush 64, 2) := by decide +kernel
theorem dX10_init_69 : decode cX10_init 69 = .ok (.newarray .int, 2) := by decide +kernel
theorem dX10_init_71 : decode cX10_init 71 = .ok (.putfield 36, 3) := by decide +kernel
theorem dX10_init_74 : decode cX10_init 74 = .ok (.aload_n 0, 1) := by decide +kernel
theorem dX10_init_75 : decode cX10_init 75 = .ok (.sipush 150, 3) := by decide +kernel
theorem dX10_init_78 : decode cX10_init 78 = .ok (.newarray .int, 2) := by decide +kernel
theorem dX10_init_80 : decode cX10_init 80 = .ok (.putfield 39, 3) := by decide +kernel
theorem dX10_init_83 : decode cX10_init 83 = .ok (.aload_n 0, 1) := by decide +kernel
theorem dX10_init_84 : decode cX10_init 84 = .ok (.invokevirtual 42, 3) := by decide +kernel
theorem dX10_init_87 : decode cX10_init 87 = .ok (.aload_n 0, 1) := by decide +kernel
theorem dX10_init_88 : decode cX10_init 88 = .ok (.invokevirtual 45, 3) := by decide +kernel
theorem dX10_init_91 : decode cX10_init 91 = .ok (.return_, 1) := by decide +kernel
theorem dX10_in_0 : decode cX10_in 0 = .ok (.iload_n 0, 1) := by decide +kernel
theorem dX10_in_1 : decode cX10_in 1 = .ok (.iload_n 1, 1) := by decide +kernel
theorem dX10_in_2 : decode cX10_in 2 = .ok (.if_icmp .lt 12, 3) := by decide +kernel
theorem dX10_in_5 : decode cX10_in 5 = .ok (.iload_n 0, 1) := by decide +kernel
theorem dX10_in_6 : decode cX10_in 6 = .ok (.iload_n 2, 1) := by decide +kernel
theorem dX10_in_7 : decode cX10_in 7 = .ok (.if_icmp .gt 7, 3) := by decide +kernel
theorem dX10_in_10 : decode cX10_in 10 = .ok (.iconst 1, 1) := by decide +kernel
theorem dX10_in_11 : decode cX10_in 11 = .ok (.goto 4, 3) := by decide +kernel
theorem dX10_in_14 : decode cX10_in 14 = .ok (.iconst 0, 1) := by decide +kernel
theorem dX10_in_15 : decode cX10_in 15 = .ok (.ireturn, 1) := by decide +kernel
theorem dX10_has_0 : decode cX10_has 0 = .ok (.lload_n 0, 1) := by decide +kernel
theorem dX10_has_1 : decode cX10_has 1 = .ok (.iload_n 2, 1) := by decide +kernel
theorem dX10_has_2 : decode cX10_has 2 = .ok (.lshr, 1) := by decide +kernel
theorem dX10_has_3 : decode cX10_has 3 = .ok (.lconst 1, 1) := by decide +kernel
theorem dX10_has_4 : decode cX10_has 4 = .ok (.land, 1) := by decide +kernel
theorem dX10_has_5 : decode cX10_has 5 = .ok (.lconst 1, 1) := by decide +kernel
theorem dX10_has_6 : decode cX10_has 6 = .ok (.lcmp, 1) := by decide +kernel
theorem dX10_has_7 : decode cX10_has 7 = .ok (.ifCond .ne 7, 3) := by decide +kernel
theorem dX10_has_10 : decode cX10_has 10 = .ok (.iconst 1, 1) := by decide +kernel
theorem dX10_has_11 : decode cX10_has 11 = .ok (.goto 4, 3) := by decide +kernel
theorem dX10_has_14 : decode cX10_has 14 = .ok (.iconst 0, 1) := by decide +kernel
theorem dX10_has_15 : decode cX10_has 15 = .ok (.ireturn, 1) := by decide +kernel
theorem dX10_ones_0 : decode cX10_ones 0 = .ok (.iconst 0, 1) := by decide +kernel
theorem dX10_ones_1 : decode cX10_ones 1 = .ok (.istore_n 2, 1) := by decide +kernel
theorem dX10_ones_2 : decode cX10_ones 2 = .ok (.iconst 0, 1) := by decide +kernel
theorem dX10_ones_3 : decode cX10_ones 3 = .ok (.istore_n 3, 1) := by decide +kernel
theorem dX10_ones_4 : decode cX10_ones 4 = .ok (.iload_n 3, 1) := by decide +kernel
theorem dX10_ones_5 : decode cX10_ones 5 = .ok (.bipush 64, 2) := by decide +kernel
theorem dX10_ones_7 : decode cX10_ones 7 = .ok (.if_icmp .ge 25, 3) := by decide +kernel
theorem dX10_ones_10 : decode cX10_ones 10 = .ok (.iload_n 2, 1) := by decide +kernel
theorem dX10_ones_11 : decode cX10_ones 11 = .ok (.lload_n 0, 1) := by decide +kernel
theorem dX10_ones_12 : decode cX10_ones 12 = .ok (.iload_n 3, 1) := by decide +kernel
theorem dX10_ones_13 : decode cX10_ones 13 = .ok (.invokestatic 52, 3) := by decide +kernel
theorem dX10_ones_16 : decode cX10_ones 16 = .ok (.ifCond .eq 7, 3) := by decide +kernel
theorem dX10_ones_19 : decode cX10_ones 19 = .ok (.iconst 1, 1) := by decide +kernel
theorem dX10_ones_20 : decode cX10_ones 20 = .ok (.goto 4, 3) := by decide +kernel
theorem dX10_ones_23 : decode cX10_ones 23 = .ok (.iconst 0, 1) := by decide +kernel
theorem dX10_ones_24 : decode cX10_ones 24 = .ok (.iadd, 1) := by decide +kernel
theorem dX10_ones_25 : decode cX10_ones 25 = .ok (.istore_n 2, 1) := by decide +kernel
theorem dX10_ones_26 : decode cX10_ones 26 = .ok (.iinc 3 1, 3) := by decide +kernel
theorem dX10_ones_29 : decode cX10_ones 29 = .ok (.goto (-25), 3) := by decide +kernel
theorem dX10_ones_32 : decode cX10_ones 32 = .ok (.iload_n 2, 1) := by decide +kernel
theorem dX10_ones_33 : decode cX10_ones 33 = .ok (.ireturn, 1) := by decide +kernel
theorem dX10_type_0 : decode cX10_type 0 = .ok (.aload_n 0, 1) := by decide +kernel
theorem dX10_type_1 : decode cX10_type 1 = .ok (.iconst 0, 1) := by decide +kernel
theorem dX10_type_2 : decode cX10_type 2 = .ok (.putfield 48, 3) := by decide +kernel
theorem dX10_type_5 : decode cX10_type 5 = .ok (.iload_n 1, 1) := by decide +kernel
theorem dX10_type_6 : decode cX10_type 6 = .ok (.iconst 0, 1) := by decide +kernel
theorem dX10_type_7 : decode cX10_type 7 = .ok (.sipush 255, 3) := by decide +kernel
theorem dX10_type_10 : decode cX10_type 10 = .ok (.invokestatic 56, 3) := by decide +kernel
theorem dX10_type_13 : decode cX10_type 13 = .ok (.ifCond .ne 5, 3) := by decide +kernel
theorem dX10_type_16 : decode cX10_type 16 = .ok (.iconst (-1), 1) := by decide +kernel
theorem dX10_type_17 : decode cX10_type 17 = .ok (.ireturn, 1) := by decide +kernel
theorem dX10_type_18 : decode cX10_type 18 = .ok (.aload_n 0, 1) := by decide +kernel
theorem dX10_type_19 : decode cX10_type 19 = .ok (.getfield 60, 3) := by decide +kernel
theorem dX10_type_22 : decode cX10_type 22 = .ok (.sipush 150, 3) := by decide +kernel
theorem dX10_type_25 : decode cX10_type 25 = .ok (.if_icmp .ne 6, 3) := by decide +kernel
theorem dX10_type_28 : decode cX10_type 28 = .ok (.bipush (-3), 2) := by decide +kernel
theorem dX10_type_30 : decode cX10_type 30 = .ok (.ireturn, 1) := by decide +kernel
theorem dX10_type_31 : decode cX10_type 31 = .ok (.aload_n 0, 1) := by decide +kernel
theorem dX10_type_32 : decode cX10_type 32 = .ok (.getfield 39, 3) := by decide +kernel
theorem dX10_type_35 : decode cX10_type 35 = .ok (.aload_n 0, 1) := by decide +kernel
theorem dX10_type_36 : decode cX10_type 36 = .ok (.getfield 60, 3) := by decide +kernel
theorem dX10_type_39 : decode cX10_type 39 = .ok (.iload_n 1, 1) := by decide +kernel
theorem dX10_type_40 : decode cX10_type 40 = .ok (.iastore, 1) := by decide +kernel
theorem dX10_type_41 : decode cX10_type 41 = .ok (.aload_n 0, 1) := by decide +kernel
theorem dX10_type_42 : decode cX10_type 42 = .ok (.dup, 1) := by decide +kernel
theorem dX10_type_43 : decode cX10_type 43 = .ok (.getfield 60, 3) := by decide +kernel
theorem dX10_type_46 : decode cX10_type 46 = .ok (.iconst 1, 1) := by decide +kernel
theorem dX10_type_47 : decode cX10_type 47 = .ok (.iadd, 1) := by decide +kernel
theorem dX10_type_48 : decode cX10_type 48 = .ok (.putfield 60, 3) := by decide +kernel
theorem dX10_type_51 : decode cX10_type 51 = .ok (.aload_n 0, 1) := by decide +kernel
theorem dX10_type_52 : decode cX10_type 52 = .ok (.getfield 60, 3) := by decide +kernel
theorem dX10_type_55 : decode cX10_type 55 = .ok (.ireturn, 1) := by decide +kernel
theorem dX10_clear_0 : decode cX10_clear 0 = .ok (.aload_n 0, 1) := by decide +kernel
theorem dX10_clear_1 : decode cX10_clear 1 = .ok (.iconst 0, 1) := by decide +kernel
theorem dX10_clear_2 : decode cX10_clear 2 = .ok (.putfield 48, 3) := by decide +kernel
theorem dX10_clear_5 : decode cX10_clear 5 = .ok (.aload_n 0, 1) := by decide +kernel
theorem dX10_clear_6 : decode cX10_clear 6 = .ok (.getfield 60, 3) := by decide +kernel
theorem dX10_clear_9 : decode cX10_clear 9 = .ok (.istore_n 1, 1) := by decide +kernel
theorem dX10_clear_10 : decode cX10_clear 10 = .ok (.aload_n 0, 1) := by decide +kernel
theorem dX10_clear_11 : decode cX10_clear 11 = .ok (.iconst 0, 1) := by decide +kernel
theorem dX10_clear_12 : decode cX10_clear 12 = .ok (.putfield 60, 3) := by decide +kernel
theorem dX10_clear_15 : decode cX10_clear 15 = .ok (.iload_n 1, 1) := by decide +kernel
theorem dX10_clear_16 : decode cX10_clear 16 = .ok (.ireturn, 1) := by decide +kernel
theorem dX10_isFigure_0 : decode cX10_isFigure 0 = .ok (.iload_n 1, 1) := by decide +kernel
theorem dX10_isFigure_1 : decode cX10_isFigure 1 = .ok (.aload_n 0, 1) := by decide +kernel
theorem dX10_isFigure_2 : decode cX10_isFigure 2 = .ok (.getfield 60, 3) := by decide +kernel
theorem dX10_isFigure_5 : decode cX10_isFigure 5 = .ok (.if_icmp .ge 23, 3) := by decide +kernel
theorem dX10_isFigure_8 : decode cX10_isFigure 8 = .ok (.aload_n 0, 1) := by decide +kernel
theorem dX10_isFigure_9 : decode cX10_isFigure 9 = .ok (.getfield 39, 3) := by decide +kernel
theorem dX10_isFigure_12 : decode cX10_isFigure 12 = .ok (.iload_n 1, 1) := by decide +kernel
theorem dX10_isFigure_13 : decode cX10_isFigure 13 = .ok (.iaload, 1) := by decide +kernel
theorem dX10_isFigure_14 : decode cX10_isFigure 14 = .ok (.bipush 48, 2) := by decide +kernel
theorem dX10_isFigure_16 : decode cX10_isFigure 16 = .ok (.bipush 57, 2) := by decide +kernel
theorem dX10_isFigure_18 : decode cX10_isFigure 18 = .ok (.invokestatic 56, 3) := by decide +kernel
theorem dX10_isFigure_21 : decode cX10_isFigure 21 = .ok (.ifCond .eq 7, 3) := by decide +kernel
theorem dX10_isFigure_24 : decode cX10_isFigure 24 = .ok (.iconst 1, 1) := by decide +kernel
theorem dX10_isFigure_25 : decode cX10_isFigure 25 = .ok (.goto 4, 3) := by decide +kernel
theorem dX10_isFigure_28 : decode cX10_isFigure 28 = .ok (.iconst 0, 1) := by decide +kernel
theorem dX10_isFigure_29 : decode cX10_isFigure 29 = .ok (.ireturn, 1) := by decide +kernel
theorem dX10_takes_0 : decode cX10_takes 0 = .ok (.aload_n 0, 1) := by decide +kernel
theorem dX10_takes_1 : decode cX10_takes 1 = .ok (.getfield 63, 3) := by decide +kernel
theorem dX10_takes_4 : decode cX10_takes 4 = .ok (.aload_n 0, 1) := by decide +kernel
theorem dX10_takes_5 : decode cX10_takes 5 = .ok (.getfield 60, 3) := by decide +kernel
theorem dX10_takes_8 : decode cX10_takes 8 = .ok (.if_icmp .ge 30, 3) := by decide +kernel
theorem dX10_takes_11 : decode cX10_takes 11 = .ok (.aload_n 0, 1) := by decide +kernel
theorem dX10_takes_12 : decode cX10_takes 12 = .ok (.getfield 39, 3) := by decide +kernel
theorem dX10_takes_15 : decode cX10_takes 15 = .ok (.aload_n 0, 1) := by decide +kernel
theorem dX10_takes_16 : decode cX10_takes 16 = .ok (.getfield 63, 3) := by decide +kernel
theorem dX10_takes_19 : decode cX10_takes 19 = .ok (.iaload, 1) := by decide +kernel
theorem dX10_takes_20 : decode cX10_takes 20 = .ok (.bipush 32, 2) := by decide +kernel
theorem dX10_takes_22 : decode cX10_takes 22 = .ok (.if_icmp .ne 16, 3) := by decide +kernel
theorem dX10_takes_25 : decode cX10_takes 25 = .ok (.aload_n 0, 1) := by decide +kernel
theorem dX10_takes_26 : decode cX10_takes 26 = .ok (.dup, 1) := by decide +kernel
theorem dX10_takes_27 : decode cX10_takes 27 = .ok (.getfield 63, 3) := by decide +kernel
theorem dX10_takes_30 : decode cX10_takes 30 = .ok (.iconst 1, 1) := by decide +kernel
theorem dX10_takes_31 : decode cX10_takes 31 = .ok (.iadd, 1) := by decide +kernel
theorem dX10_takes_32 : decode cX10_takes 32 = .ok (.putfield 63, 3) := by decide +kernel
theorem dX10_takes_35 : decode cX10_takes 35 = .ok (.goto (-35), 3) := by decide +kernel
theorem dX10_takes_38 : decode cX10_takes 38 = .ok (.aload_n 0, 1) := by decide +kernel
theorem dX10_takes_39 : decode cX10_takes 39 = .ok (.aload_n 0, 1) := by decide +kernel
theorem dX10_takes_40 : decode cX10_takes 40 = .ok (.getfield 63, 3) := by decide +kernel
theorem dX10_takes_43 : decode cX10_takes 43 = .ok (.putfield 66, 3) := by decide +kernel
theorem dX10_takes_46 : decode cX10_takes 46 = .ok (.aload_n 0, 1) := by decide +kernel
theorem dX10_takes_47 : decode cX10_takes 47 = .ok (.aload_n 0, 1) := by decide +kernel
theorem dX10_takes_48 : decode cX10_takes 48 = .ok (.getfield 63, 3) := by decide +kernel
theorem dX10_takes_51 : decode cX10_takes 51 = .ok (.aload_n 0, 1) := by decide +kernel
theorem dX10_takes_52 : decode cX10_takes 52 = .ok (.getfield 60, 3) := by decide +kernel
theorem dX10_takes_55 : decode cX10_takes 55 = .ok (.if_icmp .ge 15, 3) := by decide +kernel
theorem dX10_takes_58 : decode cX10_takes 58 = .ok (.aload_n 0, 1) := by decide +kernel
theorem dX10_takes_59 : decode cX10_takes 59 = .ok (.getfield 39, 3) := by decide +kernel
theorem dX10_takes_62 : decode cX10_takes 62 = .ok (.aload_n 0, 1) := by decide +kernel
theorem dX10_takes_63 : decode cX10_takes 63 = .ok (.getfield 63, 3) := by decide +kernel
theorem dX10_takes_66 : decode cX10_takes 66 = .ok (.iaload, 1) := by decide +kernel
theorem dX10_takes_67 : decode cX10_takes 67 = .ok (.goto 4, 3) := by decide +kernel
theorem dX10_takes_70 : decode cX10_takes 70 = .ok (.iconst (-1), 1) := by decide +kernel
theorem dX10_takes_71 : decode cX10_takes 71 = .ok (.putfield 69, 3) := by decide +kernel
theorem dX10_takes_74 : decode cX10_takes 74 = .ok (.aload_n 0, 1) := by decide +kernel
theorem dX10_takes_75 : decode cX10_takes 75 = .ok (.aload_n 0, 1) := by decide +kernel
theorem dX10_takes_76 : decode cX10_takes 76 = .ok (.getfield 63, 3) := by decide +kernel
theorem dX10_takes_79 : decode cX10_takes 79 = .ok (.invokevirtual 72, 3) := by decide +kernel
theorem dX10_takes_82 : decode cX10_takes 82 = .ok (.ifCond .ne 29, 3) := by decide +kernel
theorem dX10_takes_85 : decode cX10_takes 85 = .ok (.aload_n 0, 1) := by decide +kernel
theorem dX10_takes_86 : decode cX10_takes 86 = .ok (.dup, 1) := by decide +kernel
theorem dX10_takes_87 : decode cX10_takes 87 = .ok (.getfield 63, 3) := by decide +kernel
theorem dX10_takes_90 : decode cX10_takes 90 = .ok (.aload_n 0, 1) := by decide +kernel
theorem dX10_takes_91 : decode cX10_takes 91 = .ok (.getfield 63, 3) := by decide +kernel
theorem dX10_takes_94 : decode cX10_takes 94 = .ok (.aload_n 0, 1) := by decide +kernel
theorem dX10_takes_95 : decode cX10_takes 95 = .ok (.getfield 60, 3) := by decide +kernel
theorem dX10_takes_98 : decode cX10_takes 98 = .ok (.if_icmp .ge 7, 3) := by decide +kernel
theorem dX10_takes_101 : decode cX10_takes 101 = .ok (.iconst 1, 1) := by decide +kernel
theorem dX10_takes_102 : decode cX10_takes 102 = .ok (.goto 4, 3) := by decide +kernel
theorem dX10_takes_105 : decode cX10_takes 105 = .ok (.iconst 0, 1) := by decide +kernel
theorem dX10_takes_106 : decode cX10_takes 106 = .ok (.iadd, 1) := by decide +kernel
theorem dX10_takes_107 : decode cX10_takes 107 = .ok (.putfield 63, 3) := by decide +kernel
theorem dX10_takes_110 : decode cX10_takes 110 = .ok (.return_, 1) := by decide +kernel
theorem dX10_takes_111 : decode cX10_takes 111 = .ok (.iconst 0, 1) := by decide +kernel
theorem dX10_takes_112 : decode cX10_takes 112 = .ok (.istore_n 1, 1) := by decide +kernel
theorem dX10_takes_113 : decode cX10_takes 113 = .ok (.aload_n 0, 1) := by decide +kernel
theorem dX10_takes_114 : decode cX10_takes 114 = .ok (.aload_n 0, 1) := by decide +kernel
theorem dX10_takes_115 : decode cX10_takes 115 = .ok (.getfield 63, 3) := by decide +kernel
theorem dX10_takes_118 : decode cX10_takes 118 = .ok (.invokevirtual 72, 3) := by decide +kernel
theorem dX10_takes_121 : decode cX10_takes 121 = .ok (.ifCond .eq 45, 3) := by decide +kernel
theorem dX10_takes_124 : decode cX10_takes 124 = .ok (.iload_n 1, 1) := by decide +kernel
theorem dX10_takes_125 : decode cX10_takes 125 = .ok (.sipush 999, 3) := by decide +kernel
theorem dX10_takes_128 : decode cX10_takes 128 = .ok (.if_icmp .le 7, 3) := by decide +kernel
theorem dX10_takes_131 : decode cX10_takes 131 = .ok (.iload_n 1, 1) := by decide +kernel
theorem dX10_takes_132 : decode cX10_takes 132 = .ok (.goto 20, 3) := by decide +kernel
theorem dX10_takes_135 : decode cX10_takes 135 = .ok (.bipush 10, 2) := by decide +kernel
theorem dX10_takes_137 : decode cX10_takes 137 = .ok (.iload_n 1, 1) := by decide +kernel
theorem dX10_takes_138 : decode cX10_takes 138 = .ok (.imul, 1) := by decide +kernel
theorem dX10_takes_139 : decode cX10_takes 139 = .ok (.aload_n 0, 1) := by decide +kernel
theorem dX10_takes_140 : decode cX10_takes 140 = .ok (.getfield 39, 3) := by decide +kernel
theorem dX10_takes_143 : decode cX10_takes 143 = .ok (.aload_n 0, 1) := by decide +kernel
theorem dX10_takes_144 : decode cX10_takes 144 = .ok (.getfield 63, 3) := by decide +kernel
theorem dX10_takes_147 : decode cX10_takes 147 = .ok (.iaload, 1) := by decide +kernel
theorem dX10_takes_148 : decode cX10_takes 148 = .ok (.iadd, 1) := by decide +kernel
theorem dX10_takes_149 : decode cX10_takes 149 = .ok (.bipush 48, 2) := by decide +kernel
theorem dX10_takes_151 : decode cX10_takes 151 = .ok (.isub, 1) := by decide +kernel
theorem dX10_takes_152 : decode cX10_takes 152 = .ok (.istore_n 1, 1) := by decide +kernel
theorem dX10_takes_153 : decode cX10_takes 153 = .ok (.aload_n 0, 1) := by decide +kernel
theorem dX10_takes_154 : decode cX10_takes 154 = .ok (.dup, 1) := by decide +kernel
theorem dX10_takes_155 : decode cX10_takes 155 = .ok (.getfield 63, 3) := by decide +kernel
theorem dX10_takes_158 : decode cX10_takes 158 = .ok (.iconst 1, 1) := by decide +kernel
theorem dX10_takes_159 : decode cX10_takes 159 = .ok (.iadd, 1) := by decide +kernel
theorem dX10_takes_160 : decode cX10_takes 160 = .ok (.putfield 63, 3) := by decide +kernel
theorem dX10_takes_163 : decode cX10_takes 163 = .ok (.goto (-50), 3) := by decide +kernel
theorem dX10_takes_166 : decode cX10_takes 166 = .ok (.aload_n 0, 1) := by decide +kernel
theorem dX10_takes_167 : decode cX10_takes 167 = .ok (.iload_n 1, 1) := by decide +kernel
theorem dX10_takes_168 : decode cX10_takes 168 = .ok (.sipush 999, 3) := by decide +kernel
theorem dX10_takes_171 : decode cX10_takes 171 = .ok (.if_icmp .gt 30, 3) := by decide +kernel
theorem dX10_takes_174 : decode cX10_takes 174 = .ok (.aload_n 0, 1) := by decide +kernel
theorem dX10_takes_175 : decode cX10_takes 175 = .ok (.getfield 39, 3) := by decide +kernel
theorem dX10_takes_178 : decode cX10_takes 178 = .ok (.aload_n 0, 1) := by decide +kernel
theorem dX10_takes_179 : decode cX10_takes 179 = .ok (.getfield 66, 3) := by decide +kernel
theorem dX10_takes_182 : decode cX10_takes 182 = .ok (.iaload, 1) := by decide +kernel
theorem dX10_takes_183 : decode cX10_takes 183 = .ok (.bipush 48, 2) := by decide +kernel
theorem dX10_takes_185 : decode cX10_takes 185 = .ok (.if_icmp .ne 22, 3) := by decide +kernel
theorem dX10_takes_188 : decode cX10_takes 188 = .ok (.aload_n 0, 1) := by decide +kernel
theorem dX10_takes_189 : decode cX10_takes 189 = .ok (.getfield 63, 3) := by decide +kernel
theorem dX10_takes_192 : decode cX10_takes 192 = .ok (.aload_n 0, 1) := by decide +kernel
theorem dX10_takes_193 : decode cX10_takes 193 = .ok (.getfield 66, 3) := by decide +kernel
theorem dX10_takes_196 : decode cX10_takes 196 = .ok (.iconst 1, 1) := by decide +kernel
theorem dX10_takes_197 : decode cX10_takes 197 = .ok (.iadd, 1) := by decide +kernel
theorem dX10_takes_198 : decode cX10_takes 198 = .ok (.if_icmp .le 9, 3) := by decide +kernel
theorem dX10_takes_201 : decode cX10_takes 201 = .ok (.sipush 3000, 3) := by decide +kernel
theorem dX10_takes_204 : decode cX10_takes 204 = .ok (.goto 8, 3) := by decide +kernel
theorem dX10_takes_207 : decode cX10_takes 207 = .ok (.sipush 1000, 3) := by decide +kernel
theorem dX10_takes_210 : decode cX10_takes 210 = .ok (.iload_n 1, 1) := by decide +kernel
theorem dX10_takes_211 : decode cX10_takes 211 = .ok (.iadd, 1) := by decide +kernel
theorem dX10_takes_212 : decode cX10_takes 212 = .ok (.putfield 69, 3) := by decide +kernel
theorem dX10_takes_215 : decode cX10_takes 215 = .ok (.return_, 1) := by decide +kernel
theorem dX10_number_0 : decode cX10_number 0 = .ok (.aload_n 0, 1) := by decide +kernel
theorem dX10_number_1 : decode cX10_number 1 = .ok (.getfield 69, 3) := by decide +kernel
theorem dX10_number_4 : decode cX10_number 4 = .ok (.sipush 1000, 3) := by decide +kernel
theorem dX10_number_7 : decode cX10_number 7 = .ok (.isub, 1) := by decide +kernel
theorem dX10_number_8 : decode cX10_number 8 = .ok (.ireturn, 1) := by decide +kernel
theorem dX10_reads_0 : decode cX10_reads 0 = .ok (.aload_n 0, 1) := by decide +kernel
theorem dX10_reads_1 : decode cX10_reads 1 = .ok (.invokevirtual 76, 3) := by decide +kernel
theorem dX10_reads_4 : decode cX10_reads 4 = .ok (.aload_n 0, 1) := by decide +kernel
theorem dX10_reads_5 : decode cX10_reads 5 = .ok (.getfield 69, 3) := by decide +kernel
theorem dX10_reads_8 : decode cX10_reads 8 = .ok (.sipush 1000, 3) := by decide +kernel
theorem dX10_reads_11 : decode cX10_reads 11 = .ok (.iload_n 1, 1) := by decide +kernel
theorem dX10_reads_12 : decode cX10_reads 12 = .ok (.iadd, 1) := by decide +kernel
theorem dX10_reads_13 : decode cX10_reads 13 = .ok (.sipush 1000, 3) := by decide +kernel
theorem dX10_reads_16 : decode cX10_reads 16 = .ok (.iload_n 2, 1) := by decide +kernel
theorem dX10_reads_17 : decode cX10_reads 17 = .ok (.iadd, 1) := by decide +kernel
theorem dX10_reads_18 : decode cX10_reads 18 = .ok (.invokestatic 56, 3) := by decide +kernel
theorem dX10_reads_21 : decode cX10_reads 21 = .ok (.ireturn, 1) := by decide +kernel
theorem dX10_readsTo_0 : decode cX10_readsTo 0 = .ok (.aload_n 0, 1) := by decide +kernel
theorem dX10_readsTo_1 : decode cX10_readsTo 1 = .ok (.iload_n 2, 1) := by decide +kernel
theorem dX10_readsTo_2 : decode cX10_readsTo 2 = .ok (.iload_n 3, 1) := by decide +kernel
theorem dX10_readsTo_3 : decode cX10_readsTo 3 = .ok (.invokevirtual 79, 3) := by decide +kernel
theorem dX10_readsTo_6 : decode cX10_readsTo 6 = .ok (.istore 4, 2) := by decide +kernel
theorem dX10_readsTo_8 : decode cX10_readsTo 8 = .ok (.aload_n 0, 1) := by decide +kernel
theorem dX10_readsTo_9 : decode cX10_readsTo 9 = .ok (.getfield 13, 3) := by decide +kernel
theorem dX10_readsTo_12 : decode cX10_readsTo 12 = .ok (.iload_n 1, 1) := by decide +kernel
theorem dX10_readsTo_13 : decode cX10_readsTo 13 = .ok (.iload 4, 2) := by decide +kernel
theorem dX10_readsTo_15 : decode cX10_readsTo 15 = .ok (.ifCond .eq 10, 3) := by decide +kernel
theorem dX10_readsTo_18 : decode cX10_readsTo 18 = .ok (.aload_n 0, 1) := by decide +kernel
theorem dX10_readsTo_19 : decode cX10_readsTo 19 = .ok (.invokevirtual 83, 3) := by decide +kernel
theorem dX10_readsTo_22 : decode cX10_readsTo 22 = .ok (.goto 9, 3) := by decide +kernel
theorem dX10_readsTo_25 : decode cX10_readsTo 25 = .ok (.aload_n 0, 1) := by decide +kernel
theorem dX10_readsTo_26 : decode cX10_readsTo 26 = .ok (.getfield 13, 3) := by decide +kernel
theorem dX10_readsTo_29 : decode cX10_readsTo 29 = .ok (.iload_n 1, 1) := by decide +kernel
theorem dX10_readsTo_30 : decode cX10_readsTo 30 = .ok (.iaload, 1) := by decide +kernel
theorem dX10_readsTo_31 : decode cX10_readsTo 31 = .ok (.iastore, 1) := by decide +kernel
theorem dX10_readsTo_32 : decode cX10_readsTo 32 = .ok (.iload 4, 2) := by decide +kernel
theorem dX10_readsTo_34 : decode cX10_readsTo 34 = .ok (.ireturn, 1) := by decide +kernel
theorem dX10_readsCell_0 : decode cX10_readsCell 0 = .ok (.aload_n 0, 1) := by decide +kernel
theorem dX10_readsCell_1 : decode cX10_readsCell 1 = .ok (.iconst 0, 1) := by decide +kernel
theorem dX10_readsCell_2 : decode cX10_readsCell 2 = .ok (.aload_n 0, 1) := by decide +kernel
theorem dX10_readsCell_3 : decode cX10_readsCell 3 = .ok (.getfield 13, 3) := by decide +kernel
theorem dX10_readsCell_6 : decode cX10_readsCell 6 = .ok (.iconst 0, 1) := by decide +kernel
theorem dX10_readsCell_7 : decode cX10_readsCell 7 = .ok (.iaload, 1) := by decide +kernel
theorem dX10_readsCell_8 : decode cX10_readsCell 8 = .ok (.iconst 1, 1) := by decide +kernel
theorem dX10_readsCell_9 : decode cX10_readsCell 9 = .ok (.isub, 1) := by decide +kernel
theorem dX10_readsCell_10 : decode cX10_readsCell 10 = .ok (.invokevirtual 79, 3) := by decide +kernel
theorem dX10_readsCell_13 : decode cX10_readsCell 13 = .ok (.ifCond .ne 5, 3) := by decide +kernel
theorem dX10_readsCell_16 : decode cX10_readsCell 16 = .ok (.iconst 0, 1) := by decide +kernel
theorem dX10_readsCell_17 : decode cX10_readsCell 17 = .ok (.ireturn, 1) := by decide +kernel
theorem dX10_readsCell_18 : decode cX10_readsCell 18 = .ok (.aload_n 0, 1) := by decide +kernel
theorem dX10_readsCell_19 : decode cX10_readsCell 19 = .ok (.invokevirtual 83, 3) := by decide +kernel
theorem dX10_readsCell_22 : decode cX10_readsCell 22 = .ok (.istore_n 2, 1) := by decide +kernel
theorem dX10_readsCell_23 : decode cX10_readsCell 23 = .ok (.aload_n 0, 1) := by decide +kernel
theorem dX10_readsCell_24 : decode cX10_readsCell 24 = .ok (.iconst 0, 1) := by decide +kernel
theorem dX10_readsCell_25 : decode cX10_readsCell 25 = .ok (.aload_n 0, 1) := by decide +kernel
theorem dX10_readsCell_26 : decode cX10_readsCell 26 = .ok (.getfield 13, 3) := by decide +kernel
theorem dX10_readsCell_29 : decode cX10_readsCell 29 = .ok (.iconst 1, 1) := by decide +kernel
theorem dX10_readsCell_30 : decode cX10_readsCell 30 = .ok (.iaload, 1) := by decide +kernel
theorem dX10_readsCell_31 : decode cX10_readsCell 31 = .ok (.iconst 1, 1) := by decide +kernel
theorem dX10_readsCell_32 : decode cX10_readsCell 32 = .ok (.isub, 1) := by decide +kernel
theorem dX10_readsCell_33 : decode cX10_readsCell 33 = .ok (.invokevirtual 79, 3) := by decide +kernel
theorem dX10_readsCell_36 : decode cX10_readsCell 36 = .ok (.ifCond .ne 5, 3) := by decide +kernel
theorem dX10_readsCell_39 : decode cX10_readsCell 39 = .ok (.iconst 0, 1) := by decide +kernel
theorem dX10_readsCell_40 : decode cX10_readsCell 40 = .ok (.ireturn, 1) := by decide +kernel
theorem dX10_readsCell_41 : decode cX10_readsCell 41 = .ok (.aload_n 0, 1) := by decide +kernel
theorem dX10_readsCell_42 : decode cX10_readsCell 42 = .ok (.invokevirtual 83, 3) := by decide +kernel
theorem dX10_readsCell_45 : decode cX10_readsCell 45 = .ok (.aload_n 0, 1) := by decide +kernel
theorem dX10_readsCell_46 : decode cX10_readsCell 46 = .ok (.getfield 13, 3) := by decide +kernel
theorem dX10_readsCell_49 : decode cX10_readsCell 49 = .ok (.iconst 0, 1) := by decide +kernel
theorem dX10_readsCell_50 : decode cX10_readsCell 50 = .ok (.iaload, 1) := by decide +kernel
theorem dX10_readsCell_51 : decode cX10_readsCell 51 = .ok (.imul, 1) := by decide +kernel
theorem dX10_readsCell_52 : decode cX10_readsCell 52 = .ok (.iload_n 2, 1) := by decide +kernel
theorem dX10_readsCell_53 : decode cX10_readsCell 53 = .ok (.iadd, 1) := by decide +kernel
theorem dX10_readsCell_54 : decode cX10_readsCell 54 = .ok (.istore_n 3, 1) := by decide +kernel
theorem dX10_readsCell_55 : decode cX10_readsCell 55 = .ok (.aload_n 0, 1) := by decide +kernel
theorem dX10_readsCell_56 : decode cX10_readsCell 56 = .ok (.getfield 87, 3) := by decide +kernel
theorem dX10_readsCell_59 : decode cX10_readsCell 59 = .ok (.aload_n 0, 1) := by decide +kernel
theorem dX10_readsCell_60 : decode cX10_readsCell 60 = .ok (.getfield 91, 3) := by decide +kernel
theorem dX10_readsCell_63 : decode cX10_readsCell 63 = .ok (.lor, 1) := by decide +kernel
theorem dX10_readsCell_64 : decode cX10_readsCell 64 = .ok (.iload_n 3, 1) := by decide +kernel
theorem dX10_readsCell_65 : decode cX10_readsCell 65 = .ok (.invokestatic 52, 3) := by decide +kernel
theorem dX10_readsCell_68 : decode cX10_readsCell 68 = .ok (.ifCond .eq 5, 3) := by decide +kernel
theorem dX10_readsCell_71 : decode cX10_readsCell 71 = .ok (.iconst 0, 1) := by decide +kernel
theorem dX10_readsCell_72 : decode cX10_readsCell 72 = .ok (.ireturn, 1) := by decide +kernel
theorem dX10_readsCell_73 : decode cX10_readsCell 73 = .ok (.aload_n 0, 1) := by decide +kernel
theorem dX10_readsCell_74 : decode cX10_readsCell 74 = .ok (.dup, 1) := by decide +kernel
theorem dX10_readsCell_75 : decode cX10_readsCell 75 = .ok (.getfield 87, 3) := by decide +kernel
theorem dX10_readsCell_78 : decode cX10_readsCell 78 = .ok (.iload_n 1, 1) := by decide +kernel
theorem dX10_readsCell_79 : decode cX10_readsCell 79 = .ok (.ifCond .eq 9, 3) := by decide +kernel
theorem dX10_readsCell_82 : decode cX10_readsCell 82 = .ok (.lconst 1, 1) := by decide +kernel
theorem dX10_readsCell_83 : decode cX10_readsCell 83 = .ok (.iload_n 3, 1) := by decide +kernel
theorem dX10_readsCell_84 : decode cX10_readsCell 84 = .ok (.lshl, 1) := by decide +kernel
theorem dX10_readsCell_85 : decode cX10_readsCell 85 = .ok (.goto 4, 3) := by decide +kernel
theorem dX10_readsCell_88 : decode cX10_readsCell 88 = .ok (.lconst 0, 1) := by decide +kernel
theorem dX10_readsCell_89 : decode cX10_readsCell 89 = .ok (.lor, 1) := by decide +kernel
theorem dX10_readsCell_90 : decode cX10_readsCell 90 = .ok (.putfield 87, 3) := by decide +kernel
theorem dX10_readsCell_93 : decode cX10_readsCell 93 = .ok (.aload_n 0, 1) := by decide +kernel
theorem dX10_readsCell_94 : decode cX10_readsCell 94 = .ok (.dup, 1) := by decide +kernel
theorem dX10_readsCell_95 : decode cX10_readsCell 95 = .ok (.getfield 91, 3) := by decide +kernel
theorem dX10_readsCell_98 : decode cX10_readsCell 98 = .ok (.iload_n 1, 1) := by decide +kernel
theorem dX10_readsCell_99 : decode cX10_readsCell 99 = .ok (.ifCond .eq 7, 3) := by decide +kernel
theorem dX10_readsCell_102 : decode cX10_readsCell 102 = .ok (.lconst 0, 1) := by decide +kernel
theorem dX10_readsCell_103 : decode cX10_readsCell 103 = .ok (.goto 6, 3) := by decide +kernel
theorem dX10_readsCell_106 : decode cX10_readsCell 106 = .ok (.lconst 1, 1) := by decide +kernel
theorem dX10_readsCell_107 : decode cX10_readsCell 107 = .ok (.iload_n 3, 1) := by decide +kernel
theorem dX10_readsCell_108 : decode cX10_readsCell 108 = .ok (.lshl, 1) := by decide +kernel
theorem dX10_readsCell_109 : decode cX10_readsCell 109 = .ok (.lor, 1) := by decide +kernel
theorem dX10_readsCell_110 : decode cX10_readsCell 110 = .ok (.putfield 91, 3) := by decide +kernel
theorem dX10_readsCell_113 : decode cX10_readsCell 113 = .ok (.iconst 1, 1) := by decide +kernel
theorem dX10_readsCell_114 : decode cX10_readsCell 114 = .ok (.ireturn, 1) := by decide +kernel
theorem dX10_item_0 : decode cX10_item 0 = .ok (.aload_n 0, 1) := by decide +kernel
theorem dX10_item_1 : decode cX10_item 1 = .ok (.getfield 69, 3) := by decide +kernel
theorem dX10_item_4 : decode cX10_item 4 = .ok (.lookupswitch 162 #[(97, 123), (100, 156), (103, 52), (107, 84), (115, 150)], 52) := by decide +kernel
theorem dX10_item_56 : decode cX10_item 56 = .ok (.iload_n 1, 1) := by decide +kernel
theorem dX10_item_57 : decode cX10_item 57 = .ok (.ifCond .ne 29, 3) := by decide +kernel
theorem dX10_item_60 : decode cX10_item 60 = .ok (.aload_n 0, 1) := by decide +kernel
theorem dX10_item_61 : decode cX10_item 61 = .ok (.iconst 0, 1) := by decide +kernel
theorem dX10_item_62 : decode cX10_item 62 = .ok (.iconst 1, 1) := by decide +kernel
theorem dX10_item_63 : decode cX10_item 63 = .ok (.bipush 8, 2) := by decide +kernel
theorem dX10_item_65 : decode cX10_item 65 = .ok (.invokevirtual 94, 3) := by decide +kernel
theorem dX10_item_68 : decode cX10_item 68 = .ok (.ifCond .eq 18, 3) := by decide +kernel
theorem dX10_item_71 : decode cX10_item 71 = .ok (.aload_n 0, 1) := by decide +kernel
theorem dX10_item_72 : decode cX10_item 72 = .ok (.iconst 1, 1) := by decide +kernel
theorem dX10_item_73 : decode cX10_item 73 = .ok (.iconst 1, 1) := by decide +kernel
theorem dX10_item_74 : decode cX10_item 74 = .ok (.bipush 8, 2) := by decide +kernel
theorem dX10_item_76 : decode cX10_item 76 = .ok (.invokevirtual 94, 3) := by decide +kernel
theorem dX10_item_79 : decode cX10_item 79 = .ok (.ifCond .eq 7, 3) := by decide +kernel
theorem dX10_item_82 : decode cX10_item 82 = .ok (.iconst 1, 1) := by decide +kernel
theorem dX10_item_83 : decode cX10_item 83 = .ok (.goto 4, 3) := by decide +kernel
theorem dX10_item_86 : decode cX10_item 86 = .ok (.iconst 0, 1) := by decide +kernel
theorem dX10_item_87 : decode cX10_item 87 = .ok (.ireturn, 1) := by decide +kernel
theorem dX10_item_88 : decode cX10_item 88 = .ok (.aload_n 0, 1) := by decide +kernel
theorem dX10_item_89 : decode cX10_item 89 = .ok (.iconst 2, 1) := by decide +kernel
theorem dX10_item_90 : decode cX10_item 90 = .ok (.iconst 0, 1) := by decide +kernel
theorem dX10_item_91 : decode cX10_item 91 = .ok (.iconst 2, 1) := by decide +kernel
theorem dX10_item_92 : decode cX10_item 92 = .ok (.invokevirtual 94, 3) := by decide +kernel
theorem dX10_item_95 : decode cX10_item 95 = .ok (.ifCond .eq 30, 3) := by decide +kernel
theorem dX10_item_98 : decode cX10_item 98 = .ok (.aload_n 0, 1) := by decide +kernel
theorem dX10_item_99 : decode cX10_item 99 = .ok (.iconst 3, 1) := by decide +kernel
theorem dX10_item_100 : decode cX10_item 100 = .ok (.iconst 1, 1) := by decide +kernel
theorem dX10_item_101 : decode cX10_item 101 = .ok (.sipush 999, 3) := by decide +kernel
theorem dX10_item_104 : decode cX10_item 104 = .ok (.invokevirtual 94, 3) := by decide +kernel
theorem dX10_item_107 : decode cX10_item 107 = .ok (.ifCond .eq 18, 3) := by decide +kernel
theorem dX10_item_110 : decode cX10_item 110 = .ok (.aload_n 0, 1) := by decide +kernel
theorem dX10_item_111 : decode cX10_item 111 = .ok (.iconst 4, 1) := by decide +kernel
theorem dX10_item_112 : decode cX10_item 112 = .ok (.iconst 1, 1) := by decide +kernel
theorem dX10_item_113 : decode cX10_item 113 = .ok (.bipush 99, 2) := by decide +kernel
theorem dX10_item_115 : decode cX10_item 115 = .ok (.invokevirtual 94, 3) := by decide +kernel
theorem dX10_item_118 : decode cX10_item 118 = .ok (.ifCond .eq 7, 3) := by decide +kernel
theorem dX10_item_121 : decode cX10_item 121 = .ok (.iconst 1, 1) := by decide +kernel
theorem dX10_item_122 : decode cX10_item 122 = .ok (.goto 4, 3) := by decide +kernel
theorem dX10_item_125 : decode cX10_item 125 = .ok (.iconst 0, 1) := by decide +kernel
theorem dX10_item_126 : decode cX10_item 126 = .ok (.ireturn, 1) := by decide +kernel
theorem dX10_item_127 : decode cX10_item 127 = .ok (.aload_n 0, 1) := by decide +kernel
theorem dX10_item_128 : decode cX10_item 128 = .ok (.iconst 5, 1) := by decide +kernel
theorem dX10_item_129 : decode cX10_item 129 = .ok (.iconst 1, 1) := by decide +kernel
theorem dX10_item_130 : decode cX10_item 130 = .ok (.iconst 4, 1) := by decide +kernel
theorem dX10_item_131 : decode cX10_item 131 = .ok (.invokevirtual 94, 3) := by decide +kernel
theorem dX10_item_134 : decode cX10_item 134 = .ok (.ifCond .eq 18, 3) := by decide +kernel
theorem dX10_item_137 : decode cX10_item 137 = .ok (.aload_n 0, 1) := by decide +kernel
theorem dX10_item_138 : decode cX10_item 138 = .ok (.bipush 6, 2) := by decide +kernel
theorem dX10_item_140 : decode cX10_item 140 = .ok (.iconst 1, 1) := by decide +kernel
theorem dX10_item_141 : decode cX10_item 141 = .ok (.iconst 4, 1) := by decide +kernel
theorem dX10_item_142 : decode cX10_item 142 = .ok (.invokevirtual 94, 3) := by decide +kernel
theorem dX10_item_145 : decode cX10_item 145 = .ok (.ifCond .eq 7, 3) := by decide +kernel
theorem dX10_item_148 : decode cX10_item 148 = .ok (.iconst 1, 1) := by decide +kernel
theorem dX10_item_149 : decode cX10_item 149 = .ok (.goto 4, 3) := by decide +kernel
theorem dX10_item_152 : decode cX10_item 152 = .ok (.iconst 0, 1) := by decide +kernel
theorem dX10_item_153 : decode cX10_item 153 = .ok (.ireturn, 1) := by decide +kernel
theorem dX10_item_154 : decode cX10_item 154 = .ok (.aload_n 0, 1) := by decide +kernel
theorem dX10_item_155 : decode cX10_item 155 = .ok (.iconst 1, 1) := by decide +kernel
theorem dX10_item_156 : decode cX10_item 156 = .ok (.invokevirtual 97, 3) := by decide +kernel
theorem dX10_item_159 : decode cX10_item 159 = .ok (.ireturn, 1) := by decide +kernel
theorem dX10_item_160 : decode cX10_item 160 = .ok (.aload_n 0, 1) := by decide +kernel
theorem dX10_item_161 : decode cX10_item 161 = .ok (.iconst 0, 1) := by decide +kernel
theorem dX10_item_162 : decode cX10_item 162 = .ok (.invokevirtual 97, 3) := by decide +kernel
theorem dX10_item_165 : decode cX10_item 165 = .ok (.ireturn, 1) := by decide +kernel
theorem dX10_item_166 : decode cX10_item 166 = .ok (.iconst 0, 1) := by decide +kernel
theorem dX10_item_167 : decode cX10_item 167 = .ok (.ireturn, 1) := by decide +kernel
theorem dX10_begins_0 : decode cX10_begins 0 = .ok (.aload_n 0, 1) := by decide +kernel
theorem dX10_begins_1 : decode cX10_begins 1 = .ok (.getfield 13, 3) := by decide +kernel
theorem dX10_begins_4 : decode cX10_begins 4 = .ok (.iconst 0, 1) := by decide +kernel
theorem dX10_begins_5 : decode cX10_begins 5 = .ok (.iconst 4, 1) := by decide +kernel
theorem dX10_begins_6 : decode cX10_begins 6 = .ok (.iastore, 1) := by decide +kernel
theorem dX10_begins_7 : decode cX10_begins 7 = .ok (.aload_n 0, 1) := by decide +kernel
theorem dX10_begins_8 : decode cX10_begins 8 = .ok (.getfield 13, 3) := by decide +kernel
theorem dX10_begins_11 : decode cX10_begins 11 = .ok (.iconst 1, 1) := by decide +kernel
theorem dX10_begins_12 : decode cX10_begins 12 = .ok (.iconst 4, 1) := by decide +kernel
theorem dX10_begins_13 : decode cX10_begins 13 = .ok (.iastore, 1) := by decide +kernel
theorem dX10_begins_14 : decode cX10_begins 14 = .ok (.aload_n 0, 1) := by decide +kernel
theorem dX10_begins_15 : decode cX10_begins 15 = .ok (.getfield 13, 3) := by decide +kernel
theorem dX10_begins_18 : decode cX10_begins 18 = .ok (.iconst 2, 1) := by decide +kernel
theorem dX10_begins_19 : decode cX10_begins 19 = .ok (.iconst 0, 1) := by decide +kernel
theorem dX10_begins_20 : decode cX10_begins 20 = .ok (.iastore, 1) := by decide +kernel
theorem dX10_begins_21 : decode cX10_begins 21 = .ok (.aload_n 0, 1) := by decide +kernel
theorem dX10_begins_22 : decode cX10_begins 22 = .ok (.getfield 13, 3) := by decide +kernel
theorem dX10_begins_25 : decode cX10_begins 25 = .ok (.iconst 3, 1) := by decide +kernel
theorem dX10_begins_26 : decode cX10_begins 26 = .ok (.bipush 100, 2) := by decide +kernel
theorem dX10_begins_28 : decode cX10_begins 28 = .ok (.iastore, 1) := by decide +kernel
theorem dX10_begins_29 : decode cX10_begins 29 = .ok (.aload_n 0, 1) := by decide +kernel
theorem dX10_begins_30 : decode cX10_begins 30 = .ok (.getfield 13, 3) := by decide +kernel
theorem dX10_begins_33 : decode cX10_begins 33 = .ok (.iconst 4, 1) := by decide +kernel
theorem dX10_begins_34 : decode cX10_begins 34 = .ok (.iconst 1, 1) := by decide +kernel
theorem dX10_begins_35 : decode cX10_begins 35 = .ok (.iastore, 1) := by decide +kernel
theorem dX10_begins_36 : decode cX10_begins 36 = .ok (.aload_n 0, 1) := by decide +kernel
theorem dX10_begins_37 : decode cX10_begins 37 = .ok (.getfield 13, 3) := by decide +kernel
theorem dX10_begins_40 : decode cX10_begins 40 = .ok (.iconst 5, 1) := by decide +kernel
theorem dX10_begins_41 : decode cX10_begins 41 = .ok (.iconst 1, 1) := by decide +kernel
theorem dX10_begins_42 : decode cX10_begins 42 = .ok (.iastore, 1) := by decide +kernel
theorem dX10_begins_43 : decode cX10_begins 43 = .ok (.aload_n 0, 1) := by decide +kernel
theorem dX10_begins_44 : decode cX10_begins 44 = .ok (.getfield 13, 3) := by decide +kernel
theorem dX10_begins_47 : decode cX10_begins 47 = .ok (.bipush 6, 2) := by decide +kernel
theorem dX10_begins_49 : decode cX10_begins 49 = .ok (.iconst 1, 1) := by decide +kernel
theorem dX10_begins_50 : decode cX10_begins 50 = .ok (.iastore, 1) := by decide +kernel
theorem dX10_begins_51 : decode cX10_begins 51 = .ok (.aload_n 0, 1) := by decide +kernel
theorem dX10_begins_52 : decode cX10_begins 52 = .ok (.lconst 0, 1) := by decide +kernel
theorem dX10_begins_53 : decode cX10_begins 53 = .ok (.putfield 87, 3) := by decide +kernel
theorem dX10_begins_56 : decode cX10_begins 56 = .ok (.aload_n 0, 1) := by decide +kernel
theorem dX10_begins_57 : decode cX10_begins 57 = .ok (.lconst 0, 1) := by decide +kernel
theorem dX10_begins_58 : decode cX10_begins 58 = .ok (.putfield 91, 3) := by decide +kernel
theorem dX10_begins_61 : decode cX10_begins 61 = .ok (.return_, 1) := by decide +kernel
theorem dX10_becomes_0 : decode cX10_becomes 0 = .ok (.iconst 0, 1) := by decide +kernel
theorem dX10_becomes_1 : decode cX10_becomes 1 = .ok (.istore_n 1, 1) := by decide +kernel
theorem dX10_becomes_2 : decode cX10_becomes 2 = .ok (.iload_n 1, 1) := by decide +kernel
theorem dX10_becomes_3 : decode cX10_becomes 3 = .ok (.bipush 7, 2) := by decide +kernel
theorem dX10_becomes_5 : decode cX10_becomes 5 = .ok (.if_icmp .ge 21, 3) := by decide +kernel
theorem dX10_becomes_8 : decode cX10_becomes 8 = .ok (.aload_n 0, 1) := by decide +kernel
theorem dX10_becomes_9 : decode cX10_becomes 9 = .ok (.getfield 7, 3) := by decide +kernel
theorem dX10_becomes_12 : decode cX10_becomes 12 = .ok (.iload_n 1, 1) := by decide +kernel
theorem dX10_becomes_13 : decode cX10_becomes 13 = .ok (.aload_n 0, 1) := by decide +kernel
theorem dX10_becomes_14 : decode cX10_becomes 14 = .ok (.getfield 13, 3) := by decide +kernel
theorem dX10_becomes_17 : decode cX10_becomes 17 = .ok (.iload_n 1, 1) := by decide +kernel
theorem dX10_becomes_18 : decode cX10_becomes 18 = .ok (.iaload, 1) := by decide +kernel
theorem dX10_becomes_19 : decode cX10_becomes 19 = .ok (.iastore, 1) := by decide +kernel
theorem dX10_becomes_20 : decode cX10_becomes 20 = .ok (.iinc 1 1, 3) := by decide +kernel
theorem dX10_becomes_23 : decode cX10_becomes 23 = .ok (.goto (-21), 3) := by decide +kernel
theorem dX10_becomes_26 : decode cX10_becomes 26 = .ok (.aload_n 0, 1) := by decide +kernel
theorem dX10_becomes_27 : decode cX10_becomes 27 = .ok (.aload_n 0, 1) := by decide +kernel
theorem dX10_becomes_28 : decode cX10_becomes 28 = .ok (.getfield 87, 3) := by decide +kernel
theorem dX10_becomes_31 : decode cX10_becomes 31 = .ok (.putfield 101, 3) := by decide +kernel
theorem dX10_becomes_34 : decode cX10_becomes 34 = .ok (.aload_n 0, 1) := by decide +kernel
theorem dX10_becomes_35 : decode cX10_becomes 35 = .ok (.aload_n 0, 1) := by decide +kernel
theorem dX10_becomes_36 : decode cX10_becomes 36 = .ok (.getfield 91, 3) := by decide +kernel
theorem dX10_becomes_39 : decode cX10_becomes 39 = .ok (.putfield 104, 3) := by decide +kernel
theorem dX10_becomes_42 : decode cX10_becomes 42 = .ok (.aload_n 0, 1) := by decide +kernel
theorem dX10_becomes_43 : decode cX10_becomes 43 = .ok (.iconst 0, 1) := by decide +kernel
theorem dX10_becomes_44 : decode cX10_becomes 44 = .ok (.putfield 107, 3) := by decide +kernel
theorem dX10_becomes_47 : decode cX10_becomes 47 = .ok (.aload_n 0, 1) := by decide +kernel
theorem dX10_becomes_48 : decode cX10_becomes 48 = .ok (.getfield 23, 3) := by decide +kernel
theorem dX10_becomes_51 : decode cX10_becomes 51 = .ok (.iconst 0, 1) := by decide +kernel
theorem dX10_becomes_52 : decode cX10_becomes 52 = .ok (.iconst 0, 1) := by decide +kernel
theorem dX10_becomes_53 : decode cX10_becomes 53 = .ok (.bastore, 1) := by decide +kernel
theorem dX10_becomes_54 : decode cX10_becomes 54 = .ok (.aload_n 0, 1) := by decide +kernel
theorem dX10_becomes_55 : decode cX10_becomes 55 = .ok (.getfield 23, 3) := by decide +kernel
theorem dX10_becomes_58 : decode cX10_becomes 58 = .ok (.iconst 1, 1) := by decide +kernel
theorem dX10_becomes_59 : decode cX10_becomes 59 = .ok (.iconst 0, 1) := by decide +kernel
theorem dX10_becomes_60 : decode cX10_becomes 60 = .ok (.bastore, 1) := by decide +kernel
theorem dX10_becomes_61 : decode cX10_becomes 61 = .ok (.aload_n 0, 1) := by decide +kernel
theorem dX10_becomes_62 : decode cX10_becomes 62 = .ok (.iconst 0, 1) := by decide +kernel
theorem dX10_becomes_63 : decode cX10_becomes 63 = .ok (.putfield 110, 3) := by decide +kernel
theorem dX10_becomes_66 : decode cX10_becomes 66 = .ok (.aload_n 0, 1) := by decide +kernel
theorem dX10_becomes_67 : decode cX10_becomes 67 = .ok (.iconst 0, 1) := by decide +kernel
theorem dX10_becomes_68 : decode cX10_becomes 68 = .ok (.putfield 113, 3) := by decide +kernel
theorem dX10_becomes_71 : decode cX10_becomes 71 = .ok (.aload_n 0, 1) := by decide +kernel
theorem dX10_becomes_72 : decode cX10_becomes 72 = .ok (.iconst 0, 1) := by decide +kernel
theorem dX10_becomes_73 : decode cX10_becomes 73 = .ok (.putfield 116, 3) := by decide +kernel
theorem dX10_becomes_76 : decode cX10_becomes 76 = .ok (.aload_n 0, 1) := by decide +kernel
theorem dX10_becomes_77 : decode cX10_becomes 77 = .ok (.iconst 0, 1) := by decide +kernel
theorem dX10_becomes_78 : decode cX10_becomes 78 = .ok (.putfield 119, 3) := by decide +kernel
theorem dX10_becomes_81 : decode cX10_becomes 81 = .ok (.return_, 1) := by decide +kernel
theorem dX10_grid_0 : decode cX10_grid 0 = .ok (.aload_n 0, 1) := by decide +kernel
theorem dX10_grid_1 : decode cX10_grid 1 = .ok (.iconst 0, 1) := by decide +kernel
theorem dX10_grid_2 : decode cX10_grid 2 = .ok (.putfield 48, 3) := by decide +kernel
theorem dX10_grid_5 : decode cX10_grid 5 = .ok (.aload_n 0, 1) := by decide +kernel
theorem dX10_grid_6 : decode cX10_grid 6 = .ok (.invokevirtual 42, 3) := by decide +kernel
theorem dX10_grid_9 : decode cX10_grid 9 = .ok (.aload_n 0, 1) := by decide +kernel
theorem dX10_grid_10 : decode cX10_grid 10 = .ok (.iconst 0, 1) := by decide +kernel
theorem dX10_grid_11 : decode cX10_grid 11 = .ok (.putfield 63, 3) := by decide +kernel
theorem dX10_grid_14 : decode cX10_grid 14 = .ok (.iconst 0, 1) := by decide +kernel
theorem dX10_grid_15 : decode cX10_grid 15 = .ok (.istore_n 1, 1) := by decide +kernel
theorem dX10_grid_16 : decode cX10_grid 16 = .ok (.aload_n 0, 1) := by decide +kernel
theorem dX10_grid_17 : decode cX10_grid 17 = .ok (.invokevirtual 76, 3) := by decide +kernel
theorem dX10_grid_20 : decode cX10_grid 20 = .ok (.aload_n 0, 1) := by decide +kernel
theorem dX10_grid_21 : decode cX10_grid 21 = .ok (.getfield 69, 3) := by decide +kernel
theorem dX10_grid_24 : decode cX10_grid 24 = .ok (.iconst (-1), 1) := by decide +kernel
theorem dX10_grid_25 : decode cX10_grid 25 = .ok (.if_icmp .eq 48, 3) := by decide +kernel
theorem dX10_grid_28 : decode cX10_grid 28 = .ok (.aload_n 0, 1) := by decide +kernel
theorem dX10_grid_29 : decode cX10_grid 29 = .ok (.iload_n 1, 1) := by decide +kernel
theorem dX10_grid_30 : decode cX10_grid 30 = .ok (.invokevirtual 122, 3) := by decide +kernel
theorem dX10_grid_33 : decode cX10_grid 33 = .ok (.istore_n 2, 1) := by decide +kernel
theorem dX10_grid_34 : decode cX10_grid 34 = .ok (.iload_n 2, 1) := by decide +kernel
theorem dX10_grid_35 : decode cX10_grid 35 = .ok (.ifCond .eq 7, 3) := by decide +kernel
theorem dX10_grid_38 : decode cX10_grid 38 = .ok (.aload_n 0, 1) := by decide +kernel
theorem dX10_grid_39 : decode cX10_grid 39 = .ok (.invokevirtual 76, 3) := by decide +kernel
theorem dX10_grid_42 : decode cX10_grid 42 = .ok (.iload_n 2, 1) := by decide +kernel
theorem dX10_grid_43 : decode cX10_grid 43 = .ok (.ifCond .eq 12, 3) := by decide +kernel
theorem dX10_grid_46 : decode cX10_grid 46 = .ok (.aload_n 0, 1) := by decide +kernel
theorem dX10_grid_47 : decode cX10_grid 47 = .ok (.getfield 69, 3) := by decide +kernel
theorem dX10_grid_50 : decode cX10_grid 50 = .ok (.bipush 59, 2) := by decide +kernel
theorem dX10_grid_52 : decode cX10_grid 52 = .ok (.if_icmp .eq 11, 3) := by decide +kernel
theorem dX10_grid_55 : decode cX10_grid 55 = .ok (.bipush (-10), 2) := by decide +kernel
theorem dX10_grid_57 : decode cX10_grid 57 = .ok (.aload_n 0, 1) := by decide +kernel
theorem dX10_grid_58 : decode cX10_grid 58 = .ok (.getfield 66, 3) := by decide +kernel
theorem dX10_grid_61 : decode cX10_grid 61 = .ok (.isub, 1) := by decide +kernel
theorem dX10_grid_62 : decode cX10_grid 62 = .ok (.ireturn, 1) := by decide +kernel
theorem dX10_grid_63 : decode cX10_grid 63 = .ok (.iinc 1 1, 3) := by decide +kernel
theorem dX10_grid_66 : decode cX10_grid 66 = .ok (.aload_n 0, 1) := by decide +kernel
theorem dX10_grid_67 : decode cX10_grid 67 = .ok (.invokevirtual 76, 3) := by decide +kernel
theorem dX10_grid_70 : decode cX10_grid 70 = .ok (.goto (-50), 3) := by decide +kernel
theorem dX10_grid_73 : decode cX10_grid 73 = .ok (.aload_n 0, 1) := by decide +kernel
theorem dX10_grid_74 : decode cX10_grid 74 = .ok (.invokevirtual 45, 3) := by decide +kernel
theorem dX10_grid_77 : decode cX10_grid 77 = .ok (.aload_n 0, 1) := by decide +kernel
theorem dX10_grid_78 : decode cX10_grid 78 = .ok (.iconst 0, 1) := by decide +kernel
theorem dX10_grid_79 : decode cX10_grid 79 = .ok (.putfield 60, 3) := by decide +kernel
theorem dX10_grid_82 : decode cX10_grid 82 = .ok (.iload_n 1, 1) := by decide +kernel
theorem dX10_grid_83 : decode cX10_grid 83 = .ok (.ireturn, 1) := by decide +kernel
theorem dX10_cells_0 : decode cX10_cells 0 = .ok (.aload_n 0, 1) := by decide +kernel
theorem dX10_cells_1 : decode cX10_cells 1 = .ok (.getfield 7, 3) := by decide +kernel
theorem dX10_cells_4 : decode cX10_cells 4 = .ok (.iconst 0, 1) := by decide +kernel
theorem dX10_cells_5 : decode cX10_cells 5 = .ok (.iaload, 1) := by decide +kernel
theorem dX10_cells_6 : decode cX10_cells 6 = .ok (.aload_n 0, 1) := by decide +kernel
theorem dX10_cells_7 : decode cX10_cells 7 = .ok (.getfield 7, 3) := by decide +kernel
theorem dX10_cells_10 : decode cX10_cells 10 = .ok (.iconst 1, 1) := by decide +kernel
theorem dX10_cells_11 : decode cX10_cells 11 = .ok (.iaload, 1) := by decide +kernel
theorem dX10_cells_12 : decode cX10_cells 12 = .ok (.imul, 1) := by decide +kernel
theorem dX10_cells_13 : decode cX10_cells 13 = .ok (.ireturn, 1) := by decide +kernel
theorem dX10_isCell_0 : decode cX10_isCell 0 = .ok (.iload_n 1, 1) := by decide +kernel
theorem dX10_isCell_1 : decode cX10_isCell 1 = .ok (.iconst 0, 1) := by decide +kernel
theorem dX10_isCell_2 : decode cX10_isCell 2 = .ok (.aload_n 0, 1) := by decide +kernel
theorem dX10_isCell_3 : decode cX10_isCell 3 = .ok (.invokevirtual 125, 3) := by decide +kernel
theorem dX10_isCell_6 : decode cX10_isCell 6 = .ok (.iconst 1, 1) := by decide +kernel
theorem dX10_isCell_7 : decode cX10_isCell 7 = .ok (.isub, 1) := by decide +kernel
theorem dX10_isCell_8 : decode cX10_isCell 8 = .ok (.invokestatic 56, 3) := by decide +kernel
theorem dX10_isCell_11 : decode cX10_isCell 11 = .ok (.ireturn, 1) := by decide +kernel
theorem dX10_isPlace_0 : decode cX10_isPlace 0 = .ok (.iload_n 1, 1) := by decide +kernel
theorem dX10_isPlace_1 : decode cX10_isPlace 1 = .ok (.iconst 0, 1) := by decide +kernel
theorem dX10_isPlace_2 : decode cX10_isPlace 2 = .ok (.aload_n 0, 1) := by decide +kernel
theorem dX10_isPlace_3 : decode cX10_isPlace 3 = .ok (.getfield 7, 3) := by decide +kernel
theorem dX10_isPlace_6 : decode cX10_isPlace 6 = .ok (.iconst 0, 1) := by decide +kernel
theorem dX10_isPlace_7 : decode cX10_isPlace 7 = .ok (.iaload, 1) := by decide +kernel
theorem dX10_isPlace_8 : decode cX10_isPlace 8 = .ok (.iconst 1, 1) := by decide +kernel
theorem dX10_isPlace_9 : decode cX10_isPlace 9 = .ok (.isub, 1) := by decide +kernel
theorem dX10_isPlace_10 : decode cX10_isPlace 10 = .ok (.invokestatic 56, 3) := by decide +kernel
theorem dX10_isPlace_13 : decode cX10_isPlace 13 = .ok (.ifCond .eq 23, 3) := by decide +kernel
theorem dX10_isPlace_16 : decode cX10_isPlace 16 = .ok (.iload_n 2, 1) := by decide +kernel
theorem dX10_isPlace_17 : decode cX10_isPlace 17 = .ok (.iconst 0, 1) := by decide +kernel
theorem dX10_isPlace_18 : decode cX10_isPlace 18 = .ok (.aload_n 0, 1) := by decide +kernel
theorem dX10_isPlace_19 : decode cX10_isPlace 19 = .ok (.getfield 7, 3) := by decide +kernel
theorem dX10_isPlace_22 : decode cX10_isPlace 22 = .ok (.iconst 1, 1) := by decide +kernel
theorem dX10_isPlace_23 : decode cX10_isPlace 23 = .ok (.iaload, 1) := by decide +kernel
theorem dX10_isPlace_24 : decode cX10_isPlace 24 = .ok (.iconst 1, 1) := by decide +kernel
theorem dX10_isPlace_25 : decode cX10_isPlace 25 = .ok (.isub, 1) := by decide +kernel
theorem dX10_isPlace_26 : decode cX10_isPlace 26 = .ok (.invokestatic 56, 3) := by decide +kernel
theorem dX10_isPlace_29 : decode cX10_isPlace 29 = .ok (.ifCond .eq 7, 3) := by decide +kernel
theorem dX10_isPlace_32 : decode cX10_isPlace 32 = .ok (.iconst 1, 1) := by decide +kernel
theorem dX10_isPlace_33 : decode cX10_isPlace 33 = .ok (.goto 4, 3) := by decide +kernel
theorem dX10_isPlace_36 : decode cX10_isPlace 36 = .ok (.iconst 0, 1) := by decide +kernel
theorem dX10_isPlace_37 : decode cX10_isPlace 37 = .ok (.ireturn, 1) := by decide +kernel
theorem dX10_at_0 : decode cX10_at 0 = .ok (.aload_n 0, 1) := by decide +kernel
theorem dX10_at_1 : decode cX10_at 1 = .ok (.getfield 7, 3) := by decide +kernel
theorem dX10_at_4 : decode cX10_at 4 = .ok (.iconst 0, 1) := by decide +kernel
theorem dX10_at_5 : decode cX10_at 5 = .ok (.iaload, 1) := by decide +kernel
theorem dX10_at_6 : decode cX10_at 6 = .ok (.iload_n 2, 1) := by decide +kernel
theorem dX10_at_7 : decode cX10_at 7 = .ok (.imul, 1) := by decide +kernel
theorem dX10_at_8 : decode cX10_at 8 = .ok (.iload_n 1, 1) := by decide +kernel
theorem dX10_at_9 : decode cX10_at 9 = .ok (.iadd, 1) := by decide +kernel
theorem dX10_at_10 : decode cX10_at 10 = .ok (.ireturn, 1) := by decide +kernel
theorem dX10_isFree_0 : decode cX10_isFree 0 = .ok (.aload_n 0, 1) := by decide +kernel
theorem dX10_isFree_1 : decode cX10_isFree 1 = .ok (.getfield 101, 3) := by decide +kernel
theorem dX10_isFree_4 : decode cX10_isFree 4 = .ok (.iload_n 1, 1) := by decide +kernel
theorem dX10_isFree_5 : decode cX10_isFree 5 = .ok (.invokestatic 52, 3) := by decide +kernel
theorem dX10_isFree_8 : decode cX10_isFree 8 = .ok (.ifCond .ne 7, 3) := by decide +kernel
theorem dX10_isFree_11 : decode cX10_isFree 11 = .ok (.iconst 1, 1) := by decide +kernel
theorem dX10_isFree_12 : decode cX10_isFree 12 = .ok (.goto 4, 3) := by decide +kernel
theorem dX10_isFree_15 : decode cX10_isFree 15 = .ok (.iconst 0, 1) := by decide +kernel
theorem dX10_isFree_16 : decode cX10_isFree 16 = .ok (.ireturn, 1) := by decide +kernel
theorem dX10_free_0 : decode cX10_free 0 = .ok (.aload_n 0, 1) := by decide +kernel
theorem dX10_free_1 : decode cX10_free 1 = .ok (.invokevirtual 125, 3) := by decide +kernel
theorem dX10_free_4 : decode cX10_free 4 = .ok (.aload_n 0, 1) := by decide +kernel
theorem dX10_free_5 : decode cX10_free 5 = .ok (.getfield 101, 3) := by decide +kernel
theorem dX10_free_8 : decode cX10_free 8 = .ok (.invokestatic 128, 3) := by decide +kernel
theorem dX10_free_11 : decode cX10_free 11 = .ok (.isub, 1) := by decide +kernel
theorem dX10_free_12 : decode cX10_free 12 = .ok (.ireturn, 1) := by decide +kernel
theorem dX10_round_0 : decode cX10_round 0 = .ok (.iload_n 0, 1) := by decide +kernel
theorem dX10_round_1 : decode cX10_round 1 = .ok (.iload_n 1, 1) := by decide +kernel
theorem dX10_round_2 : decode cX10_round 2 = .ok (.if_icmp .le 9, 3) := by decide +kernel
theorem dX10_round_5 : decode cX10_round 5 = .ok (.iload_n 0, 1) := by decide +kernel
theorem dX10_round_6 : decode cX10_round 6 = .ok (.iload_n 1, 1) := by decide +kernel
theorem dX10_round_7 : decode cX10_round 7 = .ok (.isub, 1) := by decide +kernel
theorem dX10_round_8 : decode cX10_round 8 = .ok (.goto 6, 3) := by decide +kernel
theorem dX10_round_11 : decode cX10_round 11 = .ok (.iload_n 1, 1) := by decide +kernel
theorem dX10_round_12 : decode cX10_round 12 = .ok (.iload_n 0, 1) := by decide +kernel
theorem dX10_round_13 : decode cX10_round 13 = .ok (.isub, 1) := by decide +kernel
theorem dX10_round_14 : decode cX10_round 14 = .ok (.istore_n 3, 1) := by decide +kernel
theorem dX10_round_15 : decode cX10_round 15 = .ok (.iload_n 3, 1) := by decide +kernel
theorem dX10_round_16 : decode cX10_round 16 = .ok (.iload_n 2, 1) := by decide +kernel
theorem dX10_round_17 : decode cX10_round 17 = .ok (.iload_n 3, 1) := by decide +kernel
theorem dX10_round_18 : decode cX10_round 18 = .ok (.isub, 1) := by decide +kernel
theorem dX10_round_19 : decode cX10_round 19 = .ok (.if_icmp .ge 7, 3) := by decide +kernel
theorem dX10_round_22 : decode cX10_round 22 = .ok (.iload_n 3, 1) := by decide +kernel
theorem dX10_round_23 : decode cX10_round 23 = .ok (.goto 6, 3) := by decide +kernel
theorem dX10_round_26 : decode cX10_round 26 = .ok (.iload_n 2, 1) := by decide +kernel
theorem dX10_round_27 : decode cX10_round 27 = .ok (.iload_n 3, 1) := by decide +kernel
theorem dX10_round_28 : decode cX10_round 28 = .ok (.isub, 1) := by decide +kernel
theorem dX10_round_29 : decode cX10_round 29 = .ok (.ireturn, 1) := by decide +kernel
theorem dX10_distance_0 : decode cX10_distance 0 = .ok (.aload_n 0, 1) := by decide +kernel
theorem dX10_distance_1 : decode cX10_distance 1 = .ok (.getfield 7, 3) := by decide +kernel
theorem dX10_distance_4 : decode cX10_distance 4 = .ok (.iconst 0, 1) := by decide +kernel
theorem dX10_distance_5 : decode cX10_distance 5 = .ok (.iaload, 1) := by decide +kernel
theorem dX10_distance_6 : decode cX10_distance 6 = .ok (.istore_n 3, 1) := by decide +kernel
theorem dX10_distance_7 : decode cX10_distance 7 = .ok (.iload_n 1, 1) := by decide +kernel
theorem dX10_distance_8 : decode cX10_distance 8 = .ok (.iload_n 3, 1) := by decide +kernel
theorem dX10_distance_9 : decode cX10_distance 9 = .ok (.irem, 1) := by decide +kernel
theorem dX10_distance_10 : decode cX10_distance 10 = .ok (.iload_n 2, 1) := by decide +kernel
theorem dX10_distance_11 : decode cX10_distance 11 = .ok (.iload_n 3, 1) := by decide +kernel
theorem dX10_distance_12 : decode cX10_distance 12 = .ok (.irem, 1) := by decide +kernel
theorem dX10_distance_13 : decode cX10_distance 13 = .ok (.iload_n 3, 1) := by decide +kernel
theorem dX10_distance_14 : decode cX10_distance 14 = .ok (.invokestatic 132, 3) := by decide +kernel
theorem dX10_distance_17 : decode cX10_distance 17 = .ok (.istore 4, 2) := by decide +kernel
theorem dX10_distance_19 : decode cX10_distance 19 = .ok (.iload_n 1, 1) := by decide +kernel
theorem dX10_distance_20 : decode cX10_distance 20 = .ok (.iload_n 3, 1) := by decide +kernel
theorem dX10_distance_21 : decode cX10_distance 21 = .ok (.idiv, 1) := by decide +kernel
theorem dX10_distance_22 : decode cX10_distance 22 = .ok (.iload_n 2, 1) := by decide +kernel
theorem dX10_distance_23 : decode cX10_distance 23 = .ok (.iload_n 3, 1) := by decide +kernel
theorem dX10_distance_24 : decode cX10_distance 24 = .ok (.idiv, 1) := by decide +kernel
theorem dX10_distance_25 : decode cX10_distance 25 = .ok (.aload_n 0, 1) := by decide +kernel
theorem dX10_distance_26 : decode cX10_distance 26 = .ok (.getfield 7, 3) := by decide +kernel
theorem dX10_distance_29 : decode cX10_distance 29 = .ok (.iconst 1, 1) := by decide +kernel
theorem dX10_distance_30 : decode cX10_distance 30 = .ok (.iaload, 1) := by decide +kernel
theorem dX10_distance_31 : decode cX10_distance 31 = .ok (.invokestatic 132, 3) := by decide +kernel
theorem dX10_distance_34 : decode cX10_distance 34 = .ok (.istore 5, 2) := by decide +kernel
theorem dX10_distance_36 : decode cX10_distance 36 = .ok (.aload_n 0, 1) := by decide +kernel
theorem dX10_distance_37 : decode cX10_distance 37 = .ok (.getfield 7, 3) := by decide +kernel
theorem dX10_distance_40 : decode cX10_distance 40 = .ok (.iconst 5, 1) := by decide +kernel
theorem dX10_distance_41 : decode cX10_distance 41 = .ok (.iaload, 1) := by decide +kernel
theorem dX10_distance_42 : decode cX10_distance 42 = .ok (.iload 4, 2) := by decide +kernel
theorem dX10_distance_44 : decode cX10_distance 44 = .ok (.imul, 1) := by decide +kernel
theorem dX10_distance_45 : decode cX10_distance 45 = .ok (.iload 4, 2) := by decide +kernel
theorem dX10_distance_47 : decode cX10_distance 47 = .ok (.imul, 1) := by decide +kernel
theorem dX10_distance_48 : decode cX10_distance 48 = .ok (.aload_n 0, 1) := by decide +kernel
theorem dX10_distance_49 : decode cX10_distance 49 = .ok (.getfield 7, 3) := by decide +kernel
theorem dX10_distance_52 : decode cX10_distance 52 = .ok (.bipush 6, 2) := by decide +kernel
theorem dX10_distance_54 : decode cX10_distance 54 = .ok (.iaload, 1) := by decide +kernel
theorem dX10_distance_55 : decode cX10_distance 55 = .ok (.iload 5, 2) := by decide +kernel
theorem dX10_distance_57 : decode cX10_distance 57 = .ok (.imul, 1) := by decide +kernel
theorem dX10_distance_58 : decode cX10_distance 58 = .ok (.iload 5, 2) := by decide +kernel
theorem dX10_distance_60 : decode cX10_distance 60 = .ok (.imul, 1) := by decide +kernel
theorem dX10_distance_61 : decode cX10_distance 61 = .ok (.iadd, 1) := by decide +kernel
theorem dX10_distance_62 : decode cX10_distance 62 = .ok (.ireturn, 1) := by decide +kernel
theorem dX10_weight_0 : decode cX10_weight 0 = .ok (.aload_n 0, 1) := by decide +kernel
theorem dX10_weight_1 : decode cX10_weight 1 = .ok (.getfield 7, 3) := by decide +kernel
theorem dX10_weight_4 : decode cX10_weight 4 = .ok (.iconst 2, 1) := by decide +kernel
theorem dX10_weight_5 : decode cX10_weight 5 = .ok (.iaload, 1) := by decide +kernel
theorem dX10_weight_6 : decode cX10_weight 6 = .ok (.ifCond .ne 14, 3) := by decide +kernel
theorem dX10_weight_9 : decode cX10_weight 9 = .ok (.aload_n 0, 1) := by decide +kernel
theorem dX10_weight_10 : decode cX10_weight 10 = .ok (.getfield 7, 3) := by decide +kernel
theorem dX10_weight_13 : decode cX10_weight 13 = .ok (.iconst 3, 1) := by decide +kernel
theorem dX10_weight_14 : decode cX10_weight 14 = .ok (.iaload, 1) := by decide +kernel
theorem dX10_weight_15 : decode cX10_weight 15 = .ok (.iconst 1, 1) := by decide +kernel
theorem dX10_weight_16 : decode cX10_weight 16 = .ok (.iload_n 1, 1) := by decide +kernel
theorem dX10_weight_17 : decode cX10_weight 17 = .ok (.iadd, 1) := by decide +kernel
theorem dX10_weight_18 : decode cX10_weight 18 = .ok (.idiv, 1) := by decide +kernel
theorem dX10_weight_19 : decode cX10_weight 19 = .ok (.ireturn, 1) := by decide +kernel
theorem dX10_weight_20 : decode cX10_weight 20 = .ok (.aload_n 0, 1) := by decide +kernel
theorem dX10_weight_21 : decode cX10_weight 21 = .ok (.getfield 7, 3) := by decide +kernel
theorem dX10_weight_24 : decode cX10_weight 24 = .ok (.iconst 2, 1) := by decide +kernel
theorem dX10_weight_25 : decode cX10_weight 25 = .ok (.iaload, 1) := by decide +kernel
theorem dX10_weight_26 : decode cX10_weight 26 = .ok (.iconst 1, 1) := by decide +kernel
theorem dX10_weight_27 : decode cX10_weight 27 = .ok (.if_icmp .ne 29, 3) := by decide +kernel
theorem dX10_weight_30 : decode cX10_weight 30 = .ok (.aload_n 0, 1) := by decide +kernel
theorem dX10_weight_31 : decode cX10_weight 31 = .ok (.getfield 7, 3) := by decide +kernel
theorem dX10_weight_34 : decode cX10_weight 34 = .ok (.iconst 3, 1) := by decide +kernel
theorem dX10_weight_35 : decode cX10_weight 35 = .ok (.iaload, 1) := by decide +kernel
theorem dX10_weight_36 : decode cX10_weight 36 = .ok (.aload_n 0, 1) := by decide +kernel
theorem dX10_weight_37 : decode cX10_weight 37 = .ok (.getfield 7, 3) := by decide +kernel
theorem dX10_weight_40 : decode cX10_weight 40 = .ok (.iconst 4, 1) := by decide +kernel
theorem dX10_weight_41 : decode cX10_weight 41 = .ok (.iaload, 1) := by decide +kernel
theorem dX10_weight_42 : decode cX10_weight 42 = .ok (.iload_n 1, 1) := by decide +kernel
theorem dX10_weight_43 : decode cX10_weight 43 = .ok (.imul, 1) := by decide +kernel
theorem dX10_weight_44 : decode cX10_weight 44 = .ok (.isub, 1) := by decide +kernel
theorem dX10_weight_45 : decode cX10_weight 45 = .ok (.istore_n 2, 1) := by decide +kernel
theorem dX10_weight_46 : decode cX10_weight 46 = .ok (.iload_n 2, 1) := by decide +kernel
theorem dX10_weight_47 : decode cX10_weight 47 = .ok (.ifCond .le 7, 3) := by decide +kernel
theorem dX10_weight_50 : decode cX10_weight 50 = .ok (.iload_n 2, 1) := by decide +kernel
theorem dX10_weight_51 : decode cX10_weight 51 = .ok (.goto 4, 3) := by decide +kernel
theorem dX10_weight_54 : decode cX10_weight 54 = .ok (.iconst 0, 1) := by decide +kernel
theorem dX10_weight_55 : decode cX10_weight 55 = .ok (.ireturn, 1) := by decide +kernel
theorem dX10_weight_56 : decode cX10_weight 56 = .ok (.aload_n 0, 1) := by decide +kernel
theorem dX10_weight_57 : decode cX10_weight 57 = .ok (.getfield 7, 3) := by decide +kernel
theorem dX10_weight_60 : decode cX10_weight 60 = .ok (.iconst 3, 1) := by decide +kernel
theorem dX10_weight_61 : decode cX10_weight 61 = .ok (.iaload, 1) := by decide +kernel
theorem dX10_weight_62 : decode cX10_weight 62 = .ok (.istore_n 2, 1) := by decide +kernel
theorem dX10_weight_63 : decode cX10_weight 63 = .ok (.iconst 0, 1) := by decide +kernel
theorem dX10_weight_64 : decode cX10_weight 64 = .ok (.istore_n 3, 1) := by decide +kernel
theorem dX10_weight_65 : decode cX10_weight 65 = .ok (.iload_n 3, 1) := by decide +kernel
theorem dX10_weight_66 : decode cX10_weight 66 = .ok (.iload_n 1, 1) := by decide +kernel
theorem dX10_weight_67 : decode cX10_weight 67 = .ok (.if_icmp .ge 17, 3) := by decide +kernel
theorem dX10_weight_70 : decode cX10_weight 70 = .ok (.iload_n 2, 1) := by decide +kernel
theorem dX10_weight_71 : decode cX10_weight 71 = .ok (.ifCond .le 13, 3) := by decide +kernel
theorem dX10_weight_74 : decode cX10_weight 74 = .ok (.iload_n 2, 1) := by decide +kernel
theorem dX10_weight_75 : decode cX10_weight 75 = .ok (.iconst 2, 1) := by decide +kernel
theorem dX10_weight_76 : decode cX10_weight 76 = .ok (.idiv, 1) := by decide +kernel
theorem dX10_weight_77 : decode cX10_weight 77 = .ok (.istore_n 2, 1) := by decide +kernel
theorem dX10_weight_78 : decode cX10_weight 78 = .ok (.iinc 3 1, 3) := by decide +kernel
theorem dX10_weight_81 : decode cX10_weight 81 = .ok (.goto (-16), 3) := by decide +kernel
theorem dX10_weight_84 : decode cX10_weight 84 = .ok (.iload_n 2, 1) := by decide +kernel
theorem dX10_weight_85 : decode cX10_weight 85 = .ok (.ireturn, 1) := by decide +kernel
theorem dX10_heldBy_0 : decode cX10_heldBy 0 = .ok (.iconst 0, 1) := by decide +kernel
theorem dX10_heldBy_1 : decode cX10_heldBy 1 = .ok (.istore 4, 2) := by decide +kernel
theorem dX10_heldBy_3 : decode cX10_heldBy 3 = .ok (.iconst 0, 1) := by decide +kernel
theorem dX10_heldBy_4 : decode cX10_heldBy 4 = .ok (.istore 5, 2) := by decide +kernel
theorem dX10_heldBy_6 : decode cX10_heldBy 6 = .ok (.iload 5, 2) := by decide +kernel
theorem dX10_heldBy_8 : decode cX10_heldBy 8 = .ok (.aload_n 0, 1) := by decide +kernel
theorem dX10_heldBy_9 : decode cX10_heldBy 9 = .ok (.invokevirtual 125, 3) := by decide +kernel
theorem dX10_heldBy_12 : decode cX10_heldBy 12 = .ok (.if_icmp .ge 38, 3) := by decide +kernel
theorem dX10_heldBy_15 : decode cX10_heldBy 15 = .ok (.iload 4, 2) := by decide +kernel
theorem dX10_heldBy_17 : decode cX10_heldBy 17 = .ok (.lload_n 1, 1) := by decide +kernel
theorem dX10_heldBy_18 : decode cX10_heldBy 18 = .ok (.iload 5, 2) := by decide +kernel
theorem dX10_heldBy_20 : decode cX10_heldBy 20 = .ok (.invokestatic 52, 3) := by decide +kernel
theorem dX10_heldBy_23 : decode cX10_heldBy 23 = .ok (.ifCond .eq 17, 3) := by decide +kernel
theorem dX10_heldBy_26 : decode cX10_heldBy 26 = .ok (.aload_n 0, 1) := by decide +kernel
theorem dX10_heldBy_27 : decode cX10_heldBy 27 = .ok (.aload_n 0, 1) := by decide +kernel
theorem dX10_heldBy_28 : decode cX10_heldBy 28 = .ok (.iload 5, 2) := by decide +kernel
theorem dX10_heldBy_30 : decode cX10_heldBy 30 = .ok (.iload_n 3, 1) := by decide +kernel
theorem dX10_heldBy_31 : decode cX10_heldBy 31 = .ok (.invokevirtual 136, 3) := by decide +kernel
theorem dX10_heldBy_34 : decode cX10_heldBy 34 = .ok (.invokevirtual 140, 3) := by decide +kernel
theorem dX10_heldBy_37 : decode cX10_heldBy 37 = .ok (.goto 4, 3) := by decide +kernel
theorem dX10_heldBy_40 : decode cX10_heldBy 40 = .ok (.iconst 0, 1) := by decide +kernel
theorem dX10_heldBy_41 : decode cX10_heldBy 41 = .ok (.iadd, 1) := by decide +kernel
theorem dX10_heldBy_42 : decode cX10_heldBy 42 = .ok (.istore 4, 2) := by decide +kernel
theorem dX10_heldBy_44 : decode cX10_heldBy 44 = .ok (.iinc 5 1, 3) := by decide +kernel
theorem dX10_heldBy_47 : decode cX10_heldBy 47 = .ok (.goto (-41), 3) := by decide +kernel
theorem dX10_heldBy_50 : decode cX10_heldBy 50 = .ok (.iload 4, 2) := by decide +kernel
theorem dX10_heldBy_52 : decode cX10_heldBy 52 = .ok (.ireturn, 1) := by decide +kernel
theorem dX10_freeCells_0 : decode cX10_freeCells 0 = .ok (.lconst 0, 1) := by decide +kernel
theorem dX10_freeCells_1 : decode cX10_freeCells 1 = .ok (.lstore_n 1, 1) := by decide +kernel
theorem dX10_freeCells_2 : decode cX10_freeCells 2 = .ok (.iconst 0, 1) := by decide +kernel
theorem dX10_freeCells_3 : decode cX10_freeCells 3 = .ok (.istore_n 3, 1) := by decide +kernel
theorem dX10_freeCells_4 : decode cX10_freeCells 4 = .ok (.iload_n 3, 1) := by decide +kernel
theorem dX10_freeCells_5 : decode cX10_freeCells 5 = .ok (.aload_n 0, 1) := by decide +kernel
theorem dX10_freeCells_6 : decode cX10_freeCells 6 = .ok (.invokevirtual 125, 3) := by decide +kernel
theorem dX10_freeCells_9 : decode cX10_freeCells 9 = .ok (.if_icmp .ge 27, 3) := by decide +kernel
theorem dX10_freeCells_12 : decode cX10_freeCells 12 = .ok (.lload_n 1, 1) := by decide +kernel
theorem dX10_freeCells_13 : decode cX10_freeCells 13 = .ok (.aload_n 0, 1) := by decide +kernel
theorem dX10_freeCells_14 : decode cX10_freeCells 14 = .ok (.iload_n 3, 1) := by decide +kernel
theorem dX10_freeCells_15 : decode cX10_freeCells 15 = .ok (.invokevirtual 144, 3) := by decide +kernel
theorem dX10_freeCells_18 : decode cX10_freeCells 18 = .ok (.ifCond .eq 9, 3) := by decide +kernel
theorem dX10_freeCells_21 : decode cX10_freeCells 21 = .ok (.lconst 1, 1) := by decide +kernel
theorem dX10_freeCells_22 : decode cX10_freeCells 22 = .ok (.iload_n 3, 1) := by decide +kernel
theorem dX10_freeCells_23 : decode cX10_freeCells 23 = .ok (.lshl, 1) := by decide +kernel
theorem dX10_freeCells_24 : decode cX10_freeCells 24 = .ok (.goto 4, 3) := by decide +kernel
theorem dX10_freeCells_27 : decode cX10_freeCells 27 = .ok (.lconst 0, 1) := by decide +kernel
theorem dX10_freeCells_28 : decode cX10_freeCells 28 = .ok (.lor, 1) := by decide +kernel
theorem dX10_freeCells_29 : decode cX10_freeCells 29 = .ok (.lstore_n 1, 1) := by decide +kernel
theorem dX10_freeCells_30 : decode cX10_freeCells 30 = .ok (.iinc 3 1, 3) := by decide +kernel
theorem dX10_freeCells_33 : decode cX10_freeCells 33 = .ok (.goto (-29), 3) := by decide +kernel
theorem dX10_freeCells_36 : decode cX10_freeCells 36 = .ok (.lload_n 1, 1) := by decide +kernel
theorem dX10_freeCells_37 : decode cX10_freeCells 37 = .ok (.lreturn, 1) := by decide +kernel
theorem dX10_extremeOf_0 : decode cX10_extremeOf 0 = .ok (.bipush (-9), 2) := by decide +kernel
theorem dX10_extremeOf_2 : decode cX10_extremeOf 2 = .ok (.istore 6, 2) := by decide +kernel
theorem dX10_extremeOf_4 : decode cX10_extremeOf 4 = .ok (.iconst 0, 1) := by decide +kernel
theorem dX10_extremeOf_5 : decode cX10_extremeOf 5 = .ok (.istore 7, 2) := by decide +kernel
theorem dX10_extremeOf_7 : decode cX10_extremeOf 7 = .ok (.iconst 0, 1) := by decide +kernel
theorem dX10_extremeOf_8 : decode cX10_extremeOf 8 = .ok (.istore 8, 2) := by decide +kernel
theorem dX10_extremeOf_10 : decode cX10_extremeOf 10 = .ok (.iload 8, 2) := by decide +kernel
theorem dX10_extremeOf_12 : decode cX10_extremeOf 12 = .ok (.aload_n 0, 1) := by decide +kernel
theorem dX10_extremeOf_13 : decode cX10_extremeOf 13 = .ok (.invokevirtual 125, 3) := by decide +kernel
theorem dX10_extremeOf_16 : decode cX10_extremeOf 16 = .ok (.if_icmp .ge 91, 3) := by decide +kernel
theorem dX10_extremeOf_19 : decode cX10_extremeOf 19 = .ok (.lload_n 1, 1) := by decide +kernel
theorem dX10_extremeOf_20 : decode cX10_extremeOf 20 = .ok (.iload 8, 2) := by decide +kernel
theorem dX10_extremeOf_22 : decode cX10_extremeOf 22 = .ok (.invokestatic 52, 3) := by decide +kernel
theorem dX10_extremeOf_25 : decode cX10_extremeOf 25 = .ok (.ifCond .eq 76, 3) := by decide +kernel
theorem dX10_extremeOf_28 : decode cX10_extremeOf 28 = .ok (.aload_n 0, 1) := by decide +kernel
theorem dX10_extremeOf_29 : decode cX10_extremeOf 29 = .ok (.lload_n 3, 1) := by decide +kernel
theorem dX10_extremeOf_30 : decode cX10_extremeOf 30 = .ok (.iload 8, 2) := by decide +kernel
theorem dX10_extremeOf_32 : decode cX10_extremeOf 32 = .ok (.invokevirtual 147, 3) := by decide +kernel
theorem dX10_extremeOf_35 : decode cX10_extremeOf 35 = .ok (.istore 9, 2) := by decide +kernel
theorem dX10_extremeOf_37 : decode cX10_extremeOf 37 = .ok (.iload 6, 2) := by decide +kernel
theorem dX10_extremeOf_39 : decode cX10_extremeOf 39 = .ok (.bipush (-9), 2) := by decide +kernel
theorem dX10_extremeOf_41 : decode cX10_extremeOf 41 = .ok (.if_icmp .eq 25, 3) := by decide +kernel
theorem dX10_extremeOf_44 : decode cX10_extremeOf 44 = .ok (.iload 5, 2) := by decide +kernel
theorem dX10_extremeOf_46 : decode cX10_extremeOf 46 = .ok (.ifCond .eq 13, 3) := by decide +kernel
theorem dX10_extremeOf_49 : decode cX10_extremeOf 49 = .ok (.iload 9, 2) := by decide +kernel
theorem dX10_extremeOf_51 : decode cX10_extremeOf 51 = .ok (.iload 7, 2) := by decide +kernel
theorem dX10_extremeOf_53 : decode cX10_extremeOf 53 = .ok (.if_icmp .le 17, 3) := by decide +kernel
theorem dX10_extremeOf_56 : decode cX10_extremeOf 56 = .ok (.goto 10, 3) := by decide +kernel
theorem dX10_extremeOf_59 : decode cX10_extremeOf 59 = .ok (.iload 9, 2) := by decide +kernel
theorem dX10_extremeOf_61 : decode cX10_extremeOf 61 = .ok (.iload 7, 2) := by decide +kernel
theorem dX10_extremeOf_63 : decode cX10_extremeOf 63 = .ok (.if_icmp .ge 7, 3) := by decide +kernel
theorem dX10_extremeOf_66 : decode cX10_extremeOf 66 = .ok (.iconst 1, 1) := by decide +kernel
theorem dX10_extremeOf_67 : decode cX10_extremeOf 67 = .ok (.goto 4, 3) := by decide +kernel
theorem dX10_extremeOf_70 : decode cX10_extremeOf 70 = .ok (.iconst 0, 1) := by decide +kernel
theorem dX10_extremeOf_71 : decode cX10_extremeOf 71 = .ok (.istore 10, 2) := by decide +kernel
theorem dX10_extremeOf_73 : decode cX10_extremeOf 73 = .ok (.iload 10, 2) := by decide +kernel
theorem dX10_extremeOf_75 : decode cX10_extremeOf 75 = .ok (.ifCond .eq 8, 3) := by decide +kernel
theorem dX10_extremeOf_78 : decode cX10_extremeOf 78 = .ok (.iload 8, 2) := by decide +kernel
theorem dX10_extremeOf_80 : decode cX10_extremeOf 80 = .ok (.goto 5, 3) := by decide +kernel
theorem dX10_extremeOf_83 : decode cX10_extremeOf 83 = .ok (.iload 6, 2) := by decide +kernel
theorem dX10_extremeOf_85 : decode cX10_extremeOf 85 = .ok (.istore 6, 2) := by decide +kernel
theorem dX10_extremeOf_87 : decode cX10_extremeOf 87 = .ok (.iload 10, 2) := by decide +kernel
theorem dX10_extremeOf_89 : decode cX10_extremeOf 89 = .ok (.ifCond .eq 8, 3) := by decide +kernel
theorem dX10_extremeOf_92 : decode cX10_extremeOf 92 = .ok (.iload 9, 2) := by decide +kernel
theorem dX10_extremeOf_94 : decode cX10_extremeOf 94 = .ok (.goto 5, 3) := by decide +kernel
theorem dX10_extremeOf_97 : decode cX10_extremeOf 97 = .ok (.iload 7, 2) := by decide +kernel
theorem dX10_extremeOf_99 : decode cX10_extremeOf 99 = .ok (.istore 7, 2) := by decide +kernel
theorem dX10_extremeOf_101 : decode cX10_extremeOf 101 = .ok (.iinc 8 1, 3) := by decide +kernel
theorem dX10_extremeOf_104 : decode cX10_extremeOf 104 = .ok (.goto (-94), 3) := by decide +kernel
theorem dX10_extremeOf_107 : decode cX10_extremeOf 107 = .ok (.iload 6, 2) := by decide +kernel
theorem dX10_extremeOf_109 : decode cX10_extremeOf 109 = .ok (.ireturn, 1) := by decide +kernel
theorem dX10_tightest_0 : decode cX10_tightest 0 = .ok (.aload_n 0, 1) := by decide +kernel
theorem dX10_tightest_1 : decode cX10_tightest 1 = .ok (.lload_n 1, 1) := by decide +kernel
theorem dX10_tightest_2 : decode cX10_tightest 2 = .ok (.lload_n 1, 1) := by decide +kernel
theorem dX10_tightest_3 : decode cX10_tightest 3 = .ok (.iconst 1, 1) := by decide +kernel
theorem dX10_tightest_4 : decode cX10_tightest 4 = .ok (.invokevirtual 151, 3) := by decide +kernel
theorem dX10_tightest_7 : decode cX10_tightest 7 = .ok (.ireturn, 1) := by decide +kernel
theorem dX10_emptiest_0 : decode cX10_emptiest 0 = .ok (.aload_n 0, 1) := by decide +kernel
theorem dX10_emptiest_1 : decode cX10_emptiest 1 = .ok (.aload_n 0, 1) := by decide +kernel
theorem dX10_emptiest_2 : decode cX10_emptiest 2 = .ok (.invokevirtual 155, 3) := by decide +kernel
theorem dX10_emptiest_5 : decode cX10_emptiest 5 = .ok (.lload_n 1, 1) := by decide +kernel
theorem dX10_emptiest_6 : decode cX10_emptiest 6 = .ok (.ldc2_w 159, 3) := by decide +kernel
theorem dX10_emptiest_9 : decode cX10_emptiest 9 = .ok (.lxor, 1) := by decide +kernel
theorem dX10_emptiest_10 : decode cX10_emptiest 10 = .ok (.land, 1) := by decide +kernel
theorem dX10_emptiest_11 : decode cX10_emptiest 11 = .ok (.lload_n 1, 1) := by decide +kernel
theorem dX10_emptiest_12 : decode cX10_emptiest 12 = .ok (.iconst 0, 1) := by decide +kernel
theorem dX10_emptiest_13 : decode cX10_emptiest 13 = .ok (.invokevirtual 151, 3) := by decide +kernel
theorem dX10_emptiest_16 : decode cX10_emptiest 16 = .ok (.ireturn, 1) := by decide +kernel
theorem dX10_cell_0 : decode cX10_cell 0 = .ok (.aload_n 0, 1) := by decide +kernel
theorem dX10_cell_1 : decode cX10_cell 1 = .ok (.iconst 0, 1) := by decide +kernel
theorem dX10_cell_2 : decode cX10_cell 2 = .ok (.putfield 48, 3) := by decide +kernel
theorem dX10_cell_5 : decode cX10_cell 5 = .ok (.aload_n 0, 1) := by decide +kernel
theorem dX10_cell_6 : decode cX10_cell 6 = .ok (.iload_n 1, 1) := by decide +kernel
theorem dX10_cell_7 : decode cX10_cell 7 = .ok (.iload_n 2, 1) := by decide +kernel
theorem dX10_cell_8 : decode cX10_cell 8 = .ok (.invokevirtual 161, 3) := by decide +kernel
theorem dX10_cell_11 : decode cX10_cell 11 = .ok (.ifCond .ne 7, 3) := by decide +kernel
theorem dX10_cell_14 : decode cX10_cell 14 = .ok (.iconst (-1), 1) := by decide +kernel
theorem dX10_cell_15 : decode cX10_cell 15 = .ok (.goto 44, 3) := by decide +kernel
theorem dX10_cell_18 : decode cX10_cell 18 = .ok (.aload_n 0, 1) := by decide +kernel
theorem dX10_cell_19 : decode cX10_cell 19 = .ok (.getfield 101, 3) := by decide +kernel
theorem dX10_cell_22 : decode cX10_cell 22 = .ok (.aload_n 0, 1) := by decide +kernel
theorem dX10_cell_23 : decode cX10_cell 23 = .ok (.iload_n 1, 1) := by decide +kernel
theorem dX10_cell_24 : decode cX10_cell 24 = .ok (.iload_n 2, 1) := by decide +kernel
theorem dX10_cell_25 : decode cX10_cell 25 = .ok (.invokevirtual 164, 3) := by decide +kernel
theorem dX10_cell_28 : decode cX10_cell 28 = .ok (.invokestatic 52, 3) := by decide +kernel
theorem dX10_cell_31 : decode cX10_cell 31 = .ok (.ifCond .eq 7, 3) := by decide +kernel
theorem dX10_cell_34 : decode cX10_cell 34 = .ok (.iconst 2, 1) := by decide +kernel
theorem dX10_cell_35 : decode cX10_cell 35 = .ok (.goto 24, 3) := by decide +kernel
theorem dX10_cell_38 : decode cX10_cell 38 = .ok (.aload_n 0, 1) := by decide +kernel
theorem dX10_cell_39 : decode cX10_cell 39 = .ok (.getfield 104, 3) := by decide +kernel
theorem dX10_cell_42 : decode cX10_cell 42 = .ok (.aload_n 0, 1) := by decide +kernel
theorem dX10_cell_43 : decode cX10_cell 43 = .ok (.iload_n 1, 1) := by decide +kernel
theorem dX10_cell_44 : decode cX10_cell 44 = .ok (.iload_n 2, 1) := by decide +kernel
theorem dX10_cell_45 : decode cX10_cell 45 = .ok (.invokevirtual 164, 3) := by decide +kernel
theorem dX10_cell_48 : decode cX10_cell 48 = .ok (.invokestatic 52, 3) := by decide +kernel
theorem dX10_cell_51 : decode cX10_cell 51 = .ok (.ifCond .eq 7, 3) := by decide +kernel
theorem dX10_cell_54 : decode cX10_cell 54 = .ok (.iconst 1, 1) := by decide +kernel
theorem dX10_cell_55 : decode cX10_cell 55 = .ok (.goto 4, 3) := by decide +kernel
theorem dX10_cell_58 : decode cX10_cell 58 = .ok (.iconst 0, 1) := by decide +kernel
theorem dX10_cell_59 : decode cX10_cell 59 = .ok (.ireturn, 1) := by decide +kernel
theorem dX10_near_0 : decode cX10_near 0 = .ok (.aload_n 0, 1) := by decide +kernel
theorem dX10_near_1 : decode cX10_near 1 = .ok (.iconst 0, 1) := by decide +kernel
theorem dX10_near_2 : decode cX10_near 2 = .ok (.putfield 48, 3) := by decide +kernel
theorem dX10_near_5 : decode cX10_near 5 = .ok (.aload_n 0, 1) := by decide +kernel
theorem dX10_near_6 : decode cX10_near 6 = .ok (.iload_n 1, 1) := by decide +kernel
theorem dX10_near_7 : decode cX10_near 7 = .ok (.invokevirtual 167, 3) := by decide +kernel
theorem dX10_near_10 : decode cX10_near 10 = .ok (.ifCond .eq 20, 3) := by decide +kernel
theorem dX10_near_13 : decode cX10_near 13 = .ok (.aload_n 0, 1) := by decide +kernel
theorem dX10_near_14 : decode cX10_near 14 = .ok (.iload_n 2, 1) := by decide +kernel
theorem dX10_near_15 : decode cX10_near 15 = .ok (.invokevirtual 167, 3) := by decide +kernel
theorem dX10_near_18 : decode cX10_near 18 = .ok (.ifCond .eq 12, 3) := by decide +kernel
theorem dX10_near_21 : decode cX10_near 21 = .ok (.iload_n 3, 1) := by decide +kernel
theorem dX10_near_22 : decode cX10_near 22 = .ok (.iconst 0, 1) := by decide +kernel
theorem dX10_near_23 : decode cX10_near 23 = .ok (.iconst 1, 1) := by decide +kernel
theorem dX10_near_24 : decode cX10_near 24 = .ok (.invokestatic 56, 3) := by decide +kernel
theorem dX10_near_27 : decode cX10_near 27 = .ok (.ifCond .ne 5, 3) := by decide +kernel
theorem dX10_near_30 : decode cX10_near 30 = .ok (.iconst (-1), 1) := by decide +kernel
theorem dX10_near_31 : decode cX10_near 31 = .ok (.ireturn, 1) := by decide +kernel
theorem dX10_near_32 : decode cX10_near 32 = .ok (.iload_n 3, 1) := by decide +kernel
theorem dX10_near_33 : decode cX10_near 33 = .ok (.ifCond .ne 12, 3) := by decide +kernel
theorem dX10_near_36 : decode cX10_near 36 = .ok (.aload_n 0, 1) := by decide +kernel
theorem dX10_near_37 : decode cX10_near 37 = .ok (.iload_n 1, 1) := by decide +kernel
theorem dX10_near_38 : decode cX10_near 38 = .ok (.iload_n 2, 1) := by decide +kernel
theorem dX10_near_39 : decode cX10_near 39 = .ok (.invokevirtual 136, 3) := by decide +kernel
theorem dX10_near_42 : decode cX10_near 42 = .ok (.goto 13, 3) := by decide +kernel
theorem dX10_near_45 : decode cX10_near 45 = .ok (.aload_n 0, 1) := by decide +kernel
theorem dX10_near_46 : decode cX10_near 46 = .ok (.aload_n 0, 1) := by decide +kernel
theorem dX10_near_47 : decode cX10_near 47 = .ok (.iload_n 1, 1) := by decide +kernel
theorem dX10_near_48 : decode cX10_near 48 = .ok (.iload_n 2, 1) := by decide +kernel
theorem dX10_near_49 : decode cX10_near 49 = .ok (.invokevirtual 136, 3) := by decide +kernel
theorem dX10_near_52 : decode cX10_near 52 = .ok (.invokevirtual 140, 3) := by decide +kernel
theorem dX10_near_55 : decode cX10_near 55 = .ok (.ireturn, 1) := by decide +kernel
theorem dX10_notes_0 : decode cX10_notes 0 = .ok (.aload_n 0, 1) := by decide +kernel
theorem dX10_notes_1 : decode cX10_notes 1 = .ok (.getfield 107, 3) := by decide +kernel
theorem dX10_notes_4 : decode cX10_notes 4 = .ok (.bipush 10, 2) := by decide +kernel
theorem dX10_notes_6 : decode cX10_notes 6 = .ok (.if_icmp .ne 37, 3) := by decide +kernel
theorem dX10_notes_9 : decode cX10_notes 9 = .ok (.iconst 0, 1) := by decide +kernel
theorem dX10_notes_10 : decode cX10_notes 10 = .ok (.istore_n 1, 1) := by decide +kernel
theorem dX10_notes_11 : decode cX10_notes 11 = .ok (.iload_n 1, 1) := by decide +kernel
theorem dX10_notes_12 : decode cX10_notes 12 = .ok (.bipush 9, 2) := by decide +kernel
theorem dX10_notes_14 : decode cX10_notes 14 = .ok (.if_icmp .ge 23, 3) := by decide +kernel
theorem dX10_notes_17 : decode cX10_notes 17 = .ok (.aload_n 0, 1) := by decide +kernel
theorem dX10_notes_18 : decode cX10_notes 18 = .ok (.getfield 16, 3) := by decide +kernel
theorem dX10_notes_21 : decode cX10_notes 21 = .ok (.iload_n 1, 1) := by decide +kernel
theorem dX10_notes_22 : decode cX10_notes 22 = .ok (.aload_n 0, 1) := by decide +kernel
theorem dX10_notes_23 : decode cX10_notes 23 = .ok (.getfield 16, 3) := by decide +kernel
theorem dX10_notes_26 : decode cX10_notes 26 = .ok (.iload_n 1, 1) := by decide +kernel
theorem dX10_notes_27 : decode cX10_notes 27 = .ok (.iconst 1, 1) := by decide +kernel
theorem dX10_notes_28 : decode cX10_notes 28 = .ok (.iadd, 1) := by decide +kernel
theorem dX10_notes_29 : decode cX10_notes 29 = .ok (.laload, 1) := by decide +kernel
theorem dX10_notes_30 : decode cX10_notes 30 = .ok (.lastore, 1) := by decide +kernel
theorem dX10_notes_31 : decode cX10_notes 31 = .ok (.iinc 1 1, 3) := by decide +kernel
theorem dX10_notes_34 : decode cX10_notes 34 = .ok (.goto (-23), 3) := by decide +kernel
theorem dX10_notes_37 : decode cX10_notes 37 = .ok (.aload_n 0, 1) := by decide +kernel
theorem dX10_notes_38 : decode cX10_notes 38 = .ok (.bipush 9, 2) := by decide +kernel
theorem dX10_notes_40 : decode cX10_notes 40 = .ok (.putfield 107, 3) := by decide +kernel
theorem dX10_notes_43 : decode cX10_notes 43 = .ok (.aload_n 0, 1) := by decide +kernel
theorem dX10_notes_44 : decode cX10_notes 44 = .ok (.getfield 16, 3) := by decide +kernel
theorem dX10_notes_47 : decode cX10_notes 47 = .ok (.aload_n 0, 1) := by decide +kernel
theorem dX10_notes_48 : decode cX10_notes 48 = .ok (.getfield 107, 3) := by decide +kernel
theorem dX10_notes_51 : decode cX10_notes 51 = .ok (.aload_n 0, 1) := by decide +kernel
theorem dX10_notes_52 : decode cX10_notes 52 = .ok (.getfield 104, 3) := by decide +kernel
theorem dX10_notes_55 : decode cX10_notes 55 = .ok (.lastore, 1) := by decide +kernel
theorem dX10_notes_56 : decode cX10_notes 56 = .ok (.aload_n 0, 1) := by decide +kernel
theorem dX10_notes_57 : decode cX10_notes 57 = .ok (.dup, 1) := by decide +kernel
theorem dX10_notes_58 : decode cX10_notes 58 = .ok (.getfield 107, 3) := by decide +kernel
theorem dX10_notes_61 : decode cX10_notes 61 = .ok (.iconst 1, 1) := by decide +kernel
theorem dX10_notes_62 : decode cX10_notes 62 = .ok (.iadd, 1) := by decide +kernel
theorem dX10_notes_63 : decode cX10_notes 63 = .ok (.putfield 107, 3) := by decide +kernel
theorem dX10_notes_66 : decode cX10_notes 66 = .ok (.return_, 1) := by decide +kernel
theorem dX10_flips_0 : decode cX10_flips 0 = .ok (.aload_n 0, 1) := by decide +kernel
theorem dX10_flips_1 : decode cX10_flips 1 = .ok (.iconst 0, 1) := by decide +kernel
theorem dX10_flips_2 : decode cX10_flips 2 = .ok (.putfield 48, 3) := by decide +kernel
theorem dX10_flips_5 : decode cX10_flips 5 = .ok (.aload_n 0, 1) := by decide +kernel
theorem dX10_flips_6 : decode cX10_flips 6 = .ok (.iload_n 1, 1) := by decide +kernel
theorem dX10_flips_7 : decode cX10_flips 7 = .ok (.iload_n 2, 1) := by decide +kernel
theorem dX10_flips_8 : decode cX10_flips 8 = .ok (.invokevirtual 161, 3) := by decide +kernel
theorem dX10_flips_11 : decode cX10_flips 11 = .ok (.ifCond .ne 5, 3) := by decide +kernel
theorem dX10_flips_14 : decode cX10_flips 14 = .ok (.iconst (-1), 1) := by decide +kernel
theorem dX10_flips_15 : decode cX10_flips 15 = .ok (.ireturn, 1) := by decide +kernel
theorem dX10_flips_16 : decode cX10_flips 16 = .ok (.aload_n 0, 1) := by decide +kernel
theorem dX10_flips_17 : decode cX10_flips 17 = .ok (.getfield 101, 3) := by decide +kernel
theorem dX10_flips_20 : decode cX10_flips 20 = .ok (.aload_n 0, 1) := by decide +kernel
theorem dX10_flips_21 : decode cX10_flips 21 = .ok (.iload_n 1, 1) := by decide +kernel
theorem dX10_flips_22 : decode cX10_flips 22 = .ok (.iload_n 2, 1) := by decide +kernel
theorem dX10_flips_23 : decode cX10_flips 23 = .ok (.invokevirtual 164, 3) := by decide +kernel
theorem dX10_flips_26 : decode cX10_flips 26 = .ok (.invokestatic 52, 3) := by decide +kernel
theorem dX10_flips_29 : decode cX10_flips 29 = .ok (.ifCond .eq 6, 3) := by decide +kernel
theorem dX10_flips_32 : decode cX10_flips 32 = .ok (.bipush (-2), 2) := by decide +kernel
theorem dX10_flips_34 : decode cX10_flips 34 = .ok (.ireturn, 1) := by decide +kernel
theorem dX10_flips_35 : decode cX10_flips 35 = .ok (.aload_n 0, 1) := by decide +kernel
theorem dX10_flips_36 : decode cX10_flips 36 = .ok (.invokevirtual 170, 3) := by decide +kernel
theorem dX10_flips_39 : decode cX10_flips 39 = .ok (.aload_n 0, 1) := by decide +kernel
theorem dX10_flips_40 : decode cX10_flips 40 = .ok (.dup, 1) := by decide +kernel
theorem dX10_flips_41 : decode cX10_flips 41 = .ok (.getfield 104, 3) := by decide +kernel
theorem dX10_flips_44 : decode cX10_flips 44 = .ok (.lconst 1, 1) := by decide +kernel
theorem dX10_flips_45 : decode cX10_flips 45 = .ok (.aload_n 0, 1) := by decide +kernel
theorem dX10_flips_46 : decode cX10_flips 46 = .ok (.iload_n 1, 1) := by decide +kernel
theorem dX10_flips_47 : decode cX10_flips 47 = .ok (.iload_n 2, 1) := by decide +kernel
theorem dX10_flips_48 : decode cX10_flips 48 = .ok (.invokevirtual 164, 3) := by decide +kernel
theorem dX10_flips_51 : decode cX10_flips 51 = .ok (.lshl, 1) := by decide +kernel
theorem dX10_flips_52 : decode cX10_flips 52 = .ok (.lxor, 1) := by decide +kernel
theorem dX10_flips_53 : decode cX10_flips 53 = .ok (.putfield 104, 3) := by decide +kernel
theorem dX10_flips_56 : decode cX10_flips 56 = .ok (.aload_n 0, 1) := by decide +kernel
theorem dX10_flips_57 : decode cX10_flips 57 = .ok (.getfield 104, 3) := by decide +kernel
theorem dX10_flips_60 : decode cX10_flips 60 = .ok (.aload_n 0, 1) := by decide +kernel
theorem dX10_flips_61 : decode cX10_flips 61 = .ok (.iload_n 1, 1) := by decide +kernel
theorem dX10_flips_62 : decode cX10_flips 62 = .ok (.iload_n 2, 1) := by decide +kernel
theorem dX10_flips_63 : decode cX10_flips 63 = .ok (.invokevirtual 164, 3) := by decide +kernel
theorem dX10_flips_66 : decode cX10_flips 66 = .ok (.invokestatic 52, 3) := by decide +kernel
theorem dX10_flips_69 : decode cX10_flips 69 = .ok (.ifCond .eq 7, 3) := by decide +kernel
theorem dX10_flips_72 : decode cX10_flips 72 = .ok (.iconst 1, 1) := by decide +kernel
theorem dX10_flips_73 : decode cX10_flips 73 = .ok (.goto 4, 3) := by decide +kernel
theorem dX10_flips_76 : decode cX10_flips 76 = .ok (.iconst 0, 1) := by decide +kernel
theorem dX10_flips_77 : decode cX10_flips 77 = .ok (.ireturn, 1) := by decide +kernel
theorem dX10_rests_0 : decode cX10_rests 0 = .ok (.aload_n 0, 1) := by decide +kernel
theorem dX10_rests_1 : decode cX10_rests 1 = .ok (.iconst 0, 1) := by decide +kernel
theorem dX10_rests_2 : decode cX10_rests 2 = .ok (.putfield 48, 3) := by decide +kernel
theorem dX10_rests_5 : decode cX10_rests 5 = .ok (.iload_n 1, 1) := by decide +kernel
theorem dX10_rests_6 : decode cX10_rests 6 = .ok (.iconst 1, 1) := by decide +kernel
theorem dX10_rests_7 : decode cX10_rests 7 = .ok (.bipush 64, 2) := by decide +kernel
theorem dX10_rests_9 : decode cX10_rests 9 = .ok (.invokestatic 56, 3) := by decide +kernel
theorem dX10_rests_12 : decode cX10_rests 12 = .ok (.ifCond .ne 5, 3) := by decide +kernel
theorem dX10_rests_15 : decode cX10_rests 15 = .ok (.iconst (-1), 1) := by decide +kernel
theorem dX10_rests_16 : decode cX10_rests 16 = .ok (.ireturn, 1) := by decide +kernel
theorem dX10_rests_17 : decode cX10_rests 17 = .ok (.aload_n 0, 1) := by decide +kernel
theorem dX10_rests_18 : decode cX10_rests 18 = .ok (.getfield 104, 3) := by decide +kernel
theorem dX10_rests_21 : decode cX10_rests 21 = .ok (.lconst 0, 1) := by decide +kernel
theorem dX10_rests_22 : decode cX10_rests 22 = .ok (.lcmp, 1) := by decide +kernel
theorem dX10_rests_23 : decode cX10_rests 23 = .ok (.ifCond .ne 6, 3) := by decide +kernel
theorem dX10_rests_26 : decode cX10_rests 26 = .ok (.bipush (-2), 2) := by decide +kernel
theorem dX10_rests_28 : decode cX10_rests 28 = .ok (.ireturn, 1) := by decide +kernel
theorem dX10_rests_29 : decode cX10_rests 29 = .ok (.aload_n 0, 1) := by decide +kernel
theorem dX10_rests_30 : decode cX10_rests 30 = .ok (.invokevirtual 170, 3) := by decide +kernel
theorem dX10_rests_33 : decode cX10_rests 33 = .ok (.iconst 0, 1) := by decide +kernel
theorem dX10_rests_34 : decode cX10_rests 34 = .ok (.istore_n 2, 1) := by decide +kernel
theorem dX10_rests_35 : decode cX10_rests 35 = .ok (.iconst 1, 1) := by decide +kernel
theorem dX10_rests_36 : decode cX10_rests 36 = .ok (.istore_n 3, 1) := by decide +kernel
theorem dX10_rests_37 : decode cX10_rests 37 = .ok (.iconst 0, 1) := by decide +kernel
theorem dX10_rests_38 : decode cX10_rests 38 = .ok (.istore 4, 2) := by decide +kernel
theorem dX10_rests_40 : decode cX10_rests 40 = .ok (.iload 4, 2) := by decide +kernel
theorem dX10_rests_42 : decode cX10_rests 42 = .ok (.iload_n 1, 1) := by decide +kernel
theorem dX10_rests_43 : decode cX10_rests 43 = .ok (.if_icmp .ge 88, 3) := by decide +kernel
theorem dX10_rests_46 : decode cX10_rests 46 = .ok (.iload_n 3, 1) := by decide +kernel
theorem dX10_rests_47 : decode cX10_rests 47 = .ok (.ifCond .eq 84, 3) := by decide +kernel
theorem dX10_rests_50 : decode cX10_rests 50 = .ok (.aload_n 0, 1) := by decide +kernel
theorem dX10_rests_51 : decode cX10_rests 51 = .ok (.aload_n 0, 1) := by decide +kernel
theorem dX10_rests_52 : decode cX10_rests 52 = .ok (.getfield 104, 3) := by decide +kernel
theorem dX10_rests_55 : decode cX10_rests 55 = .ok (.invokevirtual 173, 3) := by decide +kernel
theorem dX10_rests_58 : decode cX10_rests 58 = .ok (.istore 5, 2) := by decide +kernel
theorem dX10_rests_60 : decode cX10_rests 60 = .ok (.aload_n 0, 1) := by decide +kernel
theorem dX10_rests_61 : decode cX10_rests 61 = .ok (.dup, 1) := by decide +kernel
theorem dX10_rests_62 : decode cX10_rests 62 = .ok (.getfield 104, 3) := by decide +kernel
theorem dX10_rests_65 : decode cX10_rests 65 = .ok (.lconst 1, 1) := by decide +kernel
theorem dX10_rests_66 : decode cX10_rests 66 = .ok (.iload 5, 2) := by decide +kernel
theorem dX10_rests_68 : decode cX10_rests 68 = .ok (.lshl, 1) := by decide +kernel
theorem dX10_rests_69 : decode cX10_rests 69 = .ok (.ldc2_w 159, 3) := by decide +kernel
theorem dX10_rests_72 : decode cX10_rests 72 = .ok (.lxor, 1) := by decide +kernel
theorem dX10_rests_73 : decode cX10_rests 73 = .ok (.land, 1) := by decide +kernel
theorem dX10_rests_74 : decode cX10_rests 74 = .ok (.putfield 104, 3) := by decide +kernel
theorem dX10_rests_77 : decode cX10_rests 77 = .ok (.aload_n 0, 1) := by decide +kernel
theorem dX10_rests_78 : decode cX10_rests 78 = .ok (.aload_n 0, 1) := by decide +kernel
theorem dX10_rests_79 : decode cX10_rests 79 = .ok (.getfield 104, 3) := by decide +kernel
theorem dX10_rests_82 : decode cX10_rests 82 = .ok (.invokevirtual 176, 3) := by decide +kernel
theorem dX10_rests_85 : decode cX10_rests 85 = .ok (.istore 6, 2) := by decide +kernel
theorem dX10_rests_87 : decode cX10_rests 87 = .ok (.aload_n 0, 1) := by decide +kernel
theorem dX10_rests_88 : decode cX10_rests 88 = .ok (.dup, 1) := by decide +kernel
theorem dX10_rests_89 : decode cX10_rests 89 = .ok (.getfield 104, 3) := by decide +kernel
theorem dX10_rests_92 : decode cX10_rests 92 = .ok (.lconst 1, 1) := by decide +kernel
theorem dX10_rests_93 : decode cX10_rests 93 = .ok (.iload 6, 2) := by decide +kernel
theorem dX10_rests_95 : decode cX10_rests 95 = .ok (.lshl, 1) := by decide +kernel
theorem dX10_rests_96 : decode cX10_rests 96 = .ok (.lor, 1) := by decide +kernel
theorem dX10_rests_97 : decode cX10_rests 97 = .ok (.putfield 104, 3) := by decide +kernel
theorem dX10_rests_100 : decode cX10_rests 100 = .ok (.iload 6, 2) := by decide +kernel
theorem dX10_rests_102 : decode cX10_rests 102 = .ok (.iload 5, 2) := by decide +kernel
theorem dX10_rests_104 : decode cX10_rests 104 = .ok (.if_icmp .eq 7, 3) := by decide +kernel
theorem dX10_rests_107 : decode cX10_rests 107 = .ok (.iconst 1, 1) := by decide +kernel
theorem dX10_rests_108 : decode cX10_rests 108 = .ok (.goto 4, 3) := by decide +kernel
theorem dX10_rests_111 : decode cX10_rests 111 = .ok (.iconst 0, 1) := by decide +kernel
theorem dX10_rests_112 : decode cX10_rests 112 = .ok (.istore_n 3, 1) := by decide +kernel
theorem dX10_rests_113 : decode cX10_rests 113 = .ok (.iload_n 2, 1) := by decide +kernel
theorem dX10_rests_114 : decode cX10_rests 114 = .ok (.iload_n 3, 1) := by decide +kernel
theorem dX10_rests_115 : decode cX10_rests 115 = .ok (.ifCond .eq 7, 3) := by decide +kernel
theorem dX10_rests_118 : decode cX10_rests 118 = .ok (.iconst 1, 1) := by decide +kernel
theorem dX10_rests_119 : decode cX10_rests 119 = .ok (.goto 4, 3) := by decide +kernel
theorem dX10_rests_122 : decode cX10_rests 122 = .ok (.iconst 0, 1) := by decide +kernel
theorem dX10_rests_123 : decode cX10_rests 123 = .ok (.iadd, 1) := by decide +kernel
theorem dX10_rests_124 : decode cX10_rests 124 = .ok (.istore_n 2, 1) := by decide +kernel
theorem dX10_rests_125 : decode cX10_rests 125 = .ok (.iinc 4 1, 3) := by decide +kernel
theorem dX10_rests_128 : decode cX10_rests 128 = .ok (.goto (-88), 3) := by decide +kernel
theorem dX10_rests_131 : decode cX10_rests 131 = .ok (.iload_n 2, 1) := by decide +kernel
theorem dX10_rests_132 : decode cX10_rests 132 = .ok (.ireturn, 1) := by decide +kernel
theorem dX10_energyOf_0 : decode cX10_energyOf 0 = .ok (.iconst 0, 1) := by decide +kernel
theorem dX10_energyOf_1 : decode cX10_energyOf 1 = .ok (.istore_n 3, 1) := by decide +kernel
theorem dX10_energyOf_2 : decode cX10_energyOf 2 = .ok (.iconst 0, 1) := by decide +kernel
theorem dX10_energyOf_3 : decode cX10_energyOf 3 = .ok (.istore 4, 2) := by decide +kernel
theorem dX10_energyOf_5 : decode cX10_energyOf 5 = .ok (.iload 4, 2) := by decide +kernel
theorem dX10_energyOf_7 : decode cX10_energyOf 7 = .ok (.aload_n 0, 1) := by decide +kernel
theorem dX10_energyOf_8 : decode cX10_energyOf 8 = .ok (.invokevirtual 125, 3) := by decide +kernel
theorem dX10_energyOf_11 : decode cX10_energyOf 11 = .ok (.if_icmp .ge 62, 3) := by decide +kernel
theorem dX10_energyOf_14 : decode cX10_energyOf 14 = .ok (.iconst 0, 1) := by decide +kernel
theorem dX10_energyOf_15 : decode cX10_energyOf 15 = .ok (.istore 5, 2) := by decide +kernel
theorem dX10_energyOf_17 : decode cX10_energyOf 17 = .ok (.iload 5, 2) := by decide +kernel
theorem dX10_energyOf_19 : decode cX10_energyOf 19 = .ok (.iload 4, 2) := by decide +kernel
theorem dX10_energyOf_21 : decode cX10_energyOf 21 = .ok (.if_icmp .ge 46, 3) := by decide +kernel
theorem dX10_energyOf_24 : decode cX10_energyOf 24 = .ok (.iload_n 3, 1) := by decide +kernel
theorem dX10_energyOf_25 : decode cX10_energyOf 25 = .ok (.lload_n 1, 1) := by decide +kernel
theorem dX10_energyOf_26 : decode cX10_energyOf 26 = .ok (.iload 4, 2) := by decide +kernel
theorem dX10_energyOf_28 : decode cX10_energyOf 28 = .ok (.invokestatic 52, 3) := by decide +kernel
theorem dX10_energyOf_31 : decode cX10_energyOf 31 = .ok (.ifCond .eq 27, 3) := by decide +kernel
theorem dX10_energyOf_34 : decode cX10_energyOf 34 = .ok (.lload_n 1, 1) := by decide +kernel
theorem dX10_energyOf_35 : decode cX10_energyOf 35 = .ok (.iload 5, 2) := by decide +kernel
theorem dX10_energyOf_37 : decode cX10_energyOf 37 = .ok (.invokestatic 52, 3) := by decide +kernel
theorem dX10_energyOf_40 : decode cX10_energyOf 40 = .ok (.ifCond .eq 18, 3) := by decide +kernel
theorem dX10_energyOf_43 : decode cX10_energyOf 43 = .ok (.aload_n 0, 1) := by decide +kernel
theorem dX10_energyOf_44 : decode cX10_energyOf 44 = .ok (.aload_n 0, 1) := by decide +kernel
theorem dX10_energyOf_45 : decode cX10_energyOf 45 = .ok (.iload 4, 2) := by decide +kernel
theorem dX10_energyOf_47 : decode cX10_energyOf 47 = .ok (.iload 5, 2) := by decide +kernel
theorem dX10_energyOf_49 : decode cX10_energyOf 49 = .ok (.invokevirtual 136, 3) := by decide +kernel
theorem dX10_energyOf_52 : decode cX10_energyOf 52 = .ok (.invokevirtual 140, 3) := by decide +kernel
theorem dX10_energyOf_55 : decode cX10_energyOf 55 = .ok (.goto 4, 3) := by decide +kernel
theorem dX10_energyOf_58 : decode cX10_energyOf 58 = .ok (.iconst 0, 1) := by decide +kernel
theorem dX10_energyOf_59 : decode cX10_energyOf 59 = .ok (.iadd, 1) := by decide +kernel
theorem dX10_energyOf_60 : decode cX10_energyOf 60 = .ok (.istore_n 3, 1) := by decide +kernel
theorem dX10_energyOf_61 : decode cX10_energyOf 61 = .ok (.iinc 5 1, 3) := by decide +kernel
theorem dX10_energyOf_64 : decode cX10_energyOf 64 = .ok (.goto (-47), 3) := by decide +kernel
theorem dX10_energyOf_67 : decode cX10_energyOf 67 = .ok (.iinc 4 1, 3) := by decide +kernel
theorem dX10_energyOf_70 : decode cX10_energyOf 70 = .ok (.goto (-65), 3) := by decide +kernel
theorem dX10_energyOf_73 : decode cX10_energyOf 73 = .ok (.iload_n 3, 1) := by decide +kernel
theorem dX10_energyOf_74 : decode cX10_energyOf 74 = .ok (.ireturn, 1) := by decide +kernel
theorem dX10_moved_0 : decode cX10_moved 0 = .ok (.lload_n 0, 1) := by decide +kernel
theorem dX10_moved_1 : decode cX10_moved 1 = .ok (.lconst 1, 1) := by decide +kernel
theorem dX10_moved_2 : decode cX10_moved 2 = .ok (.iload_n 2, 1) := by decide +kernel
theorem dX10_moved_3 : decode cX10_moved 3 = .ok (.lshl, 1) := by decide +kernel
theorem dX10_moved_4 : decode cX10_moved 4 = .ok (.ldc2_w 159, 3) := by decide +kernel
theorem dX10_moved_7 : decode cX10_moved 7 = .ok (.lxor, 1) := by decide +kernel
theorem dX10_moved_8 : decode cX10_moved 8 = .ok (.land, 1) := by decide +kernel
theorem dX10_moved_9 : decode cX10_moved 9 = .ok (.lconst 1, 1) := by decide +kernel
theorem dX10_moved_10 : decode cX10_moved 10 = .ok (.iload_n 3, 1) := by decide +kernel
theorem dX10_moved_11 : decode cX10_moved 11 = .ok (.lshl, 1) := by decide +kernel
theorem dX10_moved_12 : decode cX10_moved 12 = .ok (.lor, 1) := by decide +kernel
theorem dX10_moved_13 : decode cX10_moved 13 = .ok (.lreturn, 1) := by decide +kernel
theorem dX10_moves_0 : decode cX10_moves 0 = .ok (.aload_n 0, 1) := by decide +kernel
theorem dX10_moves_1 : decode cX10_moves 1 = .ok (.iconst 0, 1) := by decide +kernel
theorem dX10_moves_2 : decode cX10_moves 2 = .ok (.putfield 48, 3) := by decide +kernel
theorem dX10_moves_5 : decode cX10_moves 5 = .ok (.aload_n 0, 1) := by decide +kernel
theorem dX10_moves_6 : decode cX10_moves 6 = .ok (.iload_n 1, 1) := by decide +kernel
theorem dX10_moves_7 : decode cX10_moves 7 = .ok (.invokevirtual 167, 3) := by decide +kernel
theorem dX10_moves_10 : decode cX10_moves 10 = .ok (.ifCond .eq 11, 3) := by decide +kernel
theorem dX10_moves_13 : decode cX10_moves 13 = .ok (.aload_n 0, 1) := by decide +kernel
theorem dX10_moves_14 : decode cX10_moves 14 = .ok (.iload_n 2, 1) := by decide +kernel
theorem dX10_moves_15 : decode cX10_moves 15 = .ok (.invokevirtual 167, 3) := by decide +kernel
theorem dX10_moves_18 : decode cX10_moves 18 = .ok (.ifCond .ne 5, 3) := by decide +kernel
theorem dX10_moves_21 : decode cX10_moves 21 = .ok (.iconst (-1), 1) := by decide +kernel
theorem dX10_moves_22 : decode cX10_moves 22 = .ok (.ireturn, 1) := by decide +kernel
theorem dX10_moves_23 : decode cX10_moves 23 = .ok (.aload_n 0, 1) := by decide +kernel
theorem dX10_moves_24 : decode cX10_moves 24 = .ok (.getfield 104, 3) := by decide +kernel
theorem dX10_moves_27 : decode cX10_moves 27 = .ok (.iload_n 1, 1) := by decide +kernel
theorem dX10_moves_28 : decode cX10_moves 28 = .ok (.invokestatic 52, 3) := by decide +kernel
theorem dX10_moves_31 : decode cX10_moves 31 = .ok (.ifCond .eq 19, 3) := by decide +kernel
theorem dX10_moves_34 : decode cX10_moves 34 = .ok (.aload_n 0, 1) := by decide +kernel
theorem dX10_moves_35 : decode cX10_moves 35 = .ok (.getfield 104, 3) := by decide +kernel
theorem dX10_moves_38 : decode cX10_moves 38 = .ok (.aload_n 0, 1) := by decide +kernel
theorem dX10_moves_39 : decode cX10_moves 39 = .ok (.getfield 101, 3) := by decide +kernel
theorem dX10_moves_42 : decode cX10_moves 42 = .ok (.lor, 1) := by decide +kernel
theorem dX10_moves_43 : decode cX10_moves 43 = .ok (.iload_n 2, 1) := by decide +kernel
theorem dX10_moves_44 : decode cX10_moves 44 = .ok (.invokestatic 52, 3) := by decide +kernel
theorem dX10_moves_47 : decode cX10_moves 47 = .ok (.ifCond .eq 6, 3) := by decide +kernel
theorem dX10_moves_50 : decode cX10_moves 50 = .ok (.bipush (-2), 2) := by decide +kernel
theorem dX10_moves_52 : decode cX10_moves 52 = .ok (.ireturn, 1) := by decide +kernel
theorem dX10_moves_53 : decode cX10_moves 53 = .ok (.aload_n 0, 1) := by decide +kernel
theorem dX10_moves_54 : decode cX10_moves 54 = .ok (.invokevirtual 170, 3) := by decide +kernel
theorem dX10_moves_57 : decode cX10_moves 57 = .ok (.aload_n 0, 1) := by decide +kernel
theorem dX10_moves_58 : decode cX10_moves 58 = .ok (.aload_n 0, 1) := by decide +kernel
theorem dX10_moves_59 : decode cX10_moves 59 = .ok (.getfield 104, 3) := by decide +kernel
theorem dX10_moves_62 : decode cX10_moves 62 = .ok (.invokevirtual 179, 3) := by decide +kernel
theorem dX10_moves_65 : decode cX10_moves 65 = .ok (.istore_n 3, 1) := by decide +kernel
theorem dX10_moves_66 : decode cX10_moves 66 = .ok (.aload_n 0, 1) := by decide +kernel
theorem dX10_moves_67 : decode cX10_moves 67 = .ok (.aload_n 0, 1) := by decide +kernel
theorem dX10_moves_68 : decode cX10_moves 68 = .ok (.getfield 104, 3) := by decide +kernel
theorem dX10_moves_71 : decode cX10_moves 71 = .ok (.iload_n 1, 1) := by decide +kernel
theorem dX10_moves_72 : decode cX10_moves 72 = .ok (.iload_n 2, 1) := by decide +kernel
theorem dX10_moves_73 : decode cX10_moves 73 = .ok (.invokestatic 182, 3) := by decide +kernel
theorem dX10_moves_76 : decode cX10_moves 76 = .ok (.putfield 104, 3) := by decide +kernel
theorem dX10_moves_79 : decode cX10_moves 79 = .ok (.aload_n 0, 1) := by decide +kernel
theorem dX10_moves_80 : decode cX10_moves 80 = .ok (.aload_n 0, 1) := by decide +kernel
theorem dX10_moves_81 : decode cX10_moves 81 = .ok (.getfield 104, 3) := by decide +kernel
theorem dX10_moves_84 : decode cX10_moves 84 = .ok (.invokevirtual 179, 3) := by decide +kernel
theorem dX10_moves_87 : decode cX10_moves 87 = .ok (.iload_n 3, 1) := by decide +kernel
theorem dX10_moves_88 : decode cX10_moves 88 = .ok (.isub, 1) := by decide +kernel
theorem dX10_moves_89 : decode cX10_moves 89 = .ok (.ireturn, 1) := by decide +kernel
theorem dX10_undo_0 : decode cX10_undo 0 = .ok (.aload_n 0, 1) := by decide +kernel
theorem dX10_undo_1 : decode cX10_undo 1 = .ok (.iconst 0, 1) := by decide +kernel
theorem dX10_undo_2 : decode cX10_undo 2 = .ok (.putfield 48, 3) := by decide +kernel
theorem dX10_undo_5 : decode cX10_undo 5 = .ok (.aload_n 0, 1) := by decide +kernel
theorem dX10_undo_6 : decode cX10_undo 6 = .ok (.getfield 107, 3) := by decide +kernel
theorem dX10_undo_9 : decode cX10_undo 9 = .ok (.ifCond .ne 6, 3) := by decide +kernel
theorem dX10_undo_12 : decode cX10_undo 12 = .ok (.bipush (-2), 2) := by decide +kernel
theorem dX10_undo_14 : decode cX10_undo 14 = .ok (.ireturn, 1) := by decide +kernel
theorem dX10_undo_15 : decode cX10_undo 15 = .ok (.aload_n 0, 1) := by decide +kernel
theorem dX10_undo_16 : decode cX10_undo 16 = .ok (.dup, 1) := by decide +kernel
theorem dX10_undo_17 : decode cX10_undo 17 = .ok (.getfield 107, 3) := by decide +kernel
theorem dX10_undo_20 : decode cX10_undo 20 = .ok (.iconst 1, 1) := by decide +kernel
theorem dX10_undo_21 : decode cX10_undo 21 = .ok (.isub, 1) := by decide +kernel
theorem dX10_undo_22 : decode cX10_undo 22 = .ok (.putfield 107, 3) := by decide +kernel
theorem dX10_undo_25 : decode cX10_undo 25 = .ok (.aload_n 0, 1) := by decide +kernel
theorem dX10_undo_26 : decode cX10_undo 26 = .ok (.aload_n 0, 1) := by decide +kernel
theorem dX10_undo_27 : decode cX10_undo 27 = .ok (.getfield 16, 3) := by decide +kernel
theorem dX10_undo_30 : decode cX10_undo 30 = .ok (.aload_n 0, 1) := by decide +kernel
theorem dX10_undo_31 : decode cX10_undo 31 = .ok (.getfield 107, 3) := by decide +kernel
theorem dX10_undo_34 : decode cX10_undo 34 = .ok (.laload, 1) := by decide +kernel
theorem dX10_undo_35 : decode cX10_undo 35 = .ok (.putfield 104, 3) := by decide +kernel
theorem dX10_undo_38 : decode cX10_undo 38 = .ok (.aload_n 0, 1) := by decide +kernel
theorem dX10_undo_39 : decode cX10_undo 39 = .ok (.getfield 107, 3) := by decide +kernel
theorem dX10_undo_42 : decode cX10_undo 42 = .ok (.ireturn, 1) := by decide +kernel
theorem dX10_held_0 : decode cX10_held 0 = .ok (.aload_n 0, 1) := by decide +kernel
theorem dX10_held_1 : decode cX10_held 1 = .ok (.iconst 0, 1) := by decide +kernel
theorem dX10_held_2 : decode cX10_held 2 = .ok (.putfield 48, 3) := by decide +kernel
theorem dX10_held_5 : decode cX10_held 5 = .ok (.aload_n 0, 1) := by decide +kernel
theorem dX10_held_6 : decode cX10_held 6 = .ok (.iload_n 1, 1) := by decide +kernel
theorem dX10_held_7 : decode cX10_held 7 = .ok (.iload_n 2, 1) := by decide +kernel
theorem dX10_held_8 : decode cX10_held 8 = .ok (.invokevirtual 161, 3) := by decide +kernel
theorem dX10_held_11 : decode cX10_held 11 = .ok (.ifCond .eq 20, 3) := by decide +kernel
theorem dX10_held_14 : decode cX10_held 14 = .ok (.aload_n 0, 1) := by decide +kernel
theorem dX10_held_15 : decode cX10_held 15 = .ok (.aload_n 0, 1) := by decide +kernel
theorem dX10_held_16 : decode cX10_held 16 = .ok (.getfield 104, 3) := by decide +kernel
theorem dX10_held_19 : decode cX10_held 19 = .ok (.aload_n 0, 1) := by decide +kernel
theorem dX10_held_20 : decode cX10_held 20 = .ok (.iload_n 1, 1) := by decide +kernel
theorem dX10_held_21 : decode cX10_held 21 = .ok (.iload_n 2, 1) := by decide +kernel
theorem dX10_held_22 : decode cX10_held 22 = .ok (.invokevirtual 164, 3) := by decide +kernel
theorem dX10_held_25 : decode cX10_held 25 = .ok (.invokevirtual 147, 3) := by decide +kernel
theorem dX10_held_28 : decode cX10_held 28 = .ok (.goto 4, 3) := by decide +kernel
theorem dX10_held_31 : decode cX10_held 31 = .ok (.iconst (-1), 1) := by decide +kernel
theorem dX10_held_32 : decode cX10_held 32 = .ok (.ireturn, 1) := by decide +kernel
theorem dX10_extreme_0 : decode cX10_extreme 0 = .ok (.aload_n 0, 1) := by decide +kernel
theorem dX10_extreme_1 : decode cX10_extreme 1 = .ok (.iconst 0, 1) := by decide +kernel
theorem dX10_extreme_2 : decode cX10_extreme 2 = .ok (.putfield 48, 3) := by decide +kernel
theorem dX10_extreme_5 : decode cX10_extreme 5 = .ok (.iload_n 1, 1) := by decide +kernel
theorem dX10_extreme_6 : decode cX10_extreme 6 = .ok (.iconst 0, 1) := by decide +kernel
theorem dX10_extreme_7 : decode cX10_extreme 7 = .ok (.iconst 1, 1) := by decide +kernel
theorem dX10_extreme_8 : decode cX10_extreme 8 = .ok (.invokestatic 56, 3) := by decide +kernel
theorem dX10_extreme_11 : decode cX10_extreme 11 = .ok (.ifCond .ne 7, 3) := by decide +kernel
theorem dX10_extreme_14 : decode cX10_extreme 14 = .ok (.iconst (-1), 1) := by decide +kernel
theorem dX10_extreme_15 : decode cX10_extreme 15 = .ok (.goto 26, 3) := by decide +kernel
theorem dX10_extreme_18 : decode cX10_extreme 18 = .ok (.iload_n 1, 1) := by decide +kernel
theorem dX10_extreme_19 : decode cX10_extreme 19 = .ok (.ifCond .ne 14, 3) := by decide +kernel
theorem dX10_extreme_22 : decode cX10_extreme 22 = .ok (.aload_n 0, 1) := by decide +kernel
theorem dX10_extreme_23 : decode cX10_extreme 23 = .ok (.aload_n 0, 1) := by decide +kernel
theorem dX10_extreme_24 : decode cX10_extreme 24 = .ok (.getfield 104, 3) := by decide +kernel
theorem dX10_extreme_27 : decode cX10_extreme 27 = .ok (.invokevirtual 173, 3) := by decide +kernel
theorem dX10_extreme_30 : decode cX10_extreme 30 = .ok (.goto 11, 3) := by decide +kernel
theorem dX10_extreme_33 : decode cX10_extreme 33 = .ok (.aload_n 0, 1) := by decide +kernel
theorem dX10_extreme_34 : decode cX10_extreme 34 = .ok (.aload_n 0, 1) := by decide +kernel
theorem dX10_extreme_35 : decode cX10_extreme 35 = .ok (.getfield 104, 3) := by decide +kernel
theorem dX10_extreme_38 : decode cX10_extreme 38 = .ok (.invokevirtual 176, 3) := by decide +kernel
theorem dX10_extreme_41 : decode cX10_extreme 41 = .ok (.ireturn, 1) := by decide +kernel
theorem dX10_energy_0 : decode cX10_energy 0 = .ok (.aload_n 0, 1) := by decide +kernel
theorem dX10_energy_1 : decode cX10_energy 1 = .ok (.iconst 0, 1) := by decide +kernel
theorem dX10_energy_2 : decode cX10_energy 2 = .ok (.putfield 48, 3) := by decide +kernel
theorem dX10_energy_5 : decode cX10_energy 5 = .ok (.aload_n 0, 1) := by decide +kernel
theorem dX10_energy_6 : decode cX10_energy 6 = .ok (.aload_n 0, 1) := by decide +kernel
theorem dX10_energy_7 : decode cX10_energy 7 = .ok (.getfield 104, 3) := by decide +kernel
theorem dX10_energy_10 : decode cX10_energy 10 = .ok (.invokevirtual 179, 3) := by decide +kernel
theorem dX10_energy_13 : decode cX10_energy 13 = .ok (.ireturn, 1) := by decide +kernel
theorem dX10_tries_0 : decode cX10_tries 0 = .ok (.aload_n 0, 1) := by decide +kernel
theorem dX10_tries_1 : decode cX10_tries 1 = .ok (.iconst 0, 1) := by decide +kernel
theorem dX10_tries_2 : decode cX10_tries 2 = .ok (.putfield 186, 3) := by decide +kernel
theorem dX10_tries_5 : decode cX10_tries 5 = .ok (.aload_n 0, 1) := by decide +kernel
theorem dX10_tries_6 : decode cX10_tries 6 = .ok (.bipush (-9), 2) := by decide +kernel
theorem dX10_tries_8 : decode cX10_tries 8 = .ok (.putfield 189, 3) := by decide +kernel
theorem dX10_tries_11 : decode cX10_tries 11 = .ok (.aload_n 0, 1) := by decide +kernel
theorem dX10_tries_12 : decode cX10_tries 12 = .ok (.bipush (-9), 2) := by decide +kernel
theorem dX10_tries_14 : decode cX10_tries 14 = .ok (.putfield 192, 3) := by decide +kernel
theorem dX10_tries_17 : decode cX10_tries 17 = .ok (.iconst 0, 1) := by decide +kernel
theorem dX10_tries_18 : decode cX10_tries 18 = .ok (.istore_n 1, 1) := by decide +kernel
theorem dX10_tries_19 : decode cX10_tries 19 = .ok (.iload_n 1, 1) := by decide +kernel
theorem dX10_tries_20 : decode cX10_tries 20 = .ok (.aload_n 0, 1) := by decide +kernel
theorem dX10_tries_21 : decode cX10_tries 21 = .ok (.invokevirtual 125, 3) := by decide +kernel
theorem dX10_tries_24 : decode cX10_tries 24 = .ok (.if_icmp .ge 162, 3) := by decide +kernel
theorem dX10_tries_27 : decode cX10_tries 27 = .ok (.aload_n 0, 1) := by decide +kernel
theorem dX10_tries_28 : decode cX10_tries 28 = .ok (.getfield 104, 3) := by decide +kernel
theorem dX10_tries_31 : decode cX10_tries 31 = .ok (.lconst 1, 1) := by decide +kernel
theorem dX10_tries_32 : decode cX10_tries 32 = .ok (.iload_n 1, 1) := by decide +kernel
theorem dX10_tries_33 : decode cX10_tries 33 = .ok (.lshl, 1) := by decide +kernel
theorem dX10_tries_34 : decode cX10_tries 34 = .ok (.ldc2_w 159, 3) := by decide +kernel
theorem dX10_tries_37 : decode cX10_tries 37 = .ok (.lxor, 1) := by decide +kernel
theorem dX10_tries_38 : decode cX10_tries 38 = .ok (.land, 1) := by decide +kernel
theorem dX10_tries_39 : decode cX10_tries 39 = .ok (.lstore_n 2, 1) := by decide +kernel
theorem dX10_tries_40 : decode cX10_tries 40 = .ok (.iconst 0, 1) := by decide +kernel
theorem dX10_tries_41 : decode cX10_tries 41 = .ok (.istore 4, 2) := by decide +kernel
theorem dX10_tries_43 : decode cX10_tries 43 = .ok (.iload 4, 2) := by decide +kernel
theorem dX10_tries_45 : decode cX10_tries 45 = .ok (.aload_n 0, 1) := by decide +kernel
theorem dX10_tries_46 : decode cX10_tries 46 = .ok (.invokevirtual 125, 3) := by decide +kernel
theorem dX10_tries_49 : decode cX10_tries 49 = .ok (.if_icmp .ge 131, 3) := by decide +kernel
theorem dX10_tries_52 : decode cX10_tries 52 = .ok (.aload_n 0, 1) := by decide +kernel
theorem dX10_tries_53 : decode cX10_tries 53 = .ok (.getfield 104, 3) := by decide +kernel
theorem dX10_tries_56 : decode cX10_tries 56 = .ok (.iload_n 1, 1) := by decide +kernel
theorem dX10_tries_57 : decode cX10_tries 57 = .ok (.invokestatic 52, 3) := by decide +kernel
theorem dX10_tries_60 : decode cX10_tries 60 = .ok (.ifCond .eq 114, 3) := by decide +kernel
theorem dX10_tries_63 : decode cX10_tries 63 = .ok (.aload_n 0, 1) := by decide +kernel
theorem dX10_tries_64 : decode cX10_tries 64 = .ok (.getfield 104, 3) := by decide +kernel
theorem dX10_tries_67 : decode cX10_tries 67 = .ok (.aload_n 0, 1) := by decide +kernel
theorem dX10_tries_68 : decode cX10_tries 68 = .ok (.getfield 101, 3) := by decide +kernel
theorem dX10_tries_71 : decode cX10_tries 71 = .ok (.lor, 1) := by decide +kernel
theorem dX10_tries_72 : decode cX10_tries 72 = .ok (.iload 4, 2) := by decide +kernel
theorem dX10_tries_74 : decode cX10_tries 74 = .ok (.invokestatic 52, 3) := by decide +kernel
theorem dX10_tries_77 : decode cX10_tries 77 = .ok (.ifCond .ne 97, 3) := by decide +kernel
theorem dX10_tries_80 : decode cX10_tries 80 = .ok (.aload_n 0, 1) := by decide +kernel
theorem dX10_tries_81 : decode cX10_tries 81 = .ok (.lload_n 2, 1) := by decide +kernel
theorem dX10_tries_82 : decode cX10_tries 82 = .ok (.iload_n 1, 1) := by decide +kernel
theorem dX10_tries_83 : decode cX10_tries 83 = .ok (.invokevirtual 147, 3) := by decide +kernel
theorem dX10_tries_86 : decode cX10_tries 86 = .ok (.aload_n 0, 1) := by decide +kernel
theorem dX10_tries_87 : decode cX10_tries 87 = .ok (.lload_n 2, 1) := by decide +kernel
theorem dX10_tries_88 : decode cX10_tries 88 = .ok (.iload 4, 2) := by decide +kernel
theorem dX10_tries_90 : decode cX10_tries 90 = .ok (.invokevirtual 147, 3) := by decide +kernel
theorem dX10_tries_93 : decode cX10_tries 93 = .ok (.isub, 1) := by decide +kernel
theorem dX10_tries_94 : decode cX10_tries 94 = .ok (.istore 5, 2) := by decide +kernel
theorem dX10_tries_96 : decode cX10_tries 96 = .ok (.aload_n 0, 1) := by decide +kernel
theorem dX10_tries_97 : decode cX10_tries 97 = .ok (.getfield 189, 3) := by decide +kernel
theorem dX10_tries_100 : decode cX10_tries 100 = .ok (.bipush (-9), 2) := by decide +kernel
theorem dX10_tries_102 : decode cX10_tries 102 = .ok (.if_icmp .eq 12, 3) := by decide +kernel
theorem dX10_tries_105 : decode cX10_tries 105 = .ok (.iload 5, 2) := by decide +kernel
theorem dX10_tries_107 : decode cX10_tries 107 = .ok (.aload_n 0, 1) := by decide +kernel
theorem dX10_tries_108 : decode cX10_tries 108 = .ok (.getfield 186, 3) := by decide +kernel
theorem dX10_tries_111 : decode cX10_tries 111 = .ok (.if_icmp .le 7, 3) := by decide +kernel
theorem dX10_tries_114 : decode cX10_tries 114 = .ok (.iconst 1, 1) := by decide +kernel
theorem dX10_tries_115 : decode cX10_tries 115 = .ok (.goto 4, 3) := by decide +kernel
theorem dX10_tries_118 : decode cX10_tries 118 = .ok (.iconst 0, 1) := by decide +kernel
theorem dX10_tries_119 : decode cX10_tries 119 = .ok (.istore 6, 2) := by decide +kernel
theorem dX10_tries_121 : decode cX10_tries 121 = .ok (.aload_n 0, 1) := by decide +kernel
theorem dX10_tries_122 : decode cX10_tries 122 = .ok (.iload 6, 2) := by decide +kernel
theorem dX10_tries_124 : decode cX10_tries 124 = .ok (.ifCond .eq 8, 3) := by decide +kernel
theorem dX10_tries_127 : decode cX10_tries 127 = .ok (.iload 5, 2) := by decide +kernel
theorem dX10_tries_129 : decode cX10_tries 129 = .ok (.goto 7, 3) := by decide +kernel
theorem dX10_tries_132 : decode cX10_tries 132 = .ok (.aload_n 0, 1) := by decide +kernel
theorem dX10_tries_133 : decode cX10_tries 133 = .ok (.getfield 186, 3) := by decide +kernel
theorem dX10_tries_136 : decode cX10_tries 136 = .ok (.putfield 186, 3) := by decide +kernel
theorem dX10_tries_139 : decode cX10_tries 139 = .ok (.aload_n 0, 1) := by decide +kernel
theorem dX10_tries_140 : decode cX10_tries 140 = .ok (.iload 6, 2) := by decide +kernel
theorem dX10_tries_142 : decode cX10_tries 142 = .ok (.ifCond .eq 7, 3) := by decide +kernel
theorem dX10_tries_145 : decode cX10_tries 145 = .ok (.iload_n 1, 1) := by decide +kernel
theorem dX10_tries_146 : decode cX10_tries 146 = .ok (.goto 7, 3) := by decide +kernel
theorem dX10_tries_149 : decode cX10_tries 149 = .ok (.aload_n 0, 1) := by decide +kernel
theorem dX10_tries_150 : decode cX10_tries 150 = .ok (.getfield 189, 3) := by decide +kernel
theorem dX10_tries_153 : decode cX10_tries 153 = .ok (.putfield 189, 3) := by decide +kernel
theorem dX10_tries_156 : decode cX10_tries 156 = .ok (.aload_n 0, 1) := by decide +kernel
theorem dX10_tries_157 : decode cX10_tries 157 = .ok (.iload 6, 2) := by decide +kernel
theorem dX10_tries_159 : decode cX10_tries 159 = .ok (.ifCond .eq 8, 3) := by decide +kernel
theorem dX10_tries_162 : decode cX10_tries 162 = .ok (.iload 4, 2) := by decide +kernel
theorem dX10_tries_164 : decode cX10_tries 164 = .ok (.goto 7, 3) := by decide +kernel
theorem dX10_tries_167 : decode cX10_tries 167 = .ok (.aload_n 0, 1) := by decide +kernel
theorem dX10_tries_168 : decode cX10_tries 168 = .ok (.getfield 192, 3) := by decide +kernel
theorem dX10_tries_171 : decode cX10_tries 171 = .ok (.putfield 192, 3) := by decide +kernel
theorem dX10_tries_174 : decode cX10_tries 174 = .ok (.iinc 4 1, 3) := by decide +kernel
theorem dX10_tries_177 : decode cX10_tries 177 = .ok (.goto (-134), 3) := by decide +kernel
theorem dX10_tries_180 : decode cX10_tries 180 = .ok (.iinc 1 1, 3) := by decide +kernel
theorem dX10_tries_183 : decode cX10_tries 183 = .ok (.goto (-164), 3) := by decide +kernel
theorem dX10_tries_186 : decode cX10_tries 186 = .ok (.return_, 1) := by decide +kernel
theorem dX10_better_0 : decode cX10_better 0 = .ok (.aload_n 0, 1) := by decide +kernel
theorem dX10_better_1 : decode cX10_better 1 = .ok (.iconst 0, 1) := by decide +kernel
theorem dX10_better_2 : decode cX10_better 2 = .ok (.putfield 48, 3) := by decide +kernel
theorem dX10_better_5 : decode cX10_better 5 = .ok (.iload_n 1, 1) := by decide +kernel
theorem dX10_better_6 : decode cX10_better 6 = .ok (.iconst 0, 1) := by decide +kernel
theorem dX10_better_7 : decode cX10_better 7 = .ok (.iconst 2, 1) := by decide +kernel
theorem dX10_better_8 : decode cX10_better 8 = .ok (.invokestatic 56, 3) := by decide +kernel
theorem dX10_better_11 : decode cX10_better 11 = .ok (.ifCond .ne 5, 3) := by decide +kernel
theorem dX10_better_14 : decode cX10_better 14 = .ok (.iconst (-1), 1) := by decide +kernel
theorem dX10_better_15 : decode cX10_better 15 = .ok (.ireturn, 1) := by decide +kernel
theorem dX10_better_16 : decode cX10_better 16 = .ok (.aload_n 0, 1) := by decide +kernel
theorem dX10_better_17 : decode cX10_better 17 = .ok (.invokevirtual 195, 3) := by decide +kernel
theorem dX10_better_20 : decode cX10_better 20 = .ok (.iload_n 1, 1) := by decide +kernel
theorem dX10_better_21 : decode cX10_better 21 = .ok (.ifCond .ne 10, 3) := by decide +kernel
theorem dX10_better_24 : decode cX10_better 24 = .ok (.aload_n 0, 1) := by decide +kernel
theorem dX10_better_25 : decode cX10_better 25 = .ok (.getfield 186, 3) := by decide +kernel
theorem dX10_better_28 : decode cX10_better 28 = .ok (.goto 19, 3) := by decide +kernel
theorem dX10_better_31 : decode cX10_better 31 = .ok (.iload_n 1, 1) := by decide +kernel
theorem dX10_better_32 : decode cX10_better 32 = .ok (.iconst 1, 1) := by decide +kernel
theorem dX10_better_33 : decode cX10_better 33 = .ok (.if_icmp .ne 10, 3) := by decide +kernel
theorem dX10_better_36 : decode cX10_better 36 = .ok (.aload_n 0, 1) := by decide +kernel
theorem dX10_better_37 : decode cX10_better 37 = .ok (.getfield 189, 3) := by decide +kernel
theorem dX10_better_40 : decode cX10_better 40 = .ok (.goto 7, 3) := by decide +kernel
theorem dX10_better_43 : decode cX10_better 43 = .ok (.aload_n 0, 1) := by decide +kernel
theorem dX10_better_44 : decode cX10_better 44 = .ok (.getfield 192, 3) := by decide +kernel
theorem dX10_better_47 : decode cX10_better 47 = .ok (.ireturn, 1) := by decide +kernel
theorem dX10_shifted_0 : decode cX10_shifted 0 = .ok (.lconst 0, 1) := by decide +kernel
theorem dX10_shifted_1 : decode cX10_shifted 1 = .ok (.lstore 5, 2) := by decide +kernel
theorem dX10_shifted_3 : decode cX10_shifted 3 = .ok (.iconst 0, 1) := by decide +kernel
theorem dX10_shifted_4 : decode cX10_shifted 4 = .ok (.istore 7, 2) := by decide +kernel
theorem dX10_shifted_6 : decode cX10_shifted 6 = .ok (.iload 7, 2) := by decide +kernel
theorem dX10_shifted_8 : decode cX10_shifted 8 = .ok (.aload_n 0, 1) := by decide +kernel
theorem dX10_shifted_9 : decode cX10_shifted 9 = .ok (.invokevirtual 125, 3) := by decide +kernel
theorem dX10_shifted_12 : decode cX10_shifted 12 = .ok (.if_icmp .ge 78, 3) := by decide +kernel
theorem dX10_shifted_15 : decode cX10_shifted 15 = .ok (.iload 7, 2) := by decide +kernel
theorem dX10_shifted_17 : decode cX10_shifted 17 = .ok (.aload_n 0, 1) := by decide +kernel
theorem dX10_shifted_18 : decode cX10_shifted 18 = .ok (.getfield 7, 3) := by decide +kernel
theorem dX10_shifted_21 : decode cX10_shifted 21 = .ok (.iconst 0, 1) := by decide +kernel
theorem dX10_shifted_22 : decode cX10_shifted 22 = .ok (.iaload, 1) := by decide +kernel
theorem dX10_shifted_23 : decode cX10_shifted 23 = .ok (.irem, 1) := by decide +kernel
theorem dX10_shifted_24 : decode cX10_shifted 24 = .ok (.iload_n 3, 1) := by decide +kernel
theorem dX10_shifted_25 : decode cX10_shifted 25 = .ok (.iadd, 1) := by decide +kernel
theorem dX10_shifted_26 : decode cX10_shifted 26 = .ok (.aload_n 0, 1) := by decide +kernel
theorem dX10_shifted_27 : decode cX10_shifted 27 = .ok (.getfield 7, 3) := by decide +kernel
theorem dX10_shifted_30 : decode cX10_shifted 30 = .ok (.iconst 0, 1) := by decide +kernel
theorem dX10_shifted_31 : decode cX10_shifted 31 = .ok (.iaload, 1) := by decide +kernel
theorem dX10_shifted_32 : decode cX10_shifted 32 = .ok (.irem, 1) := by decide +kernel
theorem dX10_shifted_33 : decode cX10_shifted 33 = .ok (.istore 8, 2) := by decide +kernel
theorem dX10_shifted_35 : decode cX10_shifted 35 = .ok (.iload 7, 2) := by decide +kernel
theorem dX10_shifted_37 : decode cX10_shifted 37 = .ok (.aload_n 0, 1) := by decide +kernel
theorem dX10_shifted_38 : decode cX10_shifted 38 = .ok (.getfield 7, 3) := by decide +kernel
theorem dX10_shifted_41 : decode cX10_shifted 41 = .ok (.iconst 0, 1) := by decide +kernel
theorem dX10_shifted_42 : decode cX10_shifted 42 = .ok (.iaload, 1) := by decide +kernel
theorem dX10_shifted_43 : decode cX10_shifted 43 = .ok (.idiv, 1) := by decide +kernel
theorem dX10_shifted_44 : decode cX10_shifted 44 = .ok (.iload 4, 2) := by decide +kernel
theorem dX10_shifted_46 : decode cX10_shifted 46 = .ok (.iadd, 1) := by decide +kernel
theorem dX10_shifted_47 : decode cX10_shifted 47 = .ok (.aload_n 0, 1) := by decide +kernel
theorem dX10_shifted_48 : decode cX10_shifted 48 = .ok (.getfield 7, 3) := by decide +kernel
theorem dX10_shifted_51 : decode cX10_shifted 51 = .ok (.iconst 1, 1) := by decide +kernel
theorem dX10_shifted_52 : decode cX10_shifted 52 = .ok (.iaload, 1) := by decide +kernel
theorem dX10_shifted_53 : decode cX10_shifted 53 = .ok (.irem, 1) := by decide +kernel
theorem dX10_shifted_54 : decode cX10_shifted 54 = .ok (.istore 9, 2) := by decide +kernel
theorem dX10_shifted_56 : decode cX10_shifted 56 = .ok (.lload 5, 2) := by decide +kernel
theorem dX10_shifted_58 : decode cX10_shifted 58 = .ok (.lload_n 1, 1) := by decide +kernel
theorem dX10_shifted_59 : decode cX10_shifted 59 = .ok (.iload 7, 2) := by decide +kernel
theorem dX10_shifted_61 : decode cX10_shifted 61 = .ok (.invokestatic 52, 3) := by decide +kernel
theorem dX10_shifted_64 : decode cX10_shifted 64 = .ok (.ifCond .eq 16, 3) := by decide +kernel
theorem dX10_shifted_67 : decode cX10_shifted 67 = .ok (.lconst 1, 1) := by decide +kernel
theorem dX10_shifted_68 : decode cX10_shifted 68 = .ok (.aload_n 0, 1) := by decide +kernel
theorem dX10_shifted_69 : decode cX10_shifted 69 = .ok (.iload 8, 2) := by decide +kernel
theorem dX10_shifted_71 : decode cX10_shifted 71 = .ok (.iload 9, 2) := by decide +kernel
theorem dX10_shifted_73 : decode cX10_shifted 73 = .ok (.invokevirtual 164, 3) := by decide +kernel
theorem dX10_shifted_76 : decode cX10_shifted 76 = .ok (.lshl, 1) := by decide +kernel
theorem dX10_shifted_77 : decode cX10_shifted 77 = .ok (.goto 4, 3) := by decide +kernel
theorem dX10_shifted_80 : decode cX10_shifted 80 = .ok (.lconst 0, 1) := by decide +kernel
theorem dX10_shifted_81 : decode cX10_shifted 81 = .ok (.lor, 1) := by decide +kernel
theorem dX10_shifted_82 : decode cX10_shifted 82 = .ok (.lstore 5, 2) := by decide +kernel
theorem dX10_shifted_84 : decode cX10_shifted 84 = .ok (.iinc 7 1, 3) := by decide +kernel
theorem dX10_shifted_87 : decode cX10_shifted 87 = .ok (.goto (-81), 3) := by decide +kernel
theorem dX10_shifted_90 : decode cX10_shifted 90 = .ok (.lload 5, 2) := by decide +kernel
theorem dX10_shifted_92 : decode cX10_shifted 92 = .ok (.lreturn, 1) := by decide +kernel
theorem dX10_shifts_0 : decode cX10_shifts 0 = .ok (.aload_n 0, 1) := by decide +kernel
theorem dX10_shifts_1 : decode cX10_shifts 1 = .ok (.iconst 0, 1) := by decide +kernel
theorem dX10_shifts_2 : decode cX10_shifts 2 = .ok (.putfield 48, 3) := by decide +kernel
theorem dX10_shifts_5 : decode cX10_shifts 5 = .ok (.iconst 0, 1) := by decide +kernel
theorem dX10_shifts_6 : decode cX10_shifts 6 = .ok (.istore_n 1, 1) := by decide +kernel
theorem dX10_shifts_7 : decode cX10_shifts 7 = .ok (.iconst 0, 1) := by decide +kernel
theorem dX10_shifts_8 : decode cX10_shifts 8 = .ok (.istore_n 2, 1) := by decide +kernel
theorem dX10_shifts_9 : decode cX10_shifts 9 = .ok (.iload_n 2, 1) := by decide +kernel
theorem dX10_shifts_10 : decode cX10_shifts 10 = .ok (.aload_n 0, 1) := by decide +kernel
theorem dX10_shifts_11 : decode cX10_shifts 11 = .ok (.getfield 7, 3) := by decide +kernel
theorem dX10_shifts_14 : decode cX10_shifts 14 = .ok (.iconst 1, 1) := by decide +kernel
theorem dX10_shifts_15 : decode cX10_shifts 15 = .ok (.iaload, 1) := by decide +kernel
theorem dX10_shifts_16 : decode cX10_shifts 16 = .ok (.if_icmp .ge 71, 3) := by decide +kernel
theorem dX10_shifts_19 : decode cX10_shifts 19 = .ok (.iconst 0, 1) := by decide +kernel
theorem dX10_shifts_20 : decode cX10_shifts 20 = .ok (.istore_n 3, 1) := by decide +kernel
theorem dX10_shifts_21 : decode cX10_shifts 21 = .ok (.iload_n 3, 1) := by decide +kernel
theorem dX10_shifts_22 : decode cX10_shifts 22 = .ok (.aload_n 0, 1) := by decide +kernel
theorem dX10_shifts_23 : decode cX10_shifts 23 = .ok (.getfield 7, 3) := by decide +kernel
theorem dX10_shifts_26 : decode cX10_shifts 26 = .ok (.iconst 0, 1) := by decide +kernel
theorem dX10_shifts_27 : decode cX10_shifts 27 = .ok (.iaload, 1) := by decide +kernel
theorem dX10_shifts_28 : decode cX10_shifts 28 = .ok (.if_icmp .ge 53, 3) := by decide +kernel
theorem dX10_shifts_31 : decode cX10_shifts 31 = .ok (.iload_n 1, 1) := by decide +kernel
theorem dX10_shifts_32 : decode cX10_shifts 32 = .ok (.aload_n 0, 1) := by decide +kernel
theorem dX10_shifts_33 : decode cX10_shifts 33 = .ok (.aload_n 0, 1) := by decide +kernel
theorem dX10_shifts_34 : decode cX10_shifts 34 = .ok (.getfield 104, 3) := by decide +kernel
theorem dX10_shifts_37 : decode cX10_shifts 37 = .ok (.iload_n 3, 1) := by decide +kernel
theorem dX10_shifts_38 : decode cX10_shifts 38 = .ok (.iload_n 2, 1) := by decide +kernel
theorem dX10_shifts_39 : decode cX10_shifts 39 = .ok (.invokevirtual 198, 3) := by decide +kernel
theorem dX10_shifts_42 : decode cX10_shifts 42 = .ok (.aload_n 0, 1) := by decide +kernel
theorem dX10_shifts_43 : decode cX10_shifts 43 = .ok (.getfield 104, 3) := by decide +kernel
theorem dX10_shifts_46 : decode cX10_shifts 46 = .ok (.lcmp, 1) := by decide +kernel
theorem dX10_shifts_47 : decode cX10_shifts 47 = .ok (.ifCond .ne 25, 3) := by decide +kernel
theorem dX10_shifts_50 : decode cX10_shifts 50 = .ok (.aload_n 0, 1) := by decide +kernel
theorem dX10_shifts_51 : decode cX10_shifts 51 = .ok (.aload_n 0, 1) := by decide +kernel
theorem dX10_shifts_52 : decode cX10_shifts 52 = .ok (.getfield 101, 3) := by decide +kernel
theorem dX10_shifts_55 : decode cX10_shifts 55 = .ok (.iload_n 3, 1) := by decide +kernel
theorem dX10_shifts_56 : decode cX10_shifts 56 = .ok (.iload_n 2, 1) := by decide +kernel
theorem dX10_shifts_57 : decode cX10_shifts 57 = .ok (.invokevirtual 198, 3) := by decide +kernel
theorem dX10_shifts_60 : decode cX10_shifts 60 = .ok (.aload_n 0, 1) := by decide +kernel
theorem dX10_shifts_61 : decode cX10_shifts 61 = .ok (.getfield 101, 3) := by decide +kernel
theorem dX10_shifts_64 : decode cX10_shifts 64 = .ok (.lcmp, 1) := by decide +kernel
theorem dX10_shifts_65 : decode cX10_shifts 65 = .ok (.ifCond .ne 7, 3) := by decide +kernel
theorem dX10_shifts_68 : decode cX10_shifts 68 = .ok (.iconst 1, 1) := by decide +kernel
theorem dX10_shifts_69 : decode cX10_shifts 69 = .ok (.goto 4, 3) := by decide +kernel
theorem dX10_shifts_72 : decode cX10_shifts 72 = .ok (.iconst 0, 1) := by decide +kernel
theorem dX10_shifts_73 : decode cX10_shifts 73 = .ok (.iadd, 1) := by decide +kernel
theorem dX10_shifts_74 : decode cX10_shifts 74 = .ok (.istore_n 1, 1) := by decide +kernel
theorem dX10_shifts_75 : decode cX10_shifts 75 = .ok (.iinc 3 1, 3) := by decide +kernel
theorem dX10_shifts_78 : decode cX10_shifts 78 = .ok (.goto (-57), 3) := by decide +kernel
theorem dX10_shifts_81 : decode cX10_shifts 81 = .ok (.iinc 2 1, 3) := by decide +kernel
theorem dX10_shifts_84 : decode cX10_shifts 84 = .ok (.goto (-75), 3) := by decide +kernel
theorem dX10_shifts_87 : decode cX10_shifts 87 = .ok (.iload_n 1, 1) := by decide +kernel
theorem dX10_shifts_88 : decode cX10_shifts 88 = .ok (.ireturn, 1) := by decide +kernel
theorem dX10_ranks_0 : decode cX10_ranks 0 = .ok (.aload_n 0, 1) := by decide +kernel
theorem dX10_ranks_1 : decode cX10_ranks 1 = .ok (.getfield 104, 3) := by decide +kernel
theorem dX10_ranks_4 : decode cX10_ranks 4 = .ok (.lstore_n 1, 1) := by decide +kernel
theorem dX10_ranks_5 : decode cX10_ranks 5 = .ok (.aload_n 0, 1) := by decide +kernel
theorem dX10_ranks_6 : decode cX10_ranks 6 = .ok (.getfield 104, 3) := by decide +kernel
theorem dX10_ranks_9 : decode cX10_ranks 9 = .ok (.invokestatic 128, 3) := by decide +kernel
theorem dX10_ranks_12 : decode cX10_ranks 12 = .ok (.istore_n 3, 1) := by decide +kernel
theorem dX10_ranks_13 : decode cX10_ranks 13 = .ok (.iconst 0, 1) := by decide +kernel
theorem dX10_ranks_14 : decode cX10_ranks 14 = .ok (.istore 4, 2) := by decide +kernel
theorem dX10_ranks_16 : decode cX10_ranks 16 = .ok (.iload 4, 2) := by decide +kernel
theorem dX10_ranks_18 : decode cX10_ranks 18 = .ok (.bipush 64, 2) := by decide +kernel
theorem dX10_ranks_20 : decode cX10_ranks 20 = .ok (.if_icmp .ge 27, 3) := by decide +kernel
theorem dX10_ranks_23 : decode cX10_ranks 23 = .ok (.aload_n 0, 1) := by decide +kernel
theorem dX10_ranks_24 : decode cX10_ranks 24 = .ok (.getfield 33, 3) := by decide +kernel
theorem dX10_ranks_27 : decode cX10_ranks 27 = .ok (.iload 4, 2) := by decide +kernel
theorem dX10_ranks_29 : decode cX10_ranks 29 = .ok (.bipush (-9), 2) := by decide +kernel
theorem dX10_ranks_31 : decode cX10_ranks 31 = .ok (.iastore, 1) := by decide +kernel
theorem dX10_ranks_32 : decode cX10_ranks 32 = .ok (.aload_n 0, 1) := by decide +kernel
theorem dX10_ranks_33 : decode cX10_ranks 33 = .ok (.getfield 36, 3) := by decide +kernel
theorem dX10_ranks_36 : decode cX10_ranks 36 = .ok (.iload 4, 2) := by decide +kernel
theorem dX10_ranks_38 : decode cX10_ranks 38 = .ok (.bipush (-9), 2) := by decide +kernel
theorem dX10_ranks_40 : decode cX10_ranks 40 = .ok (.iastore, 1) := by decide +kernel
theorem dX10_ranks_41 : decode cX10_ranks 41 = .ok (.iinc 4 1, 3) := by decide +kernel
theorem dX10_ranks_44 : decode cX10_ranks 44 = .ok (.goto (-28), 3) := by decide +kernel
theorem dX10_ranks_47 : decode cX10_ranks 47 = .ok (.iload_n 3, 1) := by decide +kernel
theorem dX10_ranks_48 : decode cX10_ranks 48 = .ok (.ifCond .le 43, 3) := by decide +kernel
theorem dX10_ranks_51 : decode cX10_ranks 51 = .ok (.aload_n 0, 1) := by decide +kernel
theorem dX10_ranks_52 : decode cX10_ranks 52 = .ok (.lload_n 1, 1) := by decide +kernel
theorem dX10_ranks_53 : decode cX10_ranks 53 = .ok (.invokevirtual 173, 3) := by decide +kernel
theorem dX10_ranks_56 : decode cX10_ranks 56 = .ok (.istore 4, 2) := by decide +kernel
theorem dX10_ranks_58 : decode cX10_ranks 58 = .ok (.lload_n 1, 1) := by decide +kernel
theorem dX10_ranks_59 : decode cX10_ranks 59 = .ok (.lconst 1, 1) := by decide +kernel
theorem dX10_ranks_60 : decode cX10_ranks 60 = .ok (.iload 4, 2) := by decide +kernel
theorem dX10_ranks_62 : decode cX10_ranks 62 = .ok (.lshl, 1) := by decide +kernel
theorem dX10_ranks_63 : decode cX10_ranks 63 = .ok (.ldc2_w 159, 3) := by decide +kernel
theorem dX10_ranks_66 : decode cX10_ranks 66 = .ok (.lxor, 1) := by decide +kernel
theorem dX10_ranks_67 : decode cX10_ranks 67 = .ok (.land, 1) := by decide +kernel
theorem dX10_ranks_68 : decode cX10_ranks 68 = .ok (.lstore_n 1, 1) := by decide +kernel
theorem dX10_ranks_69 : decode cX10_ranks 69 = .ok (.iinc 3 (-1), 3) := by decide +kernel
theorem dX10_ranks_72 : decode cX10_ranks 72 = .ok (.aload_n 0, 1) := by decide +kernel
theorem dX10_ranks_73 : decode cX10_ranks 73 = .ok (.getfield 33, 3) := by decide +kernel
theorem dX10_ranks_76 : decode cX10_ranks 76 = .ok (.iload 4, 2) := by decide +kernel
theorem dX10_ranks_78 : decode cX10_ranks 78 = .ok (.iload_n 3, 1) := by decide +kernel
theorem dX10_ranks_79 : decode cX10_ranks 79 = .ok (.iastore, 1) := by decide +kernel
theorem dX10_ranks_80 : decode cX10_ranks 80 = .ok (.aload_n 0, 1) := by decide +kernel
theorem dX10_ranks_81 : decode cX10_ranks 81 = .ok (.getfield 36, 3) := by decide +kernel
theorem dX10_ranks_84 : decode cX10_ranks 84 = .ok (.iload 4, 2) := by decide +kernel
theorem dX10_ranks_86 : decode cX10_ranks 86 = .ok (.iconst 0, 1) := by decide +kernel
theorem dX10_ranks_87 : decode cX10_ranks 87 = .ok (.iastore, 1) := by decide +kernel
theorem dX10_ranks_88 : decode cX10_ranks 88 = .ok (.goto (-41), 3) := by decide +kernel
theorem dX10_ranks_91 : decode cX10_ranks 91 = .ok (.aload_n 0, 1) := by decide +kernel
theorem dX10_ranks_92 : decode cX10_ranks 92 = .ok (.getfield 104, 3) := by decide +kernel
theorem dX10_ranks_95 : decode cX10_ranks 95 = .ok (.lstore_n 1, 1) := by decide +kernel
theorem dX10_ranks_96 : decode cX10_ranks 96 = .ok (.aload_n 0, 1) := by decide +kernel
theorem dX10_ranks_97 : decode cX10_ranks 97 = .ok (.getfield 104, 3) := by decide +kernel
theorem dX10_ranks_100 : decode cX10_ranks 100 = .ok (.invokestatic 128, 3) := by decide +kernel
theorem dX10_ranks_103 : decode cX10_ranks 103 = .ok (.istore 4, 2) := by decide +kernel
theorem dX10_ranks_105 : decode cX10_ranks 105 = .ok (.aload_n 0, 1) := by decide +kernel
theorem dX10_ranks_106 : decode cX10_ranks 106 = .ok (.invokevirtual 201, 3) := by decide +kernel
theorem dX10_ranks_109 : decode cX10_ranks 109 = .ok (.istore 5, 2) := by decide +kernel
theorem dX10_ranks_111 : decode cX10_ranks 111 = .ok (.iload 4, 2) := by decide +kernel
theorem dX10_ranks_113 : decode cX10_ranks 113 = .ok (.iload 5, 2) := by decide +kernel
theorem dX10_ranks_115 : decode cX10_ranks 115 = .ok (.if_icmp .ge 96, 3) := by decide +kernel
theorem dX10_ranks_118 : decode cX10_ranks 118 = .ok (.iload 4, 2) := by decide +kernel
theorem dX10_ranks_120 : decode cX10_ranks 120 = .ok (.iload 5, 2) := by decide +kernel
theorem dX10_ranks_122 : decode cX10_ranks 122 = .ok (.iconst 1, 1) := by decide +kernel
theorem dX10_ranks_123 : decode cX10_ranks 123 = .ok (.iadd, 1) := by decide +kernel
theorem dX10_ranks_124 : decode cX10_ranks 124 = .ok (.iconst 2, 1) := by decide +kernel
theorem dX10_ranks_125 : decode cX10_ranks 125 = .ok (.idiv, 1) := by decide +kernel
theorem dX10_ranks_126 : decode cX10_ranks 126 = .ok (.if_icmp .ge 7, 3) := by decide +kernel
theorem dX10_ranks_129 : decode cX10_ranks 129 = .ok (.iconst 1, 1) := by decide +kernel
theorem dX10_ranks_130 : decode cX10_ranks 130 = .ok (.goto 4, 3) := by decide +kernel
theorem dX10_ranks_133 : decode cX10_ranks 133 = .ok (.iconst 0, 1) := by decide +kernel
theorem dX10_ranks_134 : decode cX10_ranks 134 = .ok (.istore 6, 2) := by decide +kernel
theorem dX10_ranks_136 : decode cX10_ranks 136 = .ok (.aload_n 0, 1) := by decide +kernel
theorem dX10_ranks_137 : decode cX10_ranks 137 = .ok (.invokevirtual 155, 3) := by decide +kernel
theorem dX10_ranks_140 : decode cX10_ranks 140 = .ok (.lload_n 1, 1) := by decide +kernel
theorem dX10_ranks_141 : decode cX10_ranks 141 = .ok (.ldc2_w 159, 3) := by decide +kernel
theorem dX10_ranks_144 : decode cX10_ranks 144 = .ok (.lxor, 1) := by decide +kernel
theorem dX10_ranks_145 : decode cX10_ranks 145 = .ok (.land, 1) := by decide +kernel
theorem dX10_ranks_146 : decode cX10_ranks 146 = .ok (.lstore 7, 2) := by decide +kernel
theorem dX10_ranks_148 : decode cX10_ranks 148 = .ok (.iload 6, 2) := by decide +kernel
theorem dX10_ranks_150 : decode cX10_ranks 150 = .ok (.ifCond .eq 11, 3) := by decide +kernel
theorem dX10_ranks_153 : decode cX10_ranks 153 = .ok (.aload_n 0, 1) := by decide +kernel
theorem dX10_ranks_154 : decode cX10_ranks 154 = .ok (.lload_n 1, 1) := by decide +kernel
theorem dX10_ranks_155 : decode cX10_ranks 155 = .ok (.invokevirtual 176, 3) := by decide +kernel
theorem dX10_ranks_158 : decode cX10_ranks 158 = .ok (.goto 12, 3) := by decide +kernel
theorem dX10_ranks_161 : decode cX10_ranks 161 = .ok (.aload_n 0, 1) := by decide +kernel
theorem dX10_ranks_162 : decode cX10_ranks 162 = .ok (.lload 7, 2) := by decide +kernel
theorem dX10_ranks_164 : decode cX10_ranks 164 = .ok (.lload 7, 2) := by decide +kernel
theorem dX10_ranks_166 : decode cX10_ranks 166 = .ok (.iconst 1, 1) := by decide +kernel
theorem dX10_ranks_167 : decode cX10_ranks 167 = .ok (.invokevirtual 151, 3) := by decide +kernel
theorem dX10_ranks_170 : decode cX10_ranks 170 = .ok (.istore 9, 2) := by decide +kernel
theorem dX10_ranks_172 : decode cX10_ranks 172 = .ok (.aload_n 0, 1) := by decide +kernel
theorem dX10_ranks_173 : decode cX10_ranks 173 = .ok (.getfield 33, 3) := by decide +kernel
theorem dX10_ranks_176 : decode cX10_ranks 176 = .ok (.iload 9, 2) := by decide +kernel
theorem dX10_ranks_178 : decode cX10_ranks 178 = .ok (.iload 4, 2) := by decide +kernel
theorem dX10_ranks_180 : decode cX10_ranks 180 = .ok (.iastore, 1) := by decide +kernel
theorem dX10_ranks_181 : decode cX10_ranks 181 = .ok (.aload_n 0, 1) := by decide +kernel
theorem dX10_ranks_182 : decode cX10_ranks 182 = .ok (.getfield 36, 3) := by decide +kernel
theorem dX10_ranks_185 : decode cX10_ranks 185 = .ok (.iload 9, 2) := by decide +kernel
theorem dX10_ranks_187 : decode cX10_ranks 187 = .ok (.iload 6, 2) := by decide +kernel
theorem dX10_ranks_189 : decode cX10_ranks 189 = .ok (.ifCond .eq 7, 3) := by decide +kernel
theorem dX10_ranks_192 : decode cX10_ranks 192 = .ok (.iconst 1, 1) := by decide +kernel
theorem dX10_ranks_193 : decode cX10_ranks 193 = .ok (.goto 4, 3) := by decide +kernel
theorem dX10_ranks_196 : decode cX10_ranks 196 = .ok (.iconst 2, 1) := by decide +kernel
theorem dX10_ranks_197 : decode cX10_ranks 197 = .ok (.iastore, 1) := by decide +kernel
theorem dX10_ranks_198 : decode cX10_ranks 198 = .ok (.lload_n 1, 1) := by decide +kernel
theorem dX10_ranks_199 : decode cX10_ranks 199 = .ok (.lconst 1, 1) := by decide +kernel
theorem dX10_ranks_200 : decode cX10_ranks 200 = .ok (.iload 9, 2) := by decide +kernel
theorem dX10_ranks_202 : decode cX10_ranks 202 = .ok (.lshl, 1) := by decide +kernel
theorem dX10_ranks_203 : decode cX10_ranks 203 = .ok (.lor, 1) := by decide +kernel
theorem dX10_ranks_204 : decode cX10_ranks 204 = .ok (.lstore_n 1, 1) := by decide +kernel
theorem dX10_ranks_205 : decode cX10_ranks 205 = .ok (.iinc 4 1, 3) := by decide +kernel
theorem dX10_ranks_208 : decode cX10_ranks 208 = .ok (.goto (-97), 3) := by decide +kernel
theorem dX10_ranks_211 : decode cX10_ranks 211 = .ok (.return_, 1) := by decide +kernel
theorem dX10_rank_0 : decode cX10_rank 0 = .ok (.aload_n 0, 1) := by decide +kernel
theorem dX10_rank_1 : decode cX10_rank 1 = .ok (.iconst 0, 1) := by decide +kernel
theorem dX10_rank_2 : decode cX10_rank 2 = .ok (.putfield 48, 3) := by decide +kernel
theorem dX10_rank_5 : decode cX10_rank 5 = .ok (.aload_n 0, 1) := by decide +kernel
theorem dX10_rank_6 : decode cX10_rank 6 = .ok (.iload_n 1, 1) := by decide +kernel
theorem dX10_rank_7 : decode cX10_rank 7 = .ok (.iload_n 2, 1) := by decide +kernel
theorem dX10_rank_8 : decode cX10_rank 8 = .ok (.invokevirtual 161, 3) := by decide +kernel
theorem dX10_rank_11 : decode cX10_rank 11 = .ok (.ifCond .ne 5, 3) := by decide +kernel
theorem dX10_rank_14 : decode cX10_rank 14 = .ok (.iconst (-1), 1) := by decide +kernel
theorem dX10_rank_15 : decode cX10_rank 15 = .ok (.ireturn, 1) := by decide +kernel
theorem dX10_rank_16 : decode cX10_rank 16 = .ok (.aload_n 0, 1) := by decide +kernel
theorem dX10_rank_17 : decode cX10_rank 17 = .ok (.getfield 104, 3) := by decide +kernel
theorem dX10_rank_20 : decode cX10_rank 20 = .ok (.lconst 0, 1) := by decide +kernel
theorem dX10_rank_21 : decode cX10_rank 21 = .ok (.lcmp, 1) := by decide +kernel
theorem dX10_rank_22 : decode cX10_rank 22 = .ok (.ifCond .ne 6, 3) := by decide +kernel
theorem dX10_rank_25 : decode cX10_rank 25 = .ok (.bipush (-2), 2) := by decide +kernel
theorem dX10_rank_27 : decode cX10_rank 27 = .ok (.ireturn, 1) := by decide +kernel
theorem dX10_rank_28 : decode cX10_rank 28 = .ok (.aload_n 0, 1) := by decide +kernel
theorem dX10_rank_29 : decode cX10_rank 29 = .ok (.invokevirtual 204, 3) := by decide +kernel
theorem dX10_rank_32 : decode cX10_rank 32 = .ok (.aload_n 0, 1) := by decide +kernel
theorem dX10_rank_33 : decode cX10_rank 33 = .ok (.getfield 33, 3) := by decide +kernel
theorem dX10_rank_36 : decode cX10_rank 36 = .ok (.aload_n 0, 1) := by decide +kernel
theorem dX10_rank_37 : decode cX10_rank 37 = .ok (.iload_n 1, 1) := by decide +kernel
theorem dX10_rank_38 : decode cX10_rank 38 = .ok (.iload_n 2, 1) := by decide +kernel
theorem dX10_rank_39 : decode cX10_rank 39 = .ok (.invokevirtual 164, 3) := by decide +kernel
theorem dX10_rank_42 : decode cX10_rank 42 = .ok (.iaload, 1) := by decide +kernel
theorem dX10_rank_43 : decode cX10_rank 43 = .ok (.ireturn, 1) := by decide +kernel
theorem dX10_ranked_0 : decode cX10_ranked 0 = .ok (.aload_n 0, 1) := by decide +kernel
theorem dX10_ranked_1 : decode cX10_ranked 1 = .ok (.iconst 0, 1) := by decide +kernel
theorem dX10_ranked_2 : decode cX10_ranked 2 = .ok (.putfield 48, 3) := by decide +kernel
theorem dX10_ranked_5 : decode cX10_ranked 5 = .ok (.iload_n 1, 1) := by decide +kernel
theorem dX10_ranked_6 : decode cX10_ranked 6 = .ok (.iconst 0, 1) := by decide +kernel
theorem dX10_ranked_7 : decode cX10_ranked 7 = .ok (.aload_n 0, 1) := by decide +kernel
theorem dX10_ranked_8 : decode cX10_ranked 8 = .ok (.invokevirtual 201, 3) := by decide +kernel
theorem dX10_ranked_11 : decode cX10_ranked 11 = .ok (.iconst 1, 1) := by decide +kernel
theorem dX10_ranked_12 : decode cX10_ranked 12 = .ok (.isub, 1) := by decide +kernel
theorem dX10_ranked_13 : decode cX10_ranked 13 = .ok (.invokestatic 56, 3) := by decide +kernel
theorem dX10_ranked_16 : decode cX10_ranked 16 = .ok (.ifCond .ne 5, 3) := by decide +kernel
theorem dX10_ranked_19 : decode cX10_ranked 19 = .ok (.iconst (-1), 1) := by decide +kernel
theorem dX10_ranked_20 : decode cX10_ranked 20 = .ok (.ireturn, 1) := by decide +kernel
theorem dX10_ranked_21 : decode cX10_ranked 21 = .ok (.aload_n 0, 1) := by decide +kernel
theorem dX10_ranked_22 : decode cX10_ranked 22 = .ok (.getfield 104, 3) := by decide +kernel
theorem dX10_ranked_25 : decode cX10_ranked 25 = .ok (.lconst 0, 1) := by decide +kernel
theorem dX10_ranked_26 : decode cX10_ranked 26 = .ok (.lcmp, 1) := by decide +kernel
theorem dX10_ranked_27 : decode cX10_ranked 27 = .ok (.ifCond .ne 6, 3) := by decide +kernel
theorem dX10_ranked_30 : decode cX10_ranked 30 = .ok (.bipush (-2), 2) := by decide +kernel
theorem dX10_ranked_32 : decode cX10_ranked 32 = .ok (.ireturn, 1) := by decide +kernel
theorem dX10_ranked_33 : decode cX10_ranked 33 = .ok (.aload_n 0, 1) := by decide +kernel
theorem dX10_ranked_34 : decode cX10_ranked 34 = .ok (.invokevirtual 204, 3) := by decide +kernel
theorem dX10_ranked_37 : decode cX10_ranked 37 = .ok (.iconst 0, 1) := by decide +kernel
theorem dX10_ranked_38 : decode cX10_ranked 38 = .ok (.istore_n 2, 1) := by decide +kernel
theorem dX10_ranked_39 : decode cX10_ranked 39 = .ok (.aload_n 0, 1) := by decide +kernel
theorem dX10_ranked_40 : decode cX10_ranked 40 = .ok (.getfield 33, 3) := by decide +kernel
theorem dX10_ranked_43 : decode cX10_ranked 43 = .ok (.iload_n 2, 1) := by decide +kernel
theorem dX10_ranked_44 : decode cX10_ranked 44 = .ok (.iaload, 1) := by decide +kernel
theorem dX10_ranked_45 : decode cX10_ranked 45 = .ok (.iload_n 1, 1) := by decide +kernel
theorem dX10_ranked_46 : decode cX10_ranked 46 = .ok (.if_icmp .eq 9, 3) := by decide +kernel
theorem dX10_ranked_49 : decode cX10_ranked 49 = .ok (.iinc 2 1, 3) := by decide +kernel
theorem dX10_ranked_52 : decode cX10_ranked 52 = .ok (.goto (-13), 3) := by decide +kernel
theorem dX10_ranked_55 : decode cX10_ranked 55 = .ok (.iload_n 2, 1) := by decide +kernel
theorem dX10_ranked_56 : decode cX10_ranked 56 = .ok (.ireturn, 1) := by decide +kernel
theorem dX10_stage_0 : decode cX10_stage 0 = .ok (.aload_n 0, 1) := by decide +kernel
theorem dX10_stage_1 : decode cX10_stage 1 = .ok (.iconst 0, 1) := by decide +kernel
theorem dX10_stage_2 : decode cX10_stage 2 = .ok (.putfield 48, 3) := by decide +kernel
theorem dX10_stage_5 : decode cX10_stage 5 = .ok (.aload_n 0, 1) := by decide +kernel
theorem dX10_stage_6 : decode cX10_stage 6 = .ok (.iload_n 1, 1) := by decide +kernel
theorem dX10_stage_7 : decode cX10_stage 7 = .ok (.iload_n 2, 1) := by decide +kernel
theorem dX10_stage_8 : decode cX10_stage 8 = .ok (.invokevirtual 161, 3) := by decide +kernel
theorem dX10_stage_11 : decode cX10_stage 11 = .ok (.ifCond .ne 5, 3) := by decide +kernel
theorem dX10_stage_14 : decode cX10_stage 14 = .ok (.iconst (-1), 1) := by decide +kernel
theorem dX10_stage_15 : decode cX10_stage 15 = .ok (.ireturn, 1) := by decide +kernel
theorem dX10_stage_16 : decode cX10_stage 16 = .ok (.aload_n 0, 1) := by decide +kernel
theorem dX10_stage_17 : decode cX10_stage 17 = .ok (.getfield 104, 3) := by decide +kernel
theorem dX10_stage_20 : decode cX10_stage 20 = .ok (.lconst 0, 1) := by decide +kernel
theorem dX10_stage_21 : decode cX10_stage 21 = .ok (.lcmp, 1) := by decide +kernel
theorem dX10_stage_22 : decode cX10_stage 22 = .ok (.ifCond .ne 6, 3) := by decide +kernel
theorem dX10_stage_25 : decode cX10_stage 25 = .ok (.bipush (-2), 2) := by decide +kernel
theorem dX10_stage_27 : decode cX10_stage 27 = .ok (.ireturn, 1) := by decide +kernel
theorem dX10_stage_28 : decode cX10_stage 28 = .ok (.aload_n 0, 1) := by decide +kernel
theorem dX10_stage_29 : decode cX10_stage 29 = .ok (.invokevirtual 204, 3) := by decide +kernel
theorem dX10_stage_32 : decode cX10_stage 32 = .ok (.aload_n 0, 1) := by decide +kernel
theorem dX10_stage_33 : decode cX10_stage 33 = .ok (.getfield 36, 3) := by decide +kernel
theorem dX10_stage_36 : decode cX10_stage 36 = .ok (.aload_n 0, 1) := by decide +kernel
theorem dX10_stage_37 : decode cX10_stage 37 = .ok (.iload_n 1, 1) := by decide +kernel
theorem dX10_stage_38 : decode cX10_stage 38 = .ok (.iload_n 2, 1) := by decide +kernel
theorem dX10_stage_39 : decode cX10_stage 39 = .ok (.invokevirtual 164, 3) := by decide +kernel
theorem dX10_stage_42 : decode cX10_stage 42 = .ok (.iaload, 1) := by decide +kernel
theorem dX10_stage_43 : decode cX10_stage 43 = .ok (.ireturn, 1) := by decide +kernel
theorem dX10_isIn_0 : decode cX10_isIn 0 = .ok (.aload_n 0, 1) := by decide +kernel
theorem dX10_isIn_1 : decode cX10_isIn 1 = .ok (.getfield 33, 3) := by decide +kernel
theorem dX10_isIn_4 : decode cX10_isIn 4 = .ok (.iload_n 1, 1) := by decide +kernel
theorem dX10_isIn_5 : decode cX10_isIn 5 = .ok (.iaload, 1) := by decide +kernel
theorem dX10_isIn_6 : decode cX10_isIn 6 = .ok (.ifCond .lt 17, 3) := by decide +kernel
theorem dX10_isIn_9 : decode cX10_isIn 9 = .ok (.aload_n 0, 1) := by decide +kernel
theorem dX10_isIn_10 : decode cX10_isIn 10 = .ok (.getfield 33, 3) := by decide +kernel
theorem dX10_isIn_13 : decode cX10_isIn 13 = .ok (.iload_n 1, 1) := by decide +kernel
theorem dX10_isIn_14 : decode cX10_isIn 14 = .ok (.iaload, 1) := by decide +kernel
theorem dX10_isIn_15 : decode cX10_isIn 15 = .ok (.iload_n 2, 1) := by decide +kernel
theorem dX10_isIn_16 : decode cX10_isIn 16 = .ok (.if_icmp .ge 7, 3) := by decide +kernel
theorem dX10_isIn_19 : decode cX10_isIn 19 = .ok (.iconst 1, 1) := by decide +kernel
theorem dX10_isIn_20 : decode cX10_isIn 20 = .ok (.goto 4, 3) := by decide +kernel
theorem dX10_isIn_23 : decode cX10_isIn 23 = .ok (.iconst 0, 1) := by decide +kernel
theorem dX10_isIn_24 : decode cX10_isIn 24 = .ok (.ireturn, 1) := by decide +kernel
theorem dX10_gapOf_0 : decode cX10_gapOf 0 = .ok (.bipush (-9), 2) := by decide +kernel
theorem dX10_gapOf_2 : decode cX10_gapOf 2 = .ok (.istore_n 2, 1) := by decide +kernel
theorem dX10_gapOf_3 : decode cX10_gapOf 3 = .ok (.iconst 0, 1) := by decide +kernel
theorem dX10_gapOf_4 : decode cX10_gapOf 4 = .ok (.istore_n 3, 1) := by decide +kernel
theorem dX10_gapOf_5 : decode cX10_gapOf 5 = .ok (.iload_n 3, 1) := by decide +kernel
theorem dX10_gapOf_6 : decode cX10_gapOf 6 = .ok (.aload_n 0, 1) := by decide +kernel
theorem dX10_gapOf_7 : decode cX10_gapOf 7 = .ok (.invokevirtual 125, 3) := by decide +kernel
theorem dX10_gapOf_10 : decode cX10_gapOf 10 = .ok (.if_icmp .ge 84, 3) := by decide +kernel
theorem dX10_gapOf_13 : decode cX10_gapOf 13 = .ok (.iconst 0, 1) := by decide +kernel
theorem dX10_gapOf_14 : decode cX10_gapOf 14 = .ok (.istore 4, 2) := by decide +kernel
theorem dX10_gapOf_16 : decode cX10_gapOf 16 = .ok (.iload 4, 2) := by decide +kernel
theorem dX10_gapOf_18 : decode cX10_gapOf 18 = .ok (.iload_n 3, 1) := by decide +kernel
theorem dX10_gapOf_19 : decode cX10_gapOf 19 = .ok (.if_icmp .ge 69, 3) := by decide +kernel
theorem dX10_gapOf_22 : decode cX10_gapOf 22 = .ok (.aload_n 0, 1) := by decide +kernel
theorem dX10_gapOf_23 : decode cX10_gapOf 23 = .ok (.iload_n 3, 1) := by decide +kernel
theorem dX10_gapOf_24 : decode cX10_gapOf 24 = .ok (.iload_n 1, 1) := by decide +kernel
theorem dX10_gapOf_25 : decode cX10_gapOf 25 = .ok (.invokevirtual 207, 3) := by decide +kernel
theorem dX10_gapOf_28 : decode cX10_gapOf 28 = .ok (.ifCond .eq 60, 3) := by decide +kernel
theorem dX10_gapOf_31 : decode cX10_gapOf 31 = .ok (.aload_n 0, 1) := by decide +kernel
theorem dX10_gapOf_32 : decode cX10_gapOf 32 = .ok (.iload 4, 2) := by decide +kernel
theorem dX10_gapOf_34 : decode cX10_gapOf 34 = .ok (.iload_n 1, 1) := by decide +kernel
theorem dX10_gapOf_35 : decode cX10_gapOf 35 = .ok (.invokevirtual 207, 3) := by decide +kernel
theorem dX10_gapOf_38 : decode cX10_gapOf 38 = .ok (.ifCond .eq 24, 3) := by decide +kernel
theorem dX10_gapOf_41 : decode cX10_gapOf 41 = .ok (.iload_n 2, 1) := by decide +kernel
theorem dX10_gapOf_42 : decode cX10_gapOf 42 = .ok (.bipush (-9), 2) := by decide +kernel
theorem dX10_gapOf_44 : decode cX10_gapOf 44 = .ok (.if_icmp .eq 14, 3) := by decide +kernel
theorem dX10_gapOf_47 : decode cX10_gapOf 47 = .ok (.aload_n 0, 1) := by decide +kernel
theorem dX10_gapOf_48 : decode cX10_gapOf 48 = .ok (.iload_n 3, 1) := by decide +kernel
theorem dX10_gapOf_49 : decode cX10_gapOf 49 = .ok (.iload 4, 2) := by decide +kernel
theorem dX10_gapOf_51 : decode cX10_gapOf 51 = .ok (.invokevirtual 136, 3) := by decide +kernel
theorem dX10_gapOf_54 : decode cX10_gapOf 54 = .ok (.iload_n 2, 1) := by decide +kernel
theorem dX10_gapOf_55 : decode cX10_gapOf 55 = .ok (.if_icmp .ge 7, 3) := by decide +kernel
theorem dX10_gapOf_58 : decode cX10_gapOf 58 = .ok (.iconst 1, 1) := by decide +kernel
theorem dX10_gapOf_59 : decode cX10_gapOf 59 = .ok (.goto 4, 3) := by decide +kernel
theorem dX10_gapOf_62 : decode cX10_gapOf 62 = .ok (.iconst 0, 1) := by decide +kernel
theorem dX10_gapOf_63 : decode cX10_gapOf 63 = .ok (.istore 5, 2) := by decide +kernel
theorem dX10_gapOf_65 : decode cX10_gapOf 65 = .ok (.iload 5, 2) := by decide +kernel
theorem dX10_gapOf_67 : decode cX10_gapOf 67 = .ok (.ifCond .eq 13, 3) := by decide +kernel
theorem dX10_gapOf_70 : decode cX10_gapOf 70 = .ok (.aload_n 0, 1) := by decide +kernel
theorem dX10_gapOf_71 : decode cX10_gapOf 71 = .ok (.iload_n 3, 1) := by decide +kernel
theorem dX10_gapOf_72 : decode cX10_gapOf 72 = .ok (.iload 4, 2) := by decide +kernel
theorem dX10_gapOf_74 : decode cX10_gapOf 74 = .ok (.invokevirtual 136, 3) := by decide +kernel
theorem dX10_gapOf_77 : decode cX10_gapOf 77 = .ok (.goto 4, 3) := by decide +kernel
theorem dX10_gapOf_80 : decode cX10_gapOf 80 = .ok (.iload_n 2, 1) := by decide +kernel
theorem dX10_gapOf_81 : decode cX10_gapOf 81 = .ok (.istore_n 2, 1) := by decide +kernel
theorem dX10_gapOf_82 : decode cX10_gapOf 82 = .ok (.iinc 4 1, 3) := by decide +kernel
theorem dX10_gapOf_85 : decode cX10_gapOf 85 = .ok (.goto (-69), 3) := by decide +kernel
theorem dX10_gapOf_88 : decode cX10_gapOf 88 = .ok (.iinc 3 1, 3) := by decide +kernel
theorem dX10_gapOf_91 : decode cX10_gapOf 91 = .ok (.goto (-86), 3) := by decide +kernel
theorem dX10_gapOf_94 : decode cX10_gapOf 94 = .ok (.iload_n 2, 1) := by decide +kernel
theorem dX10_gapOf_95 : decode cX10_gapOf 95 = .ok (.ireturn, 1) := by decide +kernel
theorem dX10_holeOf_0 : decode cX10_holeOf 0 = .ok (.bipush (-9), 2) := by decide +kernel
theorem dX10_holeOf_2 : decode cX10_holeOf 2 = .ok (.istore_n 2, 1) := by decide +kernel
theorem dX10_holeOf_3 : decode cX10_holeOf 3 = .ok (.iconst 0, 1) := by decide +kernel
theorem dX10_holeOf_4 : decode cX10_holeOf 4 = .ok (.istore_n 3, 1) := by decide +kernel
theorem dX10_holeOf_5 : decode cX10_holeOf 5 = .ok (.iload_n 3, 1) := by decide +kernel
theorem dX10_holeOf_6 : decode cX10_holeOf 6 = .ok (.aload_n 0, 1) := by decide +kernel
theorem dX10_holeOf_7 : decode cX10_holeOf 7 = .ok (.invokevirtual 125, 3) := by decide +kernel
theorem dX10_holeOf_10 : decode cX10_holeOf 10 = .ok (.if_icmp .ge 93, 3) := by decide +kernel
theorem dX10_holeOf_13 : decode cX10_holeOf 13 = .ok (.iload_n 1, 1) := by decide +kernel
theorem dX10_holeOf_14 : decode cX10_holeOf 14 = .ok (.ifCond .le 89, 3) := by decide +kernel
theorem dX10_holeOf_17 : decode cX10_holeOf 17 = .ok (.sipush 1000, 3) := by decide +kernel
theorem dX10_holeOf_20 : decode cX10_holeOf 20 = .ok (.istore 4, 2) := by decide +kernel
theorem dX10_holeOf_22 : decode cX10_holeOf 22 = .ok (.iconst 0, 1) := by decide +kernel
theorem dX10_holeOf_23 : decode cX10_holeOf 23 = .ok (.istore 5, 2) := by decide +kernel
theorem dX10_holeOf_25 : decode cX10_holeOf 25 = .ok (.iload 5, 2) := by decide +kernel
theorem dX10_holeOf_27 : decode cX10_holeOf 27 = .ok (.aload_n 0, 1) := by decide +kernel
theorem dX10_holeOf_28 : decode cX10_holeOf 28 = .ok (.invokevirtual 125, 3) := by decide +kernel
theorem dX10_holeOf_31 : decode cX10_holeOf 31 = .ok (.if_icmp .ge 45, 3) := by decide +kernel
theorem dX10_holeOf_34 : decode cX10_holeOf 34 = .ok (.aload_n 0, 1) := by decide +kernel
theorem dX10_holeOf_35 : decode cX10_holeOf 35 = .ok (.iload 5, 2) := by decide +kernel
theorem dX10_holeOf_37 : decode cX10_holeOf 37 = .ok (.iload_n 1, 1) := by decide +kernel
theorem dX10_holeOf_38 : decode cX10_holeOf 38 = .ok (.invokevirtual 207, 3) := by decide +kernel
theorem dX10_holeOf_41 : decode cX10_holeOf 41 = .ok (.ifCond .eq 25, 3) := by decide +kernel
theorem dX10_holeOf_44 : decode cX10_holeOf 44 = .ok (.aload_n 0, 1) := by decide +kernel
theorem dX10_holeOf_45 : decode cX10_holeOf 45 = .ok (.iload_n 3, 1) := by decide +kernel
theorem dX10_holeOf_46 : decode cX10_holeOf 46 = .ok (.iload 5, 2) := by decide +kernel
theorem dX10_holeOf_48 : decode cX10_holeOf 48 = .ok (.invokevirtual 136, 3) := by decide +kernel
theorem dX10_holeOf_51 : decode cX10_holeOf 51 = .ok (.iload 4, 2) := by decide +kernel
theorem dX10_holeOf_53 : decode cX10_holeOf 53 = .ok (.if_icmp .ge 13, 3) := by decide +kernel
theorem dX10_holeOf_56 : decode cX10_holeOf 56 = .ok (.aload_n 0, 1) := by decide +kernel
theorem dX10_holeOf_57 : decode cX10_holeOf 57 = .ok (.iload_n 3, 1) := by decide +kernel
theorem dX10_holeOf_58 : decode cX10_holeOf 58 = .ok (.iload 5, 2) := by decide +kernel
theorem dX10_holeOf_60 : decode cX10_holeOf 60 = .ok (.invokevirtual 136, 3) := by decide +kernel
theorem dX10_holeOf_63 : decode cX10_holeOf 63 = .ok (.goto 5, 3) := by decide +kernel
theorem dX10_holeOf_66 : decode cX10_holeOf 66 = .ok (.iload 4, 2) := by decide +kernel
theorem dX10_holeOf_68 : decode cX10_holeOf 68 = .ok (.istore 4, 2) := by decide +kernel
theorem dX10_holeOf_70 : decode cX10_holeOf 70 = .ok (.iinc 5 1, 3) := by decide +kernel
theorem dX10_holeOf_73 : decode cX10_holeOf 73 = .ok (.goto (-48), 3) := by decide +kernel
theorem dX10_holeOf_76 : decode cX10_holeOf 76 = .ok (.aload_n 0, 1) := by decide +kernel
theorem dX10_holeOf_77 : decode cX10_holeOf 77 = .ok (.iload_n 3, 1) := by decide +kernel
theorem dX10_holeOf_78 : decode cX10_holeOf 78 = .ok (.invokevirtual 144, 3) := by decide +kernel
theorem dX10_holeOf_81 : decode cX10_holeOf 81 = .ok (.ifCond .eq 14, 3) := by decide +kernel
theorem dX10_holeOf_84 : decode cX10_holeOf 84 = .ok (.iload 4, 2) := by decide +kernel
theorem dX10_holeOf_86 : decode cX10_holeOf 86 = .ok (.iload_n 2, 1) := by decide +kernel
theorem dX10_holeOf_87 : decode cX10_holeOf 87 = .ok (.if_icmp .le 8, 3) := by decide +kernel
theorem dX10_holeOf_90 : decode cX10_holeOf 90 = .ok (.iload 4, 2) := by decide +kernel
theorem dX10_holeOf_92 : decode cX10_holeOf 92 = .ok (.goto 4, 3) := by decide +kernel
theorem dX10_holeOf_95 : decode cX10_holeOf 95 = .ok (.iload_n 2, 1) := by decide +kernel
theorem dX10_holeOf_96 : decode cX10_holeOf 96 = .ok (.istore_n 2, 1) := by decide +kernel
theorem dX10_holeOf_97 : decode cX10_holeOf 97 = .ok (.iinc 3 1, 3) := by decide +kernel
theorem dX10_holeOf_100 : decode cX10_holeOf 100 = .ok (.goto (-95), 3) := by decide +kernel
theorem dX10_holeOf_103 : decode cX10_holeOf 103 = .ok (.iload_n 2, 1) := by decide +kernel
theorem dX10_holeOf_104 : decode cX10_holeOf 104 = .ok (.ireturn, 1) := by decide +kernel
theorem dX10_shade_0 : decode cX10_shade 0 = .ok (.aload_n 0, 1) := by decide +kernel
theorem dX10_shade_1 : decode cX10_shade 1 = .ok (.iconst 0, 1) := by decide +kernel
theorem dX10_shade_2 : decode cX10_shade 2 = .ok (.putfield 48, 3) := by decide +kernel
theorem dX10_shade_5 : decode cX10_shade 5 = .ok (.iload_n 1, 1) := by decide +kernel
theorem dX10_shade_6 : decode cX10_shade 6 = .ok (.iconst 0, 1) := by decide +kernel
theorem dX10_shade_7 : decode cX10_shade 7 = .ok (.aload_n 0, 1) := by decide +kernel
theorem dX10_shade_8 : decode cX10_shade 8 = .ok (.invokevirtual 201, 3) := by decide +kernel
theorem dX10_shade_11 : decode cX10_shade 11 = .ok (.invokestatic 56, 3) := by decide +kernel
theorem dX10_shade_14 : decode cX10_shade 14 = .ok (.ifCond .eq 12, 3) := by decide +kernel
theorem dX10_shade_17 : decode cX10_shade 17 = .ok (.iload_n 2, 1) := by decide +kernel
theorem dX10_shade_18 : decode cX10_shade 18 = .ok (.iconst 0, 1) := by decide +kernel
theorem dX10_shade_19 : decode cX10_shade 19 = .ok (.iconst 1, 1) := by decide +kernel
theorem dX10_shade_20 : decode cX10_shade 20 = .ok (.invokestatic 56, 3) := by decide +kernel
theorem dX10_shade_23 : decode cX10_shade 23 = .ok (.ifCond .ne 5, 3) := by decide +kernel
theorem dX10_shade_26 : decode cX10_shade 26 = .ok (.iconst (-1), 1) := by decide +kernel
theorem dX10_shade_27 : decode cX10_shade 27 = .ok (.ireturn, 1) := by decide +kernel
theorem dX10_shade_28 : decode cX10_shade 28 = .ok (.aload_n 0, 1) := by decide +kernel
theorem dX10_shade_29 : decode cX10_shade 29 = .ok (.getfield 104, 3) := by decide +kernel
theorem dX10_shade_32 : decode cX10_shade 32 = .ok (.lconst 0, 1) := by decide +kernel
theorem dX10_shade_33 : decode cX10_shade 33 = .ok (.lcmp, 1) := by decide +kernel
theorem dX10_shade_34 : decode cX10_shade 34 = .ok (.ifCond .ne 6, 3) := by decide +kernel
theorem dX10_shade_37 : decode cX10_shade 37 = .ok (.bipush (-2), 2) := by decide +kernel
theorem dX10_shade_39 : decode cX10_shade 39 = .ok (.ireturn, 1) := by decide +kernel
theorem dX10_shade_40 : decode cX10_shade 40 = .ok (.aload_n 0, 1) := by decide +kernel
theorem dX10_shade_41 : decode cX10_shade 41 = .ok (.invokevirtual 204, 3) := by decide +kernel
theorem dX10_shade_44 : decode cX10_shade 44 = .ok (.iload_n 2, 1) := by decide +kernel
theorem dX10_shade_45 : decode cX10_shade 45 = .ok (.ifCond .ne 11, 3) := by decide +kernel
theorem dX10_shade_48 : decode cX10_shade 48 = .ok (.aload_n 0, 1) := by decide +kernel
theorem dX10_shade_49 : decode cX10_shade 49 = .ok (.iload_n 1, 1) := by decide +kernel
theorem dX10_shade_50 : decode cX10_shade 50 = .ok (.invokevirtual 210, 3) := by decide +kernel
theorem dX10_shade_53 : decode cX10_shade 53 = .ok (.goto 8, 3) := by decide +kernel
theorem dX10_shade_56 : decode cX10_shade 56 = .ok (.aload_n 0, 1) := by decide +kernel
theorem dX10_shade_57 : decode cX10_shade 57 = .ok (.iload_n 1, 1) := by decide +kernel
theorem dX10_shade_58 : decode cX10_shade 58 = .ok (.invokevirtual 213, 3) := by decide +kernel
theorem dX10_shade_61 : decode cX10_shade 61 = .ok (.ireturn, 1) := by decide +kernel
theorem dX10_finest_0 : decode cX10_finest 0 = .ok (.aload_n 0, 1) := by decide +kernel
theorem dX10_finest_1 : decode cX10_finest 1 = .ok (.iconst 0, 1) := by decide +kernel
theorem dX10_finest_2 : decode cX10_finest 2 = .ok (.putfield 48, 3) := by decide +kernel
theorem dX10_finest_5 : decode cX10_finest 5 = .ok (.iload_n 1, 1) := by decide +kernel
theorem dX10_finest_6 : decode cX10_finest 6 = .ok (.iconst 0, 1) := by decide +kernel
theorem dX10_finest_7 : decode cX10_finest 7 = .ok (.sipush 999, 3) := by decide +kernel
theorem dX10_finest_10 : decode cX10_finest 10 = .ok (.invokestatic 56, 3) := by decide +kernel
theorem dX10_finest_13 : decode cX10_finest 13 = .ok (.ifCond .ne 5, 3) := by decide +kernel
theorem dX10_finest_16 : decode cX10_finest 16 = .ok (.iconst (-1), 1) := by decide +kernel
theorem dX10_finest_17 : decode cX10_finest 17 = .ok (.ireturn, 1) := by decide +kernel
theorem dX10_finest_18 : decode cX10_finest 18 = .ok (.aload_n 0, 1) := by decide +kernel
theorem dX10_finest_19 : decode cX10_finest 19 = .ok (.getfield 104, 3) := by decide +kernel
theorem dX10_finest_22 : decode cX10_finest 22 = .ok (.lconst 0, 1) := by decide +kernel
theorem dX10_finest_23 : decode cX10_finest 23 = .ok (.lcmp, 1) := by decide +kernel
theorem dX10_finest_24 : decode cX10_finest 24 = .ok (.ifCond .ne 6, 3) := by decide +kernel
theorem dX10_finest_27 : decode cX10_finest 27 = .ok (.bipush (-2), 2) := by decide +kernel
theorem dX10_finest_29 : decode cX10_finest 29 = .ok (.ireturn, 1) := by decide +kernel
theorem dX10_finest_30 : decode cX10_finest 30 = .ok (.aload_n 0, 1) := by decide +kernel
theorem dX10_finest_31 : decode cX10_finest 31 = .ok (.invokevirtual 204, 3) := by decide +kernel
theorem dX10_finest_34 : decode cX10_finest 34 = .ok (.aload_n 0, 1) := by decide +kernel
theorem dX10_finest_35 : decode cX10_finest 35 = .ok (.invokevirtual 201, 3) := by decide +kernel
theorem dX10_finest_38 : decode cX10_finest 38 = .ok (.istore_n 2, 1) := by decide +kernel
theorem dX10_finest_39 : decode cX10_finest 39 = .ok (.iload_n 2, 1) := by decide +kernel
theorem dX10_finest_40 : decode cX10_finest 40 = .ok (.iconst 1, 1) := by decide +kernel
theorem dX10_finest_41 : decode cX10_finest 41 = .ok (.if_icmp .le 18, 3) := by decide +kernel
theorem dX10_finest_44 : decode cX10_finest 44 = .ok (.aload_n 0, 1) := by decide +kernel
theorem dX10_finest_45 : decode cX10_finest 45 = .ok (.iload_n 2, 1) := by decide +kernel
theorem dX10_finest_46 : decode cX10_finest 46 = .ok (.invokevirtual 210, 3) := by decide +kernel
theorem dX10_finest_49 : decode cX10_finest 49 = .ok (.iload_n 1, 1) := by decide +kernel
theorem dX10_finest_50 : decode cX10_finest 50 = .ok (.if_icmp .ge 9, 3) := by decide +kernel
theorem dX10_finest_53 : decode cX10_finest 53 = .ok (.iinc 2 (-1), 3) := by decide +kernel
theorem dX10_finest_56 : decode cX10_finest 56 = .ok (.goto (-17), 3) := by decide +kernel
theorem dX10_finest_59 : decode cX10_finest 59 = .ok (.iload_n 2, 1) := by decide +kernel
theorem dX10_finest_60 : decode cX10_finest 60 = .ok (.ireturn, 1) := by decide +kernel
theorem dX10_level_0 : decode cX10_level 0 = .ok (.aload_n 0, 1) := by decide +kernel
theorem dX10_level_1 : decode cX10_level 1 = .ok (.getfield 113, 3) := by decide +kernel
theorem dX10_level_4 : decode cX10_level 4 = .ok (.iload_n 1, 1) := by decide +kernel
theorem dX10_level_5 : decode cX10_level 5 = .ok (.aload_n 0, 1) := by decide +kernel
theorem dX10_level_6 : decode cX10_level 6 = .ok (.getfield 7, 3) := by decide +kernel
theorem dX10_level_9 : decode cX10_level 9 = .ok (.iconst 0, 1) := by decide +kernel
theorem dX10_level_10 : decode cX10_level 10 = .ok (.iaload, 1) := by decide +kernel
theorem dX10_level_11 : decode cX10_level 11 = .ok (.irem, 1) := by decide +kernel
theorem dX10_level_12 : decode cX10_level 12 = .ok (.aload_n 0, 1) := by decide +kernel
theorem dX10_level_13 : decode cX10_level 13 = .ok (.getfield 116, 3) := by decide +kernel
theorem dX10_level_16 : decode cX10_level 16 = .ok (.imul, 1) := by decide +kernel
theorem dX10_level_17 : decode cX10_level 17 = .ok (.iadd, 1) := by decide +kernel
theorem dX10_level_18 : decode cX10_level 18 = .ok (.iload_n 1, 1) := by decide +kernel
theorem dX10_level_19 : decode cX10_level 19 = .ok (.aload_n 0, 1) := by decide +kernel
theorem dX10_level_20 : decode cX10_level 20 = .ok (.getfield 7, 3) := by decide +kernel
theorem dX10_level_23 : decode cX10_level 23 = .ok (.iconst 0, 1) := by decide +kernel
theorem dX10_level_24 : decode cX10_level 24 = .ok (.iaload, 1) := by decide +kernel
theorem dX10_level_25 : decode cX10_level 25 = .ok (.idiv, 1) := by decide +kernel
theorem dX10_level_26 : decode cX10_level 26 = .ok (.aload_n 0, 1) := by decide +kernel
theorem dX10_level_27 : decode cX10_level 27 = .ok (.getfield 119, 3) := by decide +kernel
theorem dX10_level_30 : decode cX10_level 30 = .ok (.imul, 1) := by decide +kernel
theorem dX10_level_31 : decode cX10_level 31 = .ok (.iadd, 1) := by decide +kernel
theorem dX10_level_32 : decode cX10_level 32 = .ok (.istore_n 2, 1) := by decide +kernel
theorem dX10_level_33 : decode cX10_level 33 = .ok (.iload_n 2, 1) := by decide +kernel
theorem dX10_level_34 : decode cX10_level 34 = .ok (.ifCond .ge 7, 3) := by decide +kernel
theorem dX10_level_37 : decode cX10_level 37 = .ok (.iconst 0, 1) := by decide +kernel
theorem dX10_level_38 : decode cX10_level 38 = .ok (.goto 19, 3) := by decide +kernel
theorem dX10_level_41 : decode cX10_level 41 = .ok (.iload_n 2, 1) := by decide +kernel
theorem dX10_level_42 : decode cX10_level 42 = .ok (.aload_n 0, 1) := by decide +kernel
theorem dX10_level_43 : decode cX10_level 43 = .ok (.invokevirtual 201, 3) := by decide +kernel
theorem dX10_level_46 : decode cX10_level 46 = .ok (.if_icmp .le 10, 3) := by decide +kernel
theorem dX10_level_49 : decode cX10_level 49 = .ok (.aload_n 0, 1) := by decide +kernel
theorem dX10_level_50 : decode cX10_level 50 = .ok (.invokevirtual 201, 3) := by decide +kernel
theorem dX10_level_53 : decode cX10_level 53 = .ok (.goto 4, 3) := by decide +kernel
theorem dX10_level_56 : decode cX10_level 56 = .ok (.iload_n 2, 1) := by decide +kernel
theorem dX10_level_57 : decode cX10_level 57 = .ok (.ireturn, 1) := by decide +kernel
theorem dX10_isInk_0 : decode cX10_isInk 0 = .ok (.aload_n 0, 1) := by decide +kernel
theorem dX10_isInk_1 : decode cX10_isInk 1 = .ok (.getfield 33, 3) := by decide +kernel
theorem dX10_isInk_4 : decode cX10_isInk 4 = .ok (.iload_n 1, 1) := by decide +kernel
theorem dX10_isInk_5 : decode cX10_isInk 5 = .ok (.iaload, 1) := by decide +kernel
theorem dX10_isInk_6 : decode cX10_isInk 6 = .ok (.ifCond .lt 21, 3) := by decide +kernel
theorem dX10_isInk_9 : decode cX10_isInk 9 = .ok (.aload_n 0, 1) := by decide +kernel
theorem dX10_isInk_10 : decode cX10_isInk 10 = .ok (.getfield 33, 3) := by decide +kernel
theorem dX10_isInk_13 : decode cX10_isInk 13 = .ok (.iload_n 1, 1) := by decide +kernel
theorem dX10_isInk_14 : decode cX10_isInk 14 = .ok (.iaload, 1) := by decide +kernel
theorem dX10_isInk_15 : decode cX10_isInk 15 = .ok (.aload_n 0, 1) := by decide +kernel
theorem dX10_isInk_16 : decode cX10_isInk 16 = .ok (.iload_n 1, 1) := by decide +kernel
theorem dX10_isInk_17 : decode cX10_isInk 17 = .ok (.invokevirtual 216, 3) := by decide +kernel
theorem dX10_isInk_20 : decode cX10_isInk 20 = .ok (.if_icmp .ge 7, 3) := by decide +kernel
theorem dX10_isInk_23 : decode cX10_isInk 23 = .ok (.iconst 1, 1) := by decide +kernel
theorem dX10_isInk_24 : decode cX10_isInk 24 = .ok (.goto 4, 3) := by decide +kernel
theorem dX10_isInk_27 : decode cX10_isInk 27 = .ok (.iconst 0, 1) := by decide +kernel
theorem dX10_isInk_28 : decode cX10_isInk 28 = .ok (.ireturn, 1) := by decide +kernel
theorem dX10_printed_0 : decode cX10_printed 0 = .ok (.iconst 0, 1) := by decide +kernel
theorem dX10_printed_1 : decode cX10_printed 1 = .ok (.istore_n 1, 1) := by decide +kernel
theorem dX10_printed_2 : decode cX10_printed 2 = .ok (.iconst 0, 1) := by decide +kernel
theorem dX10_printed_3 : decode cX10_printed 3 = .ok (.istore_n 2, 1) := by decide +kernel
theorem dX10_printed_4 : decode cX10_printed 4 = .ok (.iload_n 2, 1) := by decide +kernel
theorem dX10_printed_5 : decode cX10_printed 5 = .ok (.aload_n 0, 1) := by decide +kernel
theorem dX10_printed_6 : decode cX10_printed 6 = .ok (.invokevirtual 125, 3) := by decide +kernel
theorem dX10_printed_9 : decode cX10_printed 9 = .ok (.if_icmp .ge 25, 3) := by decide +kernel
theorem dX10_printed_12 : decode cX10_printed 12 = .ok (.iload_n 1, 1) := by decide +kernel
theorem dX10_printed_13 : decode cX10_printed 13 = .ok (.aload_n 0, 1) := by decide +kernel
theorem dX10_printed_14 : decode cX10_printed 14 = .ok (.iload_n 2, 1) := by decide +kernel
theorem dX10_printed_15 : decode cX10_printed 15 = .ok (.invokevirtual 219, 3) := by decide +kernel
theorem dX10_printed_18 : decode cX10_printed 18 = .ok (.ifCond .eq 7, 3) := by decide +kernel
theorem dX10_printed_21 : decode cX10_printed 21 = .ok (.iconst 1, 1) := by decide +kernel
theorem dX10_printed_22 : decode cX10_printed 22 = .ok (.goto 4, 3) := by decide +kernel
theorem dX10_printed_25 : decode cX10_printed 25 = .ok (.iconst 0, 1) := by decide +kernel
theorem dX10_printed_26 : decode cX10_printed 26 = .ok (.iadd, 1) := by decide +kernel
theorem dX10_printed_27 : decode cX10_printed 27 = .ok (.istore_n 1, 1) := by decide +kernel
theorem dX10_printed_28 : decode cX10_printed 28 = .ok (.iinc 2 1, 3) := by decide +kernel
theorem dX10_printed_31 : decode cX10_printed 31 = .ok (.goto (-27), 3) := by decide +kernel
theorem dX10_printed_34 : decode cX10_printed 34 = .ok (.iload_n 1, 1) := by decide +kernel
theorem dX10_printed_35 : decode cX10_printed 35 = .ok (.ireturn, 1) := by decide +kernel
theorem dX10_paints_0 : decode cX10_paints 0 = .ok (.aload_n 0, 1) := by decide +kernel
theorem dX10_paints_1 : decode cX10_paints 1 = .ok (.iconst 0, 1) := by decide +kernel
theorem dX10_paints_2 : decode cX10_paints 2 = .ok (.putfield 48, 3) := by decide +kernel
theorem dX10_paints_5 : decode cX10_paints 5 = .ok (.iload_n 1, 1) := by decide +kernel
theorem dX10_paints_6 : decode cX10_paints 6 = .ok (.iconst 0, 1) := by decide +kernel
theorem dX10_paints_7 : decode cX10_paints 7 = .ok (.bipush 64, 2) := by decide +kernel
theorem dX10_paints_9 : decode cX10_paints 9 = .ok (.invokestatic 56, 3) := by decide +kernel
theorem dX10_paints_12 : decode cX10_paints 12 = .ok (.ifCond .eq 25, 3) := by decide +kernel
theorem dX10_paints_15 : decode cX10_paints 15 = .ok (.iload_n 2, 1) := by decide +kernel
theorem dX10_paints_16 : decode cX10_paints 16 = .ok (.bipush (-9), 2) := by decide +kernel
theorem dX10_paints_18 : decode cX10_paints 18 = .ok (.bipush 9, 2) := by decide +kernel
theorem dX10_paints_20 : decode cX10_paints 20 = .ok (.invokestatic 56, 3) := by decide +kernel
theorem dX10_paints_23 : decode cX10_paints 23 = .ok (.ifCond .eq 14, 3) := by decide +kernel
theorem dX10_paints_26 : decode cX10_paints 26 = .ok (.iload_n 3, 1) := by decide +kernel
theorem dX10_paints_27 : decode cX10_paints 27 = .ok (.bipush (-9), 2) := by decide +kernel
theorem dX10_paints_29 : decode cX10_paints 29 = .ok (.bipush 9, 2) := by decide +kernel
theorem dX10_paints_31 : decode cX10_paints 31 = .ok (.invokestatic 56, 3) := by decide +kernel
theorem dX10_paints_34 : decode cX10_paints 34 = .ok (.ifCond .ne 5, 3) := by decide +kernel
theorem dX10_paints_37 : decode cX10_paints 37 = .ok (.iconst (-1), 1) := by decide +kernel
theorem dX10_paints_38 : decode cX10_paints 38 = .ok (.ireturn, 1) := by decide +kernel
theorem dX10_paints_39 : decode cX10_paints 39 = .ok (.aload_n 0, 1) := by decide +kernel
theorem dX10_paints_40 : decode cX10_paints 40 = .ok (.getfield 104, 3) := by decide +kernel
theorem dX10_paints_43 : decode cX10_paints 43 = .ok (.lconst 0, 1) := by decide +kernel
theorem dX10_paints_44 : decode cX10_paints 44 = .ok (.lcmp, 1) := by decide +kernel
theorem dX10_paints_45 : decode cX10_paints 45 = .ok (.ifCond .ne 6, 3) := by decide +kernel
theorem dX10_paints_48 : decode cX10_paints 48 = .ok (.bipush (-2), 2) := by decide +kernel
theorem dX10_paints_50 : decode cX10_paints 50 = .ok (.ireturn, 1) := by decide +kernel
theorem dX10_paints_51 : decode cX10_paints 51 = .ok (.aload_n 0, 1) := by decide +kernel
theorem dX10_paints_52 : decode cX10_paints 52 = .ok (.iload_n 1, 1) := by decide +kernel
theorem dX10_paints_53 : decode cX10_paints 53 = .ok (.putfield 113, 3) := by decide +kernel
theorem dX10_paints_56 : decode cX10_paints 56 = .ok (.aload_n 0, 1) := by decide +kernel
theorem dX10_paints_57 : decode cX10_paints 57 = .ok (.iload_n 2, 1) := by decide +kernel
theorem dX10_paints_58 : decode cX10_paints 58 = .ok (.putfield 116, 3) := by decide +kernel
theorem dX10_paints_61 : decode cX10_paints 61 = .ok (.aload_n 0, 1) := by decide +kernel
theorem dX10_paints_62 : decode cX10_paints 62 = .ok (.iload_n 3, 1) := by decide +kernel
theorem dX10_paints_63 : decode cX10_paints 63 = .ok (.putfield 119, 3) := by decide +kernel
theorem dX10_paints_66 : decode cX10_paints 66 = .ok (.aload_n 0, 1) := by decide +kernel
theorem dX10_paints_67 : decode cX10_paints 67 = .ok (.invokevirtual 204, 3) := by decide +kernel
theorem dX10_paints_70 : decode cX10_paints 70 = .ok (.aload_n 0, 1) := by decide +kernel
theorem dX10_paints_71 : decode cX10_paints 71 = .ok (.invokevirtual 222, 3) := by decide +kernel
theorem dX10_paints_74 : decode cX10_paints 74 = .ok (.ireturn, 1) := by decide +kernel
theorem dX10_ink_0 : decode cX10_ink 0 = .ok (.aload_n 0, 1) := by decide +kernel
theorem dX10_ink_1 : decode cX10_ink 1 = .ok (.iconst 0, 1) := by decide +kernel
theorem dX10_ink_2 : decode cX10_ink 2 = .ok (.putfield 48, 3) := by decide +kernel
theorem dX10_ink_5 : decode cX10_ink 5 = .ok (.aload_n 0, 1) := by decide +kernel
theorem dX10_ink_6 : decode cX10_ink 6 = .ok (.iload_n 1, 1) := by decide +kernel
theorem dX10_ink_7 : decode cX10_ink 7 = .ok (.iload_n 2, 1) := by decide +kernel
theorem dX10_ink_8 : decode cX10_ink 8 = .ok (.invokevirtual 161, 3) := by decide +kernel
theorem dX10_ink_11 : decode cX10_ink 11 = .ok (.ifCond .ne 5, 3) := by decide +kernel
theorem dX10_ink_14 : decode cX10_ink 14 = .ok (.iconst (-1), 1) := by decide +kernel
theorem dX10_ink_15 : decode cX10_ink 15 = .ok (.ireturn, 1) := by decide +kernel
theorem dX10_ink_16 : decode cX10_ink 16 = .ok (.aload_n 0, 1) := by decide +kernel
theorem dX10_ink_17 : decode cX10_ink 17 = .ok (.getfield 104, 3) := by decide +kernel
theorem dX10_ink_20 : decode cX10_ink 20 = .ok (.lconst 0, 1) := by decide +kernel
theorem dX10_ink_21 : decode cX10_ink 21 = .ok (.lcmp, 1) := by decide +kernel
theorem dX10_ink_22 : decode cX10_ink 22 = .ok (.ifCond .ne 6, 3) := by decide +kernel
theorem dX10_ink_25 : decode cX10_ink 25 = .ok (.bipush (-2), 2) := by decide +kernel
theorem dX10_ink_27 : decode cX10_ink 27 = .ok (.ireturn, 1) := by decide +kernel
theorem dX10_ink_28 : decode cX10_ink 28 = .ok (.aload_n 0, 1) := by decide +kernel
theorem dX10_ink_29 : decode cX10_ink 29 = .ok (.invokevirtual 204, 3) := by decide +kernel
theorem dX10_ink_32 : decode cX10_ink 32 = .ok (.aload_n 0, 1) := by decide +kernel
theorem dX10_ink_33 : decode cX10_ink 33 = .ok (.aload_n 0, 1) := by decide +kernel
theorem dX10_ink_34 : decode cX10_ink 34 = .ok (.iload_n 1, 1) := by decide +kernel
theorem dX10_ink_35 : decode cX10_ink 35 = .ok (.iload_n 2, 1) := by decide +kernel
theorem dX10_ink_36 : decode cX10_ink 36 = .ok (.invokevirtual 164, 3) := by decide +kernel
theorem dX10_ink_39 : decode cX10_ink 39 = .ok (.invokevirtual 219, 3) := by decide +kernel
theorem dX10_ink_42 : decode cX10_ink 42 = .ok (.ifCond .eq 7, 3) := by decide +kernel
theorem dX10_ink_45 : decode cX10_ink 45 = .ok (.iconst 1, 1) := by decide +kernel
theorem dX10_ink_46 : decode cX10_ink 46 = .ok (.goto 4, 3) := by decide +kernel
theorem dX10_ink_49 : decode cX10_ink 49 = .ok (.iconst 0, 1) := by decide +kernel
theorem dX10_ink_50 : decode cX10_ink 50 = .ok (.ireturn, 1) := by decide +kernel
theorem dX10_off_0 : decode cX10_off 0 = .ok (.aload_n 0, 1) := by decide +kernel
theorem dX10_off_1 : decode cX10_off 1 = .ok (.iconst 0, 1) := by decide +kernel
theorem dX10_off_2 : decode cX10_off 2 = .ok (.putfield 48, 3) := by decide +kernel
theorem dX10_off_5 : decode cX10_off 5 = .ok (.aload_n 0, 1) := by decide +kernel
theorem dX10_off_6 : decode cX10_off 6 = .ok (.getfield 104, 3) := by decide +kernel
theorem dX10_off_9 : decode cX10_off 9 = .ok (.lconst 0, 1) := by decide +kernel
theorem dX10_off_10 : decode cX10_off 10 = .ok (.lcmp, 1) := by decide +kernel
theorem dX10_off_11 : decode cX10_off 11 = .ok (.ifCond .ne 6, 3) := by decide +kernel
theorem dX10_off_14 : decode cX10_off 14 = .ok (.bipush (-2), 2) := by decide +kernel
theorem dX10_off_16 : decode cX10_off 16 = .ok (.ireturn, 1) := by decide +kernel
theorem dX10_off_17 : decode cX10_off 17 = .ok (.aload_n 0, 1) := by decide +kernel
theorem dX10_off_18 : decode cX10_off 18 = .ok (.invokevirtual 204, 3) := by decide +kernel
theorem dX10_off_21 : decode cX10_off 21 = .ok (.aload_n 0, 1) := by decide +kernel
theorem dX10_off_22 : decode cX10_off 22 = .ok (.invokevirtual 201, 3) := by decide +kernel
theorem dX10_off_25 : decode cX10_off 25 = .ok (.aload_n 0, 1) := by decide +kernel
theorem dX10_off_26 : decode cX10_off 26 = .ok (.invokevirtual 222, 3) := by decide +kernel
theorem dX10_off_29 : decode cX10_off 29 = .ok (.imul, 1) := by decide +kernel
theorem dX10_off_30 : decode cX10_off 30 = .ok (.istore_n 1, 1) := by decide +kernel
theorem dX10_off_31 : decode cX10_off 31 = .ok (.iconst 0, 1) := by decide +kernel
theorem dX10_off_32 : decode cX10_off 32 = .ok (.istore_n 2, 1) := by decide +kernel
theorem dX10_off_33 : decode cX10_off 33 = .ok (.iload_n 2, 1) := by decide +kernel
theorem dX10_off_34 : decode cX10_off 34 = .ok (.aload_n 0, 1) := by decide +kernel
theorem dX10_off_35 : decode cX10_off 35 = .ok (.invokevirtual 125, 3) := by decide +kernel
theorem dX10_off_38 : decode cX10_off 38 = .ok (.if_icmp .ge 29, 3) := by decide +kernel
theorem dX10_off_41 : decode cX10_off 41 = .ok (.iload_n 1, 1) := by decide +kernel
theorem dX10_off_42 : decode cX10_off 42 = .ok (.aload_n 0, 1) := by decide +kernel
theorem dX10_off_43 : decode cX10_off 43 = .ok (.iload_n 2, 1) := by decide +kernel
theorem dX10_off_44 : decode cX10_off 44 = .ok (.invokevirtual 144, 3) := by decide +kernel
theorem dX10_off_47 : decode cX10_off 47 = .ok (.ifCond .eq 11, 3) := by decide +kernel
theorem dX10_off_50 : decode cX10_off 50 = .ok (.aload_n 0, 1) := by decide +kernel
theorem dX10_off_51 : decode cX10_off 51 = .ok (.iload_n 2, 1) := by decide +kernel
theorem dX10_off_52 : decode cX10_off 52 = .ok (.invokevirtual 216, 3) := by decide +kernel
theorem dX10_off_55 : decode cX10_off 55 = .ok (.goto 4, 3) := by decide +kernel
theorem dX10_off_58 : decode cX10_off 58 = .ok (.iconst 0, 1) := by decide +kernel
theorem dX10_off_59 : decode cX10_off 59 = .ok (.isub, 1) := by decide +kernel
theorem dX10_off_60 : decode cX10_off 60 = .ok (.istore_n 1, 1) := by decide +kernel
theorem dX10_off_61 : decode cX10_off 61 = .ok (.iinc 2 1, 3) := by decide +kernel
theorem dX10_off_64 : decode cX10_off 64 = .ok (.goto (-31), 3) := by decide +kernel
theorem dX10_off_67 : decode cX10_off 67 = .ok (.iload_n 1, 1) := by decide +kernel
theorem dX10_off_68 : decode cX10_off 68 = .ok (.ireturn, 1) := by decide +kernel
theorem dX10_sees_0 : decode cX10_sees 0 = .ok (.aload_n 0, 1) := by decide +kernel
theorem dX10_sees_1 : decode cX10_sees 1 = .ok (.iconst 0, 1) := by decide +kernel
theorem dX10_sees_2 : decode cX10_sees 2 = .ok (.putfield 48, 3) := by decide +kernel
theorem dX10_sees_5 : decode cX10_sees 5 = .ok (.iload_n 1, 1) := by decide +kernel
theorem dX10_sees_6 : decode cX10_sees 6 = .ok (.iconst 0, 1) := by decide +kernel
theorem dX10_sees_7 : decode cX10_sees 7 = .ok (.aload_n 0, 1) := by decide +kernel
theorem dX10_sees_8 : decode cX10_sees 8 = .ok (.getfield 7, 3) := by decide +kernel
theorem dX10_sees_11 : decode cX10_sees 11 = .ok (.iconst 1, 1) := by decide +kernel
theorem dX10_sees_12 : decode cX10_sees 12 = .ok (.iaload, 1) := by decide +kernel
theorem dX10_sees_13 : decode cX10_sees 13 = .ok (.iconst 1, 1) := by decide +kernel
theorem dX10_sees_14 : decode cX10_sees 14 = .ok (.isub, 1) := by decide +kernel
theorem dX10_sees_15 : decode cX10_sees 15 = .ok (.invokestatic 56, 3) := by decide +kernel
theorem dX10_sees_18 : decode cX10_sees 18 = .ok (.ifCond .ne 21, 3) := by decide +kernel
theorem dX10_sees_21 : decode cX10_sees 21 = .ok (.iload_n 1, 1) := by decide +kernel
theorem dX10_sees_22 : decode cX10_sees 22 = .ok (.bipush 8, 2) := by decide +kernel
theorem dX10_sees_24 : decode cX10_sees 24 = .ok (.bipush 7, 2) := by decide +kernel
theorem dX10_sees_26 : decode cX10_sees 26 = .ok (.aload_n 0, 1) := by decide +kernel
theorem dX10_sees_27 : decode cX10_sees 27 = .ok (.getfield 7, 3) := by decide +kernel
theorem dX10_sees_30 : decode cX10_sees 30 = .ok (.iconst 0, 1) := by decide +kernel
theorem dX10_sees_31 : decode cX10_sees 31 = .ok (.iaload, 1) := by decide +kernel
theorem dX10_sees_32 : decode cX10_sees 32 = .ok (.iadd, 1) := by decide +kernel
theorem dX10_sees_33 : decode cX10_sees 33 = .ok (.invokestatic 56, 3) := by decide +kernel
theorem dX10_sees_36 : decode cX10_sees 36 = .ok (.ifCond .eq 13, 3) := by decide +kernel
theorem dX10_sees_39 : decode cX10_sees 39 = .ok (.iload_n 2, 1) := by decide +kernel
theorem dX10_sees_40 : decode cX10_sees 40 = .ok (.iconst 0, 1) := by decide +kernel
theorem dX10_sees_41 : decode cX10_sees 41 = .ok (.bipush 8, 2) := by decide +kernel
theorem dX10_sees_43 : decode cX10_sees 43 = .ok (.invokestatic 56, 3) := by decide +kernel
theorem dX10_sees_46 : decode cX10_sees 46 = .ok (.ifCond .ne 5, 3) := by decide +kernel
theorem dX10_sees_49 : decode cX10_sees 49 = .ok (.iconst (-1), 1) := by decide +kernel
theorem dX10_sees_50 : decode cX10_sees 50 = .ok (.ireturn, 1) := by decide +kernel
theorem dX10_sees_51 : decode cX10_sees 51 = .ok (.aload_n 0, 1) := by decide +kernel
theorem dX10_sees_52 : decode cX10_sees 52 = .ok (.getfield 110, 3) := by decide +kernel
theorem dX10_sees_55 : decode cX10_sees 55 = .ok (.bipush 6, 2) := by decide +kernel
theorem dX10_sees_57 : decode cX10_sees 57 = .ok (.if_icmp .ne 6, 3) := by decide +kernel
theorem dX10_sees_60 : decode cX10_sees 60 = .ok (.bipush (-3), 2) := by decide +kernel
theorem dX10_sees_62 : decode cX10_sees 62 = .ok (.ireturn, 1) := by decide +kernel
theorem dX10_sees_63 : decode cX10_sees 63 = .ok (.aload_n 0, 1) := by decide +kernel
theorem dX10_sees_64 : decode cX10_sees 64 = .ok (.getfield 27, 3) := by decide +kernel
theorem dX10_sees_67 : decode cX10_sees 67 = .ok (.aload_n 0, 1) := by decide +kernel
theorem dX10_sees_68 : decode cX10_sees 68 = .ok (.getfield 110, 3) := by decide +kernel
theorem dX10_sees_71 : decode cX10_sees 71 = .ok (.iload_n 1, 1) := by decide +kernel
theorem dX10_sees_72 : decode cX10_sees 72 = .ok (.iastore, 1) := by decide +kernel
theorem dX10_sees_73 : decode cX10_sees 73 = .ok (.aload_n 0, 1) := by decide +kernel
theorem dX10_sees_74 : decode cX10_sees 74 = .ok (.getfield 30, 3) := by decide +kernel
theorem dX10_sees_77 : decode cX10_sees 77 = .ok (.aload_n 0, 1) := by decide +kernel
theorem dX10_sees_78 : decode cX10_sees 78 = .ok (.getfield 110, 3) := by decide +kernel
theorem dX10_sees_81 : decode cX10_sees 81 = .ok (.iload_n 2, 1) := by decide +kernel
theorem dX10_sees_82 : decode cX10_sees 82 = .ok (.iastore, 1) := by decide +kernel
theorem dX10_sees_83 : decode cX10_sees 83 = .ok (.aload_n 0, 1) := by decide +kernel
theorem dX10_sees_84 : decode cX10_sees 84 = .ok (.dup, 1) := by decide +kernel
theorem dX10_sees_85 : decode cX10_sees 85 = .ok (.getfield 110, 3) := by decide +kernel
theorem dX10_sees_88 : decode cX10_sees 88 = .ok (.iconst 1, 1) := by decide +kernel
theorem dX10_sees_89 : decode cX10_sees 89 = .ok (.iadd, 1) := by decide +kernel
theorem dX10_sees_90 : decode cX10_sees 90 = .ok (.putfield 110, 3) := by decide +kernel
theorem dX10_sees_93 : decode cX10_sees 93 = .ok (.aload_n 0, 1) := by decide +kernel
theorem dX10_sees_94 : decode cX10_sees 94 = .ok (.getfield 110, 3) := by decide +kernel
theorem dX10_sees_97 : decode cX10_sees 97 = .ok (.ireturn, 1) := by decide +kernel
theorem dX10_forget_0 : decode cX10_forget 0 = .ok (.aload_n 0, 1) := by decide +kernel
theorem dX10_forget_1 : decode cX10_forget 1 = .ok (.iconst 0, 1) := by decide +kernel
theorem dX10_forget_2 : decode cX10_forget 2 = .ok (.putfield 48, 3) := by decide +kernel
theorem dX10_forget_5 : decode cX10_forget 5 = .ok (.aload_n 0, 1) := by decide +kernel
theorem dX10_forget_6 : decode cX10_forget 6 = .ok (.getfield 110, 3) := by decide +kernel
theorem dX10_forget_9 : decode cX10_forget 9 = .ok (.istore_n 1, 1) := by decide +kernel
theorem dX10_forget_10 : decode cX10_forget 10 = .ok (.aload_n 0, 1) := by decide +kernel
theorem dX10_forget_11 : decode cX10_forget 11 = .ok (.iconst 0, 1) := by decide +kernel
theorem dX10_forget_12 : decode cX10_forget 12 = .ok (.putfield 110, 3) := by decide +kernel
theorem dX10_forget_15 : decode cX10_forget 15 = .ok (.iload_n 1, 1) := by decide +kernel
theorem dX10_forget_16 : decode cX10_forget 16 = .ok (.ireturn, 1) := by decide +kernel
theorem dX10_inLine_0 : decode cX10_inLine 0 = .ok (.iconst 0, 1) := by decide +kernel
theorem dX10_inLine_1 : decode cX10_inLine 1 = .ok (.istore_n 3, 1) := by decide +kernel
theorem dX10_inLine_2 : decode cX10_inLine 2 = .ok (.iconst 0, 1) := by decide +kernel
theorem dX10_inLine_3 : decode cX10_inLine 3 = .ok (.istore 4, 2) := by decide +kernel
theorem dX10_inLine_5 : decode cX10_inLine 5 = .ok (.iload 4, 2) := by decide +kernel
theorem dX10_inLine_7 : decode cX10_inLine 7 = .ok (.aload_n 0, 1) := by decide +kernel
theorem dX10_inLine_8 : decode cX10_inLine 8 = .ok (.invokevirtual 125, 3) := by decide +kernel
theorem dX10_inLine_11 : decode cX10_inLine 11 = .ok (.if_icmp .ge 82, 3) := by decide +kernel
theorem dX10_inLine_14 : decode cX10_inLine 14 = .ok (.iload_n 1, 1) := by decide +kernel
theorem dX10_inLine_15 : decode cX10_inLine 15 = .ok (.bipush 8, 2) := by decide +kernel
theorem dX10_inLine_17 : decode cX10_inLine 17 = .ok (.if_icmp .ge 24, 3) := by decide +kernel
theorem dX10_inLine_20 : decode cX10_inLine 20 = .ok (.iload 4, 2) := by decide +kernel
theorem dX10_inLine_22 : decode cX10_inLine 22 = .ok (.aload_n 0, 1) := by decide +kernel
theorem dX10_inLine_23 : decode cX10_inLine 23 = .ok (.getfield 7, 3) := by decide +kernel
theorem dX10_inLine_26 : decode cX10_inLine 26 = .ok (.iconst 0, 1) := by decide +kernel
theorem dX10_inLine_27 : decode cX10_inLine 27 = .ok (.iaload, 1) := by decide +kernel
theorem dX10_inLine_28 : decode cX10_inLine 28 = .ok (.idiv, 1) := by decide +kernel
theorem dX10_inLine_29 : decode cX10_inLine 29 = .ok (.iload_n 1, 1) := by decide +kernel
theorem dX10_inLine_30 : decode cX10_inLine 30 = .ok (.if_icmp .ne 7, 3) := by decide +kernel
theorem dX10_inLine_33 : decode cX10_inLine 33 = .ok (.iconst 1, 1) := by decide +kernel
theorem dX10_inLine_34 : decode cX10_inLine 34 = .ok (.goto 28, 3) := by decide +kernel
theorem dX10_inLine_37 : decode cX10_inLine 37 = .ok (.iconst 0, 1) := by decide +kernel
theorem dX10_inLine_38 : decode cX10_inLine 38 = .ok (.goto 24, 3) := by decide +kernel
theorem dX10_inLine_41 : decode cX10_inLine 41 = .ok (.iload 4, 2) := by decide +kernel
theorem dX10_inLine_43 : decode cX10_inLine 43 = .ok (.aload_n 0, 1) := by decide +kernel
theorem dX10_inLine_44 : decode cX10_inLine 44 = .ok (.getfield 7, 3) := by decide +kernel
theorem dX10_inLine_47 : decode cX10_inLine 47 = .ok (.iconst 0, 1) := by decide +kernel
theorem dX10_inLine_48 : decode cX10_inLine 48 = .ok (.iaload, 1) := by decide +kernel
theorem dX10_inLine_49 : decode cX10_inLine 49 = .ok (.irem, 1) := by decide +kernel
theorem dX10_inLine_50 : decode cX10_inLine 50 = .ok (.iload_n 1, 1) := by decide +kernel
theorem dX10_inLine_51 : decode cX10_inLine 51 = .ok (.bipush 8, 2) := by decide +kernel
theorem dX10_inLine_53 : decode cX10_inLine 53 = .ok (.isub, 1) := by decide +kernel
theorem dX10_inLine_54 : decode cX10_inLine 54 = .ok (.if_icmp .ne 7, 3) := by decide +kernel
theorem dX10_inLine_57 : decode cX10_inLine 57 = .ok (.iconst 1, 1) := by decide +kernel
theorem dX10_inLine_58 : decode cX10_inLine 58 = .ok (.goto 4, 3) := by decide +kernel
theorem dX10_inLine_61 : decode cX10_inLine 61 = .ok (.iconst 0, 1) := by decide +kernel
theorem dX10_inLine_62 : decode cX10_inLine 62 = .ok (.istore 5, 2) := by decide +kernel
theorem dX10_inLine_64 : decode cX10_inLine 64 = .ok (.iload_n 3, 1) := by decide +kernel
theorem dX10_inLine_65 : decode cX10_inLine 65 = .ok (.iload 5, 2) := by decide +kernel
theorem dX10_inLine_67 : decode cX10_inLine 67 = .ok (.ifCond .eq 17, 3) := by decide +kernel
theorem dX10_inLine_70 : decode cX10_inLine 70 = .ok (.aload_n 0, 1) := by decide +kernel
theorem dX10_inLine_71 : decode cX10_inLine 71 = .ok (.iload 4, 2) := by decide +kernel
theorem dX10_inLine_73 : decode cX10_inLine 73 = .ok (.iload_n 2, 1) := by decide +kernel
theorem dX10_inLine_74 : decode cX10_inLine 74 = .ok (.invokevirtual 207, 3) := by decide +kernel
theorem dX10_inLine_77 : decode cX10_inLine 77 = .ok (.ifCond .eq 7, 3) := by decide +kernel
theorem dX10_inLine_80 : decode cX10_inLine 80 = .ok (.iconst 1, 1) := by decide +kernel
theorem dX10_inLine_81 : decode cX10_inLine 81 = .ok (.goto 4, 3) := by decide +kernel
theorem dX10_inLine_84 : decode cX10_inLine 84 = .ok (.iconst 0, 1) := by decide +kernel
theorem dX10_inLine_85 : decode cX10_inLine 85 = .ok (.iadd, 1) := by decide +kernel
theorem dX10_inLine_86 : decode cX10_inLine 86 = .ok (.istore_n 3, 1) := by decide +kernel
theorem dX10_inLine_87 : decode cX10_inLine 87 = .ok (.iinc 4 1, 3) := by decide +kernel
theorem dX10_inLine_90 : decode cX10_inLine 90 = .ok (.goto (-85), 3) := by decide +kernel
theorem dX10_inLine_93 : decode cX10_inLine 93 = .ok (.iload_n 3, 1) := by decide +kernel
theorem dX10_inLine_94 : decode cX10_inLine 94 = .ok (.ireturn, 1) := by decide +kernel
theorem dX10_fits_0 : decode cX10_fits 0 = .ok (.iconst 1, 1) := by decide +kernel
theorem dX10_fits_1 : decode cX10_fits 1 = .ok (.istore_n 2, 1) := by decide +kernel
theorem dX10_fits_2 : decode cX10_fits 2 = .ok (.iconst 0, 1) := by decide +kernel
theorem dX10_fits_3 : decode cX10_fits 3 = .ok (.istore_n 3, 1) := by decide +kernel
theorem dX10_fits_4 : decode cX10_fits 4 = .ok (.iload_n 3, 1) := by decide +kernel
theorem dX10_fits_5 : decode cX10_fits 5 = .ok (.aload_n 0, 1) := by decide +kernel
theorem dX10_fits_6 : decode cX10_fits 6 = .ok (.getfield 110, 3) := by decide +kernel
theorem dX10_fits_9 : decode cX10_fits 9 = .ok (.if_icmp .ge 39, 3) := by decide +kernel
theorem dX10_fits_12 : decode cX10_fits 12 = .ok (.iload_n 2, 1) := by decide +kernel
theorem dX10_fits_13 : decode cX10_fits 13 = .ok (.ifCond .eq 27, 3) := by decide +kernel
theorem dX10_fits_16 : decode cX10_fits 16 = .ok (.aload_n 0, 1) := by decide +kernel
theorem dX10_fits_17 : decode cX10_fits 17 = .ok (.aload_n 0, 1) := by decide +kernel
theorem dX10_fits_18 : decode cX10_fits 18 = .ok (.getfield 27, 3) := by decide +kernel
theorem dX10_fits_21 : decode cX10_fits 21 = .ok (.iload_n 3, 1) := by decide +kernel
theorem dX10_fits_22 : decode cX10_fits 22 = .ok (.iaload, 1) := by decide +kernel
theorem dX10_fits_23 : decode cX10_fits 23 = .ok (.iload_n 1, 1) := by decide +kernel
theorem dX10_fits_24 : decode cX10_fits 24 = .ok (.invokevirtual 225, 3) := by decide +kernel
theorem dX10_fits_27 : decode cX10_fits 27 = .ok (.aload_n 0, 1) := by decide +kernel
theorem dX10_fits_28 : decode cX10_fits 28 = .ok (.getfield 30, 3) := by decide +kernel
theorem dX10_fits_31 : decode cX10_fits 31 = .ok (.iload_n 3, 1) := by decide +kernel
theorem dX10_fits_32 : decode cX10_fits 32 = .ok (.iaload, 1) := by decide +kernel
theorem dX10_fits_33 : decode cX10_fits 33 = .ok (.if_icmp .ne 7, 3) := by decide +kernel
theorem dX10_fits_36 : decode cX10_fits 36 = .ok (.iconst 1, 1) := by decide +kernel
theorem dX10_fits_37 : decode cX10_fits 37 = .ok (.goto 4, 3) := by decide +kernel
theorem dX10_fits_40 : decode cX10_fits 40 = .ok (.iconst 0, 1) := by decide +kernel
theorem dX10_fits_41 : decode cX10_fits 41 = .ok (.istore_n 2, 1) := by decide +kernel
theorem dX10_fits_42 : decode cX10_fits 42 = .ok (.iinc 3 1, 3) := by decide +kernel
theorem dX10_fits_45 : decode cX10_fits 45 = .ok (.goto (-41), 3) := by decide +kernel
theorem dX10_fits_48 : decode cX10_fits 48 = .ok (.iload_n 2, 1) := by decide +kernel
theorem dX10_fits_49 : decode cX10_fits 49 = .ok (.ireturn, 1) := by decide +kernel
theorem dX10_unseen_0 : decode cX10_unseen 0 = .ok (.aload_n 0, 1) := by decide +kernel
theorem dX10_unseen_1 : decode cX10_unseen 1 = .ok (.iconst 0, 1) := by decide +kernel
theorem dX10_unseen_2 : decode cX10_unseen 2 = .ok (.putfield 48, 3) := by decide +kernel
theorem dX10_unseen_5 : decode cX10_unseen 5 = .ok (.iload_n 1, 1) := by decide +kernel
theorem dX10_unseen_6 : decode cX10_unseen 6 = .ok (.iconst 0, 1) := by decide +kernel
theorem dX10_unseen_7 : decode cX10_unseen 7 = .ok (.iconst 2, 1) := by decide +kernel
theorem dX10_unseen_8 : decode cX10_unseen 8 = .ok (.invokestatic 56, 3) := by decide +kernel
theorem dX10_unseen_11 : decode cX10_unseen 11 = .ok (.ifCond .ne 5, 3) := by decide +kernel
theorem dX10_unseen_14 : decode cX10_unseen 14 = .ok (.iconst (-1), 1) := by decide +kernel
theorem dX10_unseen_15 : decode cX10_unseen 15 = .ok (.ireturn, 1) := by decide +kernel
theorem dX10_unseen_16 : decode cX10_unseen 16 = .ok (.aload_n 0, 1) := by decide +kernel
theorem dX10_unseen_17 : decode cX10_unseen 17 = .ok (.getfield 104, 3) := by decide +kernel
theorem dX10_unseen_20 : decode cX10_unseen 20 = .ok (.lconst 0, 1) := by decide +kernel
theorem dX10_unseen_21 : decode cX10_unseen 21 = .ok (.lcmp, 1) := by decide +kernel
theorem dX10_unseen_22 : decode cX10_unseen 22 = .ok (.ifCond .ne 6, 3) := by decide +kernel
theorem dX10_unseen_25 : decode cX10_unseen 25 = .ok (.bipush (-2), 2) := by decide +kernel
theorem dX10_unseen_27 : decode cX10_unseen 27 = .ok (.ireturn, 1) := by decide +kernel
theorem dX10_unseen_28 : decode cX10_unseen 28 = .ok (.aload_n 0, 1) := by decide +kernel
theorem dX10_unseen_29 : decode cX10_unseen 29 = .ok (.invokevirtual 204, 3) := by decide +kernel
theorem dX10_unseen_32 : decode cX10_unseen 32 = .ok (.iconst 0, 1) := by decide +kernel
theorem dX10_unseen_33 : decode cX10_unseen 33 = .ok (.istore_n 2, 1) := by decide +kernel
theorem dX10_unseen_34 : decode cX10_unseen 34 = .ok (.bipush (-9), 2) := by decide +kernel
theorem dX10_unseen_36 : decode cX10_unseen 36 = .ok (.istore_n 3, 1) := by decide +kernel
theorem dX10_unseen_37 : decode cX10_unseen 37 = .ok (.bipush (-9), 2) := by decide +kernel
theorem dX10_unseen_39 : decode cX10_unseen 39 = .ok (.istore 4, 2) := by decide +kernel
theorem dX10_unseen_41 : decode cX10_unseen 41 = .ok (.iconst 0, 1) := by decide +kernel
theorem dX10_unseen_42 : decode cX10_unseen 42 = .ok (.istore 5, 2) := by decide +kernel
theorem dX10_unseen_44 : decode cX10_unseen 44 = .ok (.iload 5, 2) := by decide +kernel
theorem dX10_unseen_46 : decode cX10_unseen 46 = .ok (.aload_n 0, 1) := by decide +kernel
theorem dX10_unseen_47 : decode cX10_unseen 47 = .ok (.invokevirtual 201, 3) := by decide +kernel
theorem dX10_unseen_50 : decode cX10_unseen 50 = .ok (.if_icmp .gt 38, 3) := by decide +kernel
theorem dX10_unseen_53 : decode cX10_unseen 53 = .ok (.aload_n 0, 1) := by decide +kernel
theorem dX10_unseen_54 : decode cX10_unseen 54 = .ok (.iload 5, 2) := by decide +kernel
theorem dX10_unseen_56 : decode cX10_unseen 56 = .ok (.invokevirtual 228, 3) := by decide +kernel
theorem dX10_unseen_59 : decode cX10_unseen 59 = .ok (.ifCond .eq 23, 3) := by decide +kernel
theorem dX10_unseen_62 : decode cX10_unseen 62 = .ok (.iinc 2 1, 3) := by decide +kernel
theorem dX10_unseen_65 : decode cX10_unseen 65 = .ok (.iload_n 3, 1) := by decide +kernel
theorem dX10_unseen_66 : decode cX10_unseen 66 = .ok (.bipush (-9), 2) := by decide +kernel
theorem dX10_unseen_68 : decode cX10_unseen 68 = .ok (.if_icmp .ne 8, 3) := by decide +kernel
theorem dX10_unseen_71 : decode cX10_unseen 71 = .ok (.iload 5, 2) := by decide +kernel
theorem dX10_unseen_73 : decode cX10_unseen 73 = .ok (.goto 4, 3) := by decide +kernel
theorem dX10_unseen_76 : decode cX10_unseen 76 = .ok (.iload_n 3, 1) := by decide +kernel
theorem dX10_unseen_77 : decode cX10_unseen 77 = .ok (.istore_n 3, 1) := by decide +kernel
theorem dX10_unseen_78 : decode cX10_unseen 78 = .ok (.iload 5, 2) := by decide +kernel
theorem dX10_unseen_80 : decode cX10_unseen 80 = .ok (.istore 4, 2) := by decide +kernel
theorem dX10_unseen_82 : decode cX10_unseen 82 = .ok (.iinc 5 1, 3) := by decide +kernel
theorem dX10_unseen_85 : decode cX10_unseen 85 = .ok (.goto (-41), 3) := by decide +kernel
theorem dX10_unseen_88 : decode cX10_unseen 88 = .ok (.iload_n 1, 1) := by decide +kernel
theorem dX10_unseen_89 : decode cX10_unseen 89 = .ok (.ifCond .ne 7, 3) := by decide +kernel
theorem dX10_unseen_92 : decode cX10_unseen 92 = .ok (.iload_n 2, 1) := by decide +kernel
theorem dX10_unseen_93 : decode cX10_unseen 93 = .ok (.goto 14, 3) := by decide +kernel
theorem dX10_unseen_96 : decode cX10_unseen 96 = .ok (.iload_n 1, 1) := by decide +kernel
theorem dX10_unseen_97 : decode cX10_unseen 97 = .ok (.iconst 1, 1) := by decide +kernel
theorem dX10_unseen_98 : decode cX10_unseen 98 = .ok (.if_icmp .ne 7, 3) := by decide +kernel
theorem dX10_unseen_101 : decode cX10_unseen 101 = .ok (.iload_n 3, 1) := by decide +kernel
theorem dX10_unseen_102 : decode cX10_unseen 102 = .ok (.goto 5, 3) := by decide +kernel
theorem dX10_unseen_105 : decode cX10_unseen 105 = .ok (.iload 4, 2) := by decide +kernel
theorem dX10_unseen_107 : decode cX10_unseen 107 = .ok (.ireturn, 1) := by decide +kernel
theorem dX10_keep_0 : decode cX10_keep 0 = .ok (.aload_n 0, 1) := by decide +kernel
theorem dX10_keep_1 : decode cX10_keep 1 = .ok (.iconst 0, 1) := by decide +kernel
theorem dX10_keep_2 : decode cX10_keep 2 = .ok (.putfield 48, 3) := by decide +kernel
theorem dX10_keep_5 : decode cX10_keep 5 = .ok (.iload_n 1, 1) := by decide +kernel
theorem dX10_keep_6 : decode cX10_keep 6 = .ok (.iconst 0, 1) := by decide +kernel
theorem dX10_keep_7 : decode cX10_keep 7 = .ok (.iconst 1, 1) := by decide +kernel
theorem dX10_keep_8 : decode cX10_keep 8 = .ok (.invokestatic 56, 3) := by decide +kernel
theorem dX10_keep_11 : decode cX10_keep 11 = .ok (.ifCond .ne 5, 3) := by decide +kernel
theorem dX10_keep_14 : decode cX10_keep 14 = .ok (.iconst (-1), 1) := by decide +kernel
theorem dX10_keep_15 : decode cX10_keep 15 = .ok (.ireturn, 1) := by decide +kernel
theorem dX10_keep_16 : decode cX10_keep 16 = .ok (.aload_n 0, 1) := by decide +kernel
theorem dX10_keep_17 : decode cX10_keep 17 = .ok (.getfield 20, 3) := by decide +kernel
theorem dX10_keep_20 : decode cX10_keep 20 = .ok (.iload_n 1, 1) := by decide +kernel
theorem dX10_keep_21 : decode cX10_keep 21 = .ok (.aload_n 0, 1) := by decide +kernel
theorem dX10_keep_22 : decode cX10_keep 22 = .ok (.getfield 104, 3) := by decide +kernel
theorem dX10_keep_25 : decode cX10_keep 25 = .ok (.lastore, 1) := by decide +kernel
theorem dX10_keep_26 : decode cX10_keep 26 = .ok (.aload_n 0, 1) := by decide +kernel
theorem dX10_keep_27 : decode cX10_keep 27 = .ok (.getfield 23, 3) := by decide +kernel
theorem dX10_keep_30 : decode cX10_keep 30 = .ok (.iload_n 1, 1) := by decide +kernel
theorem dX10_keep_31 : decode cX10_keep 31 = .ok (.iconst 1, 1) := by decide +kernel
theorem dX10_keep_32 : decode cX10_keep 32 = .ok (.bastore, 1) := by decide +kernel
theorem dX10_keep_33 : decode cX10_keep 33 = .ok (.aload_n 0, 1) := by decide +kernel
theorem dX10_keep_34 : decode cX10_keep 34 = .ok (.getfield 104, 3) := by decide +kernel
theorem dX10_keep_37 : decode cX10_keep 37 = .ok (.invokestatic 128, 3) := by decide +kernel
theorem dX10_keep_40 : decode cX10_keep 40 = .ok (.ireturn, 1) := by decide +kernel
theorem dX10_back_0 : decode cX10_back 0 = .ok (.aload_n 0, 1) := by decide +kernel
theorem dX10_back_1 : decode cX10_back 1 = .ok (.iconst 0, 1) := by decide +kernel
theorem dX10_back_2 : decode cX10_back 2 = .ok (.putfield 48, 3) := by decide +kernel
theorem dX10_back_5 : decode cX10_back 5 = .ok (.iload_n 1, 1) := by decide +kernel
theorem dX10_back_6 : decode cX10_back 6 = .ok (.iconst 0, 1) := by decide +kernel
theorem dX10_back_7 : decode cX10_back 7 = .ok (.iconst 1, 1) := by decide +kernel
theorem dX10_back_8 : decode cX10_back 8 = .ok (.invokestatic 56, 3) := by decide +kernel
theorem dX10_back_11 : decode cX10_back 11 = .ok (.ifCond .ne 5, 3) := by decide +kernel
theorem dX10_back_14 : decode cX10_back 14 = .ok (.iconst (-1), 1) := by decide +kernel
theorem dX10_back_15 : decode cX10_back 15 = .ok (.ireturn, 1) := by decide +kernel
theorem dX10_back_16 : decode cX10_back 16 = .ok (.aload_n 0, 1) := by decide +kernel
theorem dX10_back_17 : decode cX10_back 17 = .ok (.getfield 23, 3) := by decide +kernel
theorem dX10_back_20 : decode cX10_back 20 = .ok (.iload_n 1, 1) := by decide +kernel
theorem dX10_back_21 : decode cX10_back 21 = .ok (.baload, 1) := by decide +kernel
theorem dX10_back_22 : decode cX10_back 22 = .ok (.ifCond .ne 6, 3) := by decide +kernel
theorem dX10_back_25 : decode cX10_back 25 = .ok (.bipush (-2), 2) := by decide +kernel
theorem dX10_back_27 : decode cX10_back 27 = .ok (.ireturn, 1) := by decide +kernel
theorem dX10_back_28 : decode cX10_back 28 = .ok (.aload_n 0, 1) := by decide +kernel
theorem dX10_back_29 : decode cX10_back 29 = .ok (.aload_n 0, 1) := by decide +kernel
theorem dX10_back_30 : decode cX10_back 30 = .ok (.getfield 20, 3) := by decide +kernel
theorem dX10_back_33 : decode cX10_back 33 = .ok (.iload_n 1, 1) := by decide +kernel
theorem dX10_back_34 : decode cX10_back 34 = .ok (.laload, 1) := by decide +kernel
theorem dX10_back_35 : decode cX10_back 35 = .ok (.putfield 104, 3) := by decide +kernel
theorem dX10_back_38 : decode cX10_back 38 = .ok (.aload_n 0, 1) := by decide +kernel
theorem dX10_back_39 : decode cX10_back 39 = .ok (.iconst 0, 1) := by decide +kernel
theorem dX10_back_40 : decode cX10_back 40 = .ok (.putfield 107, 3) := by decide +kernel
theorem dX10_back_43 : decode cX10_back 43 = .ok (.aload_n 0, 1) := by decide +kernel
theorem dX10_back_44 : decode cX10_back 44 = .ok (.getfield 104, 3) := by decide +kernel
theorem dX10_back_47 : decode cX10_back 47 = .ok (.invokestatic 128, 3) := by decide +kernel
theorem dX10_back_50 : decode cX10_back 50 = .ok (.ireturn, 1) := by decide +kernel
theorem dX10_count_0 : decode cX10_count 0 = .ok (.aload_n 0, 1) := by decide +kernel
theorem dX10_count_1 : decode cX10_count 1 = .ok (.iconst 0, 1) := by decide +kernel
theorem dX10_count_2 : decode cX10_count 2 = .ok (.putfield 48, 3) := by decide +kernel
theorem dX10_count_5 : decode cX10_count 5 = .ok (.iload_n 1, 1) := by decide +kernel
theorem dX10_count_6 : decode cX10_count 6 = .ok (.iconst 0, 1) := by decide +kernel
theorem dX10_count_7 : decode cX10_count 7 = .ok (.bipush 11, 2) := by decide +kernel
theorem dX10_count_9 : decode cX10_count 9 = .ok (.invokestatic 56, 3) := by decide +kernel
theorem dX10_count_12 : decode cX10_count 12 = .ok (.ifCond .ne 5, 3) := by decide +kernel
theorem dX10_count_15 : decode cX10_count 15 = .ok (.iconst (-1), 1) := by decide +kernel
theorem dX10_count_16 : decode cX10_count 16 = .ok (.ireturn, 1) := by decide +kernel
theorem dX10_count_17 : decode cX10_count 17 = .ok (.iload_n 1, 1) := by decide +kernel
theorem dX10_count_18 : decode cX10_count 18 = .ok (.iconst 2, 1) := by decide +kernel
theorem dX10_count_19 : decode cX10_count 19 = .ok (.if_icmp .ge 10, 3) := by decide +kernel
theorem dX10_count_22 : decode cX10_count 22 = .ok (.aload_n 0, 1) := by decide +kernel
theorem dX10_count_23 : decode cX10_count 23 = .ok (.getfield 7, 3) := by decide +kernel
theorem dX10_count_26 : decode cX10_count 26 = .ok (.iload_n 1, 1) := by decide +kernel
theorem dX10_count_27 : decode cX10_count 27 = .ok (.iaload, 1) := by decide +kernel
theorem dX10_count_28 : decode cX10_count 28 = .ok (.ireturn, 1) := by decide +kernel
theorem dX10_count_29 : decode cX10_count 29 = .ok (.iload_n 1, 1) := by decide +kernel
theorem dX10_count_30 : decode cX10_count 30 = .ok (.iconst 4, 1) := by decide +kernel
theorem dX10_count_31 : decode cX10_count 31 = .ok (.if_icmp .ge 23, 3) := by decide +kernel
theorem dX10_count_34 : decode cX10_count 34 = .ok (.iload_n 1, 1) := by decide +kernel
theorem dX10_count_35 : decode cX10_count 35 = .ok (.iconst 2, 1) := by decide +kernel
theorem dX10_count_36 : decode cX10_count 36 = .ok (.if_icmp .ne 10, 3) := by decide +kernel
theorem dX10_count_39 : decode cX10_count 39 = .ok (.aload_n 0, 1) := by decide +kernel
theorem dX10_count_40 : decode cX10_count 40 = .ok (.invokevirtual 201, 3) := by decide +kernel
theorem dX10_count_43 : decode cX10_count 43 = .ok (.goto 10, 3) := by decide +kernel
theorem dX10_count_46 : decode cX10_count 46 = .ok (.aload_n 0, 1) := by decide +kernel
theorem dX10_count_47 : decode cX10_count 47 = .ok (.getfield 104, 3) := by decide +kernel
theorem dX10_count_50 : decode cX10_count 50 = .ok (.invokestatic 128, 3) := by decide +kernel
theorem dX10_count_53 : decode cX10_count 53 = .ok (.ireturn, 1) := by decide +kernel
theorem dX10_count_54 : decode cX10_count 54 = .ok (.iload_n 1, 1) := by decide +kernel
theorem dX10_count_55 : decode cX10_count 55 = .ok (.bipush 9, 2) := by decide +kernel
theorem dX10_count_57 : decode cX10_count 57 = .ok (.if_icmp .ge 14, 3) := by decide +kernel
theorem dX10_count_60 : decode cX10_count 60 = .ok (.aload_n 0, 1) := by decide +kernel
theorem dX10_count_61 : decode cX10_count 61 = .ok (.getfield 7, 3) := by decide +kernel
theorem dX10_count_64 : decode cX10_count 64 = .ok (.iload_n 1, 1) := by decide +kernel
theorem dX10_count_65 : decode cX10_count 65 = .ok (.iconst 2, 1) := by decide +kernel
theorem dX10_count_66 : decode cX10_count 66 = .ok (.isub, 1) := by decide +kernel
theorem dX10_count_67 : decode cX10_count 67 = .ok (.iaload, 1) := by decide +kernel
theorem dX10_count_68 : decode cX10_count 68 = .ok (.goto 33, 3) := by decide +kernel
theorem dX10_count_71 : decode cX10_count 71 = .ok (.iload_n 1, 1) := by decide +kernel
theorem dX10_count_72 : decode cX10_count 72 = .ok (.bipush 9, 2) := by decide +kernel
theorem dX10_count_74 : decode cX10_count 74 = .ok (.if_icmp .ne 10, 3) := by decide +kernel
theorem dX10_count_77 : decode cX10_count 77 = .ok (.aload_n 0, 1) := by decide +kernel
theorem dX10_count_78 : decode cX10_count 78 = .ok (.getfield 110, 3) := by decide +kernel
theorem dX10_count_81 : decode cX10_count 81 = .ok (.goto 20, 3) := by decide +kernel
theorem dX10_count_84 : decode cX10_count 84 = .ok (.iload_n 1, 1) := by decide +kernel
theorem dX10_count_85 : decode cX10_count 85 = .ok (.bipush 10, 2) := by decide +kernel
theorem dX10_count_87 : decode cX10_count 87 = .ok (.if_icmp .ne 10, 3) := by decide +kernel
theorem dX10_count_90 : decode cX10_count 90 = .ok (.aload_n 0, 1) := by decide +kernel
theorem dX10_count_91 : decode cX10_count 91 = .ok (.getfield 60, 3) := by decide +kernel
theorem dX10_count_94 : decode cX10_count 94 = .ok (.goto 7, 3) := by decide +kernel
theorem dX10_count_97 : decode cX10_count 97 = .ok (.aload_n 0, 1) := by decide +kernel
theorem dX10_count_98 : decode cX10_count 98 = .ok (.getfield 107, 3) := by decide +kernel
theorem dX10_count_101 : decode cX10_count 101 = .ok (.ireturn, 1) := by decide +kernel
