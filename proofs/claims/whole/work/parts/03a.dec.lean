theorem dX0_init_0 : decode cX0_init 0 = .ok (.aload_n 0, 1) := by decide +kernel
theorem dX0_init_1 : decode cX0_init 1 = .ok (.invokespecial 3, 3) := by decide +kernel
theorem dX0_init_4 : decode cX0_init 4 = .ok (.aload_n 0, 1) := by decide +kernel
theorem dX0_init_5 : decode cX0_init 5 = .ok (.bipush 64, 2) := by decide +kernel
theorem dX0_init_7 : decode cX0_init 7 = .ok (.newarray .int, 2) := by decide +kernel
theorem dX0_init_9 : decode cX0_init 9 = .ok (.putfield 9, 3) := by decide +kernel
theorem dX0_init_12 : decode cX0_init 12 = .ok (.aload_n 0, 1) := by decide +kernel
theorem dX0_init_13 : decode cX0_init 13 = .ok (.bipush 64, 2) := by decide +kernel
theorem dX0_init_15 : decode cX0_init 15 = .ok (.newarray .int, 2) := by decide +kernel
theorem dX0_init_17 : decode cX0_init 17 = .ok (.putfield 15, 3) := by decide +kernel
theorem dX0_init_20 : decode cX0_init 20 = .ok (.aload_n 0, 1) := by decide +kernel
theorem dX0_init_21 : decode cX0_init 21 = .ok (.bipush 64, 2) := by decide +kernel
theorem dX0_init_23 : decode cX0_init 23 = .ok (.newarray .int, 2) := by decide +kernel
theorem dX0_init_25 : decode cX0_init 25 = .ok (.putfield 18, 3) := by decide +kernel
theorem dX0_init_28 : decode cX0_init 28 = .ok (.aload_n 0, 1) := by decide +kernel
theorem dX0_init_29 : decode cX0_init 29 = .ok (.bipush 64, 2) := by decide +kernel
theorem dX0_init_31 : decode cX0_init 31 = .ok (.newarray .int, 2) := by decide +kernel
theorem dX0_init_33 : decode cX0_init 33 = .ok (.putfield 21, 3) := by decide +kernel
theorem dX0_init_36 : decode cX0_init 36 = .ok (.aload_n 0, 1) := by decide +kernel
theorem dX0_init_37 : decode cX0_init 37 = .ok (.aload_n 1, 1) := by decide +kernel
theorem dX0_init_38 : decode cX0_init 38 = .ok (.putfield 24, 3) := by decide +kernel
theorem dX0_init_41 : decode cX0_init 41 = .ok (.aload_n 0, 1) := by decide +kernel
theorem dX0_init_42 : decode cX0_init 42 = .ok (.invokevirtual 28, 3) := by decide +kernel
theorem dX0_init_45 : decode cX0_init 45 = .ok (.return_, 1) := by decide +kernel
theorem dX0_lay_0 : decode cX0_lay 0 = .ok (.aload_n 0, 1) := by decide +kernel
theorem dX0_lay_1 : decode cX0_lay 1 = .ok (.iconst 0, 1) := by decide +kernel
theorem dX0_lay_2 : decode cX0_lay 2 = .ok (.putfield 31, 3) := by decide +kernel
theorem dX0_lay_5 : decode cX0_lay 5 = .ok (.iconst 0, 1) := by decide +kernel
theorem dX0_lay_6 : decode cX0_lay 6 = .ok (.istore_n 1, 1) := by decide +kernel
theorem dX0_lay_7 : decode cX0_lay 7 = .ok (.iload_n 1, 1) := by decide +kernel
theorem dX0_lay_8 : decode cX0_lay 8 = .ok (.aload_n 0, 1) := by decide +kernel
theorem dX0_lay_9 : decode cX0_lay 9 = .ok (.getfield 24, 3) := by decide +kernel
theorem dX0_lay_12 : decode cX0_lay 12 = .ok (.getfield 35, 3) := by decide +kernel
theorem dX0_lay_15 : decode cX0_lay 15 = .ok (.if_icmp .ge 111, 3) := by decide +kernel
theorem dX0_lay_18 : decode cX0_lay 18 = .ok (.iload_n 1, 1) := by decide +kernel
theorem dX0_lay_19 : decode cX0_lay 19 = .ok (.bipush 8, 2) := by decide +kernel
theorem dX0_lay_21 : decode cX0_lay 21 = .ok (.if_icmp .ge 105, 3) := by decide +kernel
theorem dX0_lay_24 : decode cX0_lay 24 = .ok (.iconst 0, 1) := by decide +kernel
theorem dX0_lay_25 : decode cX0_lay 25 = .ok (.istore_n 2, 1) := by decide +kernel
theorem dX0_lay_26 : decode cX0_lay 26 = .ok (.iload_n 2, 1) := by decide +kernel
theorem dX0_lay_27 : decode cX0_lay 27 = .ok (.aload_n 0, 1) := by decide +kernel
theorem dX0_lay_28 : decode cX0_lay 28 = .ok (.getfield 24, 3) := by decide +kernel
theorem dX0_lay_31 : decode cX0_lay 31 = .ok (.getfield 40, 3) := by decide +kernel
theorem dX0_lay_34 : decode cX0_lay 34 = .ok (.if_icmp .ge 86, 3) := by decide +kernel
theorem dX0_lay_37 : decode cX0_lay 37 = .ok (.iload_n 2, 1) := by decide +kernel
theorem dX0_lay_38 : decode cX0_lay 38 = .ok (.bipush 8, 2) := by decide +kernel
theorem dX0_lay_40 : decode cX0_lay 40 = .ok (.if_icmp .ge 80, 3) := by decide +kernel
theorem dX0_lay_43 : decode cX0_lay 43 = .ok (.aload_n 0, 1) := by decide +kernel
theorem dX0_lay_44 : decode cX0_lay 44 = .ok (.getfield 9, 3) := by decide +kernel
theorem dX0_lay_47 : decode cX0_lay 47 = .ok (.aload_n 0, 1) := by decide +kernel
theorem dX0_lay_48 : decode cX0_lay 48 = .ok (.getfield 31, 3) := by decide +kernel
theorem dX0_lay_51 : decode cX0_lay 51 = .ok (.iload_n 2, 1) := by decide +kernel
theorem dX0_lay_52 : decode cX0_lay 52 = .ok (.iastore, 1) := by decide +kernel
theorem dX0_lay_53 : decode cX0_lay 53 = .ok (.aload_n 0, 1) := by decide +kernel
theorem dX0_lay_54 : decode cX0_lay 54 = .ok (.getfield 15, 3) := by decide +kernel
theorem dX0_lay_57 : decode cX0_lay 57 = .ok (.aload_n 0, 1) := by decide +kernel
theorem dX0_lay_58 : decode cX0_lay 58 = .ok (.getfield 31, 3) := by decide +kernel
theorem dX0_lay_61 : decode cX0_lay 61 = .ok (.iload_n 1, 1) := by decide +kernel
theorem dX0_lay_62 : decode cX0_lay 62 = .ok (.iastore, 1) := by decide +kernel
theorem dX0_lay_63 : decode cX0_lay 63 = .ok (.aload_n 0, 1) := by decide +kernel
theorem dX0_lay_64 : decode cX0_lay 64 = .ok (.dup, 1) := by decide +kernel
theorem dX0_lay_65 : decode cX0_lay 65 = .ok (.getfield 31, 3) := by decide +kernel
theorem dX0_lay_68 : decode cX0_lay 68 = .ok (.iconst 1, 1) := by decide +kernel
theorem dX0_lay_69 : decode cX0_lay 69 = .ok (.iadd, 1) := by decide +kernel
theorem dX0_lay_70 : decode cX0_lay 70 = .ok (.putfield 31, 3) := by decide +kernel
theorem dX0_lay_73 : decode cX0_lay 73 = .ok (.aload_n 0, 1) := by decide +kernel
theorem dX0_lay_74 : decode cX0_lay 74 = .ok (.getfield 24, 3) := by decide +kernel
theorem dX0_lay_77 : decode cX0_lay 77 = .ok (.iload_n 2, 1) := by decide +kernel
theorem dX0_lay_78 : decode cX0_lay 78 = .ok (.iload_n 1, 1) := by decide +kernel
theorem dX0_lay_79 : decode cX0_lay 79 = .ok (.invokevirtual 43, 3) := by decide +kernel
theorem dX0_lay_82 : decode cX0_lay 82 = .ok (.istore_n 3, 1) := by decide +kernel
theorem dX0_lay_83 : decode cX0_lay 83 = .ok (.aload_n 0, 1) := by decide +kernel
theorem dX0_lay_84 : decode cX0_lay 84 = .ok (.getfield 18, 3) := by decide +kernel
theorem dX0_lay_87 : decode cX0_lay 87 = .ok (.bipush 8, 2) := by decide +kernel
theorem dX0_lay_89 : decode cX0_lay 89 = .ok (.iload_n 1, 1) := by decide +kernel
theorem dX0_lay_90 : decode cX0_lay 90 = .ok (.imul, 1) := by decide +kernel
theorem dX0_lay_91 : decode cX0_lay 91 = .ok (.iload_n 2, 1) := by decide +kernel
theorem dX0_lay_92 : decode cX0_lay 92 = .ok (.iadd, 1) := by decide +kernel
theorem dX0_lay_93 : decode cX0_lay 93 = .ok (.iload_n 3, 1) := by decide +kernel
theorem dX0_lay_94 : decode cX0_lay 94 = .ok (.iastore, 1) := by decide +kernel
theorem dX0_lay_95 : decode cX0_lay 95 = .ok (.aload_n 0, 1) := by decide +kernel
theorem dX0_lay_96 : decode cX0_lay 96 = .ok (.getfield 21, 3) := by decide +kernel
theorem dX0_lay_99 : decode cX0_lay 99 = .ok (.bipush 8, 2) := by decide +kernel
theorem dX0_lay_101 : decode cX0_lay 101 = .ok (.iload_n 1, 1) := by decide +kernel
theorem dX0_lay_102 : decode cX0_lay 102 = .ok (.imul, 1) := by decide +kernel
theorem dX0_lay_103 : decode cX0_lay 103 = .ok (.iload_n 2, 1) := by decide +kernel
theorem dX0_lay_104 : decode cX0_lay 104 = .ok (.iadd, 1) := by decide +kernel
theorem dX0_lay_105 : decode cX0_lay 105 = .ok (.aload_n 0, 1) := by decide +kernel
theorem dX0_lay_106 : decode cX0_lay 106 = .ok (.getfield 24, 3) := by decide +kernel
theorem dX0_lay_109 : decode cX0_lay 109 = .ok (.iload_n 3, 1) := by decide +kernel
theorem dX0_lay_110 : decode cX0_lay 110 = .ok (.invokevirtual 47, 3) := by decide +kernel
theorem dX0_lay_113 : decode cX0_lay 113 = .ok (.iastore, 1) := by decide +kernel
theorem dX0_lay_114 : decode cX0_lay 114 = .ok (.iinc 2 1, 3) := by decide +kernel
theorem dX0_lay_117 : decode cX0_lay 117 = .ok (.goto (-91), 3) := by decide +kernel
theorem dX0_lay_120 : decode cX0_lay 120 = .ok (.iinc 1 1, 3) := by decide +kernel
theorem dX0_lay_123 : decode cX0_lay 123 = .ok (.goto (-116), 3) := by decide +kernel
theorem dX0_lay_126 : decode cX0_lay 126 = .ok (.aload_n 0, 1) := by decide +kernel
theorem dX0_lay_127 : decode cX0_lay 127 = .ok (.ldc2_w 51, 3) := by decide +kernel
theorem dX0_lay_130 : decode cX0_lay 130 = .ok (.bipush 64, 2) := by decide +kernel
theorem dX0_lay_132 : decode cX0_lay 132 = .ok (.aload_n 0, 1) := by decide +kernel
theorem dX0_lay_133 : decode cX0_lay 133 = .ok (.getfield 31, 3) := by decide +kernel
theorem dX0_lay_136 : decode cX0_lay 136 = .ok (.isub, 1) := by decide +kernel
theorem dX0_lay_137 : decode cX0_lay 137 = .ok (.lushr, 1) := by decide +kernel
theorem dX0_lay_138 : decode cX0_lay 138 = .ok (.aload_n 0, 1) := by decide +kernel
theorem dX0_lay_139 : decode cX0_lay 139 = .ok (.getfield 24, 3) := by decide +kernel
theorem dX0_lay_142 : decode cX0_lay 142 = .ok (.getfield 53, 3) := by decide +kernel
theorem dX0_lay_145 : decode cX0_lay 145 = .ok (.ldc2_w 51, 3) := by decide +kernel
theorem dX0_lay_148 : decode cX0_lay 148 = .ok (.lxor, 1) := by decide +kernel
theorem dX0_lay_149 : decode cX0_lay 149 = .ok (.land, 1) := by decide +kernel
theorem dX0_lay_150 : decode cX0_lay 150 = .ok (.putfield 57, 3) := by decide +kernel
theorem dX0_lay_153 : decode cX0_lay 153 = .ok (.aload_n 0, 1) := by decide +kernel
theorem dX0_lay_154 : decode cX0_lay 154 = .ok (.aload_n 0, 1) := by decide +kernel
theorem dX0_lay_155 : decode cX0_lay 155 = .ok (.getfield 57, 3) := by decide +kernel
theorem dX0_lay_158 : decode cX0_lay 158 = .ok (.invokestatic 60, 3) := by decide +kernel
theorem dX0_lay_161 : decode cX0_lay 161 = .ok (.putfield 66, 3) := by decide +kernel
theorem dX0_lay_164 : decode cX0_lay 164 = .ok (.return_, 1) := by decide +kernel
theorem dX0_isCell_0 : decode cX0_isCell 0 = .ok (.iload_n 1, 1) := by decide +kernel
theorem dX0_isCell_1 : decode cX0_isCell 1 = .ok (.ifCond .lt 15, 3) := by decide +kernel
theorem dX0_isCell_4 : decode cX0_isCell 4 = .ok (.iload_n 1, 1) := by decide +kernel
theorem dX0_isCell_5 : decode cX0_isCell 5 = .ok (.aload_n 0, 1) := by decide +kernel
theorem dX0_isCell_6 : decode cX0_isCell 6 = .ok (.getfield 31, 3) := by decide +kernel
theorem dX0_isCell_9 : decode cX0_isCell 9 = .ok (.if_icmp .ge 7, 3) := by decide +kernel
theorem dX0_isCell_12 : decode cX0_isCell 12 = .ok (.iconst 1, 1) := by decide +kernel
theorem dX0_isCell_13 : decode cX0_isCell 13 = .ok (.goto 4, 3) := by decide +kernel
theorem dX0_isCell_16 : decode cX0_isCell 16 = .ok (.iconst 0, 1) := by decide +kernel
theorem dX0_isCell_17 : decode cX0_isCell 17 = .ok (.ireturn, 1) := by decide +kernel
theorem dX0_columnOf_0 : decode cX0_columnOf 0 = .ok (.aload_n 0, 1) := by decide +kernel
theorem dX0_columnOf_1 : decode cX0_columnOf 1 = .ok (.iload_n 1, 1) := by decide +kernel
theorem dX0_columnOf_2 : decode cX0_columnOf 2 = .ok (.invokevirtual 69, 3) := by decide +kernel
theorem dX0_columnOf_5 : decode cX0_columnOf 5 = .ok (.ifCond .eq 12, 3) := by decide +kernel
theorem dX0_columnOf_8 : decode cX0_columnOf 8 = .ok (.aload_n 0, 1) := by decide +kernel
theorem dX0_columnOf_9 : decode cX0_columnOf 9 = .ok (.getfield 9, 3) := by decide +kernel
theorem dX0_columnOf_12 : decode cX0_columnOf 12 = .ok (.iload_n 1, 1) := by decide +kernel
theorem dX0_columnOf_13 : decode cX0_columnOf 13 = .ok (.iaload, 1) := by decide +kernel
theorem dX0_columnOf_14 : decode cX0_columnOf 14 = .ok (.goto 4, 3) := by decide +kernel
theorem dX0_columnOf_17 : decode cX0_columnOf 17 = .ok (.iconst 0, 1) := by decide +kernel
theorem dX0_columnOf_18 : decode cX0_columnOf 18 = .ok (.ireturn, 1) := by decide +kernel
theorem dX0_lineOf_0 : decode cX0_lineOf 0 = .ok (.aload_n 0, 1) := by decide +kernel
theorem dX0_lineOf_1 : decode cX0_lineOf 1 = .ok (.iload_n 1, 1) := by decide +kernel
theorem dX0_lineOf_2 : decode cX0_lineOf 2 = .ok (.invokevirtual 69, 3) := by decide +kernel
theorem dX0_lineOf_5 : decode cX0_lineOf 5 = .ok (.ifCond .eq 12, 3) := by decide +kernel
theorem dX0_lineOf_8 : decode cX0_lineOf 8 = .ok (.aload_n 0, 1) := by decide +kernel
theorem dX0_lineOf_9 : decode cX0_lineOf 9 = .ok (.getfield 15, 3) := by decide +kernel
theorem dX0_lineOf_12 : decode cX0_lineOf 12 = .ok (.iload_n 1, 1) := by decide +kernel
theorem dX0_lineOf_13 : decode cX0_lineOf 13 = .ok (.iaload, 1) := by decide +kernel
theorem dX0_lineOf_14 : decode cX0_lineOf 14 = .ok (.goto 4, 3) := by decide +kernel
theorem dX0_lineOf_17 : decode cX0_lineOf 17 = .ok (.iconst 0, 1) := by decide +kernel
theorem dX0_lineOf_18 : decode cX0_lineOf 18 = .ok (.ireturn, 1) := by decide +kernel
theorem dX0_distance_0 : decode cX0_distance 0 = .ok (.aload_n 0, 1) := by decide +kernel
theorem dX0_distance_1 : decode cX0_distance 1 = .ok (.iload_n 1, 1) := by decide +kernel
theorem dX0_distance_2 : decode cX0_distance 2 = .ok (.invokevirtual 69, 3) := by decide +kernel
theorem dX0_distance_5 : decode cX0_distance 5 = .ok (.ifCond .eq 11, 3) := by decide +kernel
theorem dX0_distance_8 : decode cX0_distance 8 = .ok (.aload_n 0, 1) := by decide +kernel
theorem dX0_distance_9 : decode cX0_distance 9 = .ok (.iload_n 2, 1) := by decide +kernel
theorem dX0_distance_10 : decode cX0_distance 10 = .ok (.invokevirtual 69, 3) := by decide +kernel
theorem dX0_distance_13 : decode cX0_distance 13 = .ok (.ifCond .ne 5, 3) := by decide +kernel
theorem dX0_distance_16 : decode cX0_distance 16 = .ok (.iconst 0, 1) := by decide +kernel
theorem dX0_distance_17 : decode cX0_distance 17 = .ok (.ireturn, 1) := by decide +kernel
theorem dX0_distance_18 : decode cX0_distance 18 = .ok (.aload_n 0, 1) := by decide +kernel
theorem dX0_distance_19 : decode cX0_distance 19 = .ok (.getfield 18, 3) := by decide +kernel
theorem dX0_distance_22 : decode cX0_distance 22 = .ok (.bipush 8, 2) := by decide +kernel
theorem dX0_distance_24 : decode cX0_distance 24 = .ok (.aload_n 0, 1) := by decide +kernel
theorem dX0_distance_25 : decode cX0_distance 25 = .ok (.getfield 15, 3) := by decide +kernel
theorem dX0_distance_28 : decode cX0_distance 28 = .ok (.iload_n 1, 1) := by decide +kernel
theorem dX0_distance_29 : decode cX0_distance 29 = .ok (.iaload, 1) := by decide +kernel
theorem dX0_distance_30 : decode cX0_distance 30 = .ok (.aload_n 0, 1) := by decide +kernel
theorem dX0_distance_31 : decode cX0_distance 31 = .ok (.getfield 15, 3) := by decide +kernel
theorem dX0_distance_34 : decode cX0_distance 34 = .ok (.iload_n 2, 1) := by decide +kernel
theorem dX0_distance_35 : decode cX0_distance 35 = .ok (.iaload, 1) := by decide +kernel
theorem dX0_distance_36 : decode cX0_distance 36 = .ok (.isub, 1) := by decide +kernel
theorem dX0_distance_37 : decode cX0_distance 37 = .ok (.invokestatic 73, 3) := by decide +kernel
theorem dX0_distance_40 : decode cX0_distance 40 = .ok (.imul, 1) := by decide +kernel
theorem dX0_distance_41 : decode cX0_distance 41 = .ok (.aload_n 0, 1) := by decide +kernel
theorem dX0_distance_42 : decode cX0_distance 42 = .ok (.getfield 9, 3) := by decide +kernel
theorem dX0_distance_45 : decode cX0_distance 45 = .ok (.iload_n 1, 1) := by decide +kernel
theorem dX0_distance_46 : decode cX0_distance 46 = .ok (.iaload, 1) := by decide +kernel
theorem dX0_distance_47 : decode cX0_distance 47 = .ok (.aload_n 0, 1) := by decide +kernel
theorem dX0_distance_48 : decode cX0_distance 48 = .ok (.getfield 9, 3) := by decide +kernel
theorem dX0_distance_51 : decode cX0_distance 51 = .ok (.iload_n 2, 1) := by decide +kernel
theorem dX0_distance_52 : decode cX0_distance 52 = .ok (.iaload, 1) := by decide +kernel
theorem dX0_distance_53 : decode cX0_distance 53 = .ok (.isub, 1) := by decide +kernel
theorem dX0_distance_54 : decode cX0_distance 54 = .ok (.invokestatic 73, 3) := by decide +kernel
theorem dX0_distance_57 : decode cX0_distance 57 = .ok (.iadd, 1) := by decide +kernel
theorem dX0_distance_58 : decode cX0_distance 58 = .ok (.iaload, 1) := by decide +kernel
theorem dX0_distance_59 : decode cX0_distance 59 = .ok (.ireturn, 1) := by decide +kernel
theorem dX0_weight_0 : decode cX0_weight 0 = .ok (.aload_n 0, 1) := by decide +kernel
theorem dX0_weight_1 : decode cX0_weight 1 = .ok (.iload_n 1, 1) := by decide +kernel
theorem dX0_weight_2 : decode cX0_weight 2 = .ok (.invokevirtual 69, 3) := by decide +kernel
theorem dX0_weight_5 : decode cX0_weight 5 = .ok (.ifCond .eq 11, 3) := by decide +kernel
theorem dX0_weight_8 : decode cX0_weight 8 = .ok (.aload_n 0, 1) := by decide +kernel
theorem dX0_weight_9 : decode cX0_weight 9 = .ok (.iload_n 2, 1) := by decide +kernel
theorem dX0_weight_10 : decode cX0_weight 10 = .ok (.invokevirtual 69, 3) := by decide +kernel
theorem dX0_weight_13 : decode cX0_weight 13 = .ok (.ifCond .ne 5, 3) := by decide +kernel
theorem dX0_weight_16 : decode cX0_weight 16 = .ok (.iconst 0, 1) := by decide +kernel
theorem dX0_weight_17 : decode cX0_weight 17 = .ok (.ireturn, 1) := by decide +kernel
theorem dX0_weight_18 : decode cX0_weight 18 = .ok (.aload_n 0, 1) := by decide +kernel
theorem dX0_weight_19 : decode cX0_weight 19 = .ok (.getfield 21, 3) := by decide +kernel
theorem dX0_weight_22 : decode cX0_weight 22 = .ok (.bipush 8, 2) := by decide +kernel
theorem dX0_weight_24 : decode cX0_weight 24 = .ok (.aload_n 0, 1) := by decide +kernel
theorem dX0_weight_25 : decode cX0_weight 25 = .ok (.getfield 15, 3) := by decide +kernel
theorem dX0_weight_28 : decode cX0_weight 28 = .ok (.iload_n 1, 1) := by decide +kernel
theorem dX0_weight_29 : decode cX0_weight 29 = .ok (.iaload, 1) := by decide +kernel
theorem dX0_weight_30 : decode cX0_weight 30 = .ok (.aload_n 0, 1) := by decide +kernel
theorem dX0_weight_31 : decode cX0_weight 31 = .ok (.getfield 15, 3) := by decide +kernel
theorem dX0_weight_34 : decode cX0_weight 34 = .ok (.iload_n 2, 1) := by decide +kernel
theorem dX0_weight_35 : decode cX0_weight 35 = .ok (.iaload, 1) := by decide +kernel
theorem dX0_weight_36 : decode cX0_weight 36 = .ok (.isub, 1) := by decide +kernel
theorem dX0_weight_37 : decode cX0_weight 37 = .ok (.invokestatic 73, 3) := by decide +kernel
theorem dX0_weight_40 : decode cX0_weight 40 = .ok (.imul, 1) := by decide +kernel
theorem dX0_weight_41 : decode cX0_weight 41 = .ok (.aload_n 0, 1) := by decide +kernel
theorem dX0_weight_42 : decode cX0_weight 42 = .ok (.getfield 9, 3) := by decide +kernel
theorem dX0_weight_45 : decode cX0_weight 45 = .ok (.iload_n 1, 1) := by decide +kernel
theorem dX0_weight_46 : decode cX0_weight 46 = .ok (.iaload, 1) := by decide +kernel
theorem dX0_weight_47 : decode cX0_weight 47 = .ok (.aload_n 0, 1) := by decide +kernel
theorem dX0_weight_48 : decode cX0_weight 48 = .ok (.getfield 9, 3) := by decide +kernel
theorem dX0_weight_51 : decode cX0_weight 51 = .ok (.iload_n 2, 1) := by decide +kernel
theorem dX0_weight_52 : decode cX0_weight 52 = .ok (.iaload, 1) := by decide +kernel
theorem dX0_weight_53 : decode cX0_weight 53 = .ok (.isub, 1) := by decide +kernel
theorem dX0_weight_54 : decode cX0_weight 54 = .ok (.invokestatic 73, 3) := by decide +kernel
theorem dX0_weight_57 : decode cX0_weight 57 = .ok (.iadd, 1) := by decide +kernel
theorem dX0_weight_58 : decode cX0_weight 58 = .ok (.iaload, 1) := by decide +kernel
theorem dX0_weight_59 : decode cX0_weight 59 = .ok (.ireturn, 1) := by decide +kernel
theorem dX0_lieOnThemselves_0 : decode cX0_lieOnThemselves 0 = .ok (.iconst 0, 1) := by decide +kernel
theorem dX0_lieOnThemselves_1 : decode cX0_lieOnThemselves 1 = .ok (.istore 5, 2) := by decide +kernel
theorem dX0_lieOnThemselves_3 : decode cX0_lieOnThemselves 3 = .ok (.iload 5, 2) := by decide +kernel
theorem dX0_lieOnThemselves_5 : decode cX0_lieOnThemselves 5 = .ok (.aload_n 0, 1) := by decide +kernel
theorem dX0_lieOnThemselves_6 : decode cX0_lieOnThemselves 6 = .ok (.getfield 31, 3) := by decide +kernel
theorem dX0_lieOnThemselves_9 : decode cX0_lieOnThemselves 9 = .ok (.if_icmp .ge 78, 3) := by decide +kernel
theorem dX0_lieOnThemselves_12 : decode cX0_lieOnThemselves 12 = .ok (.aload_n 0, 1) := by decide +kernel
theorem dX0_lieOnThemselves_13 : decode cX0_lieOnThemselves 13 = .ok (.getfield 9, 3) := by decide +kernel
theorem dX0_lieOnThemselves_16 : decode cX0_lieOnThemselves 16 = .ok (.iload 5, 2) := by decide +kernel
theorem dX0_lieOnThemselves_18 : decode cX0_lieOnThemselves 18 = .ok (.iaload, 1) := by decide +kernel
theorem dX0_lieOnThemselves_19 : decode cX0_lieOnThemselves 19 = .ok (.iload_n 3, 1) := by decide +kernel
theorem dX0_lieOnThemselves_20 : decode cX0_lieOnThemselves 20 = .ok (.iadd, 1) := by decide +kernel
theorem dX0_lieOnThemselves_21 : decode cX0_lieOnThemselves 21 = .ok (.aload_n 0, 1) := by decide +kernel
theorem dX0_lieOnThemselves_22 : decode cX0_lieOnThemselves 22 = .ok (.getfield 24, 3) := by decide +kernel
theorem dX0_lieOnThemselves_25 : decode cX0_lieOnThemselves 25 = .ok (.getfield 40, 3) := by decide +kernel
theorem dX0_lieOnThemselves_28 : decode cX0_lieOnThemselves 28 = .ok (.invokestatic 78, 3) := by decide +kernel
theorem dX0_lieOnThemselves_31 : decode cX0_lieOnThemselves 31 = .ok (.istore 6, 2) := by decide +kernel
theorem dX0_lieOnThemselves_33 : decode cX0_lieOnThemselves 33 = .ok (.aload_n 0, 1) := by decide +kernel
theorem dX0_lieOnThemselves_34 : decode cX0_lieOnThemselves 34 = .ok (.getfield 15, 3) := by decide +kernel
theorem dX0_lieOnThemselves_37 : decode cX0_lieOnThemselves 37 = .ok (.iload 5, 2) := by decide +kernel
theorem dX0_lieOnThemselves_39 : decode cX0_lieOnThemselves 39 = .ok (.iaload, 1) := by decide +kernel
theorem dX0_lieOnThemselves_40 : decode cX0_lieOnThemselves 40 = .ok (.iload 4, 2) := by decide +kernel
theorem dX0_lieOnThemselves_42 : decode cX0_lieOnThemselves 42 = .ok (.iadd, 1) := by decide +kernel
theorem dX0_lieOnThemselves_43 : decode cX0_lieOnThemselves 43 = .ok (.aload_n 0, 1) := by decide +kernel
theorem dX0_lieOnThemselves_44 : decode cX0_lieOnThemselves 44 = .ok (.getfield 24, 3) := by decide +kernel
theorem dX0_lieOnThemselves_47 : decode cX0_lieOnThemselves 47 = .ok (.getfield 35, 3) := by decide +kernel
theorem dX0_lieOnThemselves_50 : decode cX0_lieOnThemselves 50 = .ok (.invokestatic 78, 3) := by decide +kernel
theorem dX0_lieOnThemselves_53 : decode cX0_lieOnThemselves 53 = .ok (.istore 7, 2) := by decide +kernel
theorem dX0_lieOnThemselves_55 : decode cX0_lieOnThemselves 55 = .ok (.lload_n 1, 1) := by decide +kernel
theorem dX0_lieOnThemselves_56 : decode cX0_lieOnThemselves 56 = .ok (.iload 5, 2) := by decide +kernel
theorem dX0_lieOnThemselves_58 : decode cX0_lieOnThemselves 58 = .ok (.invokestatic 81, 3) := by decide +kernel
theorem dX0_lieOnThemselves_61 : decode cX0_lieOnThemselves 61 = .ok (.lload_n 1, 1) := by decide +kernel
theorem dX0_lieOnThemselves_62 : decode cX0_lieOnThemselves 62 = .ok (.aload_n 0, 1) := by decide +kernel
theorem dX0_lieOnThemselves_63 : decode cX0_lieOnThemselves 63 = .ok (.getfield 24, 3) := by decide +kernel
theorem dX0_lieOnThemselves_66 : decode cX0_lieOnThemselves 66 = .ok (.iload 6, 2) := by decide +kernel
theorem dX0_lieOnThemselves_68 : decode cX0_lieOnThemselves 68 = .ok (.iload 7, 2) := by decide +kernel
theorem dX0_lieOnThemselves_70 : decode cX0_lieOnThemselves 70 = .ok (.invokevirtual 85, 3) := by decide +kernel
theorem dX0_lieOnThemselves_73 : decode cX0_lieOnThemselves 73 = .ok (.invokestatic 81, 3) := by decide +kernel
theorem dX0_lieOnThemselves_76 : decode cX0_lieOnThemselves 76 = .ok (.if_icmp .eq 5, 3) := by decide +kernel
theorem dX0_lieOnThemselves_79 : decode cX0_lieOnThemselves 79 = .ok (.iconst 0, 1) := by decide +kernel
theorem dX0_lieOnThemselves_80 : decode cX0_lieOnThemselves 80 = .ok (.ireturn, 1) := by decide +kernel
theorem dX0_lieOnThemselves_81 : decode cX0_lieOnThemselves 81 = .ok (.iinc 5 1, 3) := by decide +kernel
theorem dX0_lieOnThemselves_84 : decode cX0_lieOnThemselves 84 = .ok (.goto (-81), 3) := by decide +kernel
theorem dX0_lieOnThemselves_87 : decode cX0_lieOnThemselves 87 = .ok (.iconst 1, 1) := by decide +kernel
theorem dX0_lieOnThemselves_88 : decode cX0_lieOnThemselves 88 = .ok (.ireturn, 1) := by decide +kernel
theorem dX0_wrapped_0 : decode cX0_wrapped 0 = .ok (.iload_n 0, 1) := by decide +kernel
theorem dX0_wrapped_1 : decode cX0_wrapped 1 = .ok (.iload_n 1, 1) := by decide +kernel
theorem dX0_wrapped_2 : decode cX0_wrapped 2 = .ok (.if_icmp .ge 7, 3) := by decide +kernel
theorem dX0_wrapped_5 : decode cX0_wrapped 5 = .ok (.iload_n 0, 1) := by decide +kernel
theorem dX0_wrapped_6 : decode cX0_wrapped 6 = .ok (.goto 6, 3) := by decide +kernel
theorem dX0_wrapped_9 : decode cX0_wrapped 9 = .ok (.iload_n 0, 1) := by decide +kernel
theorem dX0_wrapped_10 : decode cX0_wrapped 10 = .ok (.iload_n 1, 1) := by decide +kernel
theorem dX0_wrapped_11 : decode cX0_wrapped 11 = .ok (.isub, 1) := by decide +kernel
theorem dX0_wrapped_12 : decode cX0_wrapped 12 = .ok (.ireturn, 1) := by decide +kernel
theorem dX1_init_0 : decode cX1_init 0 = .ok (.aload_n 0, 1) := by decide +kernel
theorem dX1_init_1 : decode cX1_init 1 = .ok (.invokespecial 3, 3) := by decide +kernel
theorem dX1_init_4 : decode cX1_init 4 = .ok (.aload_n 0, 1) := by decide +kernel
theorem dX1_init_5 : decode cX1_init 5 = .ok (.bipush 64, 2) := by decide +kernel
theorem dX1_init_7 : decode cX1_init 7 = .ok (.newarray .int, 2) := by decide +kernel
theorem dX1_init_9 : decode cX1_init 9 = .ok (.putfield 9, 3) := by decide +kernel
theorem dX1_init_12 : decode cX1_init 12 = .ok (.aload_n 0, 1) := by decide +kernel
theorem dX1_init_13 : decode cX1_init 13 = .ok (.aload_n 1, 1) := by decide +kernel
theorem dX1_init_14 : decode cX1_init 14 = .ok (.putfield 15, 3) := by decide +kernel
theorem dX1_init_17 : decode cX1_init 17 = .ok (.return_, 1) := by decide +kernel
theorem dX1_begin_0 : decode cX1_begin 0 = .ok (.aload_n 0, 1) := by decide +kernel
theorem dX1_begin_1 : decode cX1_begin 1 = .ok (.getfield 9, 3) := by decide +kernel
theorem dX1_begin_4 : decode cX1_begin 4 = .ok (.iconst 0, 1) := by decide +kernel
theorem dX1_begin_5 : decode cX1_begin 5 = .ok (.invokestatic 19, 3) := by decide +kernel
theorem dX1_begin_8 : decode cX1_begin 8 = .ok (.aload_n 0, 1) := by decide +kernel
theorem dX1_begin_9 : decode cX1_begin 9 = .ok (.lconst 0, 1) := by decide +kernel
theorem dX1_begin_10 : decode cX1_begin 10 = .ok (.putfield 25, 3) := by decide +kernel
theorem dX1_begin_13 : decode cX1_begin 13 = .ok (.aload_n 0, 1) := by decide +kernel
theorem dX1_begin_14 : decode cX1_begin 14 = .ok (.lload_n 1, 1) := by decide +kernel
theorem dX1_begin_15 : decode cX1_begin 15 = .ok (.invokevirtual 29, 3) := by decide +kernel
theorem dX1_begin_18 : decode cX1_begin 18 = .ok (.return_, 1) := by decide +kernel
theorem dX1_become_0 : decode cX1_become 0 = .ok (.aload_n 0, 1) := by decide +kernel
theorem dX1_become_1 : decode cX1_become 1 = .ok (.getfield 25, 3) := by decide +kernel
theorem dX1_become_4 : decode cX1_become 4 = .ok (.lload_n 1, 1) := by decide +kernel
theorem dX1_become_5 : decode cX1_become 5 = .ok (.lxor, 1) := by decide +kernel
theorem dX1_become_6 : decode cX1_become 6 = .ok (.lstore_n 3, 1) := by decide +kernel
theorem dX1_become_7 : decode cX1_become 7 = .ok (.iconst 0, 1) := by decide +kernel
theorem dX1_become_8 : decode cX1_become 8 = .ok (.istore 5, 2) := by decide +kernel
theorem dX1_become_10 : decode cX1_become 10 = .ok (.iload 5, 2) := by decide +kernel
theorem dX1_become_12 : decode cX1_become 12 = .ok (.aload_n 0, 1) := by decide +kernel
theorem dX1_become_13 : decode cX1_become 13 = .ok (.getfield 15, 3) := by decide +kernel
theorem dX1_become_16 : decode cX1_become 16 = .ok (.getfield 33, 3) := by decide +kernel
theorem dX1_become_19 : decode cX1_become 19 = .ok (.if_icmp .ge 24, 3) := by decide +kernel
theorem dX1_become_22 : decode cX1_become 22 = .ok (.lload_n 3, 1) := by decide +kernel
theorem dX1_become_23 : decode cX1_become 23 = .ok (.iload 5, 2) := by decide +kernel
theorem dX1_become_25 : decode cX1_become 25 = .ok (.invokestatic 39, 3) := by decide +kernel
theorem dX1_become_28 : decode cX1_become 28 = .ok (.ifCond .eq 9, 3) := by decide +kernel
theorem dX1_become_31 : decode cX1_become 31 = .ok (.aload_n 0, 1) := by decide +kernel
theorem dX1_become_32 : decode cX1_become 32 = .ok (.iload 5, 2) := by decide +kernel
theorem dX1_become_34 : decode cX1_become 34 = .ok (.invokevirtual 43, 3) := by decide +kernel
theorem dX1_become_37 : decode cX1_become 37 = .ok (.iinc 5 1, 3) := by decide +kernel
theorem dX1_become_40 : decode cX1_become 40 = .ok (.goto (-30), 3) := by decide +kernel
theorem dX1_become_43 : decode cX1_become 43 = .ok (.return_, 1) := by decide +kernel
theorem dX1_flip_0 : decode cX1_flip 0 = .ok (.aload_n 0, 1) := by decide +kernel
theorem dX1_flip_1 : decode cX1_flip 1 = .ok (.getfield 15, 3) := by decide +kernel
theorem dX1_flip_4 : decode cX1_flip 4 = .ok (.iload_n 1, 1) := by decide +kernel
theorem dX1_flip_5 : decode cX1_flip 5 = .ok (.invokevirtual 47, 3) := by decide +kernel
theorem dX1_flip_8 : decode cX1_flip 8 = .ok (.ifCond .ne 4, 3) := by decide +kernel
theorem dX1_flip_11 : decode cX1_flip 11 = .ok (.return_, 1) := by decide +kernel
theorem dX1_flip_12 : decode cX1_flip 12 = .ok (.aload_n 0, 1) := by decide +kernel
theorem dX1_flip_13 : decode cX1_flip 13 = .ok (.getfield 25, 3) := by decide +kernel
theorem dX1_flip_16 : decode cX1_flip 16 = .ok (.iload_n 1, 1) := by decide +kernel
theorem dX1_flip_17 : decode cX1_flip 17 = .ok (.invokestatic 39, 3) := by decide +kernel
theorem dX1_flip_20 : decode cX1_flip 20 = .ok (.ifCond .eq 7, 3) := by decide +kernel
theorem dX1_flip_23 : decode cX1_flip 23 = .ok (.iconst (-1), 1) := by decide +kernel
theorem dX1_flip_24 : decode cX1_flip 24 = .ok (.goto 4, 3) := by decide +kernel
theorem dX1_flip_27 : decode cX1_flip 27 = .ok (.iconst 1, 1) := by decide +kernel
theorem dX1_flip_28 : decode cX1_flip 28 = .ok (.istore_n 2, 1) := by decide +kernel
theorem dX1_flip_29 : decode cX1_flip 29 = .ok (.aload_n 0, 1) := by decide +kernel
theorem dX1_flip_30 : decode cX1_flip 30 = .ok (.dup, 1) := by decide +kernel
theorem dX1_flip_31 : decode cX1_flip 31 = .ok (.getfield 25, 3) := by decide +kernel
theorem dX1_flip_34 : decode cX1_flip 34 = .ok (.lconst 1, 1) := by decide +kernel
theorem dX1_flip_35 : decode cX1_flip 35 = .ok (.iload_n 1, 1) := by decide +kernel
theorem dX1_flip_36 : decode cX1_flip 36 = .ok (.lshl, 1) := by decide +kernel
theorem dX1_flip_37 : decode cX1_flip 37 = .ok (.lxor, 1) := by decide +kernel
theorem dX1_flip_38 : decode cX1_flip 38 = .ok (.putfield 25, 3) := by decide +kernel
theorem dX1_flip_41 : decode cX1_flip 41 = .ok (.iconst 0, 1) := by decide +kernel
theorem dX1_flip_42 : decode cX1_flip 42 = .ok (.istore_n 3, 1) := by decide +kernel
theorem dX1_flip_43 : decode cX1_flip 43 = .ok (.iload_n 3, 1) := by decide +kernel
theorem dX1_flip_44 : decode cX1_flip 44 = .ok (.aload_n 0, 1) := by decide +kernel
theorem dX1_flip_45 : decode cX1_flip 45 = .ok (.getfield 15, 3) := by decide +kernel
theorem dX1_flip_48 : decode cX1_flip 48 = .ok (.getfield 33, 3) := by decide +kernel
theorem dX1_flip_51 : decode cX1_flip 51 = .ok (.if_icmp .ge 29, 3) := by decide +kernel
theorem dX1_flip_54 : decode cX1_flip 54 = .ok (.aload_n 0, 1) := by decide +kernel
theorem dX1_flip_55 : decode cX1_flip 55 = .ok (.getfield 9, 3) := by decide +kernel
theorem dX1_flip_58 : decode cX1_flip 58 = .ok (.iload_n 3, 1) := by decide +kernel
theorem dX1_flip_59 : decode cX1_flip 59 = .ok (.dup2, 1) := by decide +kernel
theorem dX1_flip_60 : decode cX1_flip 60 = .ok (.iaload, 1) := by decide +kernel
theorem dX1_flip_61 : decode cX1_flip 61 = .ok (.iload_n 2, 1) := by decide +kernel
theorem dX1_flip_62 : decode cX1_flip 62 = .ok (.aload_n 0, 1) := by decide +kernel
theorem dX1_flip_63 : decode cX1_flip 63 = .ok (.getfield 15, 3) := by decide +kernel
theorem dX1_flip_66 : decode cX1_flip 66 = .ok (.iload_n 1, 1) := by decide +kernel
theorem dX1_flip_67 : decode cX1_flip 67 = .ok (.iload_n 3, 1) := by decide +kernel
theorem dX1_flip_68 : decode cX1_flip 68 = .ok (.invokevirtual 51, 3) := by decide +kernel
theorem dX1_flip_71 : decode cX1_flip 71 = .ok (.imul, 1) := by decide +kernel
theorem dX1_flip_72 : decode cX1_flip 72 = .ok (.iadd, 1) := by decide +kernel
theorem dX1_flip_73 : decode cX1_flip 73 = .ok (.iastore, 1) := by decide +kernel
theorem dX1_flip_74 : decode cX1_flip 74 = .ok (.iinc 3 1, 3) := by decide +kernel
theorem dX1_flip_77 : decode cX1_flip 77 = .ok (.goto (-34), 3) := by decide +kernel
theorem dX1_flip_80 : decode cX1_flip 80 = .ok (.return_, 1) := by decide +kernel
theorem dX1_size_0 : decode cX1_size 0 = .ok (.aload_n 0, 1) := by decide +kernel
theorem dX1_size_1 : decode cX1_size 1 = .ok (.getfield 25, 3) := by decide +kernel
theorem dX1_size_4 : decode cX1_size 4 = .ok (.invokestatic 55, 3) := by decide +kernel
theorem dX1_size_7 : decode cX1_size 7 = .ok (.ireturn, 1) := by decide +kernel
theorem dX1_sumAt_0 : decode cX1_sumAt 0 = .ok (.aload_n 0, 1) := by decide +kernel
theorem dX1_sumAt_1 : decode cX1_sumAt 1 = .ok (.getfield 15, 3) := by decide +kernel
theorem dX1_sumAt_4 : decode cX1_sumAt 4 = .ok (.iload_n 1, 1) := by decide +kernel
theorem dX1_sumAt_5 : decode cX1_sumAt 5 = .ok (.invokevirtual 47, 3) := by decide +kernel
theorem dX1_sumAt_8 : decode cX1_sumAt 8 = .ok (.ifCond .eq 12, 3) := by decide +kernel
theorem dX1_sumAt_11 : decode cX1_sumAt 11 = .ok (.aload_n 0, 1) := by decide +kernel
theorem dX1_sumAt_12 : decode cX1_sumAt 12 = .ok (.getfield 9, 3) := by decide +kernel
theorem dX1_sumAt_15 : decode cX1_sumAt 15 = .ok (.iload_n 1, 1) := by decide +kernel
theorem dX1_sumAt_16 : decode cX1_sumAt 16 = .ok (.iaload, 1) := by decide +kernel
theorem dX1_sumAt_17 : decode cX1_sumAt 17 = .ok (.goto 4, 3) := by decide +kernel
theorem dX1_sumAt_20 : decode cX1_sumAt 20 = .ok (.iconst 0, 1) := by decide +kernel
theorem dX1_sumAt_21 : decode cX1_sumAt 21 = .ok (.ireturn, 1) := by decide +kernel
theorem dX1_most_0 : decode cX1_most 0 = .ok (.aload_n 0, 1) := by decide +kernel
theorem dX1_most_1 : decode cX1_most 1 = .ok (.lload_n 1, 1) := by decide +kernel
theorem dX1_most_2 : decode cX1_most 2 = .ok (.iconst 1, 1) := by decide +kernel
theorem dX1_most_3 : decode cX1_most 3 = .ok (.invokevirtual 61, 3) := by decide +kernel
theorem dX1_most_6 : decode cX1_most 6 = .ok (.ireturn, 1) := by decide +kernel
theorem dX1_least_0 : decode cX1_least 0 = .ok (.aload_n 0, 1) := by decide +kernel
theorem dX1_least_1 : decode cX1_least 1 = .ok (.lload_n 1, 1) := by decide +kernel
theorem dX1_least_2 : decode cX1_least 2 = .ok (.iconst (-1), 1) := by decide +kernel
theorem dX1_least_3 : decode cX1_least 3 = .ok (.invokevirtual 61, 3) := by decide +kernel
theorem dX1_least_6 : decode cX1_least 6 = .ok (.ireturn, 1) := by decide +kernel
theorem dX1_farthest_0 : decode cX1_farthest 0 = .ok (.iconst (-1), 1) := by decide +kernel
theorem dX1_farthest_1 : decode cX1_farthest 1 = .ok (.istore 4, 2) := by decide +kernel
theorem dX1_farthest_3 : decode cX1_farthest 3 = .ok (.iconst 0, 1) := by decide +kernel
theorem dX1_farthest_4 : decode cX1_farthest 4 = .ok (.istore 5, 2) := by decide +kernel
theorem dX1_farthest_6 : decode cX1_farthest 6 = .ok (.iconst 0, 1) := by decide +kernel
theorem dX1_farthest_7 : decode cX1_farthest 7 = .ok (.istore 6, 2) := by decide +kernel
theorem dX1_farthest_9 : decode cX1_farthest 9 = .ok (.iload 6, 2) := by decide +kernel
theorem dX1_farthest_11 : decode cX1_farthest 11 = .ok (.aload_n 0, 1) := by decide +kernel
theorem dX1_farthest_12 : decode cX1_farthest 12 = .ok (.getfield 15, 3) := by decide +kernel
theorem dX1_farthest_15 : decode cX1_farthest 15 = .ok (.getfield 33, 3) := by decide +kernel
theorem dX1_farthest_18 : decode cX1_farthest 18 = .ok (.if_icmp .ge 50, 3) := by decide +kernel
theorem dX1_farthest_21 : decode cX1_farthest 21 = .ok (.iload_n 3, 1) := by decide +kernel
theorem dX1_farthest_22 : decode cX1_farthest 22 = .ok (.aload_n 0, 1) := by decide +kernel
theorem dX1_farthest_23 : decode cX1_farthest 23 = .ok (.getfield 9, 3) := by decide +kernel
theorem dX1_farthest_26 : decode cX1_farthest 26 = .ok (.iload 6, 2) := by decide +kernel
theorem dX1_farthest_28 : decode cX1_farthest 28 = .ok (.iaload, 1) := by decide +kernel
theorem dX1_farthest_29 : decode cX1_farthest 29 = .ok (.imul, 1) := by decide +kernel
theorem dX1_farthest_30 : decode cX1_farthest 30 = .ok (.istore 7, 2) := by decide +kernel
theorem dX1_farthest_32 : decode cX1_farthest 32 = .ok (.lload_n 1, 1) := by decide +kernel
theorem dX1_farthest_33 : decode cX1_farthest 33 = .ok (.iload 6, 2) := by decide +kernel
theorem dX1_farthest_35 : decode cX1_farthest 35 = .ok (.invokestatic 39, 3) := by decide +kernel
theorem dX1_farthest_38 : decode cX1_farthest 38 = .ok (.ifCond .eq 24, 3) := by decide +kernel
theorem dX1_farthest_41 : decode cX1_farthest 41 = .ok (.iload 4, 2) := by decide +kernel
theorem dX1_farthest_43 : decode cX1_farthest 43 = .ok (.iconst (-1), 1) := by decide +kernel
theorem dX1_farthest_44 : decode cX1_farthest 44 = .ok (.if_icmp .eq 10, 3) := by decide +kernel
theorem dX1_farthest_47 : decode cX1_farthest 47 = .ok (.iload 7, 2) := by decide +kernel
theorem dX1_farthest_49 : decode cX1_farthest 49 = .ok (.iload 5, 2) := by decide +kernel
theorem dX1_farthest_51 : decode cX1_farthest 51 = .ok (.if_icmp .le 11, 3) := by decide +kernel
theorem dX1_farthest_54 : decode cX1_farthest 54 = .ok (.iload 6, 2) := by decide +kernel
theorem dX1_farthest_56 : decode cX1_farthest 56 = .ok (.istore 4, 2) := by decide +kernel
theorem dX1_farthest_58 : decode cX1_farthest 58 = .ok (.iload 7, 2) := by decide +kernel
theorem dX1_farthest_60 : decode cX1_farthest 60 = .ok (.istore 5, 2) := by decide +kernel
theorem dX1_farthest_62 : decode cX1_farthest 62 = .ok (.iinc 6 1, 3) := by decide +kernel
theorem dX1_farthest_65 : decode cX1_farthest 65 = .ok (.goto (-56), 3) := by decide +kernel
theorem dX1_farthest_68 : decode cX1_farthest 68 = .ok (.iload 4, 2) := by decide +kernel
theorem dX1_farthest_70 : decode cX1_farthest 70 = .ok (.ireturn, 1) := by decide +kernel
theorem dX1_pairs_0 : decode cX1_pairs 0 = .ok (.iconst 0, 1) := by decide +kernel
theorem dX1_pairs_1 : decode cX1_pairs 1 = .ok (.istore_n 1, 1) := by decide +kernel
theorem dX1_pairs_2 : decode cX1_pairs 2 = .ok (.iconst 0, 1) := by decide +kernel
theorem dX1_pairs_3 : decode cX1_pairs 3 = .ok (.istore_n 2, 1) := by decide +kernel
theorem dX1_pairs_4 : decode cX1_pairs 4 = .ok (.iload_n 2, 1) := by decide +kernel
theorem dX1_pairs_5 : decode cX1_pairs 5 = .ok (.aload_n 0, 1) := by decide +kernel
theorem dX1_pairs_6 : decode cX1_pairs 6 = .ok (.getfield 15, 3) := by decide +kernel
theorem dX1_pairs_9 : decode cX1_pairs 9 = .ok (.getfield 33, 3) := by decide +kernel
theorem dX1_pairs_12 : decode cX1_pairs 12 = .ok (.if_icmp .ge 39, 3) := by decide +kernel
theorem dX1_pairs_15 : decode cX1_pairs 15 = .ok (.aload_n 0, 1) := by decide +kernel
theorem dX1_pairs_16 : decode cX1_pairs 16 = .ok (.getfield 25, 3) := by decide +kernel
theorem dX1_pairs_19 : decode cX1_pairs 19 = .ok (.iload_n 2, 1) := by decide +kernel
theorem dX1_pairs_20 : decode cX1_pairs 20 = .ok (.invokestatic 39, 3) := by decide +kernel
theorem dX1_pairs_23 : decode cX1_pairs 23 = .ok (.ifCond .eq 22, 3) := by decide +kernel
theorem dX1_pairs_26 : decode cX1_pairs 26 = .ok (.iload_n 1, 1) := by decide +kernel
theorem dX1_pairs_27 : decode cX1_pairs 27 = .ok (.aload_n 0, 1) := by decide +kernel
theorem dX1_pairs_28 : decode cX1_pairs 28 = .ok (.getfield 9, 3) := by decide +kernel
theorem dX1_pairs_31 : decode cX1_pairs 31 = .ok (.iload_n 2, 1) := by decide +kernel
theorem dX1_pairs_32 : decode cX1_pairs 32 = .ok (.iaload, 1) := by decide +kernel
theorem dX1_pairs_33 : decode cX1_pairs 33 = .ok (.aload_n 0, 1) := by decide +kernel
theorem dX1_pairs_34 : decode cX1_pairs 34 = .ok (.getfield 15, 3) := by decide +kernel
theorem dX1_pairs_37 : decode cX1_pairs 37 = .ok (.iload_n 2, 1) := by decide +kernel
theorem dX1_pairs_38 : decode cX1_pairs 38 = .ok (.iload_n 2, 1) := by decide +kernel
theorem dX1_pairs_39 : decode cX1_pairs 39 = .ok (.invokevirtual 51, 3) := by decide +kernel
theorem dX1_pairs_42 : decode cX1_pairs 42 = .ok (.isub, 1) := by decide +kernel
theorem dX1_pairs_43 : decode cX1_pairs 43 = .ok (.iadd, 1) := by decide +kernel
theorem dX1_pairs_44 : decode cX1_pairs 44 = .ok (.istore_n 1, 1) := by decide +kernel
theorem dX1_pairs_45 : decode cX1_pairs 45 = .ok (.iinc 2 1, 3) := by decide +kernel
theorem dX1_pairs_48 : decode cX1_pairs 48 = .ok (.goto (-44), 3) := by decide +kernel
theorem dX1_pairs_51 : decode cX1_pairs 51 = .ok (.iload_n 1, 1) := by decide +kernel
theorem dX1_pairs_52 : decode cX1_pairs 52 = .ok (.iconst 2, 1) := by decide +kernel
theorem dX1_pairs_53 : decode cX1_pairs 53 = .ok (.idiv, 1) := by decide +kernel
theorem dX1_pairs_54 : decode cX1_pairs 54 = .ok (.ireturn, 1) := by decide +kernel
theorem dX2_init_0 : decode cX2_init 0 = .ok (.aload_n 0, 1) := by decide +kernel
theorem dX2_init_1 : decode cX2_init 1 = .ok (.invokespecial 1, 3) := by decide +kernel
theorem dX2_init_4 : decode cX2_init 4 = .ok (.aload_n 0, 1) := by decide +kernel
theorem dX2_init_5 : decode cX2_init 5 = .ok (.iconst 2, 1) := by decide +kernel
theorem dX2_init_6 : decode cX2_init 6 = .ok (.newarray .long, 2) := by decide +kernel
theorem dX2_init_8 : decode cX2_init 8 = .ok (.putfield 9, 3) := by decide +kernel
theorem dX2_init_11 : decode cX2_init 11 = .ok (.aload_n 0, 1) := by decide +kernel
theorem dX2_init_12 : decode cX2_init 12 = .ok (.iconst 2, 1) := by decide +kernel
theorem dX2_init_13 : decode cX2_init 13 = .ok (.newarray .boolean, 2) := by decide +kernel
theorem dX2_init_15 : decode cX2_init 15 = .ok (.putfield 13, 3) := by decide +kernel
theorem dX2_init_18 : decode cX2_init 18 = .ok (.return_, 1) := by decide +kernel
theorem dX2_isImage_0 : decode cX2_isImage 0 = .ok (.iload_n 1, 1) := by decide +kernel
theorem dX2_isImage_1 : decode cX2_isImage 1 = .ok (.ifCond .lt 12, 3) := by decide +kernel
theorem dX2_isImage_4 : decode cX2_isImage 4 = .ok (.iload_n 1, 1) := by decide +kernel
theorem dX2_isImage_5 : decode cX2_isImage 5 = .ok (.iconst 2, 1) := by decide +kernel
theorem dX2_isImage_6 : decode cX2_isImage 6 = .ok (.if_icmp .ge 7, 3) := by decide +kernel
theorem dX2_isImage_9 : decode cX2_isImage 9 = .ok (.iconst 1, 1) := by decide +kernel
theorem dX2_isImage_10 : decode cX2_isImage 10 = .ok (.goto 4, 3) := by decide +kernel
theorem dX2_isImage_13 : decode cX2_isImage 13 = .ok (.iconst 0, 1) := by decide +kernel
theorem dX2_isImage_14 : decode cX2_isImage 14 = .ok (.ireturn, 1) := by decide +kernel
theorem dX2_isKept_0 : decode cX2_isKept 0 = .ok (.aload_n 0, 1) := by decide +kernel
theorem dX2_isKept_1 : decode cX2_isKept 1 = .ok (.iload_n 1, 1) := by decide +kernel
theorem dX2_isKept_2 : decode cX2_isKept 2 = .ok (.invokevirtual 17, 3) := by decide +kernel
theorem dX2_isKept_5 : decode cX2_isKept 5 = .ok (.ifCond .eq 16, 3) := by decide +kernel
theorem dX2_isKept_8 : decode cX2_isKept 8 = .ok (.aload_n 0, 1) := by decide +kernel
theorem dX2_isKept_9 : decode cX2_isKept 9 = .ok (.getfield 13, 3) := by decide +kernel
theorem dX2_isKept_12 : decode cX2_isKept 12 = .ok (.iload_n 1, 1) := by decide +kernel
theorem dX2_isKept_13 : decode cX2_isKept 13 = .ok (.baload, 1) := by decide +kernel
theorem dX2_isKept_14 : decode cX2_isKept 14 = .ok (.ifCond .eq 7, 3) := by decide +kernel
theorem dX2_isKept_17 : decode cX2_isKept 17 = .ok (.iconst 1, 1) := by decide +kernel
theorem dX2_isKept_18 : decode cX2_isKept 18 = .ok (.goto 4, 3) := by decide +kernel
theorem dX2_isKept_21 : decode cX2_isKept 21 = .ok (.iconst 0, 1) := by decide +kernel
theorem dX2_isKept_22 : decode cX2_isKept 22 = .ok (.ireturn, 1) := by decide +kernel
theorem dX2_put_0 : decode cX2_put 0 = .ok (.aload_n 0, 1) := by decide +kernel
theorem dX2_put_1 : decode cX2_put 1 = .ok (.iload_n 1, 1) := by decide +kernel
theorem dX2_put_2 : decode cX2_put 2 = .ok (.invokevirtual 17, 3) := by decide +kernel
theorem dX2_put_5 : decode cX2_put 5 = .ok (.ifCond .eq 17, 3) := by decide +kernel
theorem dX2_put_8 : decode cX2_put 8 = .ok (.aload_n 0, 1) := by decide +kernel
theorem dX2_put_9 : decode cX2_put 9 = .ok (.getfield 9, 3) := by decide +kernel
theorem dX2_put_12 : decode cX2_put 12 = .ok (.iload_n 1, 1) := by decide +kernel
theorem dX2_put_13 : decode cX2_put 13 = .ok (.lload_n 2, 1) := by decide +kernel
theorem dX2_put_14 : decode cX2_put 14 = .ok (.lastore, 1) := by decide +kernel
theorem dX2_put_15 : decode cX2_put 15 = .ok (.aload_n 0, 1) := by decide +kernel
theorem dX2_put_16 : decode cX2_put 16 = .ok (.getfield 13, 3) := by decide +kernel
theorem dX2_put_19 : decode cX2_put 19 = .ok (.iload_n 1, 1) := by decide +kernel
theorem dX2_put_20 : decode cX2_put 20 = .ok (.iconst 1, 1) := by decide +kernel
theorem dX2_put_21 : decode cX2_put 21 = .ok (.bastore, 1) := by decide +kernel
theorem dX2_put_22 : decode cX2_put 22 = .ok (.return_, 1) := by decide +kernel
theorem dX2_dotsOf_0 : decode cX2_dotsOf 0 = .ok (.aload_n 0, 1) := by decide +kernel
theorem dX2_dotsOf_1 : decode cX2_dotsOf 1 = .ok (.iload_n 1, 1) := by decide +kernel
theorem dX2_dotsOf_2 : decode cX2_dotsOf 2 = .ok (.invokevirtual 17, 3) := by decide +kernel
theorem dX2_dotsOf_5 : decode cX2_dotsOf 5 = .ok (.ifCond .eq 12, 3) := by decide +kernel
theorem dX2_dotsOf_8 : decode cX2_dotsOf 8 = .ok (.aload_n 0, 1) := by decide +kernel
theorem dX2_dotsOf_9 : decode cX2_dotsOf 9 = .ok (.getfield 9, 3) := by decide +kernel
theorem dX2_dotsOf_12 : decode cX2_dotsOf 12 = .ok (.iload_n 1, 1) := by decide +kernel
theorem dX2_dotsOf_13 : decode cX2_dotsOf 13 = .ok (.laload, 1) := by decide +kernel
theorem dX2_dotsOf_14 : decode cX2_dotsOf 14 = .ok (.goto 4, 3) := by decide +kernel
theorem dX2_dotsOf_17 : decode cX2_dotsOf 17 = .ok (.lconst 0, 1) := by decide +kernel
theorem dX2_dotsOf_18 : decode cX2_dotsOf 18 = .ok (.lreturn, 1) := by decide +kernel
theorem dX2_drop_0 : decode cX2_drop 0 = .ok (.iconst 0, 1) := by decide +kernel
theorem dX2_drop_1 : decode cX2_drop 1 = .ok (.istore_n 1, 1) := by decide +kernel
theorem dX2_drop_2 : decode cX2_drop 2 = .ok (.iload_n 1, 1) := by decide +kernel
theorem dX2_drop_3 : decode cX2_drop 3 = .ok (.iconst 2, 1) := by decide +kernel
theorem dX2_drop_4 : decode cX2_drop 4 = .ok (.if_icmp .ge 16, 3) := by decide +kernel
theorem dX2_drop_7 : decode cX2_drop 7 = .ok (.aload_n 0, 1) := by decide +kernel
theorem dX2_drop_8 : decode cX2_drop 8 = .ok (.getfield 13, 3) := by decide +kernel
theorem dX2_drop_11 : decode cX2_drop 11 = .ok (.iload_n 1, 1) := by decide +kernel
theorem dX2_drop_12 : decode cX2_drop 12 = .ok (.iconst 0, 1) := by decide +kernel
theorem dX2_drop_13 : decode cX2_drop 13 = .ok (.bastore, 1) := by decide +kernel
theorem dX2_drop_14 : decode cX2_drop 14 = .ok (.iinc 1 1, 3) := by decide +kernel
theorem dX2_drop_17 : decode cX2_drop 17 = .ok (.goto (-15), 3) := by decide +kernel
theorem dX2_drop_20 : decode cX2_drop 20 = .ok (.return_, 1) := by decide +kernel
theorem dX3_init_0 : decode cX3_init 0 = .ok (.aload_n 0, 1) := by decide +kernel
theorem dX3_init_1 : decode cX3_init 1 = .ok (.invokespecial 1, 3) := by decide +kernel
theorem dX3_init_4 : decode cX3_init 4 = .ok (.aload_n 0, 1) := by decide +kernel
theorem dX3_init_5 : decode cX3_init 5 = .ok (.bipush 10, 2) := by decide +kernel
theorem dX3_init_7 : decode cX3_init 7 = .ok (.newarray .long, 2) := by decide +kernel
theorem dX3_init_9 : decode cX3_init 9 = .ok (.putfield 9, 3) := by decide +kernel
theorem dX3_init_12 : decode cX3_init 12 = .ok (.return_, 1) := by decide +kernel
theorem dX3_remember_0 : decode cX3_remember 0 = .ok (.aload_n 0, 1) := by decide +kernel
theorem dX3_remember_1 : decode cX3_remember 1 = .ok (.getfield 13, 3) := by decide +kernel
theorem dX3_remember_4 : decode cX3_remember 4 = .ok (.bipush 10, 2) := by decide +kernel
theorem dX3_remember_6 : decode cX3_remember 6 = .ok (.if_icmp .lt 24, 3) := by decide +kernel
theorem dX3_remember_9 : decode cX3_remember 9 = .ok (.aload_n 0, 1) := by decide +kernel
theorem dX3_remember_10 : decode cX3_remember 10 = .ok (.getfield 9, 3) := by decide +kernel
theorem dX3_remember_13 : decode cX3_remember 13 = .ok (.iconst 1, 1) := by decide +kernel
theorem dX3_remember_14 : decode cX3_remember 14 = .ok (.aload_n 0, 1) := by decide +kernel
theorem dX3_remember_15 : decode cX3_remember 15 = .ok (.getfield 9, 3) := by decide +kernel
theorem dX3_remember_18 : decode cX3_remember 18 = .ok (.iconst 0, 1) := by decide +kernel
theorem dX3_remember_19 : decode cX3_remember 19 = .ok (.bipush 9, 2) := by decide +kernel
theorem dX3_remember_21 : decode cX3_remember 21 = .ok (.invokestatic 17, 3) := by decide +kernel
theorem dX3_remember_24 : decode cX3_remember 24 = .ok (.aload_n 0, 1) := by decide +kernel
theorem dX3_remember_25 : decode cX3_remember 25 = .ok (.bipush 9, 2) := by decide +kernel
theorem dX3_remember_27 : decode cX3_remember 27 = .ok (.putfield 13, 3) := by decide +kernel
theorem dX3_remember_30 : decode cX3_remember 30 = .ok (.aload_n 0, 1) := by decide +kernel
theorem dX3_remember_31 : decode cX3_remember 31 = .ok (.getfield 9, 3) := by decide +kernel
theorem dX3_remember_34 : decode cX3_remember 34 = .ok (.aload_n 0, 1) := by decide +kernel
theorem dX3_remember_35 : decode cX3_remember 35 = .ok (.getfield 13, 3) := by decide +kernel
theorem dX3_remember_38 : decode cX3_remember 38 = .ok (.lload_n 1, 1) := by decide +kernel
theorem dX3_remember_39 : decode cX3_remember 39 = .ok (.lastore, 1) := by decide +kernel
theorem dX3_remember_40 : decode cX3_remember 40 = .ok (.aload_n 0, 1) := by decide +kernel
theorem dX3_remember_41 : decode cX3_remember 41 = .ok (.dup, 1) := by decide +kernel
theorem dX3_remember_42 : decode cX3_remember 42 = .ok (.getfield 13, 3) := by decide +kernel
theorem dX3_remember_45 : decode cX3_remember 45 = .ok (.iconst 1, 1) := by decide +kernel
theorem dX3_remember_46 : decode cX3_remember 46 = .ok (.iadd, 1) := by decide +kernel
theorem dX3_remember_47 : decode cX3_remember 47 = .ok (.putfield 13, 3) := by decide +kernel
theorem dX3_remember_50 : decode cX3_remember 50 = .ok (.return_, 1) := by decide +kernel
theorem dX3_latest_0 : decode cX3_latest 0 = .ok (.aload_n 0, 1) := by decide +kernel
theorem dX3_latest_1 : decode cX3_latest 1 = .ok (.getfield 13, 3) := by decide +kernel
theorem dX3_latest_4 : decode cX3_latest 4 = .ok (.iconst 1, 1) := by decide +kernel
theorem dX3_latest_5 : decode cX3_latest 5 = .ok (.if_icmp .ge 5, 3) := by decide +kernel
theorem dX3_latest_8 : decode cX3_latest 8 = .ok (.lconst 0, 1) := by decide +kernel
theorem dX3_latest_9 : decode cX3_latest 9 = .ok (.lreturn, 1) := by decide +kernel
theorem dX3_latest_10 : decode cX3_latest 10 = .ok (.aload_n 0, 1) := by decide +kernel
theorem dX3_latest_11 : decode cX3_latest 11 = .ok (.dup, 1) := by decide +kernel
theorem dX3_latest_12 : decode cX3_latest 12 = .ok (.getfield 13, 3) := by decide +kernel
theorem dX3_latest_15 : decode cX3_latest 15 = .ok (.iconst 1, 1) := by decide +kernel
theorem dX3_latest_16 : decode cX3_latest 16 = .ok (.isub, 1) := by decide +kernel
theorem dX3_latest_17 : decode cX3_latest 17 = .ok (.putfield 13, 3) := by decide +kernel
theorem dX3_latest_20 : decode cX3_latest 20 = .ok (.aload_n 0, 1) := by decide +kernel
theorem dX3_latest_21 : decode cX3_latest 21 = .ok (.getfield 9, 3) := by decide +kernel
theorem dX3_latest_24 : decode cX3_latest 24 = .ok (.aload_n 0, 1) := by decide +kernel
theorem dX3_latest_25 : decode cX3_latest 25 = .ok (.getfield 13, 3) := by decide +kernel
theorem dX3_latest_28 : decode cX3_latest 28 = .ok (.laload, 1) := by decide +kernel
theorem dX3_latest_29 : decode cX3_latest 29 = .ok (.lreturn, 1) := by decide +kernel
theorem dX4_init_0 : decode cX4_init 0 = .ok (.aload_n 0, 1) := by decide +kernel
theorem dX4_init_1 : decode cX4_init 1 = .ok (.invokespecial 1, 3) := by decide +kernel
theorem dX4_init_4 : decode cX4_init 4 = .ok (.aload_n 0, 1) := by decide +kernel
theorem dX4_init_5 : decode cX4_init 5 = .ok (.aload_n 1, 1) := by decide +kernel
theorem dX4_init_6 : decode cX4_init 6 = .ok (.putfield 7, 3) := by decide +kernel
theorem dX4_init_9 : decode cX4_init 9 = .ok (.aload_n 0, 1) := by decide +kernel
theorem dX4_init_10 : decode cX4_init 10 = .ok (.aload_n 2, 1) := by decide +kernel
theorem dX4_init_11 : decode cX4_init 11 = .ok (.putfield 13, 3) := by decide +kernel
theorem dX4_init_14 : decode cX4_init 14 = .ok (.return_, 1) := by decide +kernel
theorem dX4_become_0 : decode cX4_become 0 = .ok (.aload_n 0, 1) := by decide +kernel
theorem dX4_become_1 : decode cX4_become 1 = .ok (.iload_n 1, 1) := by decide +kernel
theorem dX4_become_2 : decode cX4_become 2 = .ok (.putfield 17, 3) := by decide +kernel
theorem dX4_become_5 : decode cX4_become 5 = .ok (.aload_n 0, 1) := by decide +kernel
theorem dX4_become_6 : decode cX4_become 6 = .ok (.iload_n 2, 1) := by decide +kernel
theorem dX4_become_7 : decode cX4_become 7 = .ok (.putfield 21, 3) := by decide +kernel
theorem dX4_become_10 : decode cX4_become 10 = .ok (.aload_n 0, 1) := by decide +kernel
theorem dX4_become_11 : decode cX4_become 11 = .ok (.iload_n 3, 1) := by decide +kernel
theorem dX4_become_12 : decode cX4_become 12 = .ok (.putfield 24, 3) := by decide +kernel
theorem dX4_become_15 : decode cX4_become 15 = .ok (.return_, 1) := by decide +kernel
theorem dX4_levelOf_0 : decode cX4_levelOf 0 = .ok (.aload_n 0, 1) := by decide +kernel
theorem dX4_levelOf_1 : decode cX4_levelOf 1 = .ok (.getfield 17, 3) := by decide +kernel
theorem dX4_levelOf_4 : decode cX4_levelOf 4 = .ok (.aload_n 0, 1) := by decide +kernel
theorem dX4_levelOf_5 : decode cX4_levelOf 5 = .ok (.getfield 7, 3) := by decide +kernel
theorem dX4_levelOf_8 : decode cX4_levelOf 8 = .ok (.iload_n 1, 1) := by decide +kernel
theorem dX4_levelOf_9 : decode cX4_levelOf 9 = .ok (.invokevirtual 27, 3) := by decide +kernel
theorem dX4_levelOf_12 : decode cX4_levelOf 12 = .ok (.aload_n 0, 1) := by decide +kernel
theorem dX4_levelOf_13 : decode cX4_levelOf 13 = .ok (.getfield 21, 3) := by decide +kernel
theorem dX4_levelOf_16 : decode cX4_levelOf 16 = .ok (.imul, 1) := by decide +kernel
theorem dX4_levelOf_17 : decode cX4_levelOf 17 = .ok (.iadd, 1) := by decide +kernel
theorem dX4_levelOf_18 : decode cX4_levelOf 18 = .ok (.aload_n 0, 1) := by decide +kernel
theorem dX4_levelOf_19 : decode cX4_levelOf 19 = .ok (.getfield 7, 3) := by decide +kernel
theorem dX4_levelOf_22 : decode cX4_levelOf 22 = .ok (.iload_n 1, 1) := by decide +kernel
theorem dX4_levelOf_23 : decode cX4_levelOf 23 = .ok (.invokevirtual 33, 3) := by decide +kernel
theorem dX4_levelOf_26 : decode cX4_levelOf 26 = .ok (.aload_n 0, 1) := by decide +kernel
theorem dX4_levelOf_27 : decode cX4_levelOf 27 = .ok (.getfield 24, 3) := by decide +kernel
theorem dX4_levelOf_30 : decode cX4_levelOf 30 = .ok (.imul, 1) := by decide +kernel
theorem dX4_levelOf_31 : decode cX4_levelOf 31 = .ok (.iadd, 1) := by decide +kernel
theorem dX4_levelOf_32 : decode cX4_levelOf 32 = .ok (.istore_n 2, 1) := by decide +kernel
theorem dX4_levelOf_33 : decode cX4_levelOf 33 = .ok (.iconst 0, 1) := by decide +kernel
theorem dX4_levelOf_34 : decode cX4_levelOf 34 = .ok (.iload_n 2, 1) := by decide +kernel
theorem dX4_levelOf_35 : decode cX4_levelOf 35 = .ok (.aload_n 0, 1) := by decide +kernel
theorem dX4_levelOf_36 : decode cX4_levelOf 36 = .ok (.getfield 7, 3) := by decide +kernel
theorem dX4_levelOf_39 : decode cX4_levelOf 39 = .ok (.getfield 36, 3) := by decide +kernel
theorem dX4_levelOf_42 : decode cX4_levelOf 42 = .ok (.invokestatic 39, 3) := by decide +kernel
theorem dX4_levelOf_45 : decode cX4_levelOf 45 = .ok (.invokestatic 45, 3) := by decide +kernel
theorem dX4_levelOf_48 : decode cX4_levelOf 48 = .ok (.ireturn, 1) := by decide +kernel
theorem dX4_prints_0 : decode cX4_prints 0 = .ok (.aload_n 0, 1) := by decide +kernel
theorem dX4_prints_1 : decode cX4_prints 1 = .ok (.getfield 7, 3) := by decide +kernel
theorem dX4_prints_4 : decode cX4_prints 4 = .ok (.getfield 48, 3) := by decide +kernel
theorem dX4_prints_7 : decode cX4_prints 7 = .ok (.iload_n 1, 1) := by decide +kernel
theorem dX4_prints_8 : decode cX4_prints 8 = .ok (.invokestatic 52, 3) := by decide +kernel
theorem dX4_prints_11 : decode cX4_prints 11 = .ok (.ifCond .eq 23, 3) := by decide +kernel
theorem dX4_prints_14 : decode cX4_prints 14 = .ok (.aload_n 0, 1) := by decide +kernel
theorem dX4_prints_15 : decode cX4_prints 15 = .ok (.getfield 13, 3) := by decide +kernel
theorem dX4_prints_18 : decode cX4_prints 18 = .ok (.iload_n 1, 1) := by decide +kernel
theorem dX4_prints_19 : decode cX4_prints 19 = .ok (.invokevirtual 58, 3) := by decide +kernel
theorem dX4_prints_22 : decode cX4_prints 22 = .ok (.aload_n 0, 1) := by decide +kernel
theorem dX4_prints_23 : decode cX4_prints 23 = .ok (.iload_n 1, 1) := by decide +kernel
theorem dX4_prints_24 : decode cX4_prints 24 = .ok (.invokevirtual 63, 3) := by decide +kernel
theorem dX4_prints_27 : decode cX4_prints 27 = .ok (.if_icmp .ge 7, 3) := by decide +kernel
theorem dX4_prints_30 : decode cX4_prints 30 = .ok (.iconst 1, 1) := by decide +kernel
theorem dX4_prints_31 : decode cX4_prints 31 = .ok (.goto 4, 3) := by decide +kernel
theorem dX4_prints_34 : decode cX4_prints 34 = .ok (.iconst 0, 1) := by decide +kernel
theorem dX4_prints_35 : decode cX4_prints 35 = .ok (.ireturn, 1) := by decide +kernel
theorem dX4_printed_0 : decode cX4_printed 0 = .ok (.iconst 0, 1) := by decide +kernel
theorem dX4_printed_1 : decode cX4_printed 1 = .ok (.istore_n 1, 1) := by decide +kernel
theorem dX4_printed_2 : decode cX4_printed 2 = .ok (.iconst 0, 1) := by decide +kernel
theorem dX4_printed_3 : decode cX4_printed 3 = .ok (.istore_n 2, 1) := by decide +kernel
theorem dX4_printed_4 : decode cX4_printed 4 = .ok (.iload_n 2, 1) := by decide +kernel
theorem dX4_printed_5 : decode cX4_printed 5 = .ok (.aload_n 0, 1) := by decide +kernel
theorem dX4_printed_6 : decode cX4_printed 6 = .ok (.getfield 7, 3) := by decide +kernel
theorem dX4_printed_9 : decode cX4_printed 9 = .ok (.getfield 66, 3) := by decide +kernel
theorem dX4_printed_12 : decode cX4_printed 12 = .ok (.if_icmp .ge 20, 3) := by decide +kernel
theorem dX4_printed_15 : decode cX4_printed 15 = .ok (.aload_n 0, 1) := by decide +kernel
theorem dX4_printed_16 : decode cX4_printed 16 = .ok (.iload_n 2, 1) := by decide +kernel
theorem dX4_printed_17 : decode cX4_printed 17 = .ok (.invokevirtual 69, 3) := by decide +kernel
theorem dX4_printed_20 : decode cX4_printed 20 = .ok (.ifCond .eq 6, 3) := by decide +kernel
theorem dX4_printed_23 : decode cX4_printed 23 = .ok (.iinc 1 1, 3) := by decide +kernel
theorem dX4_printed_26 : decode cX4_printed 26 = .ok (.iinc 2 1, 3) := by decide +kernel
theorem dX4_printed_29 : decode cX4_printed 29 = .ok (.goto (-25), 3) := by decide +kernel
theorem dX4_printed_32 : decode cX4_printed 32 = .ok (.iload_n 1, 1) := by decide +kernel
theorem dX4_printed_33 : decode cX4_printed 33 = .ok (.ireturn, 1) := by decide +kernel
theorem dX4_farOff_0 : decode cX4_farOff 0 = .ok (.iconst 0, 1) := by decide +kernel
theorem dX4_farOff_1 : decode cX4_farOff 1 = .ok (.istore_n 1, 1) := by decide +kernel
theorem dX4_farOff_2 : decode cX4_farOff 2 = .ok (.iconst 0, 1) := by decide +kernel
theorem dX4_farOff_3 : decode cX4_farOff 3 = .ok (.istore_n 2, 1) := by decide +kernel
theorem dX4_farOff_4 : decode cX4_farOff 4 = .ok (.iload_n 2, 1) := by decide +kernel
theorem dX4_farOff_5 : decode cX4_farOff 5 = .ok (.aload_n 0, 1) := by decide +kernel
theorem dX4_farOff_6 : decode cX4_farOff 6 = .ok (.getfield 7, 3) := by decide +kernel
theorem dX4_farOff_9 : decode cX4_farOff 9 = .ok (.getfield 66, 3) := by decide +kernel
theorem dX4_farOff_12 : decode cX4_farOff 12 = .ok (.if_icmp .ge 31, 3) := by decide +kernel
theorem dX4_farOff_15 : decode cX4_farOff 15 = .ok (.aload_n 0, 1) := by decide +kernel
theorem dX4_farOff_16 : decode cX4_farOff 16 = .ok (.getfield 7, 3) := by decide +kernel
theorem dX4_farOff_19 : decode cX4_farOff 19 = .ok (.getfield 48, 3) := by decide +kernel
theorem dX4_farOff_22 : decode cX4_farOff 22 = .ok (.iload_n 2, 1) := by decide +kernel
theorem dX4_farOff_23 : decode cX4_farOff 23 = .ok (.invokestatic 52, 3) := by decide +kernel
theorem dX4_farOff_26 : decode cX4_farOff 26 = .ok (.ifCond .eq 11, 3) := by decide +kernel
theorem dX4_farOff_29 : decode cX4_farOff 29 = .ok (.iload_n 1, 1) := by decide +kernel
theorem dX4_farOff_30 : decode cX4_farOff 30 = .ok (.aload_n 0, 1) := by decide +kernel
theorem dX4_farOff_31 : decode cX4_farOff 31 = .ok (.iload_n 2, 1) := by decide +kernel
theorem dX4_farOff_32 : decode cX4_farOff 32 = .ok (.invokevirtual 63, 3) := by decide +kernel
theorem dX4_farOff_35 : decode cX4_farOff 35 = .ok (.iadd, 1) := by decide +kernel
theorem dX4_farOff_36 : decode cX4_farOff 36 = .ok (.istore_n 1, 1) := by decide +kernel
theorem dX4_farOff_37 : decode cX4_farOff 37 = .ok (.iinc 2 1, 3) := by decide +kernel
theorem dX4_farOff_40 : decode cX4_farOff 40 = .ok (.goto (-36), 3) := by decide +kernel
theorem dX4_farOff_43 : decode cX4_farOff 43 = .ok (.aload_n 0, 1) := by decide +kernel
theorem dX4_farOff_44 : decode cX4_farOff 44 = .ok (.getfield 7, 3) := by decide +kernel
theorem dX4_farOff_47 : decode cX4_farOff 47 = .ok (.getfield 36, 3) := by decide +kernel
theorem dX4_farOff_50 : decode cX4_farOff 50 = .ok (.aload_n 0, 1) := by decide +kernel
theorem dX4_farOff_51 : decode cX4_farOff 51 = .ok (.invokevirtual 73, 3) := by decide +kernel
theorem dX4_farOff_54 : decode cX4_farOff 54 = .ok (.imul, 1) := by decide +kernel
theorem dX4_farOff_55 : decode cX4_farOff 55 = .ok (.iload_n 1, 1) := by decide +kernel
theorem dX4_farOff_56 : decode cX4_farOff 56 = .ok (.isub, 1) := by decide +kernel
theorem dX4_farOff_57 : decode cX4_farOff 57 = .ok (.ireturn, 1) := by decide +kernel
theorem dX5_init_0 : decode cX5_init 0 = .ok (.aload_n 0, 1) := by decide +kernel
theorem dX5_init_1 : decode cX5_init 1 = .ok (.invokespecial 3, 3) := by decide +kernel
theorem dX5_init_4 : decode cX5_init 4 = .ok (.aload_n 0, 1) := by decide +kernel
theorem dX5_init_5 : decode cX5_init 5 = .ok (.invokevirtual 9, 3) := by decide +kernel
theorem dX5_init_8 : decode cX5_init 8 = .ok (.return_, 1) := by decide +kernel
theorem dX5_reset_0 : decode cX5_reset 0 = .ok (.aload_n 0, 1) := by decide +kernel
theorem dX5_reset_1 : decode cX5_reset 1 = .ok (.iconst 4, 1) := by decide +kernel
theorem dX5_reset_2 : decode cX5_reset 2 = .ok (.putfield 14, 3) := by decide +kernel
theorem dX5_reset_5 : decode cX5_reset 5 = .ok (.aload_n 0, 1) := by decide +kernel
theorem dX5_reset_6 : decode cX5_reset 6 = .ok (.iconst 4, 1) := by decide +kernel
theorem dX5_reset_7 : decode cX5_reset 7 = .ok (.putfield 18, 3) := by decide +kernel
theorem dX5_reset_10 : decode cX5_reset 10 = .ok (.aload_n 0, 1) := by decide +kernel
theorem dX5_reset_11 : decode cX5_reset 11 = .ok (.iconst 0, 1) := by decide +kernel
theorem dX5_reset_12 : decode cX5_reset 12 = .ok (.putfield 21, 3) := by decide +kernel
theorem dX5_reset_15 : decode cX5_reset 15 = .ok (.aload_n 0, 1) := by decide +kernel
theorem dX5_reset_16 : decode cX5_reset 16 = .ok (.bipush 100, 2) := by decide +kernel
theorem dX5_reset_18 : decode cX5_reset 18 = .ok (.putfield 24, 3) := by decide +kernel
theorem dX5_reset_21 : decode cX5_reset 21 = .ok (.aload_n 0, 1) := by decide +kernel
theorem dX5_reset_22 : decode cX5_reset 22 = .ok (.iconst 1, 1) := by decide +kernel
theorem dX5_reset_23 : decode cX5_reset 23 = .ok (.putfield 27, 3) := by decide +kernel
theorem dX5_reset_26 : decode cX5_reset 26 = .ok (.aload_n 0, 1) := by decide +kernel
theorem dX5_reset_27 : decode cX5_reset 27 = .ok (.iconst 1, 1) := by decide +kernel
theorem dX5_reset_28 : decode cX5_reset 28 = .ok (.putfield 30, 3) := by decide +kernel
theorem dX5_reset_31 : decode cX5_reset 31 = .ok (.aload_n 0, 1) := by decide +kernel
theorem dX5_reset_32 : decode cX5_reset 32 = .ok (.iconst 1, 1) := by decide +kernel
theorem dX5_reset_33 : decode cX5_reset 33 = .ok (.putfield 33, 3) := by decide +kernel
theorem dX5_reset_36 : decode cX5_reset 36 = .ok (.aload_n 0, 1) := by decide +kernel
theorem dX5_reset_37 : decode cX5_reset 37 = .ok (.lconst 0, 1) := by decide +kernel
theorem dX5_reset_38 : decode cX5_reset 38 = .ok (.putfield 36, 3) := by decide +kernel
theorem dX5_reset_41 : decode cX5_reset 41 = .ok (.aload_n 0, 1) := by decide +kernel
theorem dX5_reset_42 : decode cX5_reset 42 = .ok (.lconst 0, 1) := by decide +kernel
theorem dX5_reset_43 : decode cX5_reset 43 = .ok (.putfield 40, 3) := by decide +kernel
theorem dX5_reset_46 : decode cX5_reset 46 = .ok (.return_, 1) := by decide +kernel
theorem dX5_become_0 : decode cX5_become 0 = .ok (.aload_n 0, 1) := by decide +kernel
theorem dX5_become_1 : decode cX5_become 1 = .ok (.aload_n 1, 1) := by decide +kernel
theorem dX5_become_2 : decode cX5_become 2 = .ok (.getfield 14, 3) := by decide +kernel
theorem dX5_become_5 : decode cX5_become 5 = .ok (.putfield 14, 3) := by decide +kernel
theorem dX5_become_8 : decode cX5_become 8 = .ok (.aload_n 0, 1) := by decide +kernel
theorem dX5_become_9 : decode cX5_become 9 = .ok (.aload_n 1, 1) := by decide +kernel
theorem dX5_become_10 : decode cX5_become 10 = .ok (.getfield 18, 3) := by decide +kernel
theorem dX5_become_13 : decode cX5_become 13 = .ok (.putfield 18, 3) := by decide +kernel
theorem dX5_become_16 : decode cX5_become 16 = .ok (.aload_n 0, 1) := by decide +kernel
theorem dX5_become_17 : decode cX5_become 17 = .ok (.aload_n 1, 1) := by decide +kernel
theorem dX5_become_18 : decode cX5_become 18 = .ok (.getfield 21, 3) := by decide +kernel
theorem dX5_become_21 : decode cX5_become 21 = .ok (.putfield 21, 3) := by decide +kernel
theorem dX5_become_24 : decode cX5_become 24 = .ok (.aload_n 0, 1) := by decide +kernel
theorem dX5_become_25 : decode cX5_become 25 = .ok (.aload_n 1, 1) := by decide +kernel
theorem dX5_become_26 : decode cX5_become 26 = .ok (.getfield 24, 3) := by decide +kernel
theorem dX5_become_29 : decode cX5_become 29 = .ok (.putfield 24, 3) := by decide +kernel
theorem dX5_become_32 : decode cX5_become 32 = .ok (.aload_n 0, 1) := by decide +kernel
theorem dX5_become_33 : decode cX5_become 33 = .ok (.aload_n 1, 1) := by decide +kernel
theorem dX5_become_34 : decode cX5_become 34 = .ok (.getfield 27, 3) := by decide +kernel
theorem dX5_become_37 : decode cX5_become 37 = .ok (.putfield 27, 3) := by decide +kernel
theorem dX5_become_40 : decode cX5_become 40 = .ok (.aload_n 0, 1) := by decide +kernel
theorem dX5_become_41 : decode cX5_become 41 = .ok (.aload_n 1, 1) := by decide +kernel
theorem dX5_become_42 : decode cX5_become 42 = .ok (.getfield 30, 3) := by decide +kernel
theorem dX5_become_45 : decode cX5_become 45 = .ok (.putfield 30, 3) := by decide +kernel
theorem dX5_become_48 : decode cX5_become 48 = .ok (.aload_n 0, 1) := by decide +kernel
theorem dX5_become_49 : decode cX5_become 49 = .ok (.aload_n 1, 1) := by decide +kernel
theorem dX5_become_50 : decode cX5_become 50 = .ok (.getfield 33, 3) := by decide +kernel
theorem dX5_become_53 : decode cX5_become 53 = .ok (.putfield 33, 3) := by decide +kernel
theorem dX5_become_56 : decode cX5_become 56 = .ok (.aload_n 0, 1) := by decide +kernel
theorem dX5_become_57 : decode cX5_become 57 = .ok (.aload_n 1, 1) := by decide +kernel
theorem dX5_become_58 : decode cX5_become 58 = .ok (.getfield 36, 3) := by decide +kernel
theorem dX5_become_61 : decode cX5_become 61 = .ok (.putfield 36, 3) := by decide +kernel
theorem dX5_become_64 : decode cX5_become 64 = .ok (.aload_n 0, 1) := by decide +kernel
theorem dX5_become_65 : decode cX5_become 65 = .ok (.aload_n 1, 1) := by decide +kernel
theorem dX5_become_66 : decode cX5_become 66 = .ok (.getfield 40, 3) := by decide +kernel
theorem dX5_become_69 : decode cX5_become 69 = .ok (.putfield 40, 3) := by decide +kernel
theorem dX5_become_72 : decode cX5_become 72 = .ok (.return_, 1) := by decide +kernel
theorem dX5_numberOf_0 : decode cX5_numberOf 0 = .ok (.iload_n 1, 1) := by decide +kernel
theorem dX5_numberOf_1 : decode cX5_numberOf 1 = .ok (.ifCond .lt 23, 3) := by decide +kernel
theorem dX5_numberOf_4 : decode cX5_numberOf 4 = .ok (.iload_n 1, 1) := by decide +kernel
theorem dX5_numberOf_5 : decode cX5_numberOf 5 = .ok (.aload_n 0, 1) := by decide +kernel
theorem dX5_numberOf_6 : decode cX5_numberOf 6 = .ok (.getfield 14, 3) := by decide +kernel
theorem dX5_numberOf_9 : decode cX5_numberOf 9 = .ok (.if_icmp .ge 15, 3) := by decide +kernel
theorem dX5_numberOf_12 : decode cX5_numberOf 12 = .ok (.iload_n 2, 1) := by decide +kernel
theorem dX5_numberOf_13 : decode cX5_numberOf 13 = .ok (.ifCond .lt 11, 3) := by decide +kernel
theorem dX5_numberOf_16 : decode cX5_numberOf 16 = .ok (.iload_n 2, 1) := by decide +kernel
theorem dX5_numberOf_17 : decode cX5_numberOf 17 = .ok (.aload_n 0, 1) := by decide +kernel
theorem dX5_numberOf_18 : decode cX5_numberOf 18 = .ok (.getfield 18, 3) := by decide +kernel
theorem dX5_numberOf_21 : decode cX5_numberOf 21 = .ok (.if_icmp .lt 5, 3) := by decide +kernel
theorem dX5_numberOf_24 : decode cX5_numberOf 24 = .ok (.iconst (-1), 1) := by decide +kernel
theorem dX5_numberOf_25 : decode cX5_numberOf 25 = .ok (.ireturn, 1) := by decide +kernel
theorem dX5_numberOf_26 : decode cX5_numberOf 26 = .ok (.iload_n 2, 1) := by decide +kernel
theorem dX5_numberOf_27 : decode cX5_numberOf 27 = .ok (.aload_n 0, 1) := by decide +kernel
theorem dX5_numberOf_28 : decode cX5_numberOf 28 = .ok (.getfield 14, 3) := by decide +kernel
theorem dX5_numberOf_31 : decode cX5_numberOf 31 = .ok (.imul, 1) := by decide +kernel
theorem dX5_numberOf_32 : decode cX5_numberOf 32 = .ok (.iload_n 1, 1) := by decide +kernel
theorem dX5_numberOf_33 : decode cX5_numberOf 33 = .ok (.iadd, 1) := by decide +kernel
theorem dX5_numberOf_34 : decode cX5_numberOf 34 = .ok (.ireturn, 1) := by decide +kernel
theorem dX5_distanceOf_0 : decode cX5_distanceOf 0 = .ok (.iload_n 1, 1) := by decide +kernel
theorem dX5_distanceOf_1 : decode cX5_distanceOf 1 = .ok (.aload_n 0, 1) := by decide +kernel
theorem dX5_distanceOf_2 : decode cX5_distanceOf 2 = .ok (.getfield 14, 3) := by decide +kernel
theorem dX5_distanceOf_5 : decode cX5_distanceOf 5 = .ok (.iload_n 1, 1) := by decide +kernel
theorem dX5_distanceOf_6 : decode cX5_distanceOf 6 = .ok (.isub, 1) := by decide +kernel
theorem dX5_distanceOf_7 : decode cX5_distanceOf 7 = .ok (.invokestatic 43, 3) := by decide +kernel
theorem dX5_distanceOf_10 : decode cX5_distanceOf 10 = .ok (.istore_n 3, 1) := by decide +kernel
theorem dX5_distanceOf_11 : decode cX5_distanceOf 11 = .ok (.iload_n 2, 1) := by decide +kernel
theorem dX5_distanceOf_12 : decode cX5_distanceOf 12 = .ok (.aload_n 0, 1) := by decide +kernel
theorem dX5_distanceOf_13 : decode cX5_distanceOf 13 = .ok (.getfield 18, 3) := by decide +kernel
theorem dX5_distanceOf_16 : decode cX5_distanceOf 16 = .ok (.iload_n 2, 1) := by decide +kernel
theorem dX5_distanceOf_17 : decode cX5_distanceOf 17 = .ok (.isub, 1) := by decide +kernel
theorem dX5_distanceOf_18 : decode cX5_distanceOf 18 = .ok (.invokestatic 43, 3) := by decide +kernel
theorem dX5_distanceOf_21 : decode cX5_distanceOf 21 = .ok (.istore 4, 2) := by decide +kernel
theorem dX5_distanceOf_23 : decode cX5_distanceOf 23 = .ok (.aload_n 0, 1) := by decide +kernel
theorem dX5_distanceOf_24 : decode cX5_distanceOf 24 = .ok (.getfield 30, 3) := by decide +kernel
theorem dX5_distanceOf_27 : decode cX5_distanceOf 27 = .ok (.iload_n 3, 1) := by decide +kernel
theorem dX5_distanceOf_28 : decode cX5_distanceOf 28 = .ok (.imul, 1) := by decide +kernel
theorem dX5_distanceOf_29 : decode cX5_distanceOf 29 = .ok (.iload_n 3, 1) := by decide +kernel
theorem dX5_distanceOf_30 : decode cX5_distanceOf 30 = .ok (.imul, 1) := by decide +kernel
theorem dX5_distanceOf_31 : decode cX5_distanceOf 31 = .ok (.aload_n 0, 1) := by decide +kernel
theorem dX5_distanceOf_32 : decode cX5_distanceOf 32 = .ok (.getfield 33, 3) := by decide +kernel
theorem dX5_distanceOf_35 : decode cX5_distanceOf 35 = .ok (.iload 4, 2) := by decide +kernel
theorem dX5_distanceOf_37 : decode cX5_distanceOf 37 = .ok (.imul, 1) := by decide +kernel
theorem dX5_distanceOf_38 : decode cX5_distanceOf 38 = .ok (.iload 4, 2) := by decide +kernel
theorem dX5_distanceOf_40 : decode cX5_distanceOf 40 = .ok (.imul, 1) := by decide +kernel
theorem dX5_distanceOf_41 : decode cX5_distanceOf 41 = .ok (.iadd, 1) := by decide +kernel
theorem dX5_distanceOf_42 : decode cX5_distanceOf 42 = .ok (.ireturn, 1) := by decide +kernel
theorem dX5_weightOf_0 : decode cX5_weightOf 0 = .ok (.iconst 1, 1) := by decide +kernel
theorem dX5_weightOf_1 : decode cX5_weightOf 1 = .ok (.iload_n 1, 1) := by decide +kernel
theorem dX5_weightOf_2 : decode cX5_weightOf 2 = .ok (.iadd, 1) := by decide +kernel
theorem dX5_weightOf_3 : decode cX5_weightOf 3 = .ok (.istore_n 2, 1) := by decide +kernel
theorem dX5_weightOf_4 : decode cX5_weightOf 4 = .ok (.iload_n 2, 1) := by decide +kernel
theorem dX5_weightOf_5 : decode cX5_weightOf 5 = .ok (.iconst 1, 1) := by decide +kernel
theorem dX5_weightOf_6 : decode cX5_weightOf 6 = .ok (.if_icmp .ge 5, 3) := by decide +kernel
theorem dX5_weightOf_9 : decode cX5_weightOf 9 = .ok (.iconst 0, 1) := by decide +kernel
theorem dX5_weightOf_10 : decode cX5_weightOf 10 = .ok (.ireturn, 1) := by decide +kernel
theorem dX5_weightOf_11 : decode cX5_weightOf 11 = .ok (.aload_n 0, 1) := by decide +kernel
theorem dX5_weightOf_12 : decode cX5_weightOf 12 = .ok (.getfield 21, 3) := by decide +kernel
theorem dX5_weightOf_15 : decode cX5_weightOf 15 = .ok (.lookupswitch 48 #[(0, 25), (1, 32)], 25) := by decide +kernel
theorem dX5_weightOf_40 : decode cX5_weightOf 40 = .ok (.aload_n 0, 1) := by decide +kernel
theorem dX5_weightOf_41 : decode cX5_weightOf 41 = .ok (.getfield 24, 3) := by decide +kernel
theorem dX5_weightOf_44 : decode cX5_weightOf 44 = .ok (.iload_n 2, 1) := by decide +kernel
theorem dX5_weightOf_45 : decode cX5_weightOf 45 = .ok (.idiv, 1) := by decide +kernel
theorem dX5_weightOf_46 : decode cX5_weightOf 46 = .ok (.ireturn, 1) := by decide +kernel
theorem dX5_weightOf_47 : decode cX5_weightOf 47 = .ok (.iconst 0, 1) := by decide +kernel
theorem dX5_weightOf_48 : decode cX5_weightOf 48 = .ok (.aload_n 0, 1) := by decide +kernel
theorem dX5_weightOf_49 : decode cX5_weightOf 49 = .ok (.getfield 24, 3) := by decide +kernel
theorem dX5_weightOf_52 : decode cX5_weightOf 52 = .ok (.aload_n 0, 1) := by decide +kernel
theorem dX5_weightOf_53 : decode cX5_weightOf 53 = .ok (.getfield 27, 3) := by decide +kernel
theorem dX5_weightOf_56 : decode cX5_weightOf 56 = .ok (.iload_n 1, 1) := by decide +kernel
theorem dX5_weightOf_57 : decode cX5_weightOf 57 = .ok (.imul, 1) := by decide +kernel
theorem dX5_weightOf_58 : decode cX5_weightOf 58 = .ok (.isub, 1) := by decide +kernel
theorem dX5_weightOf_59 : decode cX5_weightOf 59 = .ok (.invokestatic 49, 3) := by decide +kernel
theorem dX5_weightOf_62 : decode cX5_weightOf 62 = .ok (.ireturn, 1) := by decide +kernel
theorem dX5_weightOf_63 : decode cX5_weightOf 63 = .ok (.aload_n 0, 1) := by decide +kernel
theorem dX5_weightOf_64 : decode cX5_weightOf 64 = .ok (.getfield 24, 3) := by decide +kernel
theorem dX5_weightOf_67 : decode cX5_weightOf 67 = .ok (.iload_n 1, 1) := by decide +kernel
theorem dX5_weightOf_68 : decode cX5_weightOf 68 = .ok (.bipush 31, 2) := by decide +kernel
theorem dX5_weightOf_70 : decode cX5_weightOf 70 = .ok (.invokestatic 43, 3) := by decide +kernel
theorem dX5_weightOf_73 : decode cX5_weightOf 73 = .ok (.ishr, 1) := by decide +kernel
theorem dX5_weightOf_74 : decode cX5_weightOf 74 = .ok (.ireturn, 1) := by decide +kernel
theorem dX6_init_0 : decode cX6_init 0 = .ok (.aload_n 0, 1) := by decide +kernel
theorem dX6_init_1 : decode cX6_init 1 = .ok (.invokespecial 3, 3) := by decide +kernel
theorem dX6_init_4 : decode cX6_init 4 = .ok (.aload_n 0, 1) := by decide +kernel
theorem dX6_init_5 : decode cX6_init 5 = .ok (.bipush 64, 2) := by decide +kernel
theorem dX6_init_7 : decode cX6_init 7 = .ok (.newarray .int, 2) := by decide +kernel
theorem dX6_init_9 : decode cX6_init 9 = .ok (.putfield 9, 3) := by decide +kernel
theorem dX6_init_12 : decode cX6_init 12 = .ok (.aload_n 0, 1) := by decide +kernel
theorem dX6_init_13 : decode cX6_init 13 = .ok (.bipush 64, 2) := by decide +kernel
theorem dX6_init_15 : decode cX6_init 15 = .ok (.newarray .int, 2) := by decide +kernel
theorem dX6_init_17 : decode cX6_init 17 = .ok (.putfield 15, 3) := by decide +kernel
theorem dX6_init_20 : decode cX6_init 20 = .ok (.aload_n 0, 1) := by decide +kernel
theorem dX6_init_21 : decode cX6_init 21 = .ok (.aload_n 1, 1) := by decide +kernel
theorem dX6_init_22 : decode cX6_init 22 = .ok (.putfield 18, 3) := by decide +kernel
theorem dX6_init_25 : decode cX6_init 25 = .ok (.aload_n 0, 1) := by decide +kernel
theorem dX6_init_26 : decode cX6_init 26 = .ok (.new 22, 3) := by decide +kernel
theorem dX6_init_29 : decode cX6_init 29 = .ok (.dup, 1) := by decide +kernel
theorem dX6_init_30 : decode cX6_init 30 = .ok (.aload_n 1, 1) := by decide +kernel
theorem dX6_init_31 : decode cX6_init 31 = .ok (.invokespecial 24, 3) := by decide +kernel
theorem dX6_init_34 : decode cX6_init 34 = .ok (.putfield 27, 3) := by decide +kernel
theorem dX6_init_37 : decode cX6_init 37 = .ok (.return_, 1) := by decide +kernel
theorem dX6_drop_0 : decode cX6_drop 0 = .ok (.aload_n 0, 1) := by decide +kernel
theorem dX6_drop_1 : decode cX6_drop 1 = .ok (.lconst 0, 1) := by decide +kernel
theorem dX6_drop_2 : decode cX6_drop 2 = .ok (.putfield 31, 3) := by decide +kernel
theorem dX6_drop_5 : decode cX6_drop 5 = .ok (.return_, 1) := by decide +kernel
theorem dX6_standFor_0 : decode cX6_standFor 0 = .ok (.aload_n 0, 1) := by decide +kernel
theorem dX6_standFor_1 : decode cX6_standFor 1 = .ok (.getfield 31, 3) := by decide +kernel
theorem dX6_standFor_4 : decode cX6_standFor 4 = .ok (.lload_n 1, 1) := by decide +kernel
theorem dX6_standFor_5 : decode cX6_standFor 5 = .ok (.lcmp, 1) := by decide +kernel
theorem dX6_standFor_6 : decode cX6_standFor 6 = .ok (.ifCond .ne 4, 3) := by decide +kernel
theorem dX6_standFor_9 : decode cX6_standFor 9 = .ok (.return_, 1) := by decide +kernel
theorem dX6_standFor_10 : decode cX6_standFor 10 = .ok (.aload_n 0, 1) := by decide +kernel
theorem dX6_standFor_11 : decode cX6_standFor 11 = .ok (.lload_n 1, 1) := by decide +kernel
theorem dX6_standFor_12 : decode cX6_standFor 12 = .ok (.putfield 31, 3) := by decide +kernel
theorem dX6_standFor_15 : decode cX6_standFor 15 = .ok (.aload_n 0, 1) := by decide +kernel
theorem dX6_standFor_16 : decode cX6_standFor 16 = .ok (.getfield 27, 3) := by decide +kernel
theorem dX6_standFor_19 : decode cX6_standFor 19 = .ok (.lload_n 1, 1) := by decide +kernel
theorem dX6_standFor_20 : decode cX6_standFor 20 = .ok (.invokevirtual 35, 3) := by decide +kernel
theorem dX6_standFor_23 : decode cX6_standFor 23 = .ok (.aload_n 0, 1) := by decide +kernel
theorem dX6_standFor_24 : decode cX6_standFor 24 = .ok (.invokevirtual 39, 3) := by decide +kernel
theorem dX6_standFor_27 : decode cX6_standFor 27 = .ok (.aload_n 0, 1) := by decide +kernel
theorem dX6_standFor_28 : decode cX6_standFor 28 = .ok (.getfield 27, 3) := by decide +kernel
theorem dX6_standFor_31 : decode cX6_standFor 31 = .ok (.lload_n 1, 1) := by decide +kernel
theorem dX6_standFor_32 : decode cX6_standFor 32 = .ok (.invokevirtual 35, 3) := by decide +kernel
theorem dX6_standFor_35 : decode cX6_standFor 35 = .ok (.aload_n 0, 1) := by decide +kernel
theorem dX6_standFor_36 : decode cX6_standFor 36 = .ok (.invokevirtual 42, 3) := by decide +kernel
theorem dX6_standFor_39 : decode cX6_standFor 39 = .ok (.aload_n 0, 1) := by decide +kernel
theorem dX6_standFor_40 : decode cX6_standFor 40 = .ok (.getfield 27, 3) := by decide +kernel
theorem dX6_standFor_43 : decode cX6_standFor 43 = .ok (.aload_n 0, 1) := by decide +kernel
theorem dX6_standFor_44 : decode cX6_standFor 44 = .ok (.getfield 18, 3) := by decide +kernel
theorem dX6_standFor_47 : decode cX6_standFor 47 = .ok (.getfield 45, 3) := by decide +kernel
theorem dX6_standFor_50 : decode cX6_standFor 50 = .ok (.aload_n 0, 1) := by decide +kernel
theorem dX6_standFor_51 : decode cX6_standFor 51 = .ok (.getfield 27, 3) := by decide +kernel
theorem dX6_standFor_54 : decode cX6_standFor 54 = .ok (.getfield 50, 3) := by decide +kernel
theorem dX6_standFor_57 : decode cX6_standFor 57 = .ok (.ldc2_w 53, 3) := by decide +kernel
theorem dX6_standFor_60 : decode cX6_standFor 60 = .ok (.lxor, 1) := by decide +kernel
theorem dX6_standFor_61 : decode cX6_standFor 61 = .ok (.land, 1) := by decide +kernel
theorem dX6_standFor_62 : decode cX6_standFor 62 = .ok (.invokevirtual 35, 3) := by decide +kernel
theorem dX6_standFor_65 : decode cX6_standFor 65 = .ok (.aload_n 0, 1) := by decide +kernel
theorem dX6_standFor_66 : decode cX6_standFor 66 = .ok (.invokevirtual 55, 3) := by decide +kernel
theorem dX6_standFor_69 : decode cX6_standFor 69 = .ok (.return_, 1) := by decide +kernel
theorem dX6_thin_0 : decode cX6_thin 0 = .ok (.aload_n 0, 1) := by decide +kernel
theorem dX6_thin_1 : decode cX6_thin 1 = .ok (.aload_n 0, 1) := by decide +kernel
theorem dX6_thin_2 : decode cX6_thin 2 = .ok (.getfield 27, 3) := by decide +kernel
theorem dX6_thin_5 : decode cX6_thin 5 = .ok (.invokevirtual 58, 3) := by decide +kernel
theorem dX6_thin_8 : decode cX6_thin 8 = .ok (.putfield 62, 3) := by decide +kernel
theorem dX6_thin_11 : decode cX6_thin 11 = .ok (.aload_n 0, 1) := by decide +kernel
theorem dX6_thin_12 : decode cX6_thin 12 = .ok (.getfield 62, 3) := by decide +kernel
theorem dX6_thin_15 : decode cX6_thin 15 = .ok (.iconst 1, 1) := by decide +kernel
theorem dX6_thin_16 : decode cX6_thin 16 = .ok (.isub, 1) := by decide +kernel
theorem dX6_thin_17 : decode cX6_thin 17 = .ok (.istore_n 1, 1) := by decide +kernel
theorem dX6_thin_18 : decode cX6_thin 18 = .ok (.iload_n 1, 1) := by decide +kernel
theorem dX6_thin_19 : decode cX6_thin 19 = .ok (.ifCond .lt 28, 3) := by decide +kernel
theorem dX6_thin_22 : decode cX6_thin 22 = .ok (.aload_n 0, 1) := by decide +kernel
theorem dX6_thin_23 : decode cX6_thin 23 = .ok (.aload_n 0, 1) := by decide +kernel
theorem dX6_thin_24 : decode cX6_thin 24 = .ok (.getfield 27, 3) := by decide +kernel
theorem dX6_thin_27 : decode cX6_thin 27 = .ok (.aload_n 0, 1) := by decide +kernel
theorem dX6_thin_28 : decode cX6_thin 28 = .ok (.getfield 27, 3) := by decide +kernel
theorem dX6_thin_31 : decode cX6_thin 31 = .ok (.getfield 50, 3) := by decide +kernel
theorem dX6_thin_34 : decode cX6_thin 34 = .ok (.invokevirtual 66, 3) := by decide +kernel
theorem dX6_thin_37 : decode cX6_thin 37 = .ok (.iload_n 1, 1) := by decide +kernel
theorem dX6_thin_38 : decode cX6_thin 38 = .ok (.invokevirtual 70, 3) := by decide +kernel
theorem dX6_thin_41 : decode cX6_thin 41 = .ok (.iinc 1 (-1), 3) := by decide +kernel
theorem dX6_thin_44 : decode cX6_thin 44 = .ok (.goto (-26), 3) := by decide +kernel
theorem dX6_thin_47 : decode cX6_thin 47 = .ok (.return_, 1) := by decide +kernel
theorem dX6_fill_0 : decode cX6_fill 0 = .ok (.aload_n 0, 1) := by decide +kernel
theorem dX6_fill_1 : decode cX6_fill 1 = .ok (.aload_n 0, 1) := by decide +kernel
theorem dX6_fill_2 : decode cX6_fill 2 = .ok (.getfield 62, 3) := by decide +kernel
theorem dX6_fill_5 : decode cX6_fill 5 = .ok (.aload_n 0, 1) := by decide +kernel
theorem dX6_fill_6 : decode cX6_fill 6 = .ok (.getfield 18, 3) := by decide +kernel
theorem dX6_fill_9 : decode cX6_fill 9 = .ok (.getfield 74, 3) := by decide +kernel
theorem dX6_fill_12 : decode cX6_fill 12 = .ok (.iconst 1, 1) := by decide +kernel
theorem dX6_fill_13 : decode cX6_fill 13 = .ok (.iadd, 1) := by decide +kernel
theorem dX6_fill_14 : decode cX6_fill 14 = .ok (.iconst 2, 1) := by decide +kernel
theorem dX6_fill_15 : decode cX6_fill 15 = .ok (.idiv, 1) := by decide +kernel
theorem dX6_fill_16 : decode cX6_fill 16 = .ok (.invokestatic 77, 3) := by decide +kernel
theorem dX6_fill_19 : decode cX6_fill 19 = .ok (.putfield 83, 3) := by decide +kernel
theorem dX6_fill_22 : decode cX6_fill 22 = .ok (.aload_n 0, 1) := by decide +kernel
theorem dX6_fill_23 : decode cX6_fill 23 = .ok (.getfield 62, 3) := by decide +kernel
theorem dX6_fill_26 : decode cX6_fill 26 = .ok (.istore_n 1, 1) := by decide +kernel
theorem dX6_fill_27 : decode cX6_fill 27 = .ok (.iload_n 1, 1) := by decide +kernel
theorem dX6_fill_28 : decode cX6_fill 28 = .ok (.aload_n 0, 1) := by decide +kernel
theorem dX6_fill_29 : decode cX6_fill 29 = .ok (.getfield 83, 3) := by decide +kernel
theorem dX6_fill_32 : decode cX6_fill 32 = .ok (.if_icmp .ge 40, 3) := by decide +kernel
theorem dX6_fill_35 : decode cX6_fill 35 = .ok (.aload_n 0, 1) := by decide +kernel
theorem dX6_fill_36 : decode cX6_fill 36 = .ok (.aload_n 0, 1) := by decide +kernel
theorem dX6_fill_37 : decode cX6_fill 37 = .ok (.getfield 27, 3) := by decide +kernel
theorem dX6_fill_40 : decode cX6_fill 40 = .ok (.aload_n 0, 1) := by decide +kernel
theorem dX6_fill_41 : decode cX6_fill 41 = .ok (.getfield 18, 3) := by decide +kernel
theorem dX6_fill_44 : decode cX6_fill 44 = .ok (.getfield 45, 3) := by decide +kernel
theorem dX6_fill_47 : decode cX6_fill 47 = .ok (.aload_n 0, 1) := by decide +kernel
theorem dX6_fill_48 : decode cX6_fill 48 = .ok (.getfield 27, 3) := by decide +kernel
theorem dX6_fill_51 : decode cX6_fill 51 = .ok (.getfield 50, 3) := by decide +kernel
theorem dX6_fill_54 : decode cX6_fill 54 = .ok (.ldc2_w 53, 3) := by decide +kernel
theorem dX6_fill_57 : decode cX6_fill 57 = .ok (.lxor, 1) := by decide +kernel
theorem dX6_fill_58 : decode cX6_fill 58 = .ok (.land, 1) := by decide +kernel
theorem dX6_fill_59 : decode cX6_fill 59 = .ok (.invokevirtual 86, 3) := by decide +kernel
theorem dX6_fill_62 : decode cX6_fill 62 = .ok (.iload_n 1, 1) := by decide +kernel
theorem dX6_fill_63 : decode cX6_fill 63 = .ok (.invokevirtual 70, 3) := by decide +kernel
theorem dX6_fill_66 : decode cX6_fill 66 = .ok (.iinc 1 1, 3) := by decide +kernel
theorem dX6_fill_69 : decode cX6_fill 69 = .ok (.goto (-42), 3) := by decide +kernel
theorem dX6_fill_72 : decode cX6_fill 72 = .ok (.return_, 1) := by decide +kernel
theorem dX6_turn_0 : decode cX6_turn 0 = .ok (.aload_n 0, 1) := by decide +kernel
theorem dX6_turn_1 : decode cX6_turn 1 = .ok (.getfield 83, 3) := by decide +kernel
theorem dX6_turn_4 : decode cX6_turn 4 = .ok (.istore_n 1, 1) := by decide +kernel
theorem dX6_turn_5 : decode cX6_turn 5 = .ok (.iload_n 1, 1) := by decide +kernel
theorem dX6_turn_6 : decode cX6_turn 6 = .ok (.aload_n 0, 1) := by decide +kernel
theorem dX6_turn_7 : decode cX6_turn 7 = .ok (.getfield 18, 3) := by decide +kernel
theorem dX6_turn_10 : decode cX6_turn 10 = .ok (.getfield 74, 3) := by decide +kernel
theorem dX6_turn_13 : decode cX6_turn 13 = .ok (.if_icmp .ge 28, 3) := by decide +kernel
theorem dX6_turn_16 : decode cX6_turn 16 = .ok (.aload_n 0, 1) := by decide +kernel
theorem dX6_turn_17 : decode cX6_turn 17 = .ok (.aload_n 0, 1) := by decide +kernel
theorem dX6_turn_18 : decode cX6_turn 18 = .ok (.getfield 27, 3) := by decide +kernel
theorem dX6_turn_21 : decode cX6_turn 21 = .ok (.aload_n 0, 1) := by decide +kernel
theorem dX6_turn_22 : decode cX6_turn 22 = .ok (.getfield 27, 3) := by decide +kernel
theorem dX6_turn_25 : decode cX6_turn 25 = .ok (.getfield 50, 3) := by decide +kernel
theorem dX6_turn_28 : decode cX6_turn 28 = .ok (.invokevirtual 66, 3) := by decide +kernel
theorem dX6_turn_31 : decode cX6_turn 31 = .ok (.iload_n 1, 1) := by decide +kernel
theorem dX6_turn_32 : decode cX6_turn 32 = .ok (.invokevirtual 70, 3) := by decide +kernel
theorem dX6_turn_35 : decode cX6_turn 35 = .ok (.iinc 1 1, 3) := by decide +kernel
theorem dX6_turn_38 : decode cX6_turn 38 = .ok (.goto (-33), 3) := by decide +kernel
theorem dX6_turn_41 : decode cX6_turn 41 = .ok (.return_, 1) := by decide +kernel
theorem dX6_give_0 : decode cX6_give 0 = .ok (.aload_n 0, 1) := by decide +kernel
theorem dX6_give_1 : decode cX6_give 1 = .ok (.getfield 18, 3) := by decide +kernel
theorem dX6_give_4 : decode cX6_give 4 = .ok (.iload_n 1, 1) := by decide +kernel
theorem dX6_give_5 : decode cX6_give 5 = .ok (.invokevirtual 89, 3) := by decide +kernel
theorem dX6_give_8 : decode cX6_give 8 = .ok (.ifCond .eq 16, 3) := by decide +kernel
theorem dX6_give_11 : decode cX6_give 11 = .ok (.iload_n 2, 1) := by decide +kernel
theorem dX6_give_12 : decode cX6_give 12 = .ok (.ifCond .lt 12, 3) := by decide +kernel
theorem dX6_give_15 : decode cX6_give 15 = .ok (.iload_n 2, 1) := by decide +kernel
theorem dX6_give_16 : decode cX6_give 16 = .ok (.aload_n 0, 1) := by decide +kernel
theorem dX6_give_17 : decode cX6_give 17 = .ok (.getfield 9, 3) := by decide +kernel
theorem dX6_give_20 : decode cX6_give 20 = .ok (.arraylength, 1) := by decide +kernel
theorem dX6_give_21 : decode cX6_give 21 = .ok (.if_icmp .lt 4, 3) := by decide +kernel
theorem dX6_give_24 : decode cX6_give 24 = .ok (.return_, 1) := by decide +kernel
theorem dX6_give_25 : decode cX6_give 25 = .ok (.aload_n 0, 1) := by decide +kernel
theorem dX6_give_26 : decode cX6_give 26 = .ok (.getfield 9, 3) := by decide +kernel
theorem dX6_give_29 : decode cX6_give 29 = .ok (.iload_n 2, 1) := by decide +kernel
theorem dX6_give_30 : decode cX6_give 30 = .ok (.iload_n 1, 1) := by decide +kernel
theorem dX6_give_31 : decode cX6_give 31 = .ok (.iastore, 1) := by decide +kernel
theorem dX6_give_32 : decode cX6_give 32 = .ok (.aload_n 0, 1) := by decide +kernel
theorem dX6_give_33 : decode cX6_give 33 = .ok (.getfield 15, 3) := by decide +kernel
theorem dX6_give_36 : decode cX6_give 36 = .ok (.iload_n 1, 1) := by decide +kernel
theorem dX6_give_37 : decode cX6_give 37 = .ok (.iload_n 2, 1) := by decide +kernel
theorem dX6_give_38 : decode cX6_give 38 = .ok (.iastore, 1) := by decide +kernel
theorem dX6_give_39 : decode cX6_give 39 = .ok (.aload_n 0, 1) := by decide +kernel
theorem dX6_give_40 : decode cX6_give 40 = .ok (.getfield 27, 3) := by decide +kernel
theorem dX6_give_43 : decode cX6_give 43 = .ok (.iload_n 1, 1) := by decide +kernel
theorem dX6_give_44 : decode cX6_give 44 = .ok (.invokevirtual 93, 3) := by decide +kernel
theorem dX6_give_47 : decode cX6_give 47 = .ok (.return_, 1) := by decide +kernel
theorem dX6_rankOf_0 : decode cX6_rankOf 0 = .ok (.aload_n 0, 1) := by decide +kernel
theorem dX6_rankOf_1 : decode cX6_rankOf 1 = .ok (.getfield 18, 3) := by decide +kernel
theorem dX6_rankOf_4 : decode cX6_rankOf 4 = .ok (.iload_n 1, 1) := by decide +kernel
theorem dX6_rankOf_5 : decode cX6_rankOf 5 = .ok (.invokevirtual 89, 3) := by decide +kernel
theorem dX6_rankOf_8 : decode cX6_rankOf 8 = .ok (.ifCond .eq 12, 3) := by decide +kernel
theorem dX6_rankOf_11 : decode cX6_rankOf 11 = .ok (.aload_n 0, 1) := by decide +kernel
theorem dX6_rankOf_12 : decode cX6_rankOf 12 = .ok (.getfield 15, 3) := by decide +kernel
theorem dX6_rankOf_15 : decode cX6_rankOf 15 = .ok (.iload_n 1, 1) := by decide +kernel
theorem dX6_rankOf_16 : decode cX6_rankOf 16 = .ok (.iaload, 1) := by decide +kernel
theorem dX6_rankOf_17 : decode cX6_rankOf 17 = .ok (.goto 5, 3) := by decide +kernel
theorem dX6_rankOf_20 : decode cX6_rankOf 20 = .ok (.bipush (-9), 2) := by decide +kernel
theorem dX6_rankOf_22 : decode cX6_rankOf 22 = .ok (.ireturn, 1) := by decide +kernel
theorem dX6_cellOf_0 : decode cX6_cellOf 0 = .ok (.iload_n 1, 1) := by decide +kernel
theorem dX6_cellOf_1 : decode cX6_cellOf 1 = .ok (.ifCond .lt 23, 3) := by decide +kernel
theorem dX6_cellOf_4 : decode cX6_cellOf 4 = .ok (.iload_n 1, 1) := by decide +kernel
theorem dX6_cellOf_5 : decode cX6_cellOf 5 = .ok (.aload_n 0, 1) := by decide +kernel
theorem dX6_cellOf_6 : decode cX6_cellOf 6 = .ok (.getfield 18, 3) := by decide +kernel
theorem dX6_cellOf_9 : decode cX6_cellOf 9 = .ok (.getfield 74, 3) := by decide +kernel
theorem dX6_cellOf_12 : decode cX6_cellOf 12 = .ok (.if_icmp .ge 12, 3) := by decide +kernel
theorem dX6_cellOf_15 : decode cX6_cellOf 15 = .ok (.aload_n 0, 1) := by decide +kernel
theorem dX6_cellOf_16 : decode cX6_cellOf 16 = .ok (.getfield 9, 3) := by decide +kernel
theorem dX6_cellOf_19 : decode cX6_cellOf 19 = .ok (.iload_n 1, 1) := by decide +kernel
theorem dX6_cellOf_20 : decode cX6_cellOf 20 = .ok (.iaload, 1) := by decide +kernel
theorem dX6_cellOf_21 : decode cX6_cellOf 21 = .ok (.goto 5, 3) := by decide +kernel
theorem dX6_cellOf_24 : decode cX6_cellOf 24 = .ok (.bipush (-9), 2) := by decide +kernel
theorem dX6_cellOf_26 : decode cX6_cellOf 26 = .ok (.ireturn, 1) := by decide +kernel
theorem dX6_stageOf_0 : decode cX6_stageOf 0 = .ok (.aload_n 0, 1) := by decide +kernel
theorem dX6_stageOf_1 : decode cX6_stageOf 1 = .ok (.iload_n 1, 1) := by decide +kernel
theorem dX6_stageOf_2 : decode cX6_stageOf 2 = .ok (.invokevirtual 97, 3) := by decide +kernel
theorem dX6_stageOf_5 : decode cX6_stageOf 5 = .ok (.istore_n 2, 1) := by decide +kernel
theorem dX6_stageOf_6 : decode cX6_stageOf 6 = .ok (.iload_n 2, 1) := by decide +kernel
theorem dX6_stageOf_7 : decode cX6_stageOf 7 = .ok (.aload_n 0, 1) := by decide +kernel
theorem dX6_stageOf_8 : decode cX6_stageOf 8 = .ok (.getfield 62, 3) := by decide +kernel
theorem dX6_stageOf_11 : decode cX6_stageOf 11 = .ok (.if_icmp .ge 5, 3) := by decide +kernel
theorem dX6_stageOf_14 : decode cX6_stageOf 14 = .ok (.iconst 0, 1) := by decide +kernel
theorem dX6_stageOf_15 : decode cX6_stageOf 15 = .ok (.ireturn, 1) := by decide +kernel
theorem dX6_stageOf_16 : decode cX6_stageOf 16 = .ok (.iload_n 2, 1) := by decide +kernel
theorem dX6_stageOf_17 : decode cX6_stageOf 17 = .ok (.aload_n 0, 1) := by decide +kernel
theorem dX6_stageOf_18 : decode cX6_stageOf 18 = .ok (.getfield 83, 3) := by decide +kernel
theorem dX6_stageOf_21 : decode cX6_stageOf 21 = .ok (.if_icmp .ge 7, 3) := by decide +kernel
theorem dX6_stageOf_24 : decode cX6_stageOf 24 = .ok (.iconst 1, 1) := by decide +kernel
theorem dX6_stageOf_25 : decode cX6_stageOf 25 = .ok (.goto 4, 3) := by decide +kernel
theorem dX6_stageOf_28 : decode cX6_stageOf 28 = .ok (.iconst 2, 1) := by decide +kernel
theorem dX6_stageOf_29 : decode cX6_stageOf 29 = .ok (.ireturn, 1) := by decide +kernel
theorem dX6_gapOf_0 : decode cX6_gapOf 0 = .ok (.bipush (-9), 2) := by decide +kernel
theorem dX6_gapOf_2 : decode cX6_gapOf 2 = .ok (.istore_n 2, 1) := by decide +kernel
theorem dX6_gapOf_3 : decode cX6_gapOf 3 = .ok (.iconst 1, 1) := by decide +kernel
theorem dX6_gapOf_4 : decode cX6_gapOf 4 = .ok (.istore_n 3, 1) := by decide +kernel
theorem dX6_gapOf_5 : decode cX6_gapOf 5 = .ok (.iload_n 3, 1) := by decide +kernel
theorem dX6_gapOf_6 : decode cX6_gapOf 6 = .ok (.iload_n 1, 1) := by decide +kernel
theorem dX6_gapOf_7 : decode cX6_gapOf 7 = .ok (.if_icmp .ge 36, 3) := by decide +kernel
theorem dX6_gapOf_10 : decode cX6_gapOf 10 = .ok (.aload_n 0, 1) := by decide +kernel
theorem dX6_gapOf_11 : decode cX6_gapOf 11 = .ok (.aload_n 0, 1) := by decide +kernel
theorem dX6_gapOf_12 : decode cX6_gapOf 12 = .ok (.iload_n 3, 1) := by decide +kernel
theorem dX6_gapOf_13 : decode cX6_gapOf 13 = .ok (.invokevirtual 101, 3) := by decide +kernel
theorem dX6_gapOf_16 : decode cX6_gapOf 16 = .ok (.iload_n 3, 1) := by decide +kernel
theorem dX6_gapOf_17 : decode cX6_gapOf 17 = .ok (.invokevirtual 104, 3) := by decide +kernel
theorem dX6_gapOf_20 : decode cX6_gapOf 20 = .ok (.istore 4, 2) := by decide +kernel
theorem dX6_gapOf_22 : decode cX6_gapOf 22 = .ok (.iload_n 2, 1) := by decide +kernel
theorem dX6_gapOf_23 : decode cX6_gapOf 23 = .ok (.bipush (-9), 2) := by decide +kernel
theorem dX6_gapOf_25 : decode cX6_gapOf 25 = .ok (.if_icmp .eq 9, 3) := by decide +kernel
theorem dX6_gapOf_28 : decode cX6_gapOf 28 = .ok (.iload 4, 2) := by decide +kernel
theorem dX6_gapOf_30 : decode cX6_gapOf 30 = .ok (.iload_n 2, 1) := by decide +kernel
theorem dX6_gapOf_31 : decode cX6_gapOf 31 = .ok (.if_icmp .ge 6, 3) := by decide +kernel
theorem dX6_gapOf_34 : decode cX6_gapOf 34 = .ok (.iload 4, 2) := by decide +kernel
theorem dX6_gapOf_36 : decode cX6_gapOf 36 = .ok (.istore_n 2, 1) := by decide +kernel
theorem dX6_gapOf_37 : decode cX6_gapOf 37 = .ok (.iinc 3 1, 3) := by decide +kernel
theorem dX6_gapOf_40 : decode cX6_gapOf 40 = .ok (.goto (-35), 3) := by decide +kernel
theorem dX6_gapOf_43 : decode cX6_gapOf 43 = .ok (.iload_n 2, 1) := by decide +kernel
theorem dX6_gapOf_44 : decode cX6_gapOf 44 = .ok (.ireturn, 1) := by decide +kernel
theorem dX6_holeOf_0 : decode cX6_holeOf 0 = .ok (.iload_n 1, 1) := by decide +kernel
theorem dX6_holeOf_1 : decode cX6_holeOf 1 = .ok (.iconst 1, 1) := by decide +kernel
theorem dX6_holeOf_2 : decode cX6_holeOf 2 = .ok (.if_icmp .ge 6, 3) := by decide +kernel
theorem dX6_holeOf_5 : decode cX6_holeOf 5 = .ok (.bipush (-9), 2) := by decide +kernel
theorem dX6_holeOf_7 : decode cX6_holeOf 7 = .ok (.ireturn, 1) := by decide +kernel
theorem dX6_holeOf_8 : decode cX6_holeOf 8 = .ok (.iconst 0, 1) := by decide +kernel
theorem dX6_holeOf_9 : decode cX6_holeOf 9 = .ok (.istore_n 2, 1) := by decide +kernel
theorem dX6_holeOf_10 : decode cX6_holeOf 10 = .ok (.iconst 0, 1) := by decide +kernel
theorem dX6_holeOf_11 : decode cX6_holeOf 11 = .ok (.istore_n 3, 1) := by decide +kernel
theorem dX6_holeOf_12 : decode cX6_holeOf 12 = .ok (.iload_n 3, 1) := by decide +kernel
theorem dX6_holeOf_13 : decode cX6_holeOf 13 = .ok (.aload_n 0, 1) := by decide +kernel
theorem dX6_holeOf_14 : decode cX6_holeOf 14 = .ok (.getfield 18, 3) := by decide +kernel
theorem dX6_holeOf_17 : decode cX6_holeOf 17 = .ok (.getfield 107, 3) := by decide +kernel
theorem dX6_holeOf_20 : decode cX6_holeOf 20 = .ok (.if_icmp .ge 34, 3) := by decide +kernel
theorem dX6_holeOf_23 : decode cX6_holeOf 23 = .ok (.aload_n 0, 1) := by decide +kernel
theorem dX6_holeOf_24 : decode cX6_holeOf 24 = .ok (.getfield 18, 3) := by decide +kernel
theorem dX6_holeOf_27 : decode cX6_holeOf 27 = .ok (.getfield 45, 3) := by decide +kernel
theorem dX6_holeOf_30 : decode cX6_holeOf 30 = .ok (.iload_n 3, 1) := by decide +kernel
theorem dX6_holeOf_31 : decode cX6_holeOf 31 = .ok (.invokestatic 110, 3) := by decide +kernel
theorem dX6_holeOf_34 : decode cX6_holeOf 34 = .ok (.ifCond .eq 14, 3) := by decide +kernel
theorem dX6_holeOf_37 : decode cX6_holeOf 37 = .ok (.iload_n 2, 1) := by decide +kernel
theorem dX6_holeOf_38 : decode cX6_holeOf 38 = .ok (.aload_n 0, 1) := by decide +kernel
theorem dX6_holeOf_39 : decode cX6_holeOf 39 = .ok (.iload_n 3, 1) := by decide +kernel
theorem dX6_holeOf_40 : decode cX6_holeOf 40 = .ok (.iload_n 1, 1) := by decide +kernel
theorem dX6_holeOf_41 : decode cX6_holeOf 41 = .ok (.invokevirtual 104, 3) := by decide +kernel
theorem dX6_holeOf_44 : decode cX6_holeOf 44 = .ok (.invokestatic 77, 3) := by decide +kernel
theorem dX6_holeOf_47 : decode cX6_holeOf 47 = .ok (.istore_n 2, 1) := by decide +kernel
theorem dX6_holeOf_48 : decode cX6_holeOf 48 = .ok (.iinc 3 1, 3) := by decide +kernel
theorem dX6_holeOf_51 : decode cX6_holeOf 51 = .ok (.goto (-39), 3) := by decide +kernel
theorem dX6_holeOf_54 : decode cX6_holeOf 54 = .ok (.iload_n 2, 1) := by decide +kernel
theorem dX6_holeOf_55 : decode cX6_holeOf 55 = .ok (.ireturn, 1) := by decide +kernel
theorem dX6_finestOf_0 : decode cX6_finestOf 0 = .ok (.iconst 1, 1) := by decide +kernel
theorem dX6_finestOf_1 : decode cX6_finestOf 1 = .ok (.istore_n 2, 1) := by decide +kernel
theorem dX6_finestOf_2 : decode cX6_finestOf 2 = .ok (.iload_n 2, 1) := by decide +kernel
theorem dX6_finestOf_3 : decode cX6_finestOf 3 = .ok (.aload_n 0, 1) := by decide +kernel
theorem dX6_finestOf_4 : decode cX6_finestOf 4 = .ok (.getfield 18, 3) := by decide +kernel
theorem dX6_finestOf_7 : decode cX6_finestOf 7 = .ok (.getfield 74, 3) := by decide +kernel
theorem dX6_finestOf_10 : decode cX6_finestOf 10 = .ok (.if_icmp .ge 25, 3) := by decide +kernel
theorem dX6_finestOf_13 : decode cX6_finestOf 13 = .ok (.aload_n 0, 1) := by decide +kernel
theorem dX6_finestOf_14 : decode cX6_finestOf 14 = .ok (.aload_n 0, 1) := by decide +kernel
theorem dX6_finestOf_15 : decode cX6_finestOf 15 = .ok (.iload_n 2, 1) := by decide +kernel
theorem dX6_finestOf_16 : decode cX6_finestOf 16 = .ok (.invokevirtual 101, 3) := by decide +kernel
theorem dX6_finestOf_19 : decode cX6_finestOf 19 = .ok (.iload_n 2, 1) := by decide +kernel
theorem dX6_finestOf_20 : decode cX6_finestOf 20 = .ok (.invokevirtual 104, 3) := by decide +kernel
theorem dX6_finestOf_23 : decode cX6_finestOf 23 = .ok (.iload_n 1, 1) := by decide +kernel
theorem dX6_finestOf_24 : decode cX6_finestOf 24 = .ok (.if_icmp .ge 5, 3) := by decide +kernel
theorem dX6_finestOf_27 : decode cX6_finestOf 27 = .ok (.iload_n 2, 1) := by decide +kernel
theorem dX6_finestOf_28 : decode cX6_finestOf 28 = .ok (.ireturn, 1) := by decide +kernel
theorem dX6_finestOf_29 : decode cX6_finestOf 29 = .ok (.iinc 2 1, 3) := by decide +kernel
theorem dX6_finestOf_32 : decode cX6_finestOf 32 = .ok (.goto (-30), 3) := by decide +kernel
theorem dX6_finestOf_35 : decode cX6_finestOf 35 = .ok (.aload_n 0, 1) := by decide +kernel
theorem dX6_finestOf_36 : decode cX6_finestOf 36 = .ok (.getfield 18, 3) := by decide +kernel
theorem dX6_finestOf_39 : decode cX6_finestOf 39 = .ok (.getfield 74, 3) := by decide +kernel
theorem dX6_finestOf_42 : decode cX6_finestOf 42 = .ok (.ireturn, 1) := by decide +kernel
theorem dX6_nearestOf_0 : decode cX6_nearestOf 0 = .ok (.aload_n 0, 1) := by decide +kernel
theorem dX6_nearestOf_1 : decode cX6_nearestOf 1 = .ok (.getfield 18, 3) := by decide +kernel
theorem dX6_nearestOf_4 : decode cX6_nearestOf 4 = .ok (.iload_n 1, 1) := by decide +kernel
theorem dX6_nearestOf_5 : decode cX6_nearestOf 5 = .ok (.aload_n 0, 1) := by decide +kernel
theorem dX6_nearestOf_6 : decode cX6_nearestOf 6 = .ok (.iconst 0, 1) := by decide +kernel
theorem dX6_nearestOf_7 : decode cX6_nearestOf 7 = .ok (.invokevirtual 101, 3) := by decide +kernel
theorem dX6_nearestOf_10 : decode cX6_nearestOf 10 = .ok (.invokevirtual 114, 3) := by decide +kernel
theorem dX6_nearestOf_13 : decode cX6_nearestOf 13 = .ok (.istore_n 3, 1) := by decide +kernel
theorem dX6_nearestOf_14 : decode cX6_nearestOf 14 = .ok (.iconst 1, 1) := by decide +kernel
theorem dX6_nearestOf_15 : decode cX6_nearestOf 15 = .ok (.istore 4, 2) := by decide +kernel
theorem dX6_nearestOf_17 : decode cX6_nearestOf 17 = .ok (.iload 4, 2) := by decide +kernel
theorem dX6_nearestOf_19 : decode cX6_nearestOf 19 = .ok (.iload_n 2, 1) := by decide +kernel
theorem dX6_nearestOf_20 : decode cX6_nearestOf 20 = .ok (.if_icmp .ge 28, 3) := by decide +kernel
theorem dX6_nearestOf_23 : decode cX6_nearestOf 23 = .ok (.iload_n 3, 1) := by decide +kernel
theorem dX6_nearestOf_24 : decode cX6_nearestOf 24 = .ok (.aload_n 0, 1) := by decide +kernel
theorem dX6_nearestOf_25 : decode cX6_nearestOf 25 = .ok (.getfield 18, 3) := by decide +kernel
theorem dX6_nearestOf_28 : decode cX6_nearestOf 28 = .ok (.iload_n 1, 1) := by decide +kernel
theorem dX6_nearestOf_29 : decode cX6_nearestOf 29 = .ok (.aload_n 0, 1) := by decide +kernel
theorem dX6_nearestOf_30 : decode cX6_nearestOf 30 = .ok (.iload 4, 2) := by decide +kernel
theorem dX6_nearestOf_32 : decode cX6_nearestOf 32 = .ok (.invokevirtual 101, 3) := by decide +kernel
theorem dX6_nearestOf_35 : decode cX6_nearestOf 35 = .ok (.invokevirtual 114, 3) := by decide +kernel
theorem dX6_nearestOf_38 : decode cX6_nearestOf 38 = .ok (.invokestatic 117, 3) := by decide +kernel
theorem dX6_nearestOf_41 : decode cX6_nearestOf 41 = .ok (.istore_n 3, 1) := by decide +kernel
theorem dX6_nearestOf_42 : decode cX6_nearestOf 42 = .ok (.iinc 4 1, 3) := by decide +kernel
theorem dX6_nearestOf_45 : decode cX6_nearestOf 45 = .ok (.goto (-28), 3) := by decide +kernel
theorem dX6_nearestOf_48 : decode cX6_nearestOf 48 = .ok (.iload_n 3, 1) := by decide +kernel
theorem dX6_nearestOf_49 : decode cX6_nearestOf 49 = .ok (.ireturn, 1) := by decide +kernel
theorem dX7_init_0 : decode cX7_init 0 = .ok (.aload_n 0, 1) := by decide +kernel
theorem dX7_init_1 : decode cX7_init 1 = .ok (.invokespecial 3, 3) := by decide +kernel
theorem dX7_init_4 : decode cX7_init 4 = .ok (.aload_n 0, 1) := by decide +kernel
theorem dX7_init_5 : decode cX7_init 5 = .ok (.bipush 6, 2) := by decide +kernel
theorem dX7_init_7 : decode cX7_init 7 = .ok (.newarray .int, 2) := by decide +kernel
theorem dX7_init_9 : decode cX7_init 9 = .ok (.putfield 11, 3) := by decide +kernel
theorem dX7_init_12 : decode cX7_init 12 = .ok (.aload_n 0, 1) := by decide +kernel
theorem dX7_init_13 : decode cX7_init 13 = .ok (.bipush 6, 2) := by decide +kernel
theorem dX7_init_15 : decode cX7_init 15 = .ok (.newarray .int, 2) := by decide +kernel
theorem dX7_init_17 : decode cX7_init 17 = .ok (.putfield 15, 3) := by decide +kernel
theorem dX7_init_20 : decode cX7_init 20 = .ok (.aload_n 0, 1) := by decide +kernel
theorem dX7_init_21 : decode cX7_init 21 = .ok (.aload_n 1, 1) := by decide +kernel
theorem dX7_init_22 : decode cX7_init 22 = .ok (.putfield 18, 3) := by decide +kernel
theorem dX7_init_25 : decode cX7_init 25 = .ok (.aload_n 0, 1) := by decide +kernel
theorem dX7_init_26 : decode cX7_init 26 = .ok (.aload_n 2, 1) := by decide +kernel
theorem dX7_init_27 : decode cX7_init 27 = .ok (.putfield 22, 3) := by decide +kernel
theorem dX7_init_30 : decode cX7_init 30 = .ok (.return_, 1) := by decide +kernel
theorem dX7_append_0 : decode cX7_append 0 = .ok (.aload_n 0, 1) := by decide +kernel
theorem dX7_append_1 : decode cX7_append 1 = .ok (.getfield 26, 3) := by decide +kernel
theorem dX7_append_4 : decode cX7_append 4 = .ok (.ifCond .lt 12, 3) := by decide +kernel
theorem dX7_append_7 : decode cX7_append 7 = .ok (.aload_n 0, 1) := by decide +kernel
theorem dX7_append_8 : decode cX7_append 8 = .ok (.getfield 26, 3) := by decide +kernel
theorem dX7_append_11 : decode cX7_append 11 = .ok (.bipush 6, 2) := by decide +kernel
theorem dX7_append_13 : decode cX7_append 13 = .ok (.if_icmp .lt 5, 3) := by decide +kernel
theorem dX7_append_16 : decode cX7_append 16 = .ok (.iconst 0, 1) := by decide +kernel
theorem dX7_append_17 : decode cX7_append 17 = .ok (.ireturn, 1) := by decide +kernel
theorem dX7_append_18 : decode cX7_append 18 = .ok (.aload_n 0, 1) := by decide +kernel
theorem dX7_append_19 : decode cX7_append 19 = .ok (.getfield 11, 3) := by decide +kernel
theorem dX7_append_22 : decode cX7_append 22 = .ok (.aload_n 0, 1) := by decide +kernel
theorem dX7_append_23 : decode cX7_append 23 = .ok (.getfield 26, 3) := by decide +kernel
theorem dX7_append_26 : decode cX7_append 26 = .ok (.iload_n 1, 1) := by decide +kernel
theorem dX7_append_27 : decode cX7_append 27 = .ok (.iastore, 1) := by decide +kernel
theorem dX7_append_28 : decode cX7_append 28 = .ok (.aload_n 0, 1) := by decide +kernel
theorem dX7_append_29 : decode cX7_append 29 = .ok (.getfield 15, 3) := by decide +kernel
theorem dX7_append_32 : decode cX7_append 32 = .ok (.aload_n 0, 1) := by decide +kernel
theorem dX7_append_33 : decode cX7_append 33 = .ok (.getfield 26, 3) := by decide +kernel
theorem dX7_append_36 : decode cX7_append 36 = .ok (.iload_n 2, 1) := by decide +kernel
theorem dX7_append_37 : decode cX7_append 37 = .ok (.iastore, 1) := by decide +kernel
theorem dX7_append_38 : decode cX7_append 38 = .ok (.aload_n 0, 1) := by decide +kernel
theorem dX7_append_39 : decode cX7_append 39 = .ok (.dup, 1) := by decide +kernel
theorem dX7_append_40 : decode cX7_append 40 = .ok (.getfield 26, 3) := by decide +kernel
theorem dX7_append_43 : decode cX7_append 43 = .ok (.iconst 1, 1) := by decide +kernel
theorem dX7_append_44 : decode cX7_append 44 = .ok (.iadd, 1) := by decide +kernel
theorem dX7_append_45 : decode cX7_append 45 = .ok (.putfield 26, 3) := by decide +kernel
theorem dX7_append_48 : decode cX7_append 48 = .ok (.iconst 1, 1) := by decide +kernel
theorem dX7_append_49 : decode cX7_append 49 = .ok (.ireturn, 1) := by decide +kernel
theorem dX7_shadesThatFit_0 : decode cX7_shadesThatFit 0 = .ok (.iconst 0, 1) := by decide +kernel
theorem dX7_shadesThatFit_1 : decode cX7_shadesThatFit 1 = .ok (.istore_n 1, 1) := by decide +kernel
theorem dX7_shadesThatFit_2 : decode cX7_shadesThatFit 2 = .ok (.iconst 0, 1) := by decide +kernel
theorem dX7_shadesThatFit_3 : decode cX7_shadesThatFit 3 = .ok (.istore_n 2, 1) := by decide +kernel
theorem dX7_shadesThatFit_4 : decode cX7_shadesThatFit 4 = .ok (.iload_n 2, 1) := by decide +kernel
theorem dX7_shadesThatFit_5 : decode cX7_shadesThatFit 5 = .ok (.aload_n 0, 1) := by decide +kernel
theorem dX7_shadesThatFit_6 : decode cX7_shadesThatFit 6 = .ok (.getfield 18, 3) := by decide +kernel
theorem dX7_shadesThatFit_9 : decode cX7_shadesThatFit 9 = .ok (.getfield 30, 3) := by decide +kernel
theorem dX7_shadesThatFit_12 : decode cX7_shadesThatFit 12 = .ok (.if_icmp .gt 20, 3) := by decide +kernel
theorem dX7_shadesThatFit_15 : decode cX7_shadesThatFit 15 = .ok (.aload_n 0, 1) := by decide +kernel
theorem dX7_shadesThatFit_16 : decode cX7_shadesThatFit 16 = .ok (.iload_n 2, 1) := by decide +kernel
theorem dX7_shadesThatFit_17 : decode cX7_shadesThatFit 17 = .ok (.invokevirtual 35, 3) := by decide +kernel
theorem dX7_shadesThatFit_20 : decode cX7_shadesThatFit 20 = .ok (.ifCond .eq 6, 3) := by decide +kernel
theorem dX7_shadesThatFit_23 : decode cX7_shadesThatFit 23 = .ok (.iinc 1 1, 3) := by decide +kernel
theorem dX7_shadesThatFit_26 : decode cX7_shadesThatFit 26 = .ok (.iinc 2 1, 3) := by decide +kernel
theorem dX7_shadesThatFit_29 : decode cX7_shadesThatFit 29 = .ok (.goto (-25), 3) := by decide +kernel
theorem dX7_shadesThatFit_32 : decode cX7_shadesThatFit 32 = .ok (.iload_n 1, 1) := by decide +kernel
theorem dX7_shadesThatFit_33 : decode cX7_shadesThatFit 33 = .ok (.ireturn, 1) := by decide +kernel
theorem dX7_leastThatFits_0 : decode cX7_leastThatFits 0 = .ok (.iconst 0, 1) := by decide +kernel
theorem dX7_leastThatFits_1 : decode cX7_leastThatFits 1 = .ok (.istore_n 1, 1) := by decide +kernel
theorem dX7_leastThatFits_2 : decode cX7_leastThatFits 2 = .ok (.iload_n 1, 1) := by decide +kernel
theorem dX7_leastThatFits_3 : decode cX7_leastThatFits 3 = .ok (.aload_n 0, 1) := by decide +kernel
theorem dX7_leastThatFits_4 : decode cX7_leastThatFits 4 = .ok (.getfield 18, 3) := by decide +kernel
theorem dX7_leastThatFits_7 : decode cX7_leastThatFits 7 = .ok (.getfield 30, 3) := by decide +kernel
theorem dX7_leastThatFits_10 : decode cX7_leastThatFits 10 = .ok (.if_icmp .gt 19, 3) := by decide +kernel
theorem dX7_leastThatFits_13 : decode cX7_leastThatFits 13 = .ok (.aload_n 0, 1) := by decide +kernel
theorem dX7_leastThatFits_14 : decode cX7_leastThatFits 14 = .ok (.iload_n 1, 1) := by decide +kernel
theorem dX7_leastThatFits_15 : decode cX7_leastThatFits 15 = .ok (.invokevirtual 35, 3) := by decide +kernel
theorem dX7_leastThatFits_18 : decode cX7_leastThatFits 18 = .ok (.ifCond .eq 5, 3) := by decide +kernel
theorem dX7_leastThatFits_21 : decode cX7_leastThatFits 21 = .ok (.iload_n 1, 1) := by decide +kernel
theorem dX7_leastThatFits_22 : decode cX7_leastThatFits 22 = .ok (.ireturn, 1) := by decide +kernel
theorem dX7_leastThatFits_23 : decode cX7_leastThatFits 23 = .ok (.iinc 1 1, 3) := by decide +kernel
theorem dX7_leastThatFits_26 : decode cX7_leastThatFits 26 = .ok (.goto (-24), 3) := by decide +kernel
theorem dX7_leastThatFits_29 : decode cX7_leastThatFits 29 = .ok (.bipush (-9), 2) := by decide +kernel
theorem dX7_leastThatFits_31 : decode cX7_leastThatFits 31 = .ok (.ireturn, 1) := by decide +kernel
theorem dX7_greatestThatFits_0 : decode cX7_greatestThatFits 0 = .ok (.aload_n 0, 1) := by decide +kernel
theorem dX7_greatestThatFits_1 : decode cX7_greatestThatFits 1 = .ok (.getfield 18, 3) := by decide +kernel
theorem dX7_greatestThatFits_4 : decode cX7_greatestThatFits 4 = .ok (.getfield 30, 3) := by decide +kernel
theorem dX7_greatestThatFits_7 : decode cX7_greatestThatFits 7 = .ok (.istore_n 1, 1) := by decide +kernel
theorem dX7_greatestThatFits_8 : decode cX7_greatestThatFits 8 = .ok (.iload_n 1, 1) := by decide +kernel
theorem dX7_greatestThatFits_9 : decode cX7_greatestThatFits 9 = .ok (.ifCond .lt 19, 3) := by decide +kernel
theorem dX7_greatestThatFits_12 : decode cX7_greatestThatFits 12 = .ok (.aload_n 0, 1) := by decide +kernel
theorem dX7_greatestThatFits_13 : decode cX7_greatestThatFits 13 = .ok (.iload_n 1, 1) := by decide +kernel
theorem dX7_greatestThatFits_14 : decode cX7_greatestThatFits 14 = .ok (.invokevirtual 35, 3) := by decide +kernel
theorem dX7_greatestThatFits_17 : decode cX7_greatestThatFits 17 = .ok (.ifCond .eq 5, 3) := by decide +kernel
theorem dX7_greatestThatFits_20 : decode cX7_greatestThatFits 20 = .ok (.iload_n 1, 1) := by decide +kernel
theorem dX7_greatestThatFits_21 : decode cX7_greatestThatFits 21 = .ok (.ireturn, 1) := by decide +kernel
theorem dX7_greatestThatFits_22 : decode cX7_greatestThatFits 22 = .ok (.iinc 1 (-1), 3) := by decide +kernel
theorem dX7_greatestThatFits_25 : decode cX7_greatestThatFits 25 = .ok (.goto (-17), 3) := by decide +kernel
theorem dX7_greatestThatFits_28 : decode cX7_greatestThatFits 28 = .ok (.bipush (-9), 2) := by decide +kernel
theorem dX7_greatestThatFits_30 : decode cX7_greatestThatFits 30 = .ok (.ireturn, 1) := by decide +kernel
theorem dX7_fits_0 : decode cX7_fits 0 = .ok (.iconst 0, 1) := by decide +kernel
theorem dX7_fits_1 : decode cX7_fits 1 = .ok (.istore_n 2, 1) := by decide +kernel
theorem dX7_fits_2 : decode cX7_fits 2 = .ok (.iload_n 2, 1) := by decide +kernel
theorem dX7_fits_3 : decode cX7_fits 3 = .ok (.aload_n 0, 1) := by decide +kernel
theorem dX7_fits_4 : decode cX7_fits 4 = .ok (.getfield 26, 3) := by decide +kernel
theorem dX7_fits_7 : decode cX7_fits 7 = .ok (.if_icmp .ge 31, 3) := by decide +kernel
theorem dX7_fits_10 : decode cX7_fits 10 = .ok (.aload_n 0, 1) := by decide +kernel
theorem dX7_fits_11 : decode cX7_fits 11 = .ok (.aload_n 0, 1) := by decide +kernel
theorem dX7_fits_12 : decode cX7_fits 12 = .ok (.getfield 11, 3) := by decide +kernel
theorem dX7_fits_15 : decode cX7_fits 15 = .ok (.iload_n 2, 1) := by decide +kernel
theorem dX7_fits_16 : decode cX7_fits 16 = .ok (.iaload, 1) := by decide +kernel
theorem dX7_fits_17 : decode cX7_fits 17 = .ok (.iload_n 1, 1) := by decide +kernel
theorem dX7_fits_18 : decode cX7_fits 18 = .ok (.invokevirtual 39, 3) := by decide +kernel
theorem dX7_fits_21 : decode cX7_fits 21 = .ok (.aload_n 0, 1) := by decide +kernel
theorem dX7_fits_22 : decode cX7_fits 22 = .ok (.getfield 15, 3) := by decide +kernel
theorem dX7_fits_25 : decode cX7_fits 25 = .ok (.iload_n 2, 1) := by decide +kernel
theorem dX7_fits_26 : decode cX7_fits 26 = .ok (.iaload, 1) := by decide +kernel
theorem dX7_fits_27 : decode cX7_fits 27 = .ok (.if_icmp .eq 5, 3) := by decide +kernel
theorem dX7_fits_30 : decode cX7_fits 30 = .ok (.iconst 0, 1) := by decide +kernel
theorem dX7_fits_31 : decode cX7_fits 31 = .ok (.ireturn, 1) := by decide +kernel
theorem dX7_fits_32 : decode cX7_fits 32 = .ok (.iinc 2 1, 3) := by decide +kernel
theorem dX7_fits_35 : decode cX7_fits 35 = .ok (.goto (-33), 3) := by decide +kernel
theorem dX7_fits_38 : decode cX7_fits 38 = .ok (.iconst 1, 1) := by decide +kernel
theorem dX7_fits_39 : decode cX7_fits 39 = .ok (.ireturn, 1) := by decide +kernel
theorem dX7_cellsOn_0 : decode cX7_cellsOn 0 = .ok (.iconst 0, 1) := by decide +kernel
theorem dX7_cellsOn_1 : decode cX7_cellsOn 1 = .ok (.istore_n 3, 1) := by decide +kernel
theorem dX7_cellsOn_2 : decode cX7_cellsOn 2 = .ok (.iconst 0, 1) := by decide +kernel
theorem dX7_cellsOn_3 : decode cX7_cellsOn 3 = .ok (.istore 4, 2) := by decide +kernel
theorem dX7_cellsOn_5 : decode cX7_cellsOn 5 = .ok (.iload 4, 2) := by decide +kernel
theorem dX7_cellsOn_7 : decode cX7_cellsOn 7 = .ok (.iload_n 2, 1) := by decide +kernel
theorem dX7_cellsOn_8 : decode cX7_cellsOn 8 = .ok (.if_icmp .ge 61, 3) := by decide +kernel
theorem dX7_cellsOn_11 : decode cX7_cellsOn 11 = .ok (.aload_n 0, 1) := by decide +kernel
theorem dX7_cellsOn_12 : decode cX7_cellsOn 12 = .ok (.getfield 22, 3) := by decide +kernel
theorem dX7_cellsOn_15 : decode cX7_cellsOn 15 = .ok (.iload 4, 2) := by decide +kernel
theorem dX7_cellsOn_17 : decode cX7_cellsOn 17 = .ok (.invokevirtual 43, 3) := by decide +kernel
theorem dX7_cellsOn_20 : decode cX7_cellsOn 20 = .ok (.istore 5, 2) := by decide +kernel
theorem dX7_cellsOn_22 : decode cX7_cellsOn 22 = .ok (.iload_n 1, 1) := by decide +kernel
theorem dX7_cellsOn_23 : decode cX7_cellsOn 23 = .ok (.bipush 8, 2) := by decide +kernel
theorem dX7_cellsOn_25 : decode cX7_cellsOn 25 = .ok (.if_icmp .ge 15, 3) := by decide +kernel
theorem dX7_cellsOn_28 : decode cX7_cellsOn 28 = .ok (.aload_n 0, 1) := by decide +kernel
theorem dX7_cellsOn_29 : decode cX7_cellsOn 29 = .ok (.getfield 18, 3) := by decide +kernel
theorem dX7_cellsOn_32 : decode cX7_cellsOn 32 = .ok (.iload 5, 2) := by decide +kernel
theorem dX7_cellsOn_34 : decode cX7_cellsOn 34 = .ok (.invokevirtual 49, 3) := by decide +kernel
theorem dX7_cellsOn_37 : decode cX7_cellsOn 37 = .ok (.goto 15, 3) := by decide +kernel
theorem dX7_cellsOn_40 : decode cX7_cellsOn 40 = .ok (.bipush 8, 2) := by decide +kernel
theorem dX7_cellsOn_42 : decode cX7_cellsOn 42 = .ok (.aload_n 0, 1) := by decide +kernel
theorem dX7_cellsOn_43 : decode cX7_cellsOn 43 = .ok (.getfield 18, 3) := by decide +kernel
theorem dX7_cellsOn_46 : decode cX7_cellsOn 46 = .ok (.iload 5, 2) := by decide +kernel
theorem dX7_cellsOn_48 : decode cX7_cellsOn 48 = .ok (.invokevirtual 52, 3) := by decide +kernel
theorem dX7_cellsOn_51 : decode cX7_cellsOn 51 = .ok (.iadd, 1) := by decide +kernel
theorem dX7_cellsOn_52 : decode cX7_cellsOn 52 = .ok (.istore 6, 2) := by decide +kernel
theorem dX7_cellsOn_54 : decode cX7_cellsOn 54 = .ok (.iload 6, 2) := by decide +kernel
theorem dX7_cellsOn_56 : decode cX7_cellsOn 56 = .ok (.iload_n 1, 1) := by decide +kernel
theorem dX7_cellsOn_57 : decode cX7_cellsOn 57 = .ok (.if_icmp .ne 6, 3) := by decide +kernel
theorem dX7_cellsOn_60 : decode cX7_cellsOn 60 = .ok (.iinc 3 1, 3) := by decide +kernel
theorem dX7_cellsOn_63 : decode cX7_cellsOn 63 = .ok (.iinc 4 1, 3) := by decide +kernel
theorem dX7_cellsOn_66 : decode cX7_cellsOn 66 = .ok (.goto (-61), 3) := by decide +kernel
theorem dX7_cellsOn_69 : decode cX7_cellsOn 69 = .ok (.iload_n 3, 1) := by decide +kernel
theorem dX7_cellsOn_70 : decode cX7_cellsOn 70 = .ok (.ireturn, 1) := by decide +kernel
theorem dX8_init_0 : decode cX8_init 0 = .ok (.aload_n 0, 1) := by decide +kernel
theorem dX8_init_1 : decode cX8_init 1 = .ok (.invokespecial 3, 3) := by decide +kernel
theorem dX8_init_4 : decode cX8_init 4 = .ok (.aload_n 0, 1) := by decide +kernel
theorem dX8_init_5 : decode cX8_init 5 = .ok (.sipush 150, 3) := by decide +kernel
theorem dX8_init_8 : decode cX8_init 8 = .ok (.newarray .int, 2) := by decide +kernel
theorem dX8_init_10 : decode cX8_init 10 = .ok (.putfield 11, 3) := by decide +kernel
theorem dX8_init_13 : decode cX8_init 13 = .ok (.return_, 1) := by decide +kernel
theorem dX8_append_0 : decode cX8_append 0 = .ok (.aload_n 0, 1) := by decide +kernel
theorem dX8_append_1 : decode cX8_append 1 = .ok (.getfield 15, 3) := by decide +kernel
theorem dX8_append_4 : decode cX8_append 4 = .ok (.ifCond .lt 15, 3) := by decide +kernel
theorem dX8_append_7 : decode cX8_append 7 = .ok (.aload_n 0, 1) := by decide +kernel
theorem dX8_append_8 : decode cX8_append 8 = .ok (.getfield 15, 3) := by decide +kernel
theorem dX8_append_11 : decode cX8_append 11 = .ok (.aload_n 0, 1) := by decide +kernel
theorem dX8_append_12 : decode cX8_append 12 = .ok (.getfield 11, 3) := by decide +kernel
theorem dX8_append_15 : decode cX8_append 15 = .ok (.arraylength, 1) := by decide +kernel
theorem dX8_append_16 : decode cX8_append 16 = .ok (.if_icmp .lt 5, 3) := by decide +kernel
theorem dX8_append_19 : decode cX8_append 19 = .ok (.iconst 0, 1) := by decide +kernel
theorem dX8_append_20 : decode cX8_append 20 = .ok (.ireturn, 1) := by decide +kernel
theorem dX8_append_21 : decode cX8_append 21 = .ok (.aload_n 0, 1) := by decide +kernel
theorem dX8_append_22 : decode cX8_append 22 = .ok (.getfield 11, 3) := by decide +kernel
theorem dX8_append_25 : decode cX8_append 25 = .ok (.aload_n 0, 1) := by decide +kernel
theorem dX8_append_26 : decode cX8_append 26 = .ok (.getfield 15, 3) := by decide +kernel
theorem dX8_append_29 : decode cX8_append 29 = .ok (.iload_n 1, 1) := by decide +kernel
theorem dX8_append_30 : decode cX8_append 30 = .ok (.iastore, 1) := by decide +kernel
theorem dX8_append_31 : decode cX8_append 31 = .ok (.aload_n 0, 1) := by decide +kernel
theorem dX8_append_32 : decode cX8_append 32 = .ok (.dup, 1) := by decide +kernel
theorem dX8_append_33 : decode cX8_append 33 = .ok (.getfield 15, 3) := by decide +kernel
theorem dX8_append_36 : decode cX8_append 36 = .ok (.iconst 1, 1) := by decide +kernel
theorem dX8_append_37 : decode cX8_append 37 = .ok (.iadd, 1) := by decide +kernel
theorem dX8_append_38 : decode cX8_append 38 = .ok (.putfield 15, 3) := by decide +kernel
theorem dX8_append_41 : decode cX8_append 41 = .ok (.iconst 1, 1) := by decide +kernel
theorem dX8_append_42 : decode cX8_append 42 = .ok (.ireturn, 1) := by decide +kernel
theorem dX8_readInto_0 : decode cX8_readInto 0 = .ok (.aload_n 1, 1) := by decide +kernel
theorem dX8_readInto_1 : decode cX8_readInto 1 = .ok (.invokevirtual 19, 3) := by decide +kernel
theorem dX8_readInto_4 : decode cX8_readInto 4 = .ok (.aload_n 0, 1) := by decide +kernel
theorem dX8_readInto_5 : decode cX8_readInto 5 = .ok (.iconst 0, 1) := by decide +kernel
theorem dX8_readInto_6 : decode cX8_readInto 6 = .ok (.putfield 24, 3) := by decide +kernel
theorem dX8_readInto_9 : decode cX8_readInto 9 = .ok (.aload_n 0, 1) := by decide +kernel
theorem dX8_readInto_10 : decode cX8_readInto 10 = .ok (.invokevirtual 27, 3) := by decide +kernel
theorem dX8_readInto_13 : decode cX8_readInto 13 = .ok (.iconst 0, 1) := by decide +kernel
theorem dX8_readInto_14 : decode cX8_readInto 14 = .ok (.istore_n 2, 1) := by decide +kernel
theorem dX8_readInto_15 : decode cX8_readInto 15 = .ok (.aload_n 0, 1) := by decide +kernel
theorem dX8_readInto_16 : decode cX8_readInto 16 = .ok (.getfield 30, 3) := by decide +kernel
theorem dX8_readInto_19 : decode cX8_readInto 19 = .ok (.sipush 258, 3) := by decide +kernel
theorem dX8_readInto_22 : decode cX8_readInto 22 = .ok (.if_icmp .eq 45, 3) := by decide +kernel
theorem dX8_readInto_25 : decode cX8_readInto 25 = .ok (.iload_n 2, 1) := by decide +kernel
theorem dX8_readInto_26 : decode cX8_readInto 26 = .ok (.sipush 150, 3) := by decide +kernel
theorem dX8_readInto_29 : decode cX8_readInto 29 = .ok (.if_icmp .ge 38, 3) := by decide +kernel
theorem dX8_readInto_32 : decode cX8_readInto 32 = .ok (.aload_n 0, 1) := by decide +kernel
theorem dX8_readInto_33 : decode cX8_readInto 33 = .ok (.aload_n 1, 1) := by decide +kernel
theorem dX8_readInto_34 : decode cX8_readInto 34 = .ok (.iload_n 2, 1) := by decide +kernel
theorem dX8_readInto_35 : decode cX8_readInto 35 = .ok (.ifCond .ne 7, 3) := by decide +kernel
theorem dX8_readInto_38 : decode cX8_readInto 38 = .ok (.iconst 1, 1) := by decide +kernel
theorem dX8_readInto_39 : decode cX8_readInto 39 = .ok (.goto 4, 3) := by decide +kernel
theorem dX8_readInto_42 : decode cX8_readInto 42 = .ok (.iconst 0, 1) := by decide +kernel
theorem dX8_readInto_43 : decode cX8_readInto 43 = .ok (.invokevirtual 33, 3) := by decide +kernel
theorem dX8_readInto_46 : decode cX8_readInto 46 = .ok (.ifCond .ne 11, 3) := by decide +kernel
theorem dX8_readInto_49 : decode cX8_readInto 49 = .ok (.bipush (-10), 2) := by decide +kernel
theorem dX8_readInto_51 : decode cX8_readInto 51 = .ok (.aload_n 0, 1) := by decide +kernel
theorem dX8_readInto_52 : decode cX8_readInto 52 = .ok (.getfield 37, 3) := by decide +kernel
theorem dX8_readInto_55 : decode cX8_readInto 55 = .ok (.isub, 1) := by decide +kernel
theorem dX8_readInto_56 : decode cX8_readInto 56 = .ok (.ireturn, 1) := by decide +kernel
theorem dX8_readInto_57 : decode cX8_readInto 57 = .ok (.iinc 2 1, 3) := by decide +kernel
theorem dX8_readInto_60 : decode cX8_readInto 60 = .ok (.aload_n 0, 1) := by decide +kernel
theorem dX8_readInto_61 : decode cX8_readInto 61 = .ok (.invokevirtual 27, 3) := by decide +kernel
theorem dX8_readInto_64 : decode cX8_readInto 64 = .ok (.goto (-49), 3) := by decide +kernel
theorem dX8_readInto_67 : decode cX8_readInto 67 = .ok (.iload_n 2, 1) := by decide +kernel
theorem dX8_readInto_68 : decode cX8_readInto 68 = .ok (.ireturn, 1) := by decide +kernel
theorem dX8_readItem_0 : decode cX8_readItem 0 = .ok (.aload_n 0, 1) := by decide +kernel
theorem dX8_readItem_1 : decode cX8_readItem 1 = .ok (.getfield 30, 3) := by decide +kernel
theorem dX8_readItem_4 : decode cX8_readItem 4 = .ok (.lookupswitch 111 #[(97, 82), (100, 101), (103, 52), (107, 73), (115, 91)], 52) := by decide +kernel
theorem dX8_readItem_56 : decode cX8_readItem 56 = .ok (.iload_n 2, 1) := by decide +kernel
theorem dX8_readItem_57 : decode cX8_readItem 57 = .ok (.ifCond .eq 15, 3) := by decide +kernel
theorem dX8_readItem_60 : decode cX8_readItem 60 = .ok (.aload_n 0, 1) := by decide +kernel
theorem dX8_readItem_61 : decode cX8_readItem 61 = .ok (.aload_n 1, 1) := by decide +kernel
theorem dX8_readItem_62 : decode cX8_readItem 62 = .ok (.invokevirtual 40, 3) := by decide +kernel
theorem dX8_readItem_65 : decode cX8_readItem 65 = .ok (.ifCond .eq 7, 3) := by decide +kernel
theorem dX8_readItem_68 : decode cX8_readItem 68 = .ok (.iconst 1, 1) := by decide +kernel
theorem dX8_readItem_69 : decode cX8_readItem 69 = .ok (.goto 4, 3) := by decide +kernel
theorem dX8_readItem_72 : decode cX8_readItem 72 = .ok (.iconst 0, 1) := by decide +kernel
theorem dX8_readItem_73 : decode cX8_readItem 73 = .ok (.istore_n 3, 1) := by decide +kernel
theorem dX8_readItem_74 : decode cX8_readItem 74 = .ok (.goto 43, 3) := by decide +kernel
theorem dX8_readItem_77 : decode cX8_readItem 77 = .ok (.aload_n 0, 1) := by decide +kernel
theorem dX8_readItem_78 : decode cX8_readItem 78 = .ok (.aload_n 1, 1) := by decide +kernel
theorem dX8_readItem_79 : decode cX8_readItem 79 = .ok (.invokevirtual 44, 3) := by decide +kernel
theorem dX8_readItem_82 : decode cX8_readItem 82 = .ok (.istore_n 3, 1) := by decide +kernel
theorem dX8_readItem_83 : decode cX8_readItem 83 = .ok (.goto 34, 3) := by decide +kernel
theorem dX8_readItem_86 : decode cX8_readItem 86 = .ok (.aload_n 0, 1) := by decide +kernel
theorem dX8_readItem_87 : decode cX8_readItem 87 = .ok (.aload_n 1, 1) := by decide +kernel
theorem dX8_readItem_88 : decode cX8_readItem 88 = .ok (.invokevirtual 47, 3) := by decide +kernel
theorem dX8_readItem_91 : decode cX8_readItem 91 = .ok (.istore_n 3, 1) := by decide +kernel
theorem dX8_readItem_92 : decode cX8_readItem 92 = .ok (.goto 25, 3) := by decide +kernel
theorem dX8_readItem_95 : decode cX8_readItem 95 = .ok (.aload_n 0, 1) := by decide +kernel
theorem dX8_readItem_96 : decode cX8_readItem 96 = .ok (.aload_n 1, 1) := by decide +kernel
theorem dX8_readItem_97 : decode cX8_readItem 97 = .ok (.iconst 1, 1) := by decide +kernel
theorem dX8_readItem_98 : decode cX8_readItem 98 = .ok (.invokevirtual 50, 3) := by decide +kernel
theorem dX8_readItem_101 : decode cX8_readItem 101 = .ok (.istore_n 3, 1) := by decide +kernel
theorem dX8_readItem_102 : decode cX8_readItem 102 = .ok (.goto 15, 3) := by decide +kernel
theorem dX8_readItem_105 : decode cX8_readItem 105 = .ok (.aload_n 0, 1) := by decide +kernel
theorem dX8_readItem_106 : decode cX8_readItem 106 = .ok (.aload_n 1, 1) := by decide +kernel
theorem dX8_readItem_107 : decode cX8_readItem 107 = .ok (.iconst 0, 1) := by decide +kernel
theorem dX8_readItem_108 : decode cX8_readItem 108 = .ok (.invokevirtual 50, 3) := by decide +kernel
theorem dX8_readItem_111 : decode cX8_readItem 111 = .ok (.istore_n 3, 1) := by decide +kernel
theorem dX8_readItem_112 : decode cX8_readItem 112 = .ok (.goto 5, 3) := by decide +kernel
theorem dX8_readItem_115 : decode cX8_readItem 115 = .ok (.iconst 0, 1) := by decide +kernel
theorem dX8_readItem_116 : decode cX8_readItem 116 = .ok (.istore_n 3, 1) := by decide +kernel
theorem dX8_readItem_117 : decode cX8_readItem 117 = .ok (.iload_n 3, 1) := by decide +kernel
theorem dX8_readItem_118 : decode cX8_readItem 118 = .ok (.ifCond .ne 5, 3) := by decide +kernel
theorem dX8_readItem_121 : decode cX8_readItem 121 = .ok (.iconst 0, 1) := by decide +kernel
theorem dX8_readItem_122 : decode cX8_readItem 122 = .ok (.ireturn, 1) := by decide +kernel
theorem dX8_readItem_123 : decode cX8_readItem 123 = .ok (.aload_n 0, 1) := by decide +kernel
theorem dX8_readItem_124 : decode cX8_readItem 124 = .ok (.invokevirtual 27, 3) := by decide +kernel
theorem dX8_readItem_127 : decode cX8_readItem 127 = .ok (.aload_n 0, 1) := by decide +kernel
theorem dX8_readItem_128 : decode cX8_readItem 128 = .ok (.getfield 30, 3) := by decide +kernel
theorem dX8_readItem_131 : decode cX8_readItem 131 = .ok (.bipush 59, 2) := by decide +kernel
theorem dX8_readItem_133 : decode cX8_readItem 133 = .ok (.if_icmp .ne 7, 3) := by decide +kernel
theorem dX8_readItem_136 : decode cX8_readItem 136 = .ok (.iconst 1, 1) := by decide +kernel
theorem dX8_readItem_137 : decode cX8_readItem 137 = .ok (.goto 4, 3) := by decide +kernel
theorem dX8_readItem_140 : decode cX8_readItem 140 = .ok (.iconst 0, 1) := by decide +kernel
theorem dX8_readItem_141 : decode cX8_readItem 141 = .ok (.ireturn, 1) := by decide +kernel
theorem dX8_readMeasures_0 : decode cX8_readMeasures 0 = .ok (.aload_n 0, 1) := by decide +kernel
theorem dX8_readMeasures_1 : decode cX8_readMeasures 1 = .ok (.iconst 1, 1) := by decide +kernel
theorem dX8_readMeasures_2 : decode cX8_readMeasures 2 = .ok (.bipush 8, 2) := by decide +kernel
theorem dX8_readMeasures_4 : decode cX8_readMeasures 4 = .ok (.invokevirtual 53, 3) := by decide +kernel
theorem dX8_readMeasures_7 : decode cX8_readMeasures 7 = .ok (.ifCond .ne 5, 3) := by decide +kernel
theorem dX8_readMeasures_10 : decode cX8_readMeasures 10 = .ok (.iconst 0, 1) := by decide +kernel
theorem dX8_readMeasures_11 : decode cX8_readMeasures 11 = .ok (.ireturn, 1) := by decide +kernel
theorem dX8_readMeasures_12 : decode cX8_readMeasures 12 = .ok (.aload_n 1, 1) := by decide +kernel
theorem dX8_readMeasures_13 : decode cX8_readMeasures 13 = .ok (.aload_n 0, 1) := by decide +kernel
theorem dX8_readMeasures_14 : decode cX8_readMeasures 14 = .ok (.getfield 57, 3) := by decide +kernel
theorem dX8_readMeasures_17 : decode cX8_readMeasures 17 = .ok (.putfield 60, 3) := by decide +kernel
theorem dX8_readMeasures_20 : decode cX8_readMeasures 20 = .ok (.aload_n 0, 1) := by decide +kernel
theorem dX8_readMeasures_21 : decode cX8_readMeasures 21 = .ok (.iconst 1, 1) := by decide +kernel
theorem dX8_readMeasures_22 : decode cX8_readMeasures 22 = .ok (.bipush 8, 2) := by decide +kernel
theorem dX8_readMeasures_24 : decode cX8_readMeasures 24 = .ok (.invokevirtual 53, 3) := by decide +kernel
theorem dX8_readMeasures_27 : decode cX8_readMeasures 27 = .ok (.ifCond .ne 5, 3) := by decide +kernel
theorem dX8_readMeasures_30 : decode cX8_readMeasures 30 = .ok (.iconst 0, 1) := by decide +kernel
theorem dX8_readMeasures_31 : decode cX8_readMeasures 31 = .ok (.ireturn, 1) := by decide +kernel
theorem dX8_readMeasures_32 : decode cX8_readMeasures 32 = .ok (.aload_n 1, 1) := by decide +kernel
theorem dX8_readMeasures_33 : decode cX8_readMeasures 33 = .ok (.aload_n 0, 1) := by decide +kernel
theorem dX8_readMeasures_34 : decode cX8_readMeasures 34 = .ok (.getfield 57, 3) := by decide +kernel
theorem dX8_readMeasures_37 : decode cX8_readMeasures 37 = .ok (.putfield 63, 3) := by decide +kernel
theorem dX8_readMeasures_40 : decode cX8_readMeasures 40 = .ok (.iconst 1, 1) := by decide +kernel
theorem dX8_readMeasures_41 : decode cX8_readMeasures 41 = .ok (.ireturn, 1) := by decide +kernel
theorem dX8_readKernel_0 : decode cX8_readKernel 0 = .ok (.aload_n 0, 1) := by decide +kernel
theorem dX8_readKernel_1 : decode cX8_readKernel 1 = .ok (.iconst 0, 1) := by decide +kernel
theorem dX8_readKernel_2 : decode cX8_readKernel 2 = .ok (.iconst 2, 1) := by decide +kernel
theorem dX8_readKernel_3 : decode cX8_readKernel 3 = .ok (.invokevirtual 53, 3) := by decide +kernel
theorem dX8_readKernel_6 : decode cX8_readKernel 6 = .ok (.ifCond .ne 5, 3) := by decide +kernel
theorem dX8_readKernel_9 : decode cX8_readKernel 9 = .ok (.iconst 0, 1) := by decide +kernel
theorem dX8_readKernel_10 : decode cX8_readKernel 10 = .ok (.ireturn, 1) := by decide +kernel
theorem dX8_readKernel_11 : decode cX8_readKernel 11 = .ok (.aload_n 1, 1) := by decide +kernel
theorem dX8_readKernel_12 : decode cX8_readKernel 12 = .ok (.aload_n 0, 1) := by decide +kernel
theorem dX8_readKernel_13 : decode cX8_readKernel 13 = .ok (.getfield 57, 3) := by decide +kernel
theorem dX8_readKernel_16 : decode cX8_readKernel 16 = .ok (.putfield 66, 3) := by decide +kernel
theorem dX8_readKernel_19 : decode cX8_readKernel 19 = .ok (.aload_n 0, 1) := by decide +kernel
theorem dX8_readKernel_20 : decode cX8_readKernel 20 = .ok (.iconst 1, 1) := by decide +kernel
theorem dX8_readKernel_21 : decode cX8_readKernel 21 = .ok (.sipush 999, 3) := by decide +kernel
theorem dX8_readKernel_24 : decode cX8_readKernel 24 = .ok (.invokevirtual 53, 3) := by decide +kernel
theorem dX8_readKernel_27 : decode cX8_readKernel 27 = .ok (.ifCond .ne 5, 3) := by decide +kernel
theorem dX8_readKernel_30 : decode cX8_readKernel 30 = .ok (.iconst 0, 1) := by decide +kernel
theorem dX8_readKernel_31 : decode cX8_readKernel 31 = .ok (.ireturn, 1) := by decide +kernel
theorem dX8_readKernel_32 : decode cX8_readKernel 32 = .ok (.aload_n 1, 1) := by decide +kernel
theorem dX8_readKernel_33 : decode cX8_readKernel 33 = .ok (.aload_n 0, 1) := by decide +kernel
theorem dX8_readKernel_34 : decode cX8_readKernel 34 = .ok (.getfield 57, 3) := by decide +kernel
theorem dX8_readKernel_37 : decode cX8_readKernel 37 = .ok (.putfield 69, 3) := by decide +kernel
theorem dX8_readKernel_40 : decode cX8_readKernel 40 = .ok (.aload_n 0, 1) := by decide +kernel
theorem dX8_readKernel_41 : decode cX8_readKernel 41 = .ok (.iconst 1, 1) := by decide +kernel
theorem dX8_readKernel_42 : decode cX8_readKernel 42 = .ok (.bipush 99, 2) := by decide +kernel
theorem dX8_readKernel_44 : decode cX8_readKernel 44 = .ok (.invokevirtual 53, 3) := by decide +kernel
theorem dX8_readKernel_47 : decode cX8_readKernel 47 = .ok (.ifCond .ne 5, 3) := by decide +kernel
theorem dX8_readKernel_50 : decode cX8_readKernel 50 = .ok (.iconst 0, 1) := by decide +kernel
theorem dX8_readKernel_51 : decode cX8_readKernel 51 = .ok (.ireturn, 1) := by decide +kernel
theorem dX8_readKernel_52 : decode cX8_readKernel 52 = .ok (.aload_n 1, 1) := by decide +kernel
theorem dX8_readKernel_53 : decode cX8_readKernel 53 = .ok (.aload_n 0, 1) := by decide +kernel
theorem dX8_readKernel_54 : decode cX8_readKernel 54 = .ok (.getfield 57, 3) := by decide +kernel
theorem dX8_readKernel_57 : decode cX8_readKernel 57 = .ok (.putfield 72, 3) := by decide +kernel
theorem dX8_readKernel_60 : decode cX8_readKernel 60 = .ok (.iconst 1, 1) := by decide +kernel
theorem dX8_readKernel_61 : decode cX8_readKernel 61 = .ok (.ireturn, 1) := by decide +kernel
theorem dX8_readStretch_0 : decode cX8_readStretch 0 = .ok (.aload_n 0, 1) := by decide +kernel
theorem dX8_readStretch_1 : decode cX8_readStretch 1 = .ok (.iconst 1, 1) := by decide +kernel
theorem dX8_readStretch_2 : decode cX8_readStretch 2 = .ok (.iconst 4, 1) := by decide +kernel
theorem dX8_readStretch_3 : decode cX8_readStretch 3 = .ok (.invokevirtual 53, 3) := by decide +kernel
theorem dX8_readStretch_6 : decode cX8_readStretch 6 = .ok (.ifCond .ne 5, 3) := by decide +kernel
theorem dX8_readStretch_9 : decode cX8_readStretch 9 = .ok (.iconst 0, 1) := by decide +kernel
theorem dX8_readStretch_10 : decode cX8_readStretch 10 = .ok (.ireturn, 1) := by decide +kernel
theorem dX8_readStretch_11 : decode cX8_readStretch 11 = .ok (.aload_n 1, 1) := by decide +kernel
theorem dX8_readStretch_12 : decode cX8_readStretch 12 = .ok (.aload_n 0, 1) := by decide +kernel
theorem dX8_readStretch_13 : decode cX8_readStretch 13 = .ok (.getfield 57, 3) := by decide +kernel
theorem dX8_readStretch_16 : decode cX8_readStretch 16 = .ok (.putfield 75, 3) := by decide +kernel
theorem dX8_readStretch_19 : decode cX8_readStretch 19 = .ok (.aload_n 0, 1) := by decide +kernel
theorem dX8_readStretch_20 : decode cX8_readStretch 20 = .ok (.iconst 1, 1) := by decide +kernel
theorem dX8_readStretch_21 : decode cX8_readStretch 21 = .ok (.iconst 4, 1) := by decide +kernel
theorem dX8_readStretch_22 : decode cX8_readStretch 22 = .ok (.invokevirtual 53, 3) := by decide +kernel
theorem dX8_readStretch_25 : decode cX8_readStretch 25 = .ok (.ifCond .ne 5, 3) := by decide +kernel
theorem dX8_readStretch_28 : decode cX8_readStretch 28 = .ok (.iconst 0, 1) := by decide +kernel
theorem dX8_readStretch_29 : decode cX8_readStretch 29 = .ok (.ireturn, 1) := by decide +kernel
theorem dX8_readStretch_30 : decode cX8_readStretch 30 = .ok (.aload_n 1, 1) := by decide +kernel
theorem dX8_readStretch_31 : decode cX8_readStretch 31 = .ok (.aload_n 0, 1) := by decide +kernel
theorem dX8_readStretch_32 : decode cX8_readStretch 32 = .ok (.getfield 57, 3) := by decide +kernel
theorem dX8_readStretch_35 : decode cX8_readStretch 35 = .ok (.putfield 78, 3) := by decide +kernel
theorem dX8_readStretch_38 : decode cX8_readStretch 38 = .ok (.iconst 1, 1) := by decide +kernel
theorem dX8_readStretch_39 : decode cX8_readStretch 39 = .ok (.ireturn, 1) := by decide +kernel
theorem dX8_readCell_0 : decode cX8_readCell 0 = .ok (.aload_n 0, 1) := by decide +kernel
theorem dX8_readCell_1 : decode cX8_readCell 1 = .ok (.iconst 0, 1) := by decide +kernel
theorem dX8_readCell_2 : decode cX8_readCell 2 = .ok (.aload_n 1, 1) := by decide +kernel
theorem dX8_readCell_3 : decode cX8_readCell 3 = .ok (.getfield 60, 3) := by decide +kernel
theorem dX8_readCell_6 : decode cX8_readCell 6 = .ok (.iconst 1, 1) := by decide +kernel
theorem dX8_readCell_7 : decode cX8_readCell 7 = .ok (.isub, 1) := by decide +kernel
theorem dX8_readCell_8 : decode cX8_readCell 8 = .ok (.invokevirtual 53, 3) := by decide +kernel
theorem dX8_readCell_11 : decode cX8_readCell 11 = .ok (.ifCond .ne 5, 3) := by decide +kernel
theorem dX8_readCell_14 : decode cX8_readCell 14 = .ok (.iconst 0, 1) := by decide +kernel
theorem dX8_readCell_15 : decode cX8_readCell 15 = .ok (.ireturn, 1) := by decide +kernel
theorem dX8_readCell_16 : decode cX8_readCell 16 = .ok (.aload_n 0, 1) := by decide +kernel
theorem dX8_readCell_17 : decode cX8_readCell 17 = .ok (.getfield 57, 3) := by decide +kernel
theorem dX8_readCell_20 : decode cX8_readCell 20 = .ok (.istore_n 3, 1) := by decide +kernel
theorem dX8_readCell_21 : decode cX8_readCell 21 = .ok (.aload_n 0, 1) := by decide +kernel
theorem dX8_readCell_22 : decode cX8_readCell 22 = .ok (.iconst 0, 1) := by decide +kernel
theorem dX8_readCell_23 : decode cX8_readCell 23 = .ok (.aload_n 1, 1) := by decide +kernel
theorem dX8_readCell_24 : decode cX8_readCell 24 = .ok (.getfield 63, 3) := by decide +kernel
theorem dX8_readCell_27 : decode cX8_readCell 27 = .ok (.iconst 1, 1) := by decide +kernel
theorem dX8_readCell_28 : decode cX8_readCell 28 = .ok (.isub, 1) := by decide +kernel
theorem dX8_readCell_29 : decode cX8_readCell 29 = .ok (.invokevirtual 53, 3) := by decide +kernel
theorem dX8_readCell_32 : decode cX8_readCell 32 = .ok (.ifCond .ne 5, 3) := by decide +kernel
theorem dX8_readCell_35 : decode cX8_readCell 35 = .ok (.iconst 0, 1) := by decide +kernel
theorem dX8_readCell_36 : decode cX8_readCell 36 = .ok (.ireturn, 1) := by decide +kernel
theorem dX8_readCell_37 : decode cX8_readCell 37 = .ok (.aload_n 1, 1) := by decide +kernel
theorem dX8_readCell_38 : decode cX8_readCell 38 = .ok (.iload_n 3, 1) := by decide +kernel
theorem dX8_readCell_39 : decode cX8_readCell 39 = .ok (.aload_n 0, 1) := by decide +kernel
theorem dX8_readCell_40 : decode cX8_readCell 40 = .ok (.getfield 57, 3) := by decide +kernel
theorem dX8_readCell_43 : decode cX8_readCell 43 = .ok (.invokevirtual 81, 3) := by decide +kernel
theorem dX8_readCell_46 : decode cX8_readCell 46 = .ok (.istore 4, 2) := by decide +kernel
theorem dX8_readCell_48 : decode cX8_readCell 48 = .ok (.iload 4, 2) := by decide +kernel
theorem dX8_readCell_50 : decode cX8_readCell 50 = .ok (.iconst (-1), 1) := by decide +kernel
theorem dX8_readCell_51 : decode cX8_readCell 51 = .ok (.if_icmp .eq 20, 3) := by decide +kernel
theorem dX8_readCell_54 : decode cX8_readCell 54 = .ok (.aload_n 1, 1) := by decide +kernel
theorem dX8_readCell_55 : decode cX8_readCell 55 = .ok (.getfield 85, 3) := by decide +kernel
theorem dX8_readCell_58 : decode cX8_readCell 58 = .ok (.aload_n 1, 1) := by decide +kernel
theorem dX8_readCell_59 : decode cX8_readCell 59 = .ok (.getfield 89, 3) := by decide +kernel
theorem dX8_readCell_62 : decode cX8_readCell 62 = .ok (.lor, 1) := by decide +kernel
theorem dX8_readCell_63 : decode cX8_readCell 63 = .ok (.iload 4, 2) := by decide +kernel
theorem dX8_readCell_65 : decode cX8_readCell 65 = .ok (.invokestatic 92, 3) := by decide +kernel
theorem dX8_readCell_68 : decode cX8_readCell 68 = .ok (.ifCond .eq 5, 3) := by decide +kernel
theorem dX8_readCell_71 : decode cX8_readCell 71 = .ok (.iconst 0, 1) := by decide +kernel
theorem dX8_readCell_72 : decode cX8_readCell 72 = .ok (.ireturn, 1) := by decide +kernel
theorem dX8_readCell_73 : decode cX8_readCell 73 = .ok (.iload_n 2, 1) := by decide +kernel
theorem dX8_readCell_74 : decode cX8_readCell 74 = .ok (.ifCond .eq 19, 3) := by decide +kernel
theorem dX8_readCell_77 : decode cX8_readCell 77 = .ok (.aload_n 1, 1) := by decide +kernel
theorem dX8_readCell_78 : decode cX8_readCell 78 = .ok (.dup, 1) := by decide +kernel
theorem dX8_readCell_79 : decode cX8_readCell 79 = .ok (.getfield 85, 3) := by decide +kernel
theorem dX8_readCell_82 : decode cX8_readCell 82 = .ok (.lconst 1, 1) := by decide +kernel
theorem dX8_readCell_83 : decode cX8_readCell 83 = .ok (.iload 4, 2) := by decide +kernel
theorem dX8_readCell_85 : decode cX8_readCell 85 = .ok (.lshl, 1) := by decide +kernel
theorem dX8_readCell_86 : decode cX8_readCell 86 = .ok (.lor, 1) := by decide +kernel
theorem dX8_readCell_87 : decode cX8_readCell 87 = .ok (.putfield 85, 3) := by decide +kernel
theorem dX8_readCell_90 : decode cX8_readCell 90 = .ok (.goto 16, 3) := by decide +kernel
theorem dX8_readCell_93 : decode cX8_readCell 93 = .ok (.aload_n 1, 1) := by decide +kernel
theorem dX8_readCell_94 : decode cX8_readCell 94 = .ok (.dup, 1) := by decide +kernel
theorem dX8_readCell_95 : decode cX8_readCell 95 = .ok (.getfield 89, 3) := by decide +kernel
theorem dX8_readCell_98 : decode cX8_readCell 98 = .ok (.lconst 1, 1) := by decide +kernel
theorem dX8_readCell_99 : decode cX8_readCell 99 = .ok (.iload 4, 2) := by decide +kernel
theorem dX8_readCell_101 : decode cX8_readCell 101 = .ok (.lshl, 1) := by decide +kernel
theorem dX8_readCell_102 : decode cX8_readCell 102 = .ok (.lor, 1) := by decide +kernel
theorem dX8_readCell_103 : decode cX8_readCell 103 = .ok (.putfield 89, 3) := by decide +kernel
theorem dX8_readCell_106 : decode cX8_readCell 106 = .ok (.iconst 1, 1) := by decide +kernel
theorem dX8_readCell_107 : decode cX8_readCell 107 = .ok (.ireturn, 1) := by decide +kernel
theorem dX8_stepToNumber_0 : decode cX8_stepToNumber 0 = .ok (.aload_n 0, 1) := by decide +kernel
theorem dX8_stepToNumber_1 : decode cX8_stepToNumber 1 = .ok (.invokevirtual 27, 3) := by decide +kernel
theorem dX8_stepToNumber_4 : decode cX8_stepToNumber 4 = .ok (.aload_n 0, 1) := by decide +kernel
theorem dX8_stepToNumber_5 : decode cX8_stepToNumber 5 = .ok (.getfield 30, 3) := by decide +kernel
theorem dX8_stepToNumber_8 : decode cX8_stepToNumber 8 = .ok (.sipush 256, 3) := by decide +kernel
theorem dX8_stepToNumber_11 : decode cX8_stepToNumber 11 = .ok (.if_icmp .ne 23, 3) := by decide +kernel
theorem dX8_stepToNumber_14 : decode cX8_stepToNumber 14 = .ok (.aload_n 0, 1) := by decide +kernel
theorem dX8_stepToNumber_15 : decode cX8_stepToNumber 15 = .ok (.getfield 57, 3) := by decide +kernel
theorem dX8_stepToNumber_18 : decode cX8_stepToNumber 18 = .ok (.iload_n 1, 1) := by decide +kernel
theorem dX8_stepToNumber_19 : decode cX8_stepToNumber 19 = .ok (.if_icmp .lt 15, 3) := by decide +kernel
theorem dX8_stepToNumber_22 : decode cX8_stepToNumber 22 = .ok (.aload_n 0, 1) := by decide +kernel
theorem dX8_stepToNumber_23 : decode cX8_stepToNumber 23 = .ok (.getfield 57, 3) := by decide +kernel
theorem dX8_stepToNumber_26 : decode cX8_stepToNumber 26 = .ok (.iload_n 2, 1) := by decide +kernel
theorem dX8_stepToNumber_27 : decode cX8_stepToNumber 27 = .ok (.if_icmp .gt 7, 3) := by decide +kernel
theorem dX8_stepToNumber_30 : decode cX8_stepToNumber 30 = .ok (.iconst 1, 1) := by decide +kernel
theorem dX8_stepToNumber_31 : decode cX8_stepToNumber 31 = .ok (.goto 4, 3) := by decide +kernel
theorem dX8_stepToNumber_34 : decode cX8_stepToNumber 34 = .ok (.iconst 0, 1) := by decide +kernel
theorem dX8_stepToNumber_35 : decode cX8_stepToNumber 35 = .ok (.ireturn, 1) := by decide +kernel
theorem dX8_step_0 : decode cX8_step 0 = .ok (.aload_n 0, 1) := by decide +kernel
theorem dX8_step_1 : decode cX8_step 1 = .ok (.getfield 24, 3) := by decide +kernel
theorem dX8_step_4 : decode cX8_step 4 = .ok (.aload_n 0, 1) := by decide +kernel
theorem dX8_step_5 : decode cX8_step 5 = .ok (.getfield 15, 3) := by decide +kernel
theorem dX8_step_8 : decode cX8_step 8 = .ok (.if_icmp .ge 30, 3) := by decide +kernel
theorem dX8_step_11 : decode cX8_step 11 = .ok (.aload_n 0, 1) := by decide +kernel
theorem dX8_step_12 : decode cX8_step 12 = .ok (.getfield 11, 3) := by decide +kernel
theorem dX8_step_15 : decode cX8_step 15 = .ok (.aload_n 0, 1) := by decide +kernel
theorem dX8_step_16 : decode cX8_step 16 = .ok (.getfield 24, 3) := by decide +kernel
theorem dX8_step_19 : decode cX8_step 19 = .ok (.iaload, 1) := by decide +kernel
theorem dX8_step_20 : decode cX8_step 20 = .ok (.bipush 32, 2) := by decide +kernel
theorem dX8_step_22 : decode cX8_step 22 = .ok (.if_icmp .ne 16, 3) := by decide +kernel
theorem dX8_step_25 : decode cX8_step 25 = .ok (.aload_n 0, 1) := by decide +kernel
theorem dX8_step_26 : decode cX8_step 26 = .ok (.dup, 1) := by decide +kernel
theorem dX8_step_27 : decode cX8_step 27 = .ok (.getfield 24, 3) := by decide +kernel
theorem dX8_step_30 : decode cX8_step 30 = .ok (.iconst 1, 1) := by decide +kernel
theorem dX8_step_31 : decode cX8_step 31 = .ok (.iadd, 1) := by decide +kernel
theorem dX8_step_32 : decode cX8_step 32 = .ok (.putfield 24, 3) := by decide +kernel
theorem dX8_step_35 : decode cX8_step 35 = .ok (.goto (-35), 3) := by decide +kernel
theorem dX8_step_38 : decode cX8_step 38 = .ok (.aload_n 0, 1) := by decide +kernel
theorem dX8_step_39 : decode cX8_step 39 = .ok (.aload_n 0, 1) := by decide +kernel
theorem dX8_step_40 : decode cX8_step 40 = .ok (.getfield 24, 3) := by decide +kernel
theorem dX8_step_43 : decode cX8_step 43 = .ok (.putfield 37, 3) := by decide +kernel
theorem dX8_step_46 : decode cX8_step 46 = .ok (.aload_n 0, 1) := by decide +kernel
theorem dX8_step_47 : decode cX8_step 47 = .ok (.getfield 24, 3) := by decide +kernel
theorem dX8_step_50 : decode cX8_step 50 = .ok (.aload_n 0, 1) := by decide +kernel
theorem dX8_step_51 : decode cX8_step 51 = .ok (.getfield 15, 3) := by decide +kernel
theorem dX8_step_54 : decode cX8_step 54 = .ok (.if_icmp .lt 11, 3) := by decide +kernel
theorem dX8_step_57 : decode cX8_step 57 = .ok (.aload_n 0, 1) := by decide +kernel
theorem dX8_step_58 : decode cX8_step 58 = .ok (.sipush 258, 3) := by decide +kernel
theorem dX8_step_61 : decode cX8_step 61 = .ok (.putfield 30, 3) := by decide +kernel
theorem dX8_step_64 : decode cX8_step 64 = .ok (.return_, 1) := by decide +kernel
theorem dX8_step_65 : decode cX8_step 65 = .ok (.aload_n 0, 1) := by decide +kernel
theorem dX8_step_66 : decode cX8_step 66 = .ok (.aload_n 0, 1) := by decide +kernel
theorem dX8_step_67 : decode cX8_step 67 = .ok (.getfield 11, 3) := by decide +kernel
theorem dX8_step_70 : decode cX8_step 70 = .ok (.aload_n 0, 1) := by decide +kernel
theorem dX8_step_71 : decode cX8_step 71 = .ok (.getfield 24, 3) := by decide +kernel
theorem dX8_step_74 : decode cX8_step 74 = .ok (.iaload, 1) := by decide +kernel
theorem dX8_step_75 : decode cX8_step 75 = .ok (.putfield 30, 3) := by decide +kernel
theorem dX8_step_78 : decode cX8_step 78 = .ok (.aload_n 0, 1) := by decide +kernel
theorem dX8_step_79 : decode cX8_step 79 = .ok (.dup, 1) := by decide +kernel
theorem dX8_step_80 : decode cX8_step 80 = .ok (.getfield 24, 3) := by decide +kernel
theorem dX8_step_83 : decode cX8_step 83 = .ok (.iconst 1, 1) := by decide +kernel
theorem dX8_step_84 : decode cX8_step 84 = .ok (.iadd, 1) := by decide +kernel
theorem dX8_step_85 : decode cX8_step 85 = .ok (.putfield 24, 3) := by decide +kernel
theorem dX8_step_88 : decode cX8_step 88 = .ok (.aload_n 0, 1) := by decide +kernel
theorem dX8_step_89 : decode cX8_step 89 = .ok (.getfield 30, 3) := by decide +kernel
theorem dX8_step_92 : decode cX8_step 92 = .ok (.invokestatic 96, 3) := by decide +kernel
theorem dX8_step_95 : decode cX8_step 95 = .ok (.ifCond .eq 14, 3) := by decide +kernel
theorem dX8_step_98 : decode cX8_step 98 = .ok (.aload_n 0, 1) := by decide +kernel
theorem dX8_step_99 : decode cX8_step 99 = .ok (.aload_n 0, 1) := by decide +kernel
theorem dX8_step_100 : decode cX8_step 100 = .ok (.getfield 30, 3) := by decide +kernel
theorem dX8_step_103 : decode cX8_step 103 = .ok (.bipush 48, 2) := by decide +kernel
theorem dX8_step_105 : decode cX8_step 105 = .ok (.isub, 1) := by decide +kernel
theorem dX8_step_106 : decode cX8_step 106 = .ok (.invokevirtual 100, 3) := by decide +kernel
theorem dX8_step_109 : decode cX8_step 109 = .ok (.return_, 1) := by decide +kernel
theorem dX8_readDigits_0 : decode cX8_readDigits 0 = .ok (.aload_n 0, 1) := by decide +kernel
theorem dX8_readDigits_1 : decode cX8_readDigits 1 = .ok (.iload_n 1, 1) := by decide +kernel
theorem dX8_readDigits_2 : decode cX8_readDigits 2 = .ok (.putfield 57, 3) := by decide +kernel
theorem dX8_readDigits_5 : decode cX8_readDigits 5 = .ok (.aload_n 0, 1) := by decide +kernel
theorem dX8_readDigits_6 : decode cX8_readDigits 6 = .ok (.getfield 24, 3) := by decide +kernel
theorem dX8_readDigits_9 : decode cX8_readDigits 9 = .ok (.aload_n 0, 1) := by decide +kernel
theorem dX8_readDigits_10 : decode cX8_readDigits 10 = .ok (.getfield 15, 3) := by decide +kernel
theorem dX8_readDigits_13 : decode cX8_readDigits 13 = .ok (.if_icmp .ge 61, 3) := by decide +kernel
theorem dX8_readDigits_16 : decode cX8_readDigits 16 = .ok (.aload_n 0, 1) := by decide +kernel
theorem dX8_readDigits_17 : decode cX8_readDigits 17 = .ok (.getfield 11, 3) := by decide +kernel
theorem dX8_readDigits_20 : decode cX8_readDigits 20 = .ok (.aload_n 0, 1) := by decide +kernel
theorem dX8_readDigits_21 : decode cX8_readDigits 21 = .ok (.getfield 24, 3) := by decide +kernel
theorem dX8_readDigits_24 : decode cX8_readDigits 24 = .ok (.iaload, 1) := by decide +kernel
theorem dX8_readDigits_25 : decode cX8_readDigits 25 = .ok (.invokestatic 96, 3) := by decide +kernel
theorem dX8_readDigits_28 : decode cX8_readDigits 28 = .ok (.ifCond .eq 46, 3) := by decide +kernel
theorem dX8_readDigits_31 : decode cX8_readDigits 31 = .ok (.aload_n 0, 1) := by decide +kernel
theorem dX8_readDigits_32 : decode cX8_readDigits 32 = .ok (.bipush 10, 2) := by decide +kernel
theorem dX8_readDigits_34 : decode cX8_readDigits 34 = .ok (.aload_n 0, 1) := by decide +kernel
theorem dX8_readDigits_35 : decode cX8_readDigits 35 = .ok (.getfield 57, 3) := by decide +kernel
theorem dX8_readDigits_38 : decode cX8_readDigits 38 = .ok (.imul, 1) := by decide +kernel
theorem dX8_readDigits_39 : decode cX8_readDigits 39 = .ok (.aload_n 0, 1) := by decide +kernel
theorem dX8_readDigits_40 : decode cX8_readDigits 40 = .ok (.getfield 11, 3) := by decide +kernel
theorem dX8_readDigits_43 : decode cX8_readDigits 43 = .ok (.aload_n 0, 1) := by decide +kernel
theorem dX8_readDigits_44 : decode cX8_readDigits 44 = .ok (.getfield 24, 3) := by decide +kernel
theorem dX8_readDigits_47 : decode cX8_readDigits 47 = .ok (.iaload, 1) := by decide +kernel
theorem dX8_readDigits_48 : decode cX8_readDigits 48 = .ok (.iadd, 1) := by decide +kernel
theorem dX8_readDigits_49 : decode cX8_readDigits 49 = .ok (.bipush 48, 2) := by decide +kernel
theorem dX8_readDigits_51 : decode cX8_readDigits 51 = .ok (.isub, 1) := by decide +kernel
theorem dX8_readDigits_52 : decode cX8_readDigits 52 = .ok (.sipush 1000, 3) := by decide +kernel
theorem dX8_readDigits_55 : decode cX8_readDigits 55 = .ok (.invokestatic 104, 3) := by decide +kernel
theorem dX8_readDigits_58 : decode cX8_readDigits 58 = .ok (.putfield 57, 3) := by decide +kernel
theorem dX8_readDigits_61 : decode cX8_readDigits 61 = .ok (.aload_n 0, 1) := by decide +kernel
theorem dX8_readDigits_62 : decode cX8_readDigits 62 = .ok (.dup, 1) := by decide +kernel
theorem dX8_readDigits_63 : decode cX8_readDigits 63 = .ok (.getfield 24, 3) := by decide +kernel
theorem dX8_readDigits_66 : decode cX8_readDigits 66 = .ok (.iconst 1, 1) := by decide +kernel
theorem dX8_readDigits_67 : decode cX8_readDigits 67 = .ok (.iadd, 1) := by decide +kernel
theorem dX8_readDigits_68 : decode cX8_readDigits 68 = .ok (.putfield 24, 3) := by decide +kernel
theorem dX8_readDigits_71 : decode cX8_readDigits 71 = .ok (.goto (-66), 3) := by decide +kernel
theorem dX8_readDigits_74 : decode cX8_readDigits 74 = .ok (.iload_n 1, 1) := by decide +kernel
theorem dX8_readDigits_75 : decode cX8_readDigits 75 = .ok (.ifCond .ne 20, 3) := by decide +kernel
theorem dX8_readDigits_78 : decode cX8_readDigits 78 = .ok (.aload_n 0, 1) := by decide +kernel
theorem dX8_readDigits_79 : decode cX8_readDigits 79 = .ok (.getfield 24, 3) := by decide +kernel
theorem dX8_readDigits_82 : decode cX8_readDigits 82 = .ok (.aload_n 0, 1) := by decide +kernel
theorem dX8_readDigits_83 : decode cX8_readDigits 83 = .ok (.getfield 37, 3) := by decide +kernel
theorem dX8_readDigits_86 : decode cX8_readDigits 86 = .ok (.iconst 1, 1) := by decide +kernel
theorem dX8_readDigits_87 : decode cX8_readDigits 87 = .ok (.iadd, 1) := by decide +kernel
theorem dX8_readDigits_88 : decode cX8_readDigits 88 = .ok (.if_icmp .le 7, 3) := by decide +kernel
theorem dX8_readDigits_91 : decode cX8_readDigits 91 = .ok (.iconst 1, 1) := by decide +kernel
theorem dX8_readDigits_92 : decode cX8_readDigits 92 = .ok (.goto 4, 3) := by decide +kernel
theorem dX8_readDigits_95 : decode cX8_readDigits 95 = .ok (.iconst 0, 1) := by decide +kernel
theorem dX8_readDigits_96 : decode cX8_readDigits 96 = .ok (.istore_n 2, 1) := by decide +kernel
theorem dX8_readDigits_97 : decode cX8_readDigits 97 = .ok (.aload_n 0, 1) := by decide +kernel
theorem dX8_readDigits_98 : decode cX8_readDigits 98 = .ok (.iload_n 2, 1) := by decide +kernel
theorem dX8_readDigits_99 : decode cX8_readDigits 99 = .ok (.ifCond .ne 13, 3) := by decide +kernel
theorem dX8_readDigits_102 : decode cX8_readDigits 102 = .ok (.aload_n 0, 1) := by decide +kernel
theorem dX8_readDigits_103 : decode cX8_readDigits 103 = .ok (.getfield 57, 3) := by decide +kernel
theorem dX8_readDigits_106 : decode cX8_readDigits 106 = .ok (.sipush 999, 3) := by decide +kernel
theorem dX8_readDigits_109 : decode cX8_readDigits 109 = .ok (.if_icmp .le 9, 3) := by decide +kernel
theorem dX8_readDigits_112 : decode cX8_readDigits 112 = .ok (.sipush 257, 3) := by decide +kernel
theorem dX8_readDigits_115 : decode cX8_readDigits 115 = .ok (.goto 6, 3) := by decide +kernel
theorem dX8_readDigits_118 : decode cX8_readDigits 118 = .ok (.sipush 256, 3) := by decide +kernel
theorem dX8_readDigits_121 : decode cX8_readDigits 121 = .ok (.putfield 30, 3) := by decide +kernel
theorem dX8_readDigits_124 : decode cX8_readDigits 124 = .ok (.return_, 1) := by decide +kernel
theorem dX8_isDigit_0 : decode cX8_isDigit 0 = .ok (.iload_n 0, 1) := by decide +kernel
theorem dX8_isDigit_1 : decode cX8_isDigit 1 = .ok (.bipush 48, 2) := by decide +kernel
theorem dX8_isDigit_3 : decode cX8_isDigit 3 = .ok (.if_icmp .lt 13, 3) := by decide +kernel
theorem dX8_isDigit_6 : decode cX8_isDigit 6 = .ok (.iload_n 0, 1) := by decide +kernel
theorem dX8_isDigit_7 : decode cX8_isDigit 7 = .ok (.bipush 57, 2) := by decide +kernel
theorem dX8_isDigit_9 : decode cX8_isDigit 9 = .ok (.if_icmp .gt 7, 3) := by decide +kernel
theorem dX8_isDigit_12 : decode cX8_isDigit 12 = .ok (.iconst 1, 1) := by decide +kernel
theorem dX8_isDigit_13 : decode cX8_isDigit 13 = .ok (.goto 4, 3) := by decide +kernel
theorem dX8_isDigit_16 : decode cX8_isDigit 16 = .ok (.iconst 0, 1) := by decide +kernel
theorem dX8_isDigit_17 : decode cX8_isDigit 17 = .ok (.ireturn, 1) := by decide +kernel
theorem dJ13_bitCount_95d88_0 : decode cJ13_bitCount_95d88 0 = .ok (.lload_n 0, 1) := by decide +kernel
theorem dJ13_bitCount_95d88_1 : decode cJ13_bitCount_95d88 1 = .ok (.lload_n 0, 1) := by decide +kernel
theorem dJ13_bitCount_95d88_2 : decode cJ13_bitCount_95d88 2 = .ok (.iconst 1, 1) := by decide +kernel
theorem dJ13_bitCount_95d88_3 : decode cJ13_bitCount_95d88 3 = .ok (.lushr, 1) := by decide +kernel
theorem dJ13_bitCount_95d88_4 : decode cJ13_bitCount_95d88 4 = .ok (.ldc2_w 314, 3) := by decide +kernel
theorem dJ13_bitCount_95d88_7 : decode cJ13_bitCount_95d88 7 = .ok (.land, 1) := by decide +kernel
theorem dJ13_bitCount_95d88_8 : decode cJ13_bitCount_95d88 8 = .ok (.lsub, 1) := by decide +kernel
theorem dJ13_bitCount_95d88_9 : decode cJ13_bitCount_95d88 9 = .ok (.lstore_n 0, 1) := by decide +kernel
theorem dJ13_bitCount_95d88_10 : decode cJ13_bitCount_95d88 10 = .ok (.lload_n 0, 1) := by decide +kernel
theorem dJ13_bitCount_95d88_11 : decode cJ13_bitCount_95d88 11 = .ok (.ldc2_w 316, 3) := by decide +kernel
theorem dJ13_bitCount_95d88_14 : decode cJ13_bitCount_95d88 14 = .ok (.land, 1) := by decide +kernel
theorem dJ13_bitCount_95d88_15 : decode cJ13_bitCount_95d88 15 = .ok (.lload_n 0, 1) := by decide +kernel
theorem dJ13_bitCount_95d88_16 : decode cJ13_bitCount_95d88 16 = .ok (.iconst 2, 1) := by decide +kernel
theorem dJ13_bitCount_95d88_17 : decode cJ13_bitCount_95d88 17 = .ok (.lushr, 1) := by decide +kernel
theorem dJ13_bitCount_95d88_18 : decode cJ13_bitCount_95d88 18 = .ok (.ldc2_w 316, 3) := by decide +kernel
theorem dJ13_bitCount_95d88_21 : decode cJ13_bitCount_95d88 21 = .ok (.land, 1) := by decide +kernel
theorem dJ13_bitCount_95d88_22 : decode cJ13_bitCount_95d88 22 = .ok (.ladd, 1) := by decide +kernel
theorem dJ13_bitCount_95d88_23 : decode cJ13_bitCount_95d88 23 = .ok (.lstore_n 0, 1) := by decide +kernel
theorem dJ13_bitCount_95d88_24 : decode cJ13_bitCount_95d88 24 = .ok (.lload_n 0, 1) := by decide +kernel
theorem dJ13_bitCount_95d88_25 : decode cJ13_bitCount_95d88 25 = .ok (.lload_n 0, 1) := by decide +kernel
theorem dJ13_bitCount_95d88_26 : decode cJ13_bitCount_95d88 26 = .ok (.iconst 4, 1) := by decide +kernel
theorem dJ13_bitCount_95d88_27 : decode cJ13_bitCount_95d88 27 = .ok (.lushr, 1) := by decide +kernel
theorem dJ13_bitCount_95d88_28 : decode cJ13_bitCount_95d88 28 = .ok (.ladd, 1) := by decide +kernel
theorem dJ13_bitCount_95d88_29 : decode cJ13_bitCount_95d88 29 = .ok (.ldc2_w 318, 3) := by decide +kernel
theorem dJ13_bitCount_95d88_32 : decode cJ13_bitCount_95d88 32 = .ok (.land, 1) := by decide +kernel
theorem dJ13_bitCount_95d88_33 : decode cJ13_bitCount_95d88 33 = .ok (.lstore_n 0, 1) := by decide +kernel
theorem dJ13_bitCount_95d88_34 : decode cJ13_bitCount_95d88 34 = .ok (.lload_n 0, 1) := by decide +kernel
theorem dJ13_bitCount_95d88_35 : decode cJ13_bitCount_95d88 35 = .ok (.lload_n 0, 1) := by decide +kernel
theorem dJ13_bitCount_95d88_36 : decode cJ13_bitCount_95d88 36 = .ok (.bipush 8, 2) := by decide +kernel
theorem dJ13_bitCount_95d88_38 : decode cJ13_bitCount_95d88 38 = .ok (.lushr, 1) := by decide +kernel
theorem dJ13_bitCount_95d88_39 : decode cJ13_bitCount_95d88 39 = .ok (.ladd, 1) := by decide +kernel
theorem dJ13_bitCount_95d88_40 : decode cJ13_bitCount_95d88 40 = .ok (.lstore_n 0, 1) := by decide +kernel
theorem dJ13_bitCount_95d88_41 : decode cJ13_bitCount_95d88 41 = .ok (.lload_n 0, 1) := by decide +kernel
theorem dJ13_bitCount_95d88_42 : decode cJ13_bitCount_95d88 42 = .ok (.lload_n 0, 1) := by decide +kernel
theorem dJ13_bitCount_95d88_43 : decode cJ13_bitCount_95d88 43 = .ok (.bipush 16, 2) := by decide +kernel
theorem dJ13_bitCount_95d88_45 : decode cJ13_bitCount_95d88 45 = .ok (.lushr, 1) := by decide +kernel
theorem dJ13_bitCount_95d88_46 : decode cJ13_bitCount_95d88 46 = .ok (.ladd, 1) := by decide +kernel
theorem dJ13_bitCount_95d88_47 : decode cJ13_bitCount_95d88 47 = .ok (.lstore_n 0, 1) := by decide +kernel
theorem dJ13_bitCount_95d88_48 : decode cJ13_bitCount_95d88 48 = .ok (.lload_n 0, 1) := by decide +kernel
theorem dJ13_bitCount_95d88_49 : decode cJ13_bitCount_95d88 49 = .ok (.lload_n 0, 1) := by decide +kernel
theorem dJ13_bitCount_95d88_50 : decode cJ13_bitCount_95d88 50 = .ok (.bipush 32, 2) := by decide +kernel
theorem dJ13_bitCount_95d88_52 : decode cJ13_bitCount_95d88 52 = .ok (.lushr, 1) := by decide +kernel
theorem dJ13_bitCount_95d88_53 : decode cJ13_bitCount_95d88 53 = .ok (.ladd, 1) := by decide +kernel
theorem dJ13_bitCount_95d88_54 : decode cJ13_bitCount_95d88 54 = .ok (.lstore_n 0, 1) := by decide +kernel
theorem dJ13_bitCount_95d88_55 : decode cJ13_bitCount_95d88 55 = .ok (.lload_n 0, 1) := by decide +kernel
theorem dJ13_bitCount_95d88_56 : decode cJ13_bitCount_95d88 56 = .ok (.l2i, 1) := by decide +kernel
theorem dJ13_bitCount_95d88_57 : decode cJ13_bitCount_95d88 57 = .ok (.bipush 127, 2) := by decide +kernel
theorem dJ13_bitCount_95d88_59 : decode cJ13_bitCount_95d88 59 = .ok (.iand, 1) := by decide +kernel
theorem dJ13_bitCount_95d88_60 : decode cJ13_bitCount_95d88 60 = .ok (.ireturn, 1) := by decide +kernel
theorem dJ7_fill_53178_0 : decode cJ7_fill_53178 0 = .ok (.iconst 0, 1) := by decide +kernel
theorem dJ7_fill_53178_1 : decode cJ7_fill_53178 1 = .ok (.istore_n 2, 1) := by decide +kernel
theorem dJ7_fill_53178_2 : decode cJ7_fill_53178 2 = .ok (.aload_n 0, 1) := by decide +kernel
theorem dJ7_fill_53178_3 : decode cJ7_fill_53178 3 = .ok (.arraylength, 1) := by decide +kernel
theorem dJ7_fill_53178_4 : decode cJ7_fill_53178 4 = .ok (.istore_n 3, 1) := by decide +kernel
theorem dJ7_fill_53178_5 : decode cJ7_fill_53178 5 = .ok (.iload_n 2, 1) := by decide +kernel
theorem dJ7_fill_53178_6 : decode cJ7_fill_53178 6 = .ok (.iload_n 3, 1) := by decide +kernel
theorem dJ7_fill_53178_7 : decode cJ7_fill_53178 7 = .ok (.if_icmp .ge 13, 3) := by decide +kernel
theorem dJ7_fill_53178_10 : decode cJ7_fill_53178 10 = .ok (.aload_n 0, 1) := by decide +kernel
theorem dJ7_fill_53178_11 : decode cJ7_fill_53178 11 = .ok (.iload_n 2, 1) := by decide +kernel
theorem dJ7_fill_53178_12 : decode cJ7_fill_53178 12 = .ok (.iload_n 1, 1) := by decide +kernel
theorem dJ7_fill_53178_13 : decode cJ7_fill_53178 13 = .ok (.iastore, 1) := by decide +kernel
theorem dJ7_fill_53178_14 : decode cJ7_fill_53178 14 = .ok (.iinc 2 1, 3) := by decide +kernel
theorem dJ7_fill_53178_17 : decode cJ7_fill_53178 17 = .ok (.goto (-12), 3) := by decide +kernel
theorem dJ7_fill_53178_20 : decode cJ7_fill_53178 20 = .ok (.return_, 1) := by decide +kernel
